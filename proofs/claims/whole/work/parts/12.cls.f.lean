-- X3_measure
def f_X3_measure_L76 (post : PS → Prop) : Nat → PS → Nat → Int32 → Prop
  | 0, _, _, _ => False
  | n + 1, S, l0, l2 =>
  gI S l0 7 5 fun v1 => (
  if (v1 - 1) ≤ l2 then
    post S
  else
    isO S l0 7 (
    f_X3_joinAll S l0 l2 fun S3 => (
    isO S3 l0 7 (
    f_X3_mergeLast S3 l0 l2 fun S5 => (
    (f_X3_measure_L76 post n) S5 l0 (l2 + 1))))))
def f_X3_measure_J74 (post : PS → Prop) (S : PS) (l0 : Nat) : Prop :=
  f_X3_measure_L76 post 4096 S l0 0
def f_X3_measure_J68 (post : PS → Prop) (g10 : PS → Nat → Nat → Int32 → Prop) (S : PS) (l0 : Nat) (l1 : Nat) (l2 : Int32) : Prop :=
  g10 S l0 l1 (l2 + 1)
def f_X3_measure_L39 (post : PS → Prop) (g10 : PS → Nat → Nat → Int32 → Prop) : Nat → PS → Nat → Nat → Int32 → Int32 → Prop
  | 0, _, _, _, _, _ => False
  | n + 1, S, l0, l1, l2, l3 =>
  if 9 ≤ l3 then
    f_X3_measure_J68 post g10 S l0 l1 l2
  else
    gR S l0 7 2 fun v2 => (
    isO S l1 10 (
    f_X6_tie S l1 l2 l3 fun v4 S3 => (
    sI S3 v2 0 ((l2 * 9) + l3) v4 fun S5 => (
    (f_X3_measure_L39 post g10 n) S5 l0 l1 l2 (l3 + 1)))))
def f_X3_measure_J36 (post : PS → Prop) (g10 : PS → Nat → Nat → Int32 → Prop) (S : PS) (l0 : Nat) (l1 : Nat) (l2 : Int32) (t0 : Int32) (t1 : Int32) (t2 : Nat) : Prop :=
  sI S t2 0 t1 t0 fun S1 => (
  f_X3_measure_L39 post g10 4096 S1 l0 l1 l2 0)
def f_X3_measure_L10 (post : PS → Prop) : Nat → PS → Nat → Nat → Int32 → Prop
  | 0, _, _, _, _ => False
  | n + 1, S, l0, l1, l2 =>
  if 9 ≤ l2 then
    f_X3_measure_J74 post S l0
  else
    gR S l0 7 3 fun v2 => (
    gI S l0 7 5 fun v3 => (
    if v3 ≤ l2 then
      f_X3_measure_J36 post (f_X3_measure_L10 post n) S l0 l1 l2 0 l2 v2
    else
      f_X3_measure_J36 post (f_X3_measure_L10 post n) S l0 l1 l2 ((1 : Int32) <<< (l2 &&& 31)) l2 v2))
def f_X3_measure (S : PS) (a0 : Nat) (a1 : Nat) (post : PS → Prop) : Prop :=
  gI S a1 10 1 fun v1 => (
  pV S a0 7 5 (.int v1) fun S2 => (
  f_X3_measure_L10 post 4096 S2 a0 a1 0))
abbrev rm_X3_measure : Room := { frames := 3, cells := 0, slots := 0, locals := 71 }
set_option maxHeartbeats 4000000 in
set_option maxRecDepth 100000 in
theorem c_X3_measure (l : Launch) (D : va_G) (cy : Nat → ClassId) (G : p_GT) (hG : p_ok G) (S : PS) (a0 : Nat) (a1 : Nat) (post : PS → Prop) (sz : Nat) (hf : f_X3_measure S a0 a1 post) : p_Mv l D cy G S sz yX3_measure (Cond.code yX3_measure cX3_measure 4 none :: wG) rm_X3_measure [.ref a0, .ref a1] 0 0 post := by
  refine q_start hG (Qc := fun A => va_Qv post (p_Post D cy A) A) mf_X3_measure (Nat.le_of_ble_eq_true rfl) (own := RX3) rfl ?_
  intro p e s m below meth c A X hr hlk hnm ls hl hH
  have hx := X.1.1
  have hb := X.1.2.1
  replace hl : lv_has ls 4 [(0, .ref a0), (1, .ref a1)] := hl
  obtain ⟨H, hHe⟩ : ∃ H, H = s.heap := ⟨_, rfl⟩
  obtain ⟨locs, hlo⟩ : ∃ locs : List Loc, locs = [] := ⟨_, rfl⟩
  rw [← hHe, ← hlo] at hH
  show W p l e rm_X3_measure s m [.ref a0, .ref a1].toArray below meth c s.heap [] 0 0 _ _
  rw [← hHe, ← hlo]
  have hL10 : ∀ (n10 : Nat) (S : PS) (l0 : Nat) (l1 : Nat) (l2 : Int32), f_X3_measure_L10 post n10 S l0 l1 l2 → ∀ (H : Heap) (locs : List Loc) (ls : Array Slot), p_H D cy S A s H locs → lv_has ls 4 [(0, .ref l0), (1, .ref l1), (2, .int l2)] → W p l e rm_X3_measure s m [.ref a0, .ref a1].toArray below meth c H locs 0 0 (MQ below (va_Qv post (p_Post D cy A) A) [.ref a0, .ref a1].toArray s 0 0 A) (F0 m 10 ls []) := by
    intro n10
    induction n10 with
    | zero => intro S l0 l1 l2 hf; exact hf.elim
    | succ n10 ih10 =>
      intro S l0 l1 l2 hf H locs ls hH hl
      have hJ74 : ∀ (S : PS) (l0 : Nat), f_X3_measure_J74 post S l0 → ∀ (H : Heap) (locs : List Loc) (ls : Array Slot), p_H D cy S A s H locs → lv_has ls 4 [(0, .ref l0)] → W p l e rm_X3_measure s m [.ref a0, .ref a1].toArray below meth c H locs 0 0 (MQ below (va_Qv post (p_Post D cy A) A) [.ref a0, .ref a1].toArray s 0 0 A) (F0 m 74 ls []) := by
        intro S l0 hf H locs ls hH hl
        have hL76 : ∀ (n76 : Nat) (S : PS) (l0 : Nat) (l2 : Int32), f_X3_measure_L76 post n76 S l0 l2 → ∀ (H : Heap) (locs : List Loc) (ls : Array Slot), p_H D cy S A s H locs → lv_has ls 4 [(0, .ref l0), (2, .int l2)] → W p l e rm_X3_measure s m [.ref a0, .ref a1].toArray below meth c H locs 0 0 (MQ below (va_Qv post (p_Post D cy A) A) [.ref a0, .ref a1].toArray s 0 0 A) (F0 m 76 ls []) := by
          intro n76
          induction n76 with
          | zero => intro S l0 l2 hf; exact hf.elim
          | succ n76 ih76 =>
            intro S l0 l2 hf H locs ls hH hl
            refine lv_iload_n hx hb dX3_measure_76 rfl (lv_at hl 1 rfl) ?_
            refine lv_aload_n hx hb dX3_measure_77 rfl (lv_at hl 0 rfl) ?_
            refine q_getI (T := TX3) (N := 6) X hH hf iw_X3 rfl (by decide) tw_194 (fun _ h => h) dX3_measure_78 (fun v1 hf => ?_)
            refine lv_iconst (v := 1) hx hb dX3_measure_81 (by decide) ?_
            refine lv_isub hx hb dX3_measure_82 ?_
            refine lv_icmp_ge (tgt := 102) hx hb dX3_measure_83 (by decide) (fun c2 => ?_) (fun c2 => ?_)
            · have hf := (if_pos c2).mp hf
              exact q_retV X hH hr hlk hf (Nat.zero_le _) (Nat.zero_le _) dX3_measure_102
            · have hf := (if_neg c2).mp hf
              refine lv_aload_n hx hb dX3_measure_86 rfl (lv_at hl 0 rfl) ?_
              refine lv_iload_n hx hb dX3_measure_87 rfl (lv_at hl 1 rfl) ?_
              obtain ⟨hb1, hb2, hf⟩ := hf
              refine q_backV0 X hH (q_runV [.int l2] [] X hH hl (c_X3_joinAll l D cy G X.2.2.2.1 S l0 l2 _ _ hf) mf_X3_joinAll mv_X3_joinAll tw_444 ⟨Nat.le_of_ble_eq_true rfl, Nat.le_of_ble_eq_true rfl⟩ hb1 hb2 (T := TX3) (N := 6) rfl rfl (Nat.le_of_ble_eq_true rfl) dX3_measure_88 ⟨Nat.le_of_ble_eq_true rfl, Nat.le_of_ble_eq_true rfl⟩) (fun S3 hf H locs hH => ?_)
              refine lv_aload_n hx hb dX3_measure_91 rfl (lv_at hl 0 rfl) ?_
              refine lv_iload_n hx hb dX3_measure_92 rfl (lv_at hl 1 rfl) ?_
              obtain ⟨hb1, hb2, hf⟩ := hf
              refine q_backV0 X hH (q_runV [.int l2] [] X hH hl (c_X3_mergeLast l D cy G X.2.2.2.1 S3 l0 l2 _ _ hf) mf_X3_mergeLast mv_X3_mergeLast tw_465 ⟨Nat.le_of_ble_eq_true rfl, Nat.le_of_ble_eq_true rfl⟩ hb1 hb2 (T := TX3) (N := 6) rfl rfl (Nat.le_of_ble_eq_true rfl) dX3_measure_93 ⟨Nat.le_of_ble_eq_true rfl, Nat.le_of_ble_eq_true rfl⟩) (fun S5 hf H locs hH => ?_)
              refine lv_iinc (v := l2 + 1) (lv' := [(2, .int (l2 + 1)), (0, .ref l0)]) hx hb dX3_measure_96 hl (k := 1) rfl rfl (by decide) rfl (fun ls hl => ?_)
              refine lv_goto (tgt := 76) hx hb dX3_measure_99 (by decide) ?_
              exact ih76 S5 l0 (l2 + 1) hf H locs ls hH (lv_sub hl [1, 0] rfl)
        refine lv_iconst (v := 0) hx hb dX3_measure_74 (by decide) ?_
        refine lv_istore_n (lv' := [(2, .int 0), (0, .ref l0)]) hx hb dX3_measure_75 rfl hl (by decide) rfl (fun ls hl => ?_)
        exact hL76 4096 S l0 0 hf H locs ls hH (lv_sub hl [1, 0] rfl)
      have hJ36 : ∀ (S : PS) (l0 : Nat) (l1 : Nat) (l2 : Int32) (t0 : Int32) (t1 : Int32) (t2 : Nat), f_X3_measure_J36 post (f_X3_measure_L10 post n10) S l0 l1 l2 t0 t1 t2 → ∀ (H : Heap) (locs : List Loc) (ls : Array Slot), p_H D cy S A s H locs → lv_has ls 4 [(0, .ref l0), (1, .ref l1), (2, .int l2)] → W p l e rm_X3_measure s m [.ref a0, .ref a1].toArray below meth c H locs 0 0 (MQ below (va_Qv post (p_Post D cy A) A) [.ref a0, .ref a1].toArray s 0 0 A) (F0 m 36 ls [.int t0, .int t1, .ref t2]) := by
        intro S l0 l1 l2 t0 t1 t2 hf H locs ls hH hl
        have hL39 : ∀ (n39 : Nat) (S : PS) (l0 : Nat) (l1 : Nat) (l2 : Int32) (l3 : Int32), f_X3_measure_L39 post (f_X3_measure_L10 post n10) n39 S l0 l1 l2 l3 → ∀ (H : Heap) (locs : List Loc) (ls : Array Slot), p_H D cy S A s H locs → lv_has ls 4 [(0, .ref l0), (1, .ref l1), (2, .int l2), (3, .int l3)] → W p l e rm_X3_measure s m [.ref a0, .ref a1].toArray below meth c H locs 0 0 (MQ below (va_Qv post (p_Post D cy A) A) [.ref a0, .ref a1].toArray s 0 0 A) (F0 m 39 ls []) := by
          intro n39
          induction n39 with
          | zero => intro S l0 l1 l2 l3 hf; exact hf.elim
          | succ n39 ih39 =>
            intro S l0 l1 l2 l3 hf H locs ls hH hl
            have hJ68 : ∀ (S : PS) (l0 : Nat) (l1 : Nat) (l2 : Int32), f_X3_measure_J68 post (f_X3_measure_L10 post n10) S l0 l1 l2 → ∀ (H : Heap) (locs : List Loc) (ls : Array Slot), p_H D cy S A s H locs → lv_has ls 4 [(0, .ref l0), (1, .ref l1), (2, .int l2)] → W p l e rm_X3_measure s m [.ref a0, .ref a1].toArray below meth c H locs 0 0 (MQ below (va_Qv post (p_Post D cy A) A) [.ref a0, .ref a1].toArray s 0 0 A) (F0 m 68 ls []) := by
              intro S l0 l1 l2 hf H locs ls hH hl
              refine lv_iinc (v := l2 + 1) (lv' := [(2, .int (l2 + 1)), (0, .ref l0), (1, .ref l1)]) hx hb dX3_measure_68 hl (k := 2) rfl rfl (by decide) rfl (fun ls hl => ?_)
              refine lv_goto (tgt := 10) hx hb dX3_measure_71 (by decide) ?_
              exact ih10 S l0 l1 (l2 + 1) hf H locs ls hH (lv_sub hl [1, 2, 0] rfl)
            refine lv_iload_n hx hb dX3_measure_39 rfl (lv_at hl 3 rfl) ?_
            refine lv_bipush (v := 9) hx hb dX3_measure_40 (by decide) ?_
            refine lv_icmp_ge (tgt := 68) hx hb dX3_measure_42 (by decide) (fun c1 => ?_) (fun c1 => ?_)
            · have hf := (if_pos c1).mp hf
              exact hJ68 S l0 l1 l2 hf H locs ls hH (lv_sub hl [0, 1, 2] rfl)
            · have hf := (if_neg c1).mp hf
              refine lv_aload_n hx hb dX3_measure_45 rfl (lv_at hl 0 rfl) ?_
              refine q_getR (T := TX3) (N := 6) X hH hf iw_X3 rfl (by decide) tw_191 (fun _ h => h) dX3_measure_46 (fun v2 hf => ?_)
              refine lv_iload_n hx hb dX3_measure_49 rfl (lv_at hl 2 rfl) ?_
              refine lv_bipush (v := 9) hx hb dX3_measure_50 (by decide) ?_
              refine lv_imul hx hb dX3_measure_52 ?_
              refine lv_iload_n hx hb dX3_measure_53 rfl (lv_at hl 3 rfl) ?_
              refine lv_iadd hx hb dX3_measure_54 ?_
              refine lv_aload_n hx hb dX3_measure_55 rfl (lv_at hl 1 rfl) ?_
              refine lv_iload_n hx hb dX3_measure_56 rfl (lv_at hl 2 rfl) ?_
              refine lv_iload_n hx hb dX3_measure_57 rfl (lv_at hl 3 rfl) ?_
              obtain ⟨hb1, hb2, hf⟩ := hf
              refine q_backI0 X hH (q_runV [.int l2, .int l3] [.int ((l2 * 9) + l3), .ref v2] X hH hl (c_X6_tie l D cy G X.2.2.2.1 S l1 l2 l3 _ _ hf) mf_X6_tie mv_X6_tie tw_443 ⟨Nat.le_of_ble_eq_true rfl, Nat.le_of_ble_eq_true rfl⟩ hb1 hb2 (T := TX6) (N := 6) rfl rfl (Nat.le_of_ble_eq_true rfl) dX3_measure_58 ⟨Nat.le_of_ble_eq_true rfl, Nat.le_of_ble_eq_true rfl⟩) (fun v4 S3 hf H locs hH => ?_)
              refine q_iast X hH hf dX3_measure_61 (fun S5 hf H locs hH => ?_)
              refine lv_iinc (v := l3 + 1) (lv' := [(3, .int (l3 + 1)), (0, .ref l0), (1, .ref l1), (2, .int l2)]) hx hb dX3_measure_62 hl (k := 3) rfl rfl (by decide) rfl (fun ls hl => ?_)
              refine lv_goto (tgt := 39) hx hb dX3_measure_65 (by decide) ?_
              exact ih39 S5 l0 l1 l2 (l3 + 1) hf H locs ls hH (lv_sub hl [1, 2, 3, 0] rfl)
        refine q_iast X hH hf dX3_measure_36 (fun S1 hf H locs hH => ?_)
        refine lv_iconst (v := 0) hx hb dX3_measure_37 (by decide) ?_
        refine lv_istore_n (lv' := [(3, .int 0), (0, .ref l0), (1, .ref l1), (2, .int l2)]) hx hb dX3_measure_38 rfl hl (by decide) rfl (fun ls hl => ?_)
        exact hL39 4096 S1 l0 l1 l2 0 hf H locs ls hH (lv_sub hl [1, 2, 3, 0] rfl)
      refine lv_iload_n hx hb dX3_measure_10 rfl (lv_at hl 2 rfl) ?_
      refine lv_bipush (v := 9) hx hb dX3_measure_11 (by decide) ?_
      refine lv_icmp_ge (tgt := 74) hx hb dX3_measure_13 (by decide) (fun c1 => ?_) (fun c1 => ?_)
      · have hf := (if_pos c1).mp hf
        exact hJ74 S l0 hf H locs ls hH (lv_sub hl [0] rfl)
      · have hf := (if_neg c1).mp hf
        refine lv_aload_n hx hb dX3_measure_16 rfl (lv_at hl 0 rfl) ?_
        refine q_getR (T := TX3) (N := 6) X hH hf iw_X3 rfl (by decide) tw_192 (fun _ h => h) dX3_measure_17 (fun v2 hf => ?_)
        refine lv_iload_n hx hb dX3_measure_20 rfl (lv_at hl 2 rfl) ?_
        refine lv_iload_n hx hb dX3_measure_21 rfl (lv_at hl 2 rfl) ?_
        refine lv_aload_n hx hb dX3_measure_22 rfl (lv_at hl 0 rfl) ?_
        refine q_getI (T := TX3) (N := 6) X hH hf iw_X3 rfl (by decide) tw_194 (fun _ h => h) dX3_measure_23 (fun v3 hf => ?_)
        refine lv_icmp_ge (tgt := 35) hx hb dX3_measure_26 (by decide) (fun c4 => ?_) (fun c4 => ?_)
        · have hf := (if_pos c4).mp hf
          refine lv_iconst (v := 0) hx hb dX3_measure_35 (by decide) ?_
          exact hJ36 S l0 l1 l2 0 l2 v2 hf H locs ls hH hl
        · have hf := (if_neg c4).mp hf
          refine lv_iconst (v := 1) hx hb dX3_measure_29 (by decide) ?_
          refine lv_iload_n hx hb dX3_measure_30 rfl (lv_at hl 2 rfl) ?_
          refine lv_ishl hx hb dX3_measure_31 ?_
          refine lv_goto (tgt := 36) hx hb dX3_measure_32 (by decide) ?_
          exact hJ36 S l0 l1 l2 ((1 : Int32) <<< (l2 &&& 31)) l2 v2 hf H locs ls hH hl
  refine lv_aload_n hx hb dX3_measure_0 rfl (lv_at hl 0 rfl) ?_
  refine lv_aload_n hx hb dX3_measure_1 rfl (lv_at hl 1 rfl) ?_
  refine q_getIN (T := TX6) (N := 6) X hH hf iw_X6 rfl (by decide) (List.mem_of_getElem? (i := 6) rfl) (fun _ h => h) dX3_measure_2 (fun v1 hf => ?_)
  refine q_putV (T := TX3) (N := 6) (ty0 := tyX3) (ty := tyX3 5) X hH hf iw_X3 tyX3_ok nmX3 rfl (by decide) tw_194 (fun _ h => h) rfl (tyX3_ok 5 (by decide)) rfl rfl dX3_measure_5 (fun S2 hf H locs hH => ?_)
  refine lv_iconst (v := 0) hx hb dX3_measure_8 (by decide) ?_
  refine lv_istore_n (lv' := [(2, .int 0), (0, .ref a0), (1, .ref a1)]) hx hb dX3_measure_9 rfl hl (by decide) rfl (fun ls hl => ?_)
  exact hL10 4096 S2 a0 a1 0 hf H locs ls hH (lv_sub hl [1, 2, 0] rfl)
-- X7_phaseOf
def f_X7_phaseOf (S : PS) (a0 : Nat) (a1 : Int32) (a2 : Int32) (bc bs : Nat) (post : Int32 → PS → Prop) (postX : String → PS → Prop) : Prop :=
  isO S a0 11 (
  f_X7_hasPhase S a0 a1 fun v2 S1 => (
  if v2 = 0 then
    tX S1 "java/lang/IndexOutOfBoundsException" bc bs postX
  else
    gR S1 a0 11 4 fun v4 => (
    gR S1 a0 11 0 fun v5 => (
    isO S1 v4 7 (
    f_X3_measure S1 v4 v5 fun S6 => (
    gR S6 a0 11 4 fun v8 => (
    isO S6 v8 7 (
    f_X3_groupsIn S6 v8 a1 fun v10 S9 => (
    if a2 = 0 then
      gR S9 a0 11 4 fun v12 => (
      isO S9 v12 7 (
      f_X3_cutOf S9 v12 a1 fun v14 S13 => (
      post v14 S13)))
    else
    if a2 = 1 then
      post v10 S9
    else
    if a2 = 2 then
      gR S9 a0 11 4 fun v17 => (
      isO S9 v17 7 (
      f_X3_groupAt S9 v17 a1 (v10 - 1) fun v19 S18 => (
      f_X7_lowestOf S18 v19 fun v21 S20 => (
      post v21 S20))))
    else
    if a2 = 3 then
      gR S9 a0 11 4 fun v23 => (
      isO S9 v23 7 (
      f_X3_groupAt S9 v23 a1 (v10 - 2) fun v25 S24 => (
      f_X7_lowestOf S24 v25 fun v27 S26 => (
      post v27 S26))))
    else
    if a2 = 4 then
      gR S9 a0 11 4 fun v29 => (
      isO S9 v29 7 (
      f_X3_groupAt S9 v29 a1 (v10 - 1) fun v31 S30 => (
      post v31 S30)))
    else
      tX S9 "java/lang/IllegalArgumentException" bc bs postX)))))))))
abbrev rm_X7_phaseOf (mc ms : Nat) : Room := { frames := 6, cells := mc, slots := ms, locals := 94 }
set_option maxHeartbeats 4000000 in
set_option maxRecDepth 100000 in
theorem c_X7_phaseOf (l : Launch) (D : va_G) (cy : Nat → ClassId) (G : p_GT) (hG : p_ok G) (hst : l.stackTraces = false) (hGE : ∀ (A : Nat → Prop) (U : State) (H : Heap), G A U H → p_Ex A U H) (S : PS) (a0 : Nat) (a1 : Int32) (a2 : Int32) (mc ms : Nat) (post : Int32 → PS → Prop) (postX : String → PS → Prop) (sz : Nat) (hf : f_X7_phaseOf S a0 a1 a2 mc ms post postX) : p_Xi l D cy G S sz yX7_phaseOf (Cond.code yX7_phaseOf cX7_phaseOf 4 (some .int) :: wG) (rm_X7_phaseOf mc ms) [.ref a0, .int a1, .int a2] mc ms post postX := by
  refine q_startX hG (Qc := fun A => va_Qi post (p_Post D cy A) A) (XC := fun A => p_XC D cy A postX) mf_X7_phaseOf (Nat.le_of_ble_eq_true rfl) (own := RX7) rfl ?_
  intro p e s m below meth c A X hr hlk hnm htab ls hl hH
  have hx := X.1.1
  have hb := X.1.2.1
  replace hl : lv_has ls 4 [(0, .ref a0), (1, .int a1), (2, .int a2)] := hl
  have main : ∀ (H : Heap) (locs : List Loc) (ls : Array Slot) (cells slots bc bs : Nat), f_X7_phaseOf S a0 a1 a2 bc bs post postX → p_H D cy S A s H locs → lv_has ls 4 [(0, .ref a0), (1, .int a1), (2, .int a2)] → cells + bc ≤ mc ∧ slots + bs ≤ ms → W p l e (rm_X7_phaseOf mc ms) s m [.ref a0, .int a1, .int a2].toArray below meth c H locs cells slots (vx_MQ below (va_Qi post (p_Post D cy A) A) (p_XC D cy A postX) [.ref a0, .int a1, .int a2].toArray s mc ms A) (F0 m 0 ls []) := by
    intro H locs ls cells slots bc bs hf hH hl hB
    refine lv_aload_n hx hb dX7_phaseOf_0 rfl (lv_at hl 0 rfl) ?_
    refine lv_iload_n hx hb dX7_phaseOf_1 rfl (lv_at hl 1 rfl) ?_
    obtain ⟨hb1, hb2, hf⟩ := hf
    refine q_backI0 X hH (q_runV [.int a1] [] X hH hl (c_X7_hasPhase l D cy G X.2.2.2.1 S a0 a1 _ _ hf) mf_X7_hasPhase mv_X7_hasPhase tw_1160 ⟨Nat.le_of_ble_eq_true rfl, Nat.le_of_ble_eq_true rfl⟩ hb1 hb2 (T := TX7) (N := 12) rfl rfl (Nat.le_of_ble_eq_true rfl) dX7_phaseOf_2 ⟨Nat.le_trans (Nat.le_add_right _ _) hB.1, Nat.le_trans (Nat.le_add_right _ _) hB.2⟩) (fun v2 S1 hf H locs hH => ?_)
    refine lv_if_ne (tgt := 18) hx hb dX7_phaseOf_5 (by decide) (fun c3 => ?_) (fun c3 => ?_)
    · have hf := (if_neg c3).mp hf
      refine lv_aload_n hx hb dX7_phaseOf_18 rfl (lv_at hl 0 rfl) ?_
      refine q_getR (T := TX7) (N := 12) X hH hf iw_X7 rfl (by decide) tw_323 (fun _ h => h) dX7_phaseOf_19 (fun v4 hf => ?_)
      refine lv_aload_n hx hb dX7_phaseOf_22 rfl (lv_at hl 0 rfl) ?_
      refine q_getR (T := TX7) (N := 12) X hH hf iw_X7 rfl (by decide) tw_319 (fun _ h => h) dX7_phaseOf_23 (fun v5 hf => ?_)
      obtain ⟨hb1, hb2, hf⟩ := hf
      refine q_backV0 X hH (q_runV [.ref v5] [] X hH hl (c_X3_measure l D cy G X.2.2.2.1 S1 v4 v5 _ _ hf) mf_X3_measure mv_X3_measure tw_439 ⟨Nat.le_of_ble_eq_true rfl, Nat.le_of_ble_eq_true rfl⟩ hb1 hb2 (T := TX3) (N := 6) rfl rfl (Nat.le_of_ble_eq_true rfl) dX7_phaseOf_26 ⟨Nat.le_trans (Nat.le_add_right _ _) hB.1, Nat.le_trans (Nat.le_add_right _ _) hB.2⟩) (fun S6 hf H locs hH => ?_)
      refine lv_aload_n hx hb dX7_phaseOf_29 rfl (lv_at hl 0 rfl) ?_
      refine q_getR (T := TX7) (N := 12) X hH hf iw_X7 rfl (by decide) tw_323 (fun _ h => h) dX7_phaseOf_30 (fun v8 hf => ?_)
      refine lv_iload_n hx hb dX7_phaseOf_33 rfl (lv_at hl 1 rfl) ?_
      obtain ⟨hb1, hb2, hf⟩ := hf
      refine q_backI0 X hH (q_runV [.int a1] [] X hH hl (c_X3_groupsIn l D cy G X.2.2.2.1 S6 v8 a1 _ _ hf) mf_X3_groupsIn mv_X3_groupsIn tw_1165 ⟨Nat.le_of_ble_eq_true rfl, Nat.le_of_ble_eq_true rfl⟩ hb1 hb2 (T := TX3) (N := 6) rfl rfl (Nat.le_of_ble_eq_true rfl) dX7_phaseOf_34 ⟨Nat.le_trans (Nat.le_add_right _ _) hB.1, Nat.le_trans (Nat.le_add_right _ _) hB.2⟩) (fun v10 S9 hf H locs hH => ?_)
      refine lv_istore_n (lv' := [(3, .int v10), (0, .ref a0), (1, .int a1), (2, .int a2)]) hx hb dX7_phaseOf_37 rfl hl (by decide) rfl (fun ls hl => ?_)
      refine lv_iload_n hx hb dX7_phaseOf_38 rfl (lv_at hl 3 rfl) ?_
      by_cases c11 : a2 = 0
      · have hf := (if_pos c11).mp hf
        refine lv_tableIn (off := 33) (tgt := 72) hx hb dX7_phaseOf_39 (by rw [c11]; decide) (by rw [c11]; decide) (by rw [c11]; rfl) (by decide) ?_
        refine lv_aload_n hx hb dX7_phaseOf_72 rfl (lv_at hl 1 rfl) ?_
        refine q_getR (T := TX7) (N := 12) X hH hf iw_X7 rfl (by decide) tw_323 (fun _ h => h) dX7_phaseOf_73 (fun v12 hf => ?_)
        refine lv_iload_n hx hb dX7_phaseOf_76 rfl (lv_at hl 2 rfl) ?_
        obtain ⟨hb1, hb2, hf⟩ := hf
        refine q_backI0 X hH (q_runV [.int a1] [] X hH hl (c_X3_cutOf l D cy G X.2.2.2.1 S9 v12 a1 _ _ hf) mf_X3_cutOf mv_X3_cutOf tw_492 ⟨Nat.le_of_ble_eq_true rfl, Nat.le_of_ble_eq_true rfl⟩ hb1 hb2 (T := TX3) (N := 6) rfl rfl (Nat.le_of_ble_eq_true rfl) dX7_phaseOf_77 ⟨Nat.le_trans (Nat.le_add_right _ _) hB.1, Nat.le_trans (Nat.le_add_right _ _) hB.2⟩) (fun v14 S13 hf H locs hH => ?_)
        exact vx_ret (q_retI X hH hr hlk hf (Nat.le_trans (Nat.le_add_right _ _) hB.1) (Nat.le_trans (Nat.le_add_right _ _) hB.2) dX7_phaseOf_80)
      · have hf := (if_neg c11).mp hf
        by_cases c15 : a2 = 1
        · have hf := (if_pos c15).mp hf
          refine lv_tableIn (off := 42) (tgt := 81) hx hb dX7_phaseOf_39 (by rw [c15]; decide) (by rw [c15]; decide) (by rw [c15]; rfl) (by decide) ?_
          refine lv_iload_n hx hb dX7_phaseOf_81 rfl (lv_at hl 0 rfl) ?_
          exact vx_ret (q_retI X hH hr hlk hf (Nat.le_trans (Nat.le_add_right _ _) hB.1) (Nat.le_trans (Nat.le_add_right _ _) hB.2) dX7_phaseOf_82)
        · have hf := (if_neg c15).mp hf
          by_cases c16 : a2 = 2
          · have hf := (if_pos c16).mp hf
            refine lv_tableIn (off := 44) (tgt := 83) hx hb dX7_phaseOf_39 (by rw [c16]; decide) (by rw [c16]; decide) (by rw [c16]; rfl) (by decide) ?_
            refine lv_aload_n hx hb dX7_phaseOf_83 rfl (lv_at hl 1 rfl) ?_
            refine q_getR (T := TX7) (N := 12) X hH hf iw_X7 rfl (by decide) tw_323 (fun _ h => h) dX7_phaseOf_84 (fun v17 hf => ?_)
            refine lv_iload_n hx hb dX7_phaseOf_87 rfl (lv_at hl 2 rfl) ?_
            refine lv_iload_n hx hb dX7_phaseOf_88 rfl (lv_at hl 0 rfl) ?_
            refine lv_iconst (v := 1) hx hb dX7_phaseOf_89 (by decide) ?_
            refine lv_isub hx hb dX7_phaseOf_90 ?_
            obtain ⟨hb1, hb2, hf⟩ := hf
            refine q_backI0 X hH (q_runV [.int a1, .int (v10 - 1)] [] X hH hl (c_X3_groupAt l D cy G X.2.2.2.1 S9 v17 a1 (v10 - 1) _ _ hf) mf_X3_groupAt mv_X3_groupAt tw_1166 ⟨Nat.le_of_ble_eq_true rfl, Nat.le_of_ble_eq_true rfl⟩ hb1 hb2 (T := TX3) (N := 6) rfl rfl (Nat.le_of_ble_eq_true rfl) dX7_phaseOf_91 ⟨Nat.le_trans (Nat.le_add_right _ _) hB.1, Nat.le_trans (Nat.le_add_right _ _) hB.2⟩) (fun v19 S18 hf H locs hH => ?_)
            refine q_backI0 X hH (q_runS [.int v19] [] X hH hl (c_X7_lowestOf l D cy G X.2.2.2.1 S18 v19 _ _ hf) mf_X7_lowestOf tw_420 tw_419 ⟨Nat.le_of_ble_eq_true rfl, Nat.le_of_ble_eq_true rfl⟩ rfl (Nat.le_of_ble_eq_true rfl) dX7_phaseOf_94 ⟨Nat.le_trans (Nat.le_add_right _ _) hB.1, Nat.le_trans (Nat.le_add_right _ _) hB.2⟩) (fun v21 S20 hf H locs hH => ?_)
            exact vx_ret (q_retI X hH hr hlk hf (Nat.le_trans (Nat.le_add_right _ _) hB.1) (Nat.le_trans (Nat.le_add_right _ _) hB.2) dX7_phaseOf_97)
          · have hf := (if_neg c16).mp hf
            by_cases c22 : a2 = 3
            · have hf := (if_pos c22).mp hf
              refine lv_tableIn (off := 59) (tgt := 98) hx hb dX7_phaseOf_39 (by rw [c22]; decide) (by rw [c22]; decide) (by rw [c22]; rfl) (by decide) ?_
              refine lv_aload_n hx hb dX7_phaseOf_98 rfl (lv_at hl 1 rfl) ?_
              refine q_getR (T := TX7) (N := 12) X hH hf iw_X7 rfl (by decide) tw_323 (fun _ h => h) dX7_phaseOf_99 (fun v23 hf => ?_)
              refine lv_iload_n hx hb dX7_phaseOf_102 rfl (lv_at hl 2 rfl) ?_
              refine lv_iload_n hx hb dX7_phaseOf_103 rfl (lv_at hl 0 rfl) ?_
              refine lv_iconst (v := 2) hx hb dX7_phaseOf_104 (by decide) ?_
              refine lv_isub hx hb dX7_phaseOf_105 ?_
              obtain ⟨hb1, hb2, hf⟩ := hf
              refine q_backI0 X hH (q_runV [.int a1, .int (v10 - 2)] [] X hH hl (c_X3_groupAt l D cy G X.2.2.2.1 S9 v23 a1 (v10 - 2) _ _ hf) mf_X3_groupAt mv_X3_groupAt tw_1166 ⟨Nat.le_of_ble_eq_true rfl, Nat.le_of_ble_eq_true rfl⟩ hb1 hb2 (T := TX3) (N := 6) rfl rfl (Nat.le_of_ble_eq_true rfl) dX7_phaseOf_106 ⟨Nat.le_trans (Nat.le_add_right _ _) hB.1, Nat.le_trans (Nat.le_add_right _ _) hB.2⟩) (fun v25 S24 hf H locs hH => ?_)
              refine q_backI0 X hH (q_runS [.int v25] [] X hH hl (c_X7_lowestOf l D cy G X.2.2.2.1 S24 v25 _ _ hf) mf_X7_lowestOf tw_420 tw_419 ⟨Nat.le_of_ble_eq_true rfl, Nat.le_of_ble_eq_true rfl⟩ rfl (Nat.le_of_ble_eq_true rfl) dX7_phaseOf_109 ⟨Nat.le_trans (Nat.le_add_right _ _) hB.1, Nat.le_trans (Nat.le_add_right _ _) hB.2⟩) (fun v27 S26 hf H locs hH => ?_)
              exact vx_ret (q_retI X hH hr hlk hf (Nat.le_trans (Nat.le_add_right _ _) hB.1) (Nat.le_trans (Nat.le_add_right _ _) hB.2) dX7_phaseOf_112)
            · have hf := (if_neg c22).mp hf
              by_cases c28 : a2 = 4
              · have hf := (if_pos c28).mp hf
                refine lv_tableIn (off := 74) (tgt := 113) hx hb dX7_phaseOf_39 (by rw [c28]; decide) (by rw [c28]; decide) (by rw [c28]; rfl) (by decide) ?_
                refine lv_aload_n hx hb dX7_phaseOf_113 rfl (lv_at hl 1 rfl) ?_
                refine q_getR (T := TX7) (N := 12) X hH hf iw_X7 rfl (by decide) tw_323 (fun _ h => h) dX7_phaseOf_114 (fun v29 hf => ?_)
                refine lv_iload_n hx hb dX7_phaseOf_117 rfl (lv_at hl 2 rfl) ?_
                refine lv_iload_n hx hb dX7_phaseOf_118 rfl (lv_at hl 0 rfl) ?_
                refine lv_iconst (v := 1) hx hb dX7_phaseOf_119 (by decide) ?_
                refine lv_isub hx hb dX7_phaseOf_120 ?_
                obtain ⟨hb1, hb2, hf⟩ := hf
                refine q_backI0 X hH (q_runV [.int a1, .int (v10 - 1)] [] X hH hl (c_X3_groupAt l D cy G X.2.2.2.1 S9 v29 a1 (v10 - 1) _ _ hf) mf_X3_groupAt mv_X3_groupAt tw_1166 ⟨Nat.le_of_ble_eq_true rfl, Nat.le_of_ble_eq_true rfl⟩ hb1 hb2 (T := TX3) (N := 6) rfl rfl (Nat.le_of_ble_eq_true rfl) dX7_phaseOf_121 ⟨Nat.le_trans (Nat.le_add_right _ _) hB.1, Nat.le_trans (Nat.le_add_right _ _) hB.2⟩) (fun v31 S30 hf H locs hH => ?_)
                exact vx_ret (q_retI X hH hr hlk hf (Nat.le_trans (Nat.le_add_right _ _) hB.1) (Nat.le_trans (Nat.le_add_right _ _) hB.2) dX7_phaseOf_124)
              · have hf := (if_neg c28).mp hf
                refine lv_tableOut (tgt := 125) hx hb dX7_phaseOf_39 (by have z0 := lv_neT c11 (a := 0) rfl; have z1 := lv_neT c15 (a := 1) rfl; have z2 := lv_neT c16 (a := 2) rfl; have z3 := lv_neT c22 (a := 3) rfl; have z4 := lv_neT c28 (a := 4) rfl; omega) (by decide) ?_
                exact q_throw X hH hl hB rfl rfl hst (hGE _ _ _ X.2.2.2.2) hf tw_1134 tw_113 (text := "what is not 0 to 4") (List.mem_of_getElem? (i := 10) rfl) xa_IllegalArgumentException xg_IllegalArgumentException (by decide +kernel) (by decide +kernel) dX7_phaseOf_125 dX7_phaseOf_128 dX7_phaseOf_129 dX7_phaseOf_131 dX7_phaseOf_134 htab ⟨Nat.le_of_ble_eq_true rfl, Nat.le_of_ble_eq_true rfl⟩ (Nat.le_of_ble_eq_true rfl) hlk
    · have hf := (if_pos c3).mp hf
      exact q_throw X hH hl hB rfl rfl hst (hGE _ _ _ X.2.2.2.2) hf tw_1106 tw_111 (text := "there is no such phase") (List.mem_of_getElem? (i := 9) rfl) xa_IndexOutOfBoundsException xg_IndexOutOfBoundsException (by decide +kernel) (by decide +kernel) dX7_phaseOf_8 dX7_phaseOf_11 dX7_phaseOf_12 dX7_phaseOf_14 dX7_phaseOf_17 htab ⟨Nat.le_of_ble_eq_true rfl, Nat.le_of_ble_eq_true rfl⟩ (Nat.le_of_ble_eq_true rfl) hlk
  exact main s.heap [] ls 0 0 mc ms hf hH hl ⟨by omega, by omega⟩
-- X7_joined
def f_X7_joined (S : PS) (a0 : Nat) (a1 : Int32) (a2 : Int32) (bc bs : Nat) (post : Int32 → PS → Prop) (postX : String → PS → Prop) : Prop :=
  isO S a0 11 (
  f_X7_hasPhase S a0 a1 fun v2 S1 => (
  if v2 = 0 then
    tX S1 "java/lang/IndexOutOfBoundsException" bc bs postX
  else
    gR S1 a0 11 4 fun v4 => (
    gR S1 a0 11 0 fun v5 => (
    isO S1 v4 7 (
    f_X3_measure S1 v4 v5 fun S6 => (
    gR S6 a0 11 4 fun v8 => (
    isO S6 v8 7 (
    f_X3_hasPlace S6 v8 a1 a2 fun v10 S9 => (
    if v10 = 0 then
      tX S9 "java/util/NoSuchElementException" bc bs postX
    else
      gR S9 a0 11 4 fun v12 => (
      isO S9 v12 7 (
      f_X3_groupAt S9 v12 a1 a2 fun v14 S13 => (
      f_X7_lowestOf S13 v14 fun v16 S15 => (
      post v16 S15)))))))))))))
abbrev rm_X7_joined (mc ms : Nat) : Room := { frames := 6, cells := mc, slots := ms, locals := 94 }
set_option maxHeartbeats 4000000 in
set_option maxRecDepth 100000 in
theorem c_X7_joined (l : Launch) (D : va_G) (cy : Nat → ClassId) (G : p_GT) (hG : p_ok G) (hst : l.stackTraces = false) (hGE : ∀ (A : Nat → Prop) (U : State) (H : Heap), G A U H → p_Ex A U H) (S : PS) (a0 : Nat) (a1 : Int32) (a2 : Int32) (mc ms : Nat) (post : Int32 → PS → Prop) (postX : String → PS → Prop) (sz : Nat) (hf : f_X7_joined S a0 a1 a2 mc ms post postX) : p_Xi l D cy G S sz yX7_joined (Cond.code yX7_joined cX7_joined 3 (some .int) :: wG) (rm_X7_joined mc ms) [.ref a0, .int a1, .int a2] mc ms post postX := by
  refine q_startX hG (Qc := fun A => va_Qi post (p_Post D cy A) A) (XC := fun A => p_XC D cy A postX) mf_X7_joined (Nat.le_of_ble_eq_true rfl) (own := RX7) rfl ?_
  intro p e s m below meth c A X hr hlk hnm htab ls hl hH
  have hx := X.1.1
  have hb := X.1.2.1
  replace hl : lv_has ls 3 [(0, .ref a0), (1, .int a1), (2, .int a2)] := hl
  have main : ∀ (H : Heap) (locs : List Loc) (ls : Array Slot) (cells slots bc bs : Nat), f_X7_joined S a0 a1 a2 bc bs post postX → p_H D cy S A s H locs → lv_has ls 3 [(0, .ref a0), (1, .int a1), (2, .int a2)] → cells + bc ≤ mc ∧ slots + bs ≤ ms → W p l e (rm_X7_joined mc ms) s m [.ref a0, .int a1, .int a2].toArray below meth c H locs cells slots (vx_MQ below (va_Qi post (p_Post D cy A) A) (p_XC D cy A postX) [.ref a0, .int a1, .int a2].toArray s mc ms A) (F0 m 0 ls []) := by
    intro H locs ls cells slots bc bs hf hH hl hB
    refine lv_aload_n hx hb dX7_joined_0 rfl (lv_at hl 0 rfl) ?_
    refine lv_iload_n hx hb dX7_joined_1 rfl (lv_at hl 1 rfl) ?_
    obtain ⟨hb1, hb2, hf⟩ := hf
    refine q_backI0 X hH (q_runV [.int a1] [] X hH hl (c_X7_hasPhase l D cy G X.2.2.2.1 S a0 a1 _ _ hf) mf_X7_hasPhase mv_X7_hasPhase tw_1160 ⟨Nat.le_of_ble_eq_true rfl, Nat.le_of_ble_eq_true rfl⟩ hb1 hb2 (T := TX7) (N := 12) rfl rfl (Nat.le_of_ble_eq_true rfl) dX7_joined_2 ⟨Nat.le_trans (Nat.le_add_right _ _) hB.1, Nat.le_trans (Nat.le_add_right _ _) hB.2⟩) (fun v2 S1 hf H locs hH => ?_)
    refine lv_if_ne (tgt := 18) hx hb dX7_joined_5 (by decide) (fun c3 => ?_) (fun c3 => ?_)
    · have hf := (if_neg c3).mp hf
      refine lv_aload_n hx hb dX7_joined_18 rfl (lv_at hl 0 rfl) ?_
      refine q_getR (T := TX7) (N := 12) X hH hf iw_X7 rfl (by decide) tw_323 (fun _ h => h) dX7_joined_19 (fun v4 hf => ?_)
      refine lv_aload_n hx hb dX7_joined_22 rfl (lv_at hl 0 rfl) ?_
      refine q_getR (T := TX7) (N := 12) X hH hf iw_X7 rfl (by decide) tw_319 (fun _ h => h) dX7_joined_23 (fun v5 hf => ?_)
      obtain ⟨hb1, hb2, hf⟩ := hf
      refine q_backV0 X hH (q_runV [.ref v5] [] X hH hl (c_X3_measure l D cy G X.2.2.2.1 S1 v4 v5 _ _ hf) mf_X3_measure mv_X3_measure tw_439 ⟨Nat.le_of_ble_eq_true rfl, Nat.le_of_ble_eq_true rfl⟩ hb1 hb2 (T := TX3) (N := 6) rfl rfl (Nat.le_of_ble_eq_true rfl) dX7_joined_26 ⟨Nat.le_trans (Nat.le_add_right _ _) hB.1, Nat.le_trans (Nat.le_add_right _ _) hB.2⟩) (fun S6 hf H locs hH => ?_)
      refine lv_aload_n hx hb dX7_joined_29 rfl (lv_at hl 0 rfl) ?_
      refine q_getR (T := TX7) (N := 12) X hH hf iw_X7 rfl (by decide) tw_323 (fun _ h => h) dX7_joined_30 (fun v8 hf => ?_)
      refine lv_iload_n hx hb dX7_joined_33 rfl (lv_at hl 1 rfl) ?_
      refine lv_iload_n hx hb dX7_joined_34 rfl (lv_at hl 2 rfl) ?_
      obtain ⟨hb1, hb2, hf⟩ := hf
      refine q_backI0 X hH (q_runV [.int a1, .int a2] [] X hH hl (c_X3_hasPlace l D cy G X.2.2.2.1 S6 v8 a1 a2 _ _ hf) mf_X3_hasPlace mv_X3_hasPlace tw_1176 ⟨Nat.le_of_ble_eq_true rfl, Nat.le_of_ble_eq_true rfl⟩ hb1 hb2 (T := TX3) (N := 6) rfl rfl (Nat.le_of_ble_eq_true rfl) dX7_joined_35 ⟨Nat.le_trans (Nat.le_add_right _ _) hB.1, Nat.le_trans (Nat.le_add_right _ _) hB.2⟩) (fun v10 S9 hf H locs hH => ?_)
      refine lv_if_ne (tgt := 51) hx hb dX7_joined_38 (by decide) (fun c11 => ?_) (fun c11 => ?_)
      · have hf := (if_neg c11).mp hf
        refine lv_aload_n hx hb dX7_joined_51 rfl (lv_at hl 0 rfl) ?_
        refine q_getR (T := TX7) (N := 12) X hH hf iw_X7 rfl (by decide) tw_323 (fun _ h => h) dX7_joined_52 (fun v12 hf => ?_)
        refine lv_iload_n hx hb dX7_joined_55 rfl (lv_at hl 1 rfl) ?_
        refine lv_iload_n hx hb dX7_joined_56 rfl (lv_at hl 2 rfl) ?_
        obtain ⟨hb1, hb2, hf⟩ := hf
        refine q_backI0 X hH (q_runV [.int a1, .int a2] [] X hH hl (c_X3_groupAt l D cy G X.2.2.2.1 S9 v12 a1 a2 _ _ hf) mf_X3_groupAt mv_X3_groupAt tw_1166 ⟨Nat.le_of_ble_eq_true rfl, Nat.le_of_ble_eq_true rfl⟩ hb1 hb2 (T := TX3) (N := 6) rfl rfl (Nat.le_of_ble_eq_true rfl) dX7_joined_57 ⟨Nat.le_trans (Nat.le_add_right _ _) hB.1, Nat.le_trans (Nat.le_add_right _ _) hB.2⟩) (fun v14 S13 hf H locs hH => ?_)
        refine q_backI0 X hH (q_runS [.int v14] [] X hH hl (c_X7_lowestOf l D cy G X.2.2.2.1 S13 v14 _ _ hf) mf_X7_lowestOf tw_420 tw_419 ⟨Nat.le_of_ble_eq_true rfl, Nat.le_of_ble_eq_true rfl⟩ rfl (Nat.le_of_ble_eq_true rfl) dX7_joined_60 ⟨Nat.le_trans (Nat.le_add_right _ _) hB.1, Nat.le_trans (Nat.le_add_right _ _) hB.2⟩) (fun v16 S15 hf H locs hH => ?_)
        exact vx_ret (q_retI X hH hr hlk hf (Nat.le_trans (Nat.le_add_right _ _) hB.1) (Nat.le_trans (Nat.le_add_right _ _) hB.2) dX7_joined_63)
      · have hf := (if_pos c11).mp hf
        exact q_throwX (by decide +kernel) (by decide +kernel) (by decide +kernel) (by decide +kernel) X hH hl hB rfl rfl hst (hGE _ _ _ X.2.2.2.2) hf tw_1177 tw_114 (text := "there is no such place") (List.mem_of_getElem? (i := 11) rfl) xa_NoSuchElementException xg_NoSuchElementException (by decide +kernel) (by decide +kernel) dX7_joined_41 dX7_joined_44 dX7_joined_45 dX7_joined_47 dX7_joined_50 htab ⟨Nat.le_of_ble_eq_true rfl, Nat.le_of_ble_eq_true rfl⟩ (Nat.le_of_ble_eq_true rfl) hlk
    · have hf := (if_pos c3).mp hf
      exact q_throw X hH hl hB rfl rfl hst (hGE _ _ _ X.2.2.2.2) hf tw_1106 tw_111 (text := "there is no such phase") (List.mem_of_getElem? (i := 9) rfl) xa_IndexOutOfBoundsException xg_IndexOutOfBoundsException (by decide +kernel) (by decide +kernel) dX7_joined_8 dX7_joined_11 dX7_joined_12 dX7_joined_14 dX7_joined_17 htab ⟨Nat.le_of_ble_eq_true rfl, Nat.le_of_ble_eq_true rfl⟩ (Nat.le_of_ble_eq_true rfl) hlk
  exact main s.heap [] ls 0 0 mc ms hf hH hl ⟨by omega, by omega⟩
-- X7_tieAt
def f_X7_tieAt (S : PS) (a0 : Nat) (a1 : Int32) (a2 : Int32) (bc bs : Nat) (post : Int32 → PS → Prop) (postX : String → PS → Prop) : Prop :=
  isO S a0 11 (
  f_X7_hasPhase S a0 a1 fun v2 S1 => (
  if v2 = 0 then
    tX S1 "java/lang/IndexOutOfBoundsException" bc bs postX
  else
    gR S1 a0 11 4 fun v4 => (
    gR S1 a0 11 0 fun v5 => (
    isO S1 v4 7 (
    f_X3_measure S1 v4 v5 fun S6 => (
    gR S6 a0 11 4 fun v8 => (
    isO S6 v8 7 (
    f_X3_hasPlace S6 v8 a1 a2 fun v10 S9 => (
    if v10 = 0 then
      tX S9 "java/util/NoSuchElementException" bc bs postX
    else
      gR S9 a0 11 4 fun v12 => (
      isO S9 v12 7 (
      f_X3_pullAt S9 v12 a1 a2 fun v14 S13 => (
      post v14 S13))))))))))))
abbrev rm_X7_tieAt (mc ms : Nat) : Room := { frames := 6, cells := mc, slots := ms, locals := 94 }
set_option maxHeartbeats 4000000 in
set_option maxRecDepth 100000 in
theorem c_X7_tieAt (l : Launch) (D : va_G) (cy : Nat → ClassId) (G : p_GT) (hG : p_ok G) (hst : l.stackTraces = false) (hGE : ∀ (A : Nat → Prop) (U : State) (H : Heap), G A U H → p_Ex A U H) (S : PS) (a0 : Nat) (a1 : Int32) (a2 : Int32) (mc ms : Nat) (post : Int32 → PS → Prop) (postX : String → PS → Prop) (sz : Nat) (hf : f_X7_tieAt S a0 a1 a2 mc ms post postX) : p_Xi l D cy G S sz yX7_tieAt (Cond.code yX7_tieAt cX7_tieAt 3 (some .int) :: wG) (rm_X7_tieAt mc ms) [.ref a0, .int a1, .int a2] mc ms post postX := by
  refine q_startX hG (Qc := fun A => va_Qi post (p_Post D cy A) A) (XC := fun A => p_XC D cy A postX) mf_X7_tieAt (Nat.le_of_ble_eq_true rfl) (own := RX7) rfl ?_
  intro p e s m below meth c A X hr hlk hnm htab ls hl hH
  have hx := X.1.1
  have hb := X.1.2.1
  replace hl : lv_has ls 3 [(0, .ref a0), (1, .int a1), (2, .int a2)] := hl
  have main : ∀ (H : Heap) (locs : List Loc) (ls : Array Slot) (cells slots bc bs : Nat), f_X7_tieAt S a0 a1 a2 bc bs post postX → p_H D cy S A s H locs → lv_has ls 3 [(0, .ref a0), (1, .int a1), (2, .int a2)] → cells + bc ≤ mc ∧ slots + bs ≤ ms → W p l e (rm_X7_tieAt mc ms) s m [.ref a0, .int a1, .int a2].toArray below meth c H locs cells slots (vx_MQ below (va_Qi post (p_Post D cy A) A) (p_XC D cy A postX) [.ref a0, .int a1, .int a2].toArray s mc ms A) (F0 m 0 ls []) := by
    intro H locs ls cells slots bc bs hf hH hl hB
    refine lv_aload_n hx hb dX7_tieAt_0 rfl (lv_at hl 0 rfl) ?_
    refine lv_iload_n hx hb dX7_tieAt_1 rfl (lv_at hl 1 rfl) ?_
    obtain ⟨hb1, hb2, hf⟩ := hf
    refine q_backI0 X hH (q_runV [.int a1] [] X hH hl (c_X7_hasPhase l D cy G X.2.2.2.1 S a0 a1 _ _ hf) mf_X7_hasPhase mv_X7_hasPhase tw_1160 ⟨Nat.le_of_ble_eq_true rfl, Nat.le_of_ble_eq_true rfl⟩ hb1 hb2 (T := TX7) (N := 12) rfl rfl (Nat.le_of_ble_eq_true rfl) dX7_tieAt_2 ⟨Nat.le_trans (Nat.le_add_right _ _) hB.1, Nat.le_trans (Nat.le_add_right _ _) hB.2⟩) (fun v2 S1 hf H locs hH => ?_)
    refine lv_if_ne (tgt := 18) hx hb dX7_tieAt_5 (by decide) (fun c3 => ?_) (fun c3 => ?_)
    · have hf := (if_neg c3).mp hf
      refine lv_aload_n hx hb dX7_tieAt_18 rfl (lv_at hl 0 rfl) ?_
      refine q_getR (T := TX7) (N := 12) X hH hf iw_X7 rfl (by decide) tw_323 (fun _ h => h) dX7_tieAt_19 (fun v4 hf => ?_)
      refine lv_aload_n hx hb dX7_tieAt_22 rfl (lv_at hl 0 rfl) ?_
      refine q_getR (T := TX7) (N := 12) X hH hf iw_X7 rfl (by decide) tw_319 (fun _ h => h) dX7_tieAt_23 (fun v5 hf => ?_)
      obtain ⟨hb1, hb2, hf⟩ := hf
      refine q_backV0 X hH (q_runV [.ref v5] [] X hH hl (c_X3_measure l D cy G X.2.2.2.1 S1 v4 v5 _ _ hf) mf_X3_measure mv_X3_measure tw_439 ⟨Nat.le_of_ble_eq_true rfl, Nat.le_of_ble_eq_true rfl⟩ hb1 hb2 (T := TX3) (N := 6) rfl rfl (Nat.le_of_ble_eq_true rfl) dX7_tieAt_26 ⟨Nat.le_trans (Nat.le_add_right _ _) hB.1, Nat.le_trans (Nat.le_add_right _ _) hB.2⟩) (fun S6 hf H locs hH => ?_)
      refine lv_aload_n hx hb dX7_tieAt_29 rfl (lv_at hl 0 rfl) ?_
      refine q_getR (T := TX7) (N := 12) X hH hf iw_X7 rfl (by decide) tw_323 (fun _ h => h) dX7_tieAt_30 (fun v8 hf => ?_)
      refine lv_iload_n hx hb dX7_tieAt_33 rfl (lv_at hl 1 rfl) ?_
      refine lv_iload_n hx hb dX7_tieAt_34 rfl (lv_at hl 2 rfl) ?_
      obtain ⟨hb1, hb2, hf⟩ := hf
      refine q_backI0 X hH (q_runV [.int a1, .int a2] [] X hH hl (c_X3_hasPlace l D cy G X.2.2.2.1 S6 v8 a1 a2 _ _ hf) mf_X3_hasPlace mv_X3_hasPlace tw_1176 ⟨Nat.le_of_ble_eq_true rfl, Nat.le_of_ble_eq_true rfl⟩ hb1 hb2 (T := TX3) (N := 6) rfl rfl (Nat.le_of_ble_eq_true rfl) dX7_tieAt_35 ⟨Nat.le_trans (Nat.le_add_right _ _) hB.1, Nat.le_trans (Nat.le_add_right _ _) hB.2⟩) (fun v10 S9 hf H locs hH => ?_)
      refine lv_if_ne (tgt := 51) hx hb dX7_tieAt_38 (by decide) (fun c11 => ?_) (fun c11 => ?_)
      · have hf := (if_neg c11).mp hf
        refine lv_aload_n hx hb dX7_tieAt_51 rfl (lv_at hl 0 rfl) ?_
        refine q_getR (T := TX7) (N := 12) X hH hf iw_X7 rfl (by decide) tw_323 (fun _ h => h) dX7_tieAt_52 (fun v12 hf => ?_)
        refine lv_iload_n hx hb dX7_tieAt_55 rfl (lv_at hl 1 rfl) ?_
        refine lv_iload_n hx hb dX7_tieAt_56 rfl (lv_at hl 2 rfl) ?_
        obtain ⟨hb1, hb2, hf⟩ := hf
        refine q_backI0 X hH (q_runV [.int a1, .int a2] [] X hH hl (c_X3_pullAt l D cy G X.2.2.2.1 S9 v12 a1 a2 _ _ hf) mf_X3_pullAt mv_X3_pullAt tw_1200 ⟨Nat.le_of_ble_eq_true rfl, Nat.le_of_ble_eq_true rfl⟩ hb1 hb2 (T := TX3) (N := 6) rfl rfl (Nat.le_of_ble_eq_true rfl) dX7_tieAt_57 ⟨Nat.le_trans (Nat.le_add_right _ _) hB.1, Nat.le_trans (Nat.le_add_right _ _) hB.2⟩) (fun v14 S13 hf H locs hH => ?_)
        exact vx_ret (q_retI X hH hr hlk hf (Nat.le_trans (Nat.le_add_right _ _) hB.1) (Nat.le_trans (Nat.le_add_right _ _) hB.2) dX7_tieAt_60)
      · have hf := (if_pos c11).mp hf
        exact q_throwX (by decide +kernel) (by decide +kernel) (by decide +kernel) (by decide +kernel) X hH hl hB rfl rfl hst (hGE _ _ _ X.2.2.2.2) hf tw_1177 tw_114 (text := "there is no such place") (List.mem_of_getElem? (i := 11) rfl) xa_NoSuchElementException xg_NoSuchElementException (by decide +kernel) (by decide +kernel) dX7_tieAt_41 dX7_tieAt_44 dX7_tieAt_45 dX7_tieAt_47 dX7_tieAt_50 htab ⟨Nat.le_of_ble_eq_true rfl, Nat.le_of_ble_eq_true rfl⟩ (Nat.le_of_ble_eq_true rfl) hlk
    · have hf := (if_pos c3).mp hf
      exact q_throw X hH hl hB rfl rfl hst (hGE _ _ _ X.2.2.2.2) hf tw_1106 tw_111 (text := "there is no such phase") (List.mem_of_getElem? (i := 9) rfl) xa_IndexOutOfBoundsException xg_IndexOutOfBoundsException (by decide +kernel) (by decide +kernel) dX7_tieAt_8 dX7_tieAt_11 dX7_tieAt_12 dX7_tieAt_14 dX7_tieAt_17 htab ⟨Nat.le_of_ble_eq_true rfl, Nat.le_of_ble_eq_true rfl⟩ (Nat.le_of_ble_eq_true rfl) hlk
  exact main s.heap [] ls 0 0 mc ms hf hH hl ⟨by omega, by omega⟩
-- X7_met
def f_X7_met (S : PS) (a0 : Nat) (bc bs : Nat) (post : Int32 → PS → Prop) (postX : String → PS → Prop) : Prop :=
  isO S a0 11 (
  f_X7_isTooSmall S a0 fun v2 S1 => (
  if v2 = 0 then
    gR S1 a0 11 4 fun v4 => (
    gR S1 a0 11 0 fun v5 => (
    isO S1 v4 7 (
    f_X3_measure S1 v4 v5 fun S6 => (
    gR S6 a0 11 4 fun v8 => (
    isO S6 v8 7 (
    f_X3_leastPhase S6 v8 fun v10 S9 => (
    post v10 S9)))))))
  else
    tX S1 "java/util/NoSuchElementException" bc bs postX))
abbrev rm_X7_met (mc ms : Nat) : Room := { frames := 6, cells := mc, slots := ms, locals := 94 }
set_option maxHeartbeats 4000000 in
set_option maxRecDepth 100000 in
theorem c_X7_met (l : Launch) (D : va_G) (cy : Nat → ClassId) (G : p_GT) (hG : p_ok G) (hst : l.stackTraces = false) (hGE : ∀ (A : Nat → Prop) (U : State) (H : Heap), G A U H → p_Ex A U H) (S : PS) (a0 : Nat) (mc ms : Nat) (post : Int32 → PS → Prop) (postX : String → PS → Prop) (sz : Nat) (hf : f_X7_met S a0 mc ms post postX) : p_Xi l D cy G S sz yX7_met (Cond.code yX7_met cX7_met 1 (some .int) :: wG) (rm_X7_met mc ms) [.ref a0] mc ms post postX := by
  refine q_startX hG (Qc := fun A => va_Qi post (p_Post D cy A) A) (XC := fun A => p_XC D cy A postX) mf_X7_met (Nat.le_of_ble_eq_true rfl) (own := RX7) rfl ?_
  intro p e s m below meth c A X hr hlk hnm htab ls hl hH
  have hx := X.1.1
  have hb := X.1.2.1
  replace hl : lv_has ls 1 [(0, .ref a0)] := hl
  have main : ∀ (H : Heap) (locs : List Loc) (ls : Array Slot) (cells slots bc bs : Nat), f_X7_met S a0 bc bs post postX → p_H D cy S A s H locs → lv_has ls 1 [(0, .ref a0)] → cells + bc ≤ mc ∧ slots + bs ≤ ms → W p l e (rm_X7_met mc ms) s m [.ref a0].toArray below meth c H locs cells slots (vx_MQ below (va_Qi post (p_Post D cy A) A) (p_XC D cy A postX) [.ref a0].toArray s mc ms A) (F0 m 0 ls []) := by
    intro H locs ls cells slots bc bs hf hH hl hB
    refine lv_aload_n hx hb dX7_met_0 rfl (lv_at hl 0 rfl) ?_
    obtain ⟨hb1, hb2, hf⟩ := hf
    refine q_backI0 X hH (q_runV [] [] X hH hl (c_X7_isTooSmall l D cy G X.2.2.2.1 S a0 _ _ hf) mf_X7_isTooSmall mv_X7_isTooSmall tw_427 ⟨Nat.le_of_ble_eq_true rfl, Nat.le_of_ble_eq_true rfl⟩ hb1 hb2 (T := TX7) (N := 12) rfl rfl (Nat.le_of_ble_eq_true rfl) dX7_met_1 ⟨Nat.le_trans (Nat.le_add_right _ _) hB.1, Nat.le_trans (Nat.le_add_right _ _) hB.2⟩) (fun v2 S1 hf H locs hH => ?_)
    refine lv_if_eq (tgt := 17) hx hb dX7_met_4 (by decide) (fun c3 => ?_) (fun c3 => ?_)
    · have hf := (if_pos c3).mp hf
      refine lv_aload_n hx hb dX7_met_17 rfl (lv_at hl 0 rfl) ?_
      refine q_getR (T := TX7) (N := 12) X hH hf iw_X7 rfl (by decide) tw_323 (fun _ h => h) dX7_met_18 (fun v4 hf => ?_)
      refine lv_aload_n hx hb dX7_met_21 rfl (lv_at hl 0 rfl) ?_
      refine q_getR (T := TX7) (N := 12) X hH hf iw_X7 rfl (by decide) tw_319 (fun _ h => h) dX7_met_22 (fun v5 hf => ?_)
      obtain ⟨hb1, hb2, hf⟩ := hf
      refine q_backV0 X hH (q_runV [.ref v5] [] X hH hl (c_X3_measure l D cy G X.2.2.2.1 S1 v4 v5 _ _ hf) mf_X3_measure mv_X3_measure tw_439 ⟨Nat.le_of_ble_eq_true rfl, Nat.le_of_ble_eq_true rfl⟩ hb1 hb2 (T := TX3) (N := 6) rfl rfl (Nat.le_of_ble_eq_true rfl) dX7_met_25 ⟨Nat.le_trans (Nat.le_add_right _ _) hB.1, Nat.le_trans (Nat.le_add_right _ _) hB.2⟩) (fun S6 hf H locs hH => ?_)
      refine lv_aload_n hx hb dX7_met_28 rfl (lv_at hl 0 rfl) ?_
      refine q_getR (T := TX7) (N := 12) X hH hf iw_X7 rfl (by decide) tw_323 (fun _ h => h) dX7_met_29 (fun v8 hf => ?_)
      obtain ⟨hb1, hb2, hf⟩ := hf
      refine q_backI0 X hH (q_runV [] [] X hH hl (c_X3_leastPhase l D cy G X.2.2.2.1 S6 v8 _ _ hf) mf_X3_leastPhase mv_X3_leastPhase tw_480 ⟨Nat.le_of_ble_eq_true rfl, Nat.le_of_ble_eq_true rfl⟩ hb1 hb2 (T := TX3) (N := 6) rfl rfl (Nat.le_of_ble_eq_true rfl) dX7_met_32 ⟨Nat.le_trans (Nat.le_add_right _ _) hB.1, Nat.le_trans (Nat.le_add_right _ _) hB.2⟩) (fun v10 S9 hf H locs hH => ?_)
      exact vx_ret (q_retI X hH hr hlk hf (Nat.le_trans (Nat.le_add_right _ _) hB.1) (Nat.le_trans (Nat.le_add_right _ _) hB.2) dX7_met_35)
    · have hf := (if_neg c3).mp hf
      exact q_throwX (by decide +kernel) (by decide +kernel) (by decide +kernel) (by decide +kernel) X hH hl hB rfl rfl hst (hGE _ _ _ X.2.2.2.2) hf tw_1177 tw_114 (text := "there are fewer than two households") (List.mem_of_getElem? (i := 6) rfl) xa_NoSuchElementException xg_NoSuchElementException (by decide +kernel) (by decide +kernel) dX7_met_7 dX7_met_10 dX7_met_11 dX7_met_13 dX7_met_16 htab ⟨Nat.le_of_ble_eq_true rfl, Nat.le_of_ble_eq_true rfl⟩ (Nat.le_of_ble_eq_true rfl) hlk
  exact main s.heap [] ls 0 0 mc ms hf hH hl ⟨by omega, by omega⟩
-- X7_betweenAgain
def f_X7_betweenAgain_J22 (post : Int32 → PS → Prop) (postX : String → PS → Prop) (S : PS) (bc bs : Nat)  : Prop :=
  tX S "java/lang/IndexOutOfBoundsException" bc bs postX
def f_X7_betweenAgain (S : PS) (a0 : Nat) (a1 : Int32) (a2 : Int32) (bc bs : Nat) (post : Int32 → PS → Prop) (postX : String → PS → Prop) : Prop :=
  gR S a0 11 0 fun v1 => (
  isO S v1 10 (
  f_X6_has S v1 a1 fun v3 S2 => (
  if v3 = 0 then
    f_X7_betweenAgain_J22 post postX S2 bc bs
  else
    gR S2 a0 11 0 fun v5 => (
    isO S2 v5 10 (
    f_X6_has S2 v5 a2 fun v7 S6 => (
    if v7 = 0 then
      f_X7_betweenAgain_J22 post postX S6 bc bs
    else
      if a1 = a2 then
        tX S6 "java/lang/IllegalArgumentException" bc bs postX
      else
        gR S6 a0 11 6 fun v10 => (
        gR S6 a0 11 0 fun v11 => (
        isO S6 v10 5 (
        f_X1_mostFlow S6 v10 v11 a1 a2 fun v13 S12 => (
        post v13 S12))))))))))
abbrev rm_X7_betweenAgain (mc ms : Nat) : Room := { frames := 6, cells := mc, slots := ms, locals := 96 }
set_option maxHeartbeats 4000000 in
set_option maxRecDepth 100000 in
theorem c_X7_betweenAgain (l : Launch) (D : va_G) (cy : Nat → ClassId) (G : p_GT) (hG : p_ok G) (hst : l.stackTraces = false) (hGE : ∀ (A : Nat → Prop) (U : State) (H : Heap), G A U H → p_Ex A U H) (S : PS) (a0 : Nat) (a1 : Int32) (a2 : Int32) (mc ms : Nat) (post : Int32 → PS → Prop) (postX : String → PS → Prop) (sz : Nat) (hf : f_X7_betweenAgain S a0 a1 a2 mc ms post postX) : p_Xi l D cy G S sz yX7_betweenAgain (Cond.code yX7_betweenAgain cX7_betweenAgain 3 (some .int) :: wG) (rm_X7_betweenAgain mc ms) [.ref a0, .int a1, .int a2] mc ms post postX := by
  refine q_startX hG (Qc := fun A => va_Qi post (p_Post D cy A) A) (XC := fun A => p_XC D cy A postX) mf_X7_betweenAgain (Nat.le_of_ble_eq_true rfl) (own := RX7) rfl ?_
  intro p e s m below meth c A X hr hlk hnm htab ls hl hH
  have hx := X.1.1
  have hb := X.1.2.1
  replace hl : lv_has ls 3 [(0, .ref a0), (1, .int a1), (2, .int a2)] := hl
  have main : ∀ (H : Heap) (locs : List Loc) (ls : Array Slot) (cells slots bc bs : Nat), f_X7_betweenAgain S a0 a1 a2 bc bs post postX → p_H D cy S A s H locs → lv_has ls 3 [(0, .ref a0), (1, .int a1), (2, .int a2)] → cells + bc ≤ mc ∧ slots + bs ≤ ms → W p l e (rm_X7_betweenAgain mc ms) s m [.ref a0, .int a1, .int a2].toArray below meth c H locs cells slots (vx_MQ below (va_Qi post (p_Post D cy A) A) (p_XC D cy A postX) [.ref a0, .int a1, .int a2].toArray s mc ms A) (F0 m 0 ls []) := by
    intro H locs ls cells slots bc bs hf hH hl hB
    have hJ22 : ∀ (S : PS) (bc bs : Nat), f_X7_betweenAgain_J22 post postX S bc bs → ∀ (H : Heap) (locs : List Loc) (ls : Array Slot) (cells slots : Nat), p_H D cy S A s H locs → lv_has ls 3 [] → cells + bc ≤ mc ∧ slots + bs ≤ ms → W p l e (rm_X7_betweenAgain mc ms) s m [.ref a0, .int a1, .int a2].toArray below meth c H locs cells slots (vx_MQ below (va_Qi post (p_Post D cy A) A) (p_XC D cy A postX) [.ref a0, .int a1, .int a2].toArray s mc ms A) (F0 m 22 ls []) := by
      intro S bc bs hf H locs ls cells slots hH hl hB
      exact q_throw X hH hl hB rfl rfl hst (hGE _ _ _ X.2.2.2.2) hf tw_1106 tw_111 (text := "there is no such household") (List.mem_of_getElem? (i := 1) rfl) xa_IndexOutOfBoundsException xg_IndexOutOfBoundsException (by decide +kernel) (by decide +kernel) dX7_betweenAgain_22 dX7_betweenAgain_25 dX7_betweenAgain_26 dX7_betweenAgain_28 dX7_betweenAgain_31 htab ⟨Nat.le_of_ble_eq_true rfl, Nat.le_of_ble_eq_true rfl⟩ (Nat.le_of_ble_eq_true rfl) hlk
    refine lv_aload_n hx hb dX7_betweenAgain_0 rfl (lv_at hl 0 rfl) ?_
    refine q_getR (T := TX7) (N := 12) X hH hf iw_X7 rfl (by decide) tw_319 (fun _ h => h) dX7_betweenAgain_1 (fun v1 hf => ?_)
    refine lv_iload_n hx hb dX7_betweenAgain_4 rfl (lv_at hl 1 rfl) ?_
    obtain ⟨hb1, hb2, hf⟩ := hf
    refine q_backI0 X hH (q_runV [.int a1] [] X hH hl (c_X6_has l D cy G X.2.2.2.1 S v1 a1 _ _ hf) mf_X6_has mv_X6_has tw_973 ⟨Nat.le_of_ble_eq_true rfl, Nat.le_of_ble_eq_true rfl⟩ hb1 hb2 (T := TX6) (N := 6) rfl rfl (Nat.le_of_ble_eq_true rfl) dX7_betweenAgain_5 ⟨Nat.le_trans (Nat.le_add_right _ _) hB.1, Nat.le_trans (Nat.le_add_right _ _) hB.2⟩) (fun v3 S2 hf H locs hH => ?_)
    refine lv_if_eq (tgt := 22) hx hb dX7_betweenAgain_8 (by decide) (fun c4 => ?_) (fun c4 => ?_)
    · have hf := (if_pos c4).mp hf
      exact hJ22 S2 bc bs hf H locs ls cells slots hH (lv_sub hl [] rfl) hB
    · have hf := (if_neg c4).mp hf
      refine lv_aload_n hx hb dX7_betweenAgain_11 rfl (lv_at hl 0 rfl) ?_
      refine q_getR (T := TX7) (N := 12) X hH hf iw_X7 rfl (by decide) tw_319 (fun _ h => h) dX7_betweenAgain_12 (fun v5 hf => ?_)
      refine lv_iload_n hx hb dX7_betweenAgain_15 rfl (lv_at hl 2 rfl) ?_
      obtain ⟨hb1, hb2, hf⟩ := hf
      refine q_backI0 X hH (q_runV [.int a2] [] X hH hl (c_X6_has l D cy G X.2.2.2.1 S2 v5 a2 _ _ hf) mf_X6_has mv_X6_has tw_973 ⟨Nat.le_of_ble_eq_true rfl, Nat.le_of_ble_eq_true rfl⟩ hb1 hb2 (T := TX6) (N := 6) rfl rfl (Nat.le_of_ble_eq_true rfl) dX7_betweenAgain_16 ⟨Nat.le_trans (Nat.le_add_right _ _) hB.1, Nat.le_trans (Nat.le_add_right _ _) hB.2⟩) (fun v7 S6 hf H locs hH => ?_)
      refine lv_if_ne (tgt := 32) hx hb dX7_betweenAgain_19 (by decide) (fun c8 => ?_) (fun c8 => ?_)
      · have hf := (if_neg c8).mp hf
        refine lv_iload_n hx hb dX7_betweenAgain_32 rfl (lv_at hl 1 rfl) ?_
        refine lv_iload_n hx hb dX7_betweenAgain_33 rfl (lv_at hl 2 rfl) ?_
        refine lv_icmp_ne (tgt := 47) hx hb dX7_betweenAgain_34 (by decide) (fun c9 => ?_) (fun c9 => ?_)
        · have hf := (if_neg c9).mp hf
          refine lv_aload_n hx hb dX7_betweenAgain_47 rfl (lv_at hl 0 rfl) ?_
          refine q_getR (T := TX7) (N := 12) X hH hf iw_X7 rfl (by decide) tw_325 (fun _ h => h) dX7_betweenAgain_48 (fun v10 hf => ?_)
          refine lv_aload_n hx hb dX7_betweenAgain_51 rfl (lv_at hl 0 rfl) ?_
          refine q_getR (T := TX7) (N := 12) X hH hf iw_X7 rfl (by decide) tw_319 (fun _ h => h) dX7_betweenAgain_52 (fun v11 hf => ?_)
          refine lv_iload_n hx hb dX7_betweenAgain_55 rfl (lv_at hl 1 rfl) ?_
          refine lv_iload_n hx hb dX7_betweenAgain_56 rfl (lv_at hl 2 rfl) ?_
          obtain ⟨hb1, hb2, hf⟩ := hf
          refine q_backI0 X hH (q_runV [.ref v11, .int a1, .int a2] [] X hH hl (c_X1_mostFlow l D cy G X.2.2.2.1 S6 v10 v11 a1 a2 _ _ hf) mf_X1_mostFlow mv_X1_mostFlow tw_511 ⟨Nat.le_of_ble_eq_true rfl, Nat.le_of_ble_eq_true rfl⟩ hb1 hb2 (T := TX1) (N := 3) rfl rfl (Nat.le_of_ble_eq_true rfl) dX7_betweenAgain_57 ⟨Nat.le_trans (Nat.le_add_right _ _) hB.1, Nat.le_trans (Nat.le_add_right _ _) hB.2⟩) (fun v13 S12 hf H locs hH => ?_)
          exact vx_ret (q_retI X hH hr hlk hf (Nat.le_trans (Nat.le_add_right _ _) hB.1) (Nat.le_trans (Nat.le_add_right _ _) hB.2) dX7_betweenAgain_60)
        · have hf := (if_pos c9).mp hf
          exact q_throw X hH hl hB rfl rfl hst (hGE _ _ _ X.2.2.2.2) hf tw_1134 tw_113 (text := "both are one household") (List.mem_of_getElem? (i := 12) rfl) xa_IllegalArgumentException xg_IllegalArgumentException (by decide +kernel) (by decide +kernel) dX7_betweenAgain_37 dX7_betweenAgain_40 dX7_betweenAgain_41 dX7_betweenAgain_43 dX7_betweenAgain_46 htab ⟨Nat.le_of_ble_eq_true rfl, Nat.le_of_ble_eq_true rfl⟩ (Nat.le_of_ble_eq_true rfl) hlk
      · have hf := (if_pos c8).mp hf
        exact hJ22 S6 bc bs hf H locs ls cells slots hH (lv_sub hl [] rfl) hB
  exact main s.heap [] ls 0 0 mc ms hf hH hl ⟨by omega, by omega⟩
-- X7_ranked
def f_X7_ranked_J9 (post : Int32 → PS → Prop) (postX : String → PS → Prop) (S : PS) (bc bs : Nat)  : Prop :=
  tX S "java/lang/IllegalArgumentException" bc bs postX
def f_X7_ranked (S : PS) (a0 : Nat) (a1 : Int32) (a2 : Int32) (bc bs : Nat) (post : Int32 → PS → Prop) (postX : String → PS → Prop) : Prop :=
  if a1 < 0 then
    f_X7_ranked_J9 post postX S bc bs
  else
    if a1 ≤ 3 then
      gR S a0 11 0 fun v3 => (
      isO S v3 10 (
      f_X6_has S v3 a2 fun v5 S4 => (
      if v5 = 0 then
        tX S4 "java/util/NoSuchElementException" bc bs postX
      else
        isO S4 a0 11 (
        f_X7_fillKeys S4 a0 a1 fun S7 => (
        isO S7 a0 11 (
        f_X7_householdAtPlace S7 a0 a2 fun v10 S9 => (
        post v10 S9)))))))
    else
      f_X7_ranked_J9 post postX S bc bs
abbrev rm_X7_ranked (mc ms : Nat) : Room := { frames := 6, cells := mc, slots := ms, locals := 128 }
set_option maxHeartbeats 4000000 in
set_option maxRecDepth 100000 in
theorem c_X7_ranked (l : Launch) (D : va_G) (cy : Nat → ClassId) (G : p_GT) (hG : p_ok G) (hst : l.stackTraces = false) (hGE : ∀ (A : Nat → Prop) (U : State) (H : Heap), G A U H → p_Ex A U H) (S : PS) (a0 : Nat) (a1 : Int32) (a2 : Int32) (mc ms : Nat) (post : Int32 → PS → Prop) (postX : String → PS → Prop) (sz : Nat) (hf : f_X7_ranked S a0 a1 a2 mc ms post postX) : p_Xi l D cy G S sz yX7_ranked (Cond.code yX7_ranked cX7_ranked 3 (some .int) :: wG) (rm_X7_ranked mc ms) [.ref a0, .int a1, .int a2] mc ms post postX := by
  refine q_startX hG (Qc := fun A => va_Qi post (p_Post D cy A) A) (XC := fun A => p_XC D cy A postX) mf_X7_ranked (Nat.le_of_ble_eq_true rfl) (own := RX7) rfl ?_
  intro p e s m below meth c A X hr hlk hnm htab ls hl hH
  have hx := X.1.1
  have hb := X.1.2.1
  replace hl : lv_has ls 3 [(0, .ref a0), (1, .int a1), (2, .int a2)] := hl
  have main : ∀ (H : Heap) (locs : List Loc) (ls : Array Slot) (cells slots bc bs : Nat), f_X7_ranked S a0 a1 a2 bc bs post postX → p_H D cy S A s H locs → lv_has ls 3 [(0, .ref a0), (1, .int a1), (2, .int a2)] → cells + bc ≤ mc ∧ slots + bs ≤ ms → W p l e (rm_X7_ranked mc ms) s m [.ref a0, .int a1, .int a2].toArray below meth c H locs cells slots (vx_MQ below (va_Qi post (p_Post D cy A) A) (p_XC D cy A postX) [.ref a0, .int a1, .int a2].toArray s mc ms A) (F0 m 0 ls []) := by
    intro H locs ls cells slots bc bs hf hH hl hB
    have hJ9 : ∀ (S : PS) (bc bs : Nat), f_X7_ranked_J9 post postX S bc bs → ∀ (H : Heap) (locs : List Loc) (ls : Array Slot) (cells slots : Nat), p_H D cy S A s H locs → lv_has ls 3 [] → cells + bc ≤ mc ∧ slots + bs ≤ ms → W p l e (rm_X7_ranked mc ms) s m [.ref a0, .int a1, .int a2].toArray below meth c H locs cells slots (vx_MQ below (va_Qi post (p_Post D cy A) A) (p_XC D cy A postX) [.ref a0, .int a1, .int a2].toArray s mc ms A) (F0 m 9 ls []) := by
      intro S bc bs hf H locs ls cells slots hH hl hB
      exact q_throwW X hH hl hB rfl rfl hst (hGE _ _ _ X.2.2.2.2) hf tw_1134 tw_113 (text := "there is no such kind") (List.mem_of_getElem? (i := 18) rfl) xa_IllegalArgumentException xg_IllegalArgumentException (by decide +kernel) (by decide +kernel) dX7_ranked_9 dX7_ranked_12 dX7_ranked_13 dX7_ranked_16 dX7_ranked_19 htab ⟨Nat.le_of_ble_eq_true rfl, Nat.le_of_ble_eq_true rfl⟩ (Nat.le_of_ble_eq_true rfl) hlk
    refine lv_iload_n hx hb dX7_ranked_0 rfl (lv_at hl 1 rfl) ?_
    refine lv_if_lt (tgt := 9) hx hb dX7_ranked_1 (by decide) (fun c1 => ?_) (fun c1 => ?_)
    · have hf := (if_pos c1).mp hf
      exact hJ9 S bc bs hf H locs ls cells slots hH (lv_sub hl [] rfl) hB
    · have hf := (if_neg c1).mp hf
      refine lv_iload_n hx hb dX7_ranked_4 rfl (lv_at hl 1 rfl) ?_
      refine lv_iconst (v := 3) hx hb dX7_ranked_5 (by decide) ?_
      refine lv_icmp_le (tgt := 20) hx hb dX7_ranked_6 (by decide) (fun c2 => ?_) (fun c2 => ?_)
      · have hf := (if_pos c2).mp hf
        refine lv_aload_n hx hb dX7_ranked_20 rfl (lv_at hl 0 rfl) ?_
        refine q_getR (T := TX7) (N := 12) X hH hf iw_X7 rfl (by decide) tw_319 (fun _ h => h) dX7_ranked_21 (fun v3 hf => ?_)
        refine lv_iload_n hx hb dX7_ranked_24 rfl (lv_at hl 2 rfl) ?_
        obtain ⟨hb1, hb2, hf⟩ := hf
        refine q_backI0 X hH (q_runV [.int a2] [] X hH hl (c_X6_has l D cy G X.2.2.2.1 S v3 a2 _ _ hf) mf_X6_has mv_X6_has tw_973 ⟨Nat.le_of_ble_eq_true rfl, Nat.le_of_ble_eq_true rfl⟩ hb1 hb2 (T := TX6) (N := 6) rfl rfl (Nat.le_of_ble_eq_true rfl) dX7_ranked_25 ⟨Nat.le_trans (Nat.le_add_right _ _) hB.1, Nat.le_trans (Nat.le_add_right _ _) hB.2⟩) (fun v5 S4 hf H locs hH => ?_)
        refine lv_if_ne (tgt := 41) hx hb dX7_ranked_28 (by decide) (fun c6 => ?_) (fun c6 => ?_)
        · have hf := (if_neg c6).mp hf
          refine lv_aload_n hx hb dX7_ranked_41 rfl (lv_at hl 0 rfl) ?_
          refine lv_iload_n hx hb dX7_ranked_42 rfl (lv_at hl 1 rfl) ?_
          obtain ⟨hb1, hb2, hf⟩ := hf
          refine q_backV0 X hH (q_runV [.int a1] [] X hH hl (c_X7_fillKeys l D cy G X.2.2.2.1 S4 a0 a1 _ _ hf) mf_X7_fillKeys mv_X7_fillKeys tw_1344 ⟨Nat.le_of_ble_eq_true rfl, Nat.le_of_ble_eq_true rfl⟩ hb1 hb2 (T := TX7) (N := 12) rfl rfl (Nat.le_of_ble_eq_true rfl) dX7_ranked_43 ⟨Nat.le_trans (Nat.le_add_right _ _) hB.1, Nat.le_trans (Nat.le_add_right _ _) hB.2⟩) (fun S7 hf H locs hH => ?_)
          refine lv_aload_n hx hb dX7_ranked_46 rfl (lv_at hl 0 rfl) ?_
          refine lv_iload_n hx hb dX7_ranked_47 rfl (lv_at hl 2 rfl) ?_
          obtain ⟨hb1, hb2, hf⟩ := hf
          refine q_backI0 X hH (q_runV [.int a2] [] X hH hl (c_X7_householdAtPlace l D cy G X.2.2.2.1 S7 a0 a2 _ _ hf) mf_X7_householdAtPlace mv_X7_householdAtPlace tw_1353 ⟨Nat.le_of_ble_eq_true rfl, Nat.le_of_ble_eq_true rfl⟩ hb1 hb2 (T := TX7) (N := 12) rfl rfl (Nat.le_of_ble_eq_true rfl) dX7_ranked_48 ⟨Nat.le_trans (Nat.le_add_right _ _) hB.1, Nat.le_trans (Nat.le_add_right _ _) hB.2⟩) (fun v10 S9 hf H locs hH => ?_)
          exact vx_ret (q_retI X hH hr hlk hf (Nat.le_trans (Nat.le_add_right _ _) hB.1) (Nat.le_trans (Nat.le_add_right _ _) hB.2) dX7_ranked_51)
        · have hf := (if_pos c6).mp hf
          exact q_throwX (by decide +kernel) (by decide +kernel) (by decide +kernel) (by decide +kernel) X hH hl hB rfl rfl hst (hGE _ _ _ X.2.2.2.2) hf tw_1177 tw_114 (text := "there is no such place") (List.mem_of_getElem? (i := 11) rfl) xa_NoSuchElementException xg_NoSuchElementException (by decide +kernel) (by decide +kernel) dX7_ranked_31 dX7_ranked_34 dX7_ranked_35 dX7_ranked_37 dX7_ranked_40 htab ⟨Nat.le_of_ble_eq_true rfl, Nat.le_of_ble_eq_true rfl⟩ (Nat.le_of_ble_eq_true rfl) hlk
      · have hf := (if_neg c2).mp hf
        exact hJ9 S bc bs hf H locs ls cells slots hH (lv_sub hl [] rfl) hB
  exact main s.heap [] ls 0 0 mc ms hf hH hl ⟨by omega, by omega⟩
-- X7_refuses
def f_X7_refuses_J58 (post : Int32 → PS → Prop) (S : PS) (l0 : Nat) (t0 : Int32) (t1 : Nat) : Prop :=
  gR S l0 11 0 fun v1 => (
  gI S v1 10 1 fun v2 => (
  isO S t1 11 (
  f_X7_refusesIf S t1 t0 1 v2 fun v4 S3 => (
  nZ .boolean v4 (post v4 S3)))))
def f_X7_refuses_J133 (post : Int32 → PS → Prop) (S : PS) (l4 : Int32) (t0 : Int32) (t1 : Nat) : Prop :=
  isO S t1 11 (
  f_X7_refusesIf S t1 t0 5 l4 fun v2 S1 => (
  if v2 = 0 then
    nZ .boolean 0 (post 0 S1)
  else
    nZ .boolean 1 (post 1 S1)))
def f_X7_refuses_J104 (post : Int32 → PS → Prop) (S : PS) (l0 : Nat) (l2 : Int32) (l3 : Int32) (l4 : Int32) (t0 : Int32) (t1 : Nat) : Prop :=
  isO S t1 11 (
  f_X7_refusesIf S t1 t0 4 l4 fun v2 S1 => (
  if v2 = 0 then
    gR S1 l0 11 0 fun v4 => (
    isO S1 v4 10 (
    f_X6_tie S1 v4 l2 l3 fun v6 S5 => (
    if v6 = l4 then
      f_X7_refuses_J133 post S5 l4 1 l0
    else
      f_X7_refuses_J133 post S5 l4 0 l0)))
  else
    nZ .boolean 1 (post 1 S1)))
def f_X7_refuses_J99 (post : Int32 → PS → Prop) (S : PS) (l0 : Nat) (l2 : Int32) (l3 : Int32) (l4 : Int32) (t0 : Nat) : Prop :=
  f_X7_refuses_J104 post S l0 l2 l3 l4 1 t0
def f_X7_refuses_J165 (post : Int32 → PS → Prop) (S : PS) (l0 : Nat) (l2 : Int32) (l3 : Int32) (t0 : Int32) : Prop :=
  isO S l0 11 (
  f_X7_refusesPair S l0 l2 l3 fun v2 S1 => (
  if v2 = 0 then
    gR S1 l0 11 0 fun v4 => (
    isO S1 v4 10 (
    f_X6_bondCount S1 v4 fun v6 S5 => (
    isO S5 l0 11 (
    f_X7_refusesIf S5 l0 t0 6 v6 fun v8 S7 => (
    if v8 = 0 then
      nZ .boolean 0 (post 0 S7)
    else
      nZ .boolean 1 (post 1 S7))))))
  else
    nZ .boolean 1 (post 1 S1)))
def f_X7_refuses_J256 (post : Int32 → PS → Prop) (S : PS) (l3 : Int32) (t0 : Int32) (t1 : Nat) : Prop :=
  isO S t1 11 (
  f_X7_refusesIf S t1 t0 5 l3 fun v2 S1 => (
  if v2 = 0 then
    nZ .boolean 0 (post 0 S1)
  else
    nZ .boolean 1 (post 1 S1)))
def f_X7_refuses_J230 (post : Int32 → PS → Prop) (S : PS) (l0 : Nat) (l2 : Int32) (l3 : Int32) (t0 : Int32) (t1 : Nat) : Prop :=
  isO S t1 11 (
  f_X7_refusesIf S t1 t0 4 l3 fun v2 S1 => (
  if v2 = 0 then
    gR S1 l0 11 0 fun v4 => (
    isO S1 v4 10 (
    f_X6_sideOf S1 v4 l2 fun v6 S5 => (
    if v6 = l3 then
      f_X7_refuses_J256 post S5 l3 1 l0
    else
      f_X7_refuses_J256 post S5 l3 0 l0)))
  else
    nZ .boolean 1 (post 1 S1)))
def f_X7_refuses_J229 (post : Int32 → PS → Prop) (S : PS) (l0 : Nat) (l2 : Int32) (l3 : Int32) (t0 : Nat) : Prop :=
  f_X7_refuses_J230 post S l0 l2 l3 0 t0
def f_X7_refuses (S : PS) (a0 : Nat) (a1 : Int32) (a2 : Int32) (a3 : Int32) (a4 : Int32) (post : Int32 → PS → Prop) : Prop :=
  if a1 = 0 then
    gR S a0 11 0 fun v2 => (
    gI S v2 10 1 fun v3 => (
    if v3 < 9 then
      f_X7_refuses_J58 post S a0 0 a0
    else
      f_X7_refuses_J58 post S a0 1 a0))
  else
  if a1 = 1 then
    isO S a0 11 (
    f_X7_refusesHousehold S a0 a2 fun v7 S6 => (
    nZ .boolean v7 (post v7 S6)))
  else
  if a1 = 2 then
    isO S a0 11 (
    f_X7_refusesPair S a0 a2 a3 fun v10 S9 => (
    if v10 = 0 then
      if a4 < 1 then
        f_X7_refuses_J99 post S9 a0 a2 a3 a4 a0
      else
        if a4 ≤ 99 then
          f_X7_refuses_J104 post S9 a0 a2 a3 a4 0 a0
        else
          f_X7_refuses_J99 post S9 a0 a2 a3 a4 a0
    else
      nZ .boolean 1 (post 1 S9)))
  else
  if a1 = 3 then
    gR S a0 11 0 fun v15 => (
    isO S v15 10 (
    f_X6_tie S v15 a2 a3 fun v17 S16 => (
    if v17 = 0 then
      f_X7_refuses_J165 post S16 a0 a2 a3 1
    else
      f_X7_refuses_J165 post S16 a0 a2 a3 0)))
  else
  if a1 = 4 then
    isO S a0 11 (
    f_X7_refusesPair S a0 a2 a3 fun v21 S20 => (
    nZ .boolean v21 (post v21 S20)))
  else
  if a1 = 5 then
    isO S a0 11 (
    f_X7_refusesHousehold S a0 a2 fun v24 S23 => (
    if v24 = 0 then
      if a3 = 0 then
        f_X7_refuses_J229 post S23 a0 a2 a3 a0
      else
        if a3 = 1 then
          f_X7_refuses_J229 post S23 a0 a2 a3 a0
        else
          f_X7_refuses_J230 post S23 a0 a2 a3 1 a0
    else
      nZ .boolean 1 (post 1 S23)))
  else
    isO S a0 11 (
    f_X7_isTooSmall S a0 fun v29 S28 => (
    gR S28 a0 11 0 fun v30 => (
    gI S28 v30 10 1 fun v31 => (
    isO S28 a0 11 (
    f_X7_refusesIf S28 a0 v29 7 v31 fun v33 S32 => (
    nZ .boolean v33 (post v33 S32)))))))
abbrev rm_X7_refuses : Room := { frames := 4, cells := 0, slots := 0, locals := 88 }
set_option maxHeartbeats 4000000 in
set_option maxRecDepth 100000 in
theorem c_X7_refuses (l : Launch) (D : va_G) (cy : Nat → ClassId) (G : p_GT) (hG : p_ok G) (S : PS) (a0 : Nat) (a1 : Int32) (a2 : Int32) (a3 : Int32) (a4 : Int32) (post : Int32 → PS → Prop) (sz : Nat) (hf : f_X7_refuses S a0 a1 a2 a3 a4 post) : p_Mi l D cy G S sz yX7_refuses (Cond.code yX7_refuses cX7_refuses 6 (some .boolean) :: wG) rm_X7_refuses [.ref a0, .int a1, .int a2, .int a3, .int a4] 0 0 post := by
  refine q_start hG (Qc := fun A => va_Qi post (p_Post D cy A) A) mf_X7_refuses (Nat.le_of_ble_eq_true rfl) (own := RX7) rfl ?_
  intro p e s m below meth c A X hr hlk hnm ls hl hH
  have hx := X.1.1
  have hb := X.1.2.1
  replace hl : lv_has ls 6 [(0, .ref a0), (1, .int a1), (2, .int a2), (3, .int a3), (4, .int a4)] := hl
  obtain ⟨H, hHe⟩ : ∃ H, H = s.heap := ⟨_, rfl⟩
  obtain ⟨locs, hlo⟩ : ∃ locs : List Loc, locs = [] := ⟨_, rfl⟩
  rw [← hHe, ← hlo] at hH
  show W p l e rm_X7_refuses s m [.ref a0, .int a1, .int a2, .int a3, .int a4].toArray below meth c s.heap [] 0 0 _ _
  rw [← hHe, ← hlo]
  have hJ58 : ∀ (S : PS) (l0 : Nat) (t0 : Int32) (t1 : Nat), f_X7_refuses_J58 post S l0 t0 t1 → ∀ (H : Heap) (locs : List Loc) (ls : Array Slot), p_H D cy S A s H locs → lv_has ls 6 [(0, .ref l0)] → W p l e rm_X7_refuses s m [.ref a0, .int a1, .int a2, .int a3, .int a4].toArray below meth c H locs 0 0 (MQ below (va_Qi post (p_Post D cy A) A) [.ref a0, .int a1, .int a2, .int a3, .int a4].toArray s 0 0 A) (F0 m 58 ls [.int t0, .ref t1]) := by
    intro S l0 t0 t1 hf H locs ls hH hl
    refine lv_iconst (v := 1) hx hb dX7_refuses_58 (by decide) ?_
    refine lv_aload_n hx hb dX7_refuses_59 rfl (lv_at hl 0 rfl) ?_
    refine q_getR (T := TX7) (N := 12) X hH hf iw_X7 rfl (by decide) tw_319 (fun _ h => h) dX7_refuses_60 (fun v1 hf => ?_)
    refine q_getIN (T := TX6) (N := 6) X hH hf iw_X6 rfl (by decide) (List.mem_of_getElem? (i := 0) rfl) (fun _ h => h) dX7_refuses_63 (fun v2 hf => ?_)
    obtain ⟨hb1, hb2, hf⟩ := hf
    refine q_backI0 X hH (q_runV [.int t0, .int 1, .int v2] [] X hH hl (c_X7_refusesIf l D cy G X.2.2.2.1 S t1 t0 1 v2 _ _ hf) mf_X7_refusesIf mv_X7_refusesIf tw_961 ⟨Nat.le_of_ble_eq_true rfl, Nat.le_of_ble_eq_true rfl⟩ hb1 hb2 (T := TX7) (N := 12) rfl rfl (Nat.le_of_ble_eq_true rfl) dX7_refuses_66 ⟨Nat.le_of_ble_eq_true rfl, Nat.le_of_ble_eq_true rfl⟩) (fun v4 S3 hf H locs hH => ?_)
    exact q_retZ X hH hr hlk hf (Nat.zero_le _) (Nat.zero_le _) dX7_refuses_69
  have hJ104 : ∀ (S : PS) (l0 : Nat) (l2 : Int32) (l3 : Int32) (l4 : Int32) (t0 : Int32) (t1 : Nat), f_X7_refuses_J104 post S l0 l2 l3 l4 t0 t1 → ∀ (H : Heap) (locs : List Loc) (ls : Array Slot), p_H D cy S A s H locs → lv_has ls 6 [(0, .ref l0), (2, .int l2), (3, .int l3), (4, .int l4)] → W p l e rm_X7_refuses s m [.ref a0, .int a1, .int a2, .int a3, .int a4].toArray below meth c H locs 0 0 (MQ below (va_Qi post (p_Post D cy A) A) [.ref a0, .int a1, .int a2, .int a3, .int a4].toArray s 0 0 A) (F0 m 104 ls [.int t0, .ref t1]) := by
    intro S l0 l2 l3 l4 t0 t1 hf H locs ls hH hl
    have hJ133 : ∀ (S : PS) (l4 : Int32) (t0 : Int32) (t1 : Nat), f_X7_refuses_J133 post S l4 t0 t1 → ∀ (H : Heap) (locs : List Loc) (ls : Array Slot), p_H D cy S A s H locs → lv_has ls 6 [(4, .int l4)] → W p l e rm_X7_refuses s m [.ref a0, .int a1, .int a2, .int a3, .int a4].toArray below meth c H locs 0 0 (MQ below (va_Qi post (p_Post D cy A) A) [.ref a0, .int a1, .int a2, .int a3, .int a4].toArray s 0 0 A) (F0 m 133 ls [.int t0, .ref t1]) := by
      intro S l4 t0 t1 hf H locs ls hH hl
      refine lv_iconst (v := 5) hx hb dX7_refuses_133 (by decide) ?_
      refine lv_iload hx hb dX7_refuses_134 (lv_at hl 0 rfl) ?_
      obtain ⟨hb1, hb2, hf⟩ := hf
      refine q_backI0 X hH (q_runV [.int t0, .int 5, .int l4] [] X hH hl (c_X7_refusesIf l D cy G X.2.2.2.1 S t1 t0 5 l4 _ _ hf) mf_X7_refusesIf mv_X7_refusesIf tw_961 ⟨Nat.le_of_ble_eq_true rfl, Nat.le_of_ble_eq_true rfl⟩ hb1 hb2 (T := TX7) (N := 12) rfl rfl (Nat.le_of_ble_eq_true rfl) dX7_refuses_136 ⟨Nat.le_of_ble_eq_true rfl, Nat.le_of_ble_eq_true rfl⟩) (fun v2 S1 hf H locs hH => ?_)
      refine lv_if_eq (tgt := 146) hx hb dX7_refuses_139 (by decide) (fun c3 => ?_) (fun c3 => ?_)
      · have hf := (if_pos c3).mp hf
        refine lv_iconst (v := 0) hx hb dX7_refuses_146 (by decide) ?_
        exact q_retZ X hH hr hlk hf (Nat.zero_le _) (Nat.zero_le _) dX7_refuses_147
      · have hf := (if_neg c3).mp hf
        refine lv_iconst (v := 1) hx hb dX7_refuses_142 (by decide) ?_
        refine lv_goto (tgt := 147) hx hb dX7_refuses_143 (by decide) ?_
        exact q_retZ X hH hr hlk hf (Nat.zero_le _) (Nat.zero_le _) dX7_refuses_147
    refine lv_iconst (v := 4) hx hb dX7_refuses_104 (by decide) ?_
    refine lv_iload hx hb dX7_refuses_105 (lv_at hl 3 rfl) ?_
    obtain ⟨hb1, hb2, hf⟩ := hf
    refine q_backI0 X hH (q_runV [.int t0, .int 4, .int l4] [] X hH hl (c_X7_refusesIf l D cy G X.2.2.2.1 S t1 t0 4 l4 _ _ hf) mf_X7_refusesIf mv_X7_refusesIf tw_961 ⟨Nat.le_of_ble_eq_true rfl, Nat.le_of_ble_eq_true rfl⟩ hb1 hb2 (T := TX7) (N := 12) rfl rfl (Nat.le_of_ble_eq_true rfl) dX7_refuses_107 ⟨Nat.le_of_ble_eq_true rfl, Nat.le_of_ble_eq_true rfl⟩) (fun v2 S1 hf H locs hH => ?_)
    refine lv_if_ne (tgt := 142) hx hb dX7_refuses_110 (by decide) (fun c3 => ?_) (fun c3 => ?_)
    · have hf := (if_neg c3).mp hf
      refine lv_iconst (v := 1) hx hb dX7_refuses_142 (by decide) ?_
      refine lv_goto (tgt := 147) hx hb dX7_refuses_143 (by decide) ?_
      exact q_retZ X hH hr hlk hf (Nat.zero_le _) (Nat.zero_le _) dX7_refuses_147
    · have hf := (if_pos c3).mp hf
      refine lv_aload_n hx hb dX7_refuses_113 rfl (lv_at hl 0 rfl) ?_
      refine lv_aload_n hx hb dX7_refuses_114 rfl (lv_at hl 0 rfl) ?_
      refine q_getR (T := TX7) (N := 12) X hH hf iw_X7 rfl (by decide) tw_319 (fun _ h => h) dX7_refuses_115 (fun v4 hf => ?_)
      refine lv_iload_n hx hb dX7_refuses_118 rfl (lv_at hl 1 rfl) ?_
      refine lv_iload_n hx hb dX7_refuses_119 rfl (lv_at hl 2 rfl) ?_
      obtain ⟨hb1, hb2, hf⟩ := hf
      refine q_backI0 X hH (q_runV [.int l2, .int l3] [.ref l0] X hH hl (c_X6_tie l D cy G X.2.2.2.1 S1 v4 l2 l3 _ _ hf) mf_X6_tie mv_X6_tie tw_902 ⟨Nat.le_of_ble_eq_true rfl, Nat.le_of_ble_eq_true rfl⟩ hb1 hb2 (T := TX6) (N := 6) rfl rfl (Nat.le_of_ble_eq_true rfl) dX7_refuses_120 ⟨Nat.le_of_ble_eq_true rfl, Nat.le_of_ble_eq_true rfl⟩) (fun v6 S5 hf H locs hH => ?_)
      refine lv_iload hx hb dX7_refuses_123 (lv_at hl 3 rfl) ?_
      refine lv_icmp_ne (tgt := 132) hx hb dX7_refuses_125 (by decide) (fun c7 => ?_) (fun c7 => ?_)
      · have hf := (if_neg c7).mp hf
        refine lv_iconst (v := 0) hx hb dX7_refuses_132 (by decide) ?_
        exact hJ133 S5 l4 0 l0 hf H locs ls hH (lv_sub hl [3] rfl)
      · have hf := (if_pos c7).mp hf
        refine lv_iconst (v := 1) hx hb dX7_refuses_128 (by decide) ?_
        refine lv_goto (tgt := 133) hx hb dX7_refuses_129 (by decide) ?_
        exact hJ133 S5 l4 1 l0 hf H locs ls hH (lv_sub hl [3] rfl)
  have hJ99 : ∀ (S : PS) (l0 : Nat) (l2 : Int32) (l3 : Int32) (l4 : Int32) (t0 : Nat), f_X7_refuses_J99 post S l0 l2 l3 l4 t0 → ∀ (H : Heap) (locs : List Loc) (ls : Array Slot), p_H D cy S A s H locs → lv_has ls 6 [(0, .ref l0), (2, .int l2), (3, .int l3), (4, .int l4)] → W p l e rm_X7_refuses s m [.ref a0, .int a1, .int a2, .int a3, .int a4].toArray below meth c H locs 0 0 (MQ below (va_Qi post (p_Post D cy A) A) [.ref a0, .int a1, .int a2, .int a3, .int a4].toArray s 0 0 A) (F0 m 99 ls [.ref t0]) := by
    intro S l0 l2 l3 l4 t0 hf H locs ls hH hl
    refine lv_iconst (v := 1) hx hb dX7_refuses_99 (by decide) ?_
    refine lv_goto (tgt := 104) hx hb dX7_refuses_100 (by decide) ?_
    exact hJ104 S l0 l2 l3 l4 1 t0 hf H locs ls hH hl
  have hJ165 : ∀ (S : PS) (l0 : Nat) (l2 : Int32) (l3 : Int32) (t0 : Int32), f_X7_refuses_J165 post S l0 l2 l3 t0 → ∀ (H : Heap) (locs : List Loc) (ls : Array Slot), p_H D cy S A s H locs → lv_has ls 6 [(0, .ref l0), (2, .int l2), (3, .int l3)] → W p l e rm_X7_refuses s m [.ref a0, .int a1, .int a2, .int a3, .int a4].toArray below meth c H locs 0 0 (MQ below (va_Qi post (p_Post D cy A) A) [.ref a0, .int a1, .int a2, .int a3, .int a4].toArray s 0 0 A) (F0 m 165 ls [.int t0]) := by
    intro S l0 l2 l3 t0 hf H locs ls hH hl
    refine lv_istore (lv' := [(5, .int t0), (0, .ref l0), (2, .int l2), (3, .int l3)]) hx hb dX7_refuses_165 hl (by decide) rfl (fun ls hl => ?_)
    refine lv_aload_n hx hb dX7_refuses_167 rfl (lv_at hl 1 rfl) ?_
    refine lv_iload_n hx hb dX7_refuses_168 rfl (lv_at hl 2 rfl) ?_
    refine lv_iload_n hx hb dX7_refuses_169 rfl (lv_at hl 3 rfl) ?_
    obtain ⟨hb1, hb2, hf⟩ := hf
    refine q_backI0 X hH (q_runV [.int l2, .int l3] [] X hH hl (c_X7_refusesPair l D cy G X.2.2.2.1 S l0 l2 l3 _ _ hf) mf_X7_refusesPair mv_X7_refusesPair tw_974 ⟨Nat.le_of_ble_eq_true rfl, Nat.le_of_ble_eq_true rfl⟩ hb1 hb2 (T := TX7) (N := 12) rfl rfl (Nat.le_of_ble_eq_true rfl) dX7_refuses_170 ⟨Nat.le_of_ble_eq_true rfl, Nat.le_of_ble_eq_true rfl⟩) (fun v2 S1 hf H locs hH => ?_)
    refine lv_if_ne (tgt := 194) hx hb dX7_refuses_173 (by decide) (fun c3 => ?_) (fun c3 => ?_)
    · have hf := (if_neg c3).mp hf
      refine lv_iconst (v := 1) hx hb dX7_refuses_194 (by decide) ?_
      refine lv_goto (tgt := 199) hx hb dX7_refuses_195 (by decide) ?_
      exact q_retZ X hH hr hlk hf (Nat.zero_le _) (Nat.zero_le _) dX7_refuses_199
    · have hf := (if_pos c3).mp hf
      refine lv_aload_n hx hb dX7_refuses_176 rfl (lv_at hl 1 rfl) ?_
      refine lv_iload hx hb dX7_refuses_177 (lv_at hl 0 rfl) ?_
      refine lv_bipush (v := 6) hx hb dX7_refuses_179 (by decide) ?_
      refine lv_aload_n hx hb dX7_refuses_181 rfl (lv_at hl 1 rfl) ?_
      refine q_getR (T := TX7) (N := 12) X hH hf iw_X7 rfl (by decide) tw_319 (fun _ h => h) dX7_refuses_182 (fun v4 hf => ?_)
      obtain ⟨hb1, hb2, hf⟩ := hf
      refine q_backI0 X hH (q_runV [] [.int 6, .int t0, .ref l0] X hH hl (c_X6_bondCount l D cy G X.2.2.2.1 S1 v4 _ _ hf) mf_X6_bondCount mv_X6_bondCount tw_978 ⟨Nat.le_of_ble_eq_true rfl, Nat.le_of_ble_eq_true rfl⟩ hb1 hb2 (T := TX6) (N := 6) rfl rfl (Nat.le_of_ble_eq_true rfl) dX7_refuses_185 ⟨Nat.le_of_ble_eq_true rfl, Nat.le_of_ble_eq_true rfl⟩) (fun v6 S5 hf H locs hH => ?_)
      obtain ⟨hb1, hb2, hf⟩ := hf
      refine q_backI0 X hH (q_runV [.int t0, .int 6, .int v6] [] X hH hl (c_X7_refusesIf l D cy G X.2.2.2.1 S5 l0 t0 6 v6 _ _ hf) mf_X7_refusesIf mv_X7_refusesIf tw_961 ⟨Nat.le_of_ble_eq_true rfl, Nat.le_of_ble_eq_true rfl⟩ hb1 hb2 (T := TX7) (N := 12) rfl rfl (Nat.le_of_ble_eq_true rfl) dX7_refuses_188 ⟨Nat.le_of_ble_eq_true rfl, Nat.le_of_ble_eq_true rfl⟩) (fun v8 S7 hf H locs hH => ?_)
      refine lv_if_eq (tgt := 198) hx hb dX7_refuses_191 (by decide) (fun c9 => ?_) (fun c9 => ?_)
      · have hf := (if_pos c9).mp hf
        refine lv_iconst (v := 0) hx hb dX7_refuses_198 (by decide) ?_
        exact q_retZ X hH hr hlk hf (Nat.zero_le _) (Nat.zero_le _) dX7_refuses_199
      · have hf := (if_neg c9).mp hf
        refine lv_iconst (v := 1) hx hb dX7_refuses_194 (by decide) ?_
        refine lv_goto (tgt := 199) hx hb dX7_refuses_195 (by decide) ?_
        exact q_retZ X hH hr hlk hf (Nat.zero_le _) (Nat.zero_le _) dX7_refuses_199
  have hJ230 : ∀ (S : PS) (l0 : Nat) (l2 : Int32) (l3 : Int32) (t0 : Int32) (t1 : Nat), f_X7_refuses_J230 post S l0 l2 l3 t0 t1 → ∀ (H : Heap) (locs : List Loc) (ls : Array Slot), p_H D cy S A s H locs → lv_has ls 6 [(0, .ref l0), (2, .int l2), (3, .int l3)] → W p l e rm_X7_refuses s m [.ref a0, .int a1, .int a2, .int a3, .int a4].toArray below meth c H locs 0 0 (MQ below (va_Qi post (p_Post D cy A) A) [.ref a0, .int a1, .int a2, .int a3, .int a4].toArray s 0 0 A) (F0 m 230 ls [.int t0, .ref t1]) := by
    intro S l0 l2 l3 t0 t1 hf H locs ls hH hl
    have hJ256 : ∀ (S : PS) (l3 : Int32) (t0 : Int32) (t1 : Nat), f_X7_refuses_J256 post S l3 t0 t1 → ∀ (H : Heap) (locs : List Loc) (ls : Array Slot), p_H D cy S A s H locs → lv_has ls 6 [(3, .int l3)] → W p l e rm_X7_refuses s m [.ref a0, .int a1, .int a2, .int a3, .int a4].toArray below meth c H locs 0 0 (MQ below (va_Qi post (p_Post D cy A) A) [.ref a0, .int a1, .int a2, .int a3, .int a4].toArray s 0 0 A) (F0 m 256 ls [.int t0, .ref t1]) := by
      intro S l3 t0 t1 hf H locs ls hH hl
      refine lv_iconst (v := 5) hx hb dX7_refuses_256 (by decide) ?_
      refine lv_iload_n hx hb dX7_refuses_257 rfl (lv_at hl 0 rfl) ?_
      obtain ⟨hb1, hb2, hf⟩ := hf
      refine q_backI0 X hH (q_runV [.int t0, .int 5, .int l3] [] X hH hl (c_X7_refusesIf l D cy G X.2.2.2.1 S t1 t0 5 l3 _ _ hf) mf_X7_refusesIf mv_X7_refusesIf tw_961 ⟨Nat.le_of_ble_eq_true rfl, Nat.le_of_ble_eq_true rfl⟩ hb1 hb2 (T := TX7) (N := 12) rfl rfl (Nat.le_of_ble_eq_true rfl) dX7_refuses_258 ⟨Nat.le_of_ble_eq_true rfl, Nat.le_of_ble_eq_true rfl⟩) (fun v2 S1 hf H locs hH => ?_)
      refine lv_if_eq (tgt := 268) hx hb dX7_refuses_261 (by decide) (fun c3 => ?_) (fun c3 => ?_)
      · have hf := (if_pos c3).mp hf
        refine lv_iconst (v := 0) hx hb dX7_refuses_268 (by decide) ?_
        exact q_retZ X hH hr hlk hf (Nat.zero_le _) (Nat.zero_le _) dX7_refuses_269
      · have hf := (if_neg c3).mp hf
        refine lv_iconst (v := 1) hx hb dX7_refuses_264 (by decide) ?_
        refine lv_goto (tgt := 269) hx hb dX7_refuses_265 (by decide) ?_
        exact q_retZ X hH hr hlk hf (Nat.zero_le _) (Nat.zero_le _) dX7_refuses_269
    refine lv_iconst (v := 4) hx hb dX7_refuses_230 (by decide) ?_
    refine lv_iload_n hx hb dX7_refuses_231 rfl (lv_at hl 2 rfl) ?_
    obtain ⟨hb1, hb2, hf⟩ := hf
    refine q_backI0 X hH (q_runV [.int t0, .int 4, .int l3] [] X hH hl (c_X7_refusesIf l D cy G X.2.2.2.1 S t1 t0 4 l3 _ _ hf) mf_X7_refusesIf mv_X7_refusesIf tw_961 ⟨Nat.le_of_ble_eq_true rfl, Nat.le_of_ble_eq_true rfl⟩ hb1 hb2 (T := TX7) (N := 12) rfl rfl (Nat.le_of_ble_eq_true rfl) dX7_refuses_232 ⟨Nat.le_of_ble_eq_true rfl, Nat.le_of_ble_eq_true rfl⟩) (fun v2 S1 hf H locs hH => ?_)
    refine lv_if_ne (tgt := 264) hx hb dX7_refuses_235 (by decide) (fun c3 => ?_) (fun c3 => ?_)
    · have hf := (if_neg c3).mp hf
      refine lv_iconst (v := 1) hx hb dX7_refuses_264 (by decide) ?_
      refine lv_goto (tgt := 269) hx hb dX7_refuses_265 (by decide) ?_
      exact q_retZ X hH hr hlk hf (Nat.zero_le _) (Nat.zero_le _) dX7_refuses_269
    · have hf := (if_pos c3).mp hf
      refine lv_aload_n hx hb dX7_refuses_238 rfl (lv_at hl 0 rfl) ?_
      refine lv_aload_n hx hb dX7_refuses_239 rfl (lv_at hl 0 rfl) ?_
      refine q_getR (T := TX7) (N := 12) X hH hf iw_X7 rfl (by decide) tw_319 (fun _ h => h) dX7_refuses_240 (fun v4 hf => ?_)
      refine lv_iload_n hx hb dX7_refuses_243 rfl (lv_at hl 1 rfl) ?_
      obtain ⟨hb1, hb2, hf⟩ := hf
      refine q_backI0 X hH (q_runV [.int l2] [.ref l0] X hH hl (c_X6_sideOf l D cy G X.2.2.2.1 S1 v4 l2 _ _ hf) mf_X6_sideOf mv_X6_sideOf tw_986 ⟨Nat.le_of_ble_eq_true rfl, Nat.le_of_ble_eq_true rfl⟩ hb1 hb2 (T := TX6) (N := 6) rfl rfl (Nat.le_of_ble_eq_true rfl) dX7_refuses_244 ⟨Nat.le_of_ble_eq_true rfl, Nat.le_of_ble_eq_true rfl⟩) (fun v6 S5 hf H locs hH => ?_)
      refine lv_iload_n hx hb dX7_refuses_247 rfl (lv_at hl 2 rfl) ?_
      refine lv_icmp_ne (tgt := 255) hx hb dX7_refuses_248 (by decide) (fun c7 => ?_) (fun c7 => ?_)
      · have hf := (if_neg c7).mp hf
        refine lv_iconst (v := 0) hx hb dX7_refuses_255 (by decide) ?_
        exact hJ256 S5 l3 0 l0 hf H locs ls hH (lv_sub hl [2] rfl)
      · have hf := (if_pos c7).mp hf
        refine lv_iconst (v := 1) hx hb dX7_refuses_251 (by decide) ?_
        refine lv_goto (tgt := 256) hx hb dX7_refuses_252 (by decide) ?_
        exact hJ256 S5 l3 1 l0 hf H locs ls hH (lv_sub hl [2] rfl)
  have hJ229 : ∀ (S : PS) (l0 : Nat) (l2 : Int32) (l3 : Int32) (t0 : Nat), f_X7_refuses_J229 post S l0 l2 l3 t0 → ∀ (H : Heap) (locs : List Loc) (ls : Array Slot), p_H D cy S A s H locs → lv_has ls 6 [(0, .ref l0), (2, .int l2), (3, .int l3)] → W p l e rm_X7_refuses s m [.ref a0, .int a1, .int a2, .int a3, .int a4].toArray below meth c H locs 0 0 (MQ below (va_Qi post (p_Post D cy A) A) [.ref a0, .int a1, .int a2, .int a3, .int a4].toArray s 0 0 A) (F0 m 229 ls [.ref t0]) := by
    intro S l0 l2 l3 t0 hf H locs ls hH hl
    refine lv_iconst (v := 0) hx hb dX7_refuses_229 (by decide) ?_
    exact hJ230 S l0 l2 l3 0 t0 hf H locs ls hH hl
  refine lv_iload_n hx hb dX7_refuses_0 rfl (lv_at hl 1 rfl) ?_
  by_cases c1 : a1 = 0
  · have hf := (if_pos c1).mp hf
    refine lv_tableIn (off := 39) (tgt := 40) hx hb dX7_refuses_1 (by rw [c1]; decide) (by rw [c1]; decide) (by rw [c1]; rfl) (by decide) ?_
    refine lv_aload_n hx hb dX7_refuses_40 rfl (lv_at hl 0 rfl) ?_
    refine lv_aload_n hx hb dX7_refuses_41 rfl (lv_at hl 0 rfl) ?_
    refine q_getR (T := TX7) (N := 12) X hH hf iw_X7 rfl (by decide) tw_319 (fun _ h => h) dX7_refuses_42 (fun v2 hf => ?_)
    refine q_getIN (T := TX6) (N := 6) X hH hf iw_X6 rfl (by decide) (List.mem_of_getElem? (i := 0) rfl) (fun _ h => h) dX7_refuses_45 (fun v3 hf => ?_)
    refine lv_bipush (v := 9) hx hb dX7_refuses_48 (by decide) ?_
    refine lv_icmp_lt (tgt := 57) hx hb dX7_refuses_50 (by decide) (fun c4 => ?_) (fun c4 => ?_)
    · have hf := (if_pos c4).mp hf
      refine lv_iconst (v := 0) hx hb dX7_refuses_57 (by decide) ?_
      exact hJ58 S a0 0 a0 hf H locs ls hH (lv_sub hl [0] rfl)
    · have hf := (if_neg c4).mp hf
      refine lv_iconst (v := 1) hx hb dX7_refuses_53 (by decide) ?_
      refine lv_goto (tgt := 58) hx hb dX7_refuses_54 (by decide) ?_
      exact hJ58 S a0 1 a0 hf H locs ls hH (lv_sub hl [0] rfl)
  · have hf := (if_neg c1).mp hf
    by_cases c5 : a1 = 1
    · have hf := (if_pos c5).mp hf
      refine lv_tableIn (off := 69) (tgt := 70) hx hb dX7_refuses_1 (by rw [c5]; decide) (by rw [c5]; decide) (by rw [c5]; rfl) (by decide) ?_
      refine lv_aload_n hx hb dX7_refuses_70 rfl (lv_at hl 0 rfl) ?_
      refine lv_iload_n hx hb dX7_refuses_71 rfl (lv_at hl 2 rfl) ?_
      obtain ⟨hb1, hb2, hf⟩ := hf
      refine q_backI0 X hH (q_runV [.int a2] [] X hH hl (c_X7_refusesHousehold l D cy G X.2.2.2.1 S a0 a2 _ _ hf) mf_X7_refusesHousehold mv_X7_refusesHousehold tw_969 ⟨Nat.le_of_ble_eq_true rfl, Nat.le_of_ble_eq_true rfl⟩ hb1 hb2 (T := TX7) (N := 12) rfl rfl (Nat.le_of_ble_eq_true rfl) dX7_refuses_72 ⟨Nat.le_of_ble_eq_true rfl, Nat.le_of_ble_eq_true rfl⟩) (fun v7 S6 hf H locs hH => ?_)
      exact q_retZ X hH hr hlk hf (Nat.zero_le _) (Nat.zero_le _) dX7_refuses_75
    · have hf := (if_neg c5).mp hf
      by_cases c8 : a1 = 2
      · have hf := (if_pos c8).mp hf
        refine lv_tableIn (off := 75) (tgt := 76) hx hb dX7_refuses_1 (by rw [c8]; decide) (by rw [c8]; decide) (by rw [c8]; rfl) (by decide) ?_
        refine lv_aload_n hx hb dX7_refuses_76 rfl (lv_at hl 0 rfl) ?_
        refine lv_iload_n hx hb dX7_refuses_77 rfl (lv_at hl 2 rfl) ?_
        refine lv_iload_n hx hb dX7_refuses_78 rfl (lv_at hl 3 rfl) ?_
        obtain ⟨hb1, hb2, hf⟩ := hf
        refine q_backI0 X hH (q_runV [.int a2, .int a3] [] X hH hl (c_X7_refusesPair l D cy G X.2.2.2.1 S a0 a2 a3 _ _ hf) mf_X7_refusesPair mv_X7_refusesPair tw_974 ⟨Nat.le_of_ble_eq_true rfl, Nat.le_of_ble_eq_true rfl⟩ hb1 hb2 (T := TX7) (N := 12) rfl rfl (Nat.le_of_ble_eq_true rfl) dX7_refuses_79 ⟨Nat.le_of_ble_eq_true rfl, Nat.le_of_ble_eq_true rfl⟩) (fun v10 S9 hf H locs hH => ?_)
        refine lv_if_ne (tgt := 142) hx hb dX7_refuses_82 (by decide) (fun c11 => ?_) (fun c11 => ?_)
        · have hf := (if_neg c11).mp hf
          refine lv_iconst (v := 1) hx hb dX7_refuses_142 (by decide) ?_
          refine lv_goto (tgt := 147) hx hb dX7_refuses_143 (by decide) ?_
          exact q_retZ X hH hr hlk hf (Nat.zero_le _) (Nat.zero_le _) dX7_refuses_147
        · have hf := (if_pos c11).mp hf
          refine lv_aload_n hx hb dX7_refuses_85 rfl (lv_at hl 0 rfl) ?_
          refine lv_iload hx hb dX7_refuses_86 (lv_at hl 4 rfl) ?_
          refine lv_iconst (v := 1) hx hb dX7_refuses_88 (by decide) ?_
          refine lv_icmp_lt (tgt := 99) hx hb dX7_refuses_89 (by decide) (fun c12 => ?_) (fun c12 => ?_)
          · have hf := (if_pos c12).mp hf
            exact hJ99 S9 a0 a2 a3 a4 a0 hf H locs ls hH (lv_sub hl [0, 2, 3, 4] rfl)
          · have hf := (if_neg c12).mp hf
            refine lv_iload hx hb dX7_refuses_92 (lv_at hl 4 rfl) ?_
            refine lv_bipush (v := 99) hx hb dX7_refuses_94 (by decide) ?_
            refine lv_icmp_le (tgt := 103) hx hb dX7_refuses_96 (by decide) (fun c13 => ?_) (fun c13 => ?_)
            · have hf := (if_pos c13).mp hf
              refine lv_iconst (v := 0) hx hb dX7_refuses_103 (by decide) ?_
              exact hJ104 S9 a0 a2 a3 a4 0 a0 hf H locs ls hH (lv_sub hl [0, 2, 3, 4] rfl)
            · have hf := (if_neg c13).mp hf
              exact hJ99 S9 a0 a2 a3 a4 a0 hf H locs ls hH (lv_sub hl [0, 2, 3, 4] rfl)
      · have hf := (if_neg c8).mp hf
        by_cases c14 : a1 = 3
        · have hf := (if_pos c14).mp hf
          refine lv_tableIn (off := 147) (tgt := 148) hx hb dX7_refuses_1 (by rw [c14]; decide) (by rw [c14]; decide) (by rw [c14]; rfl) (by decide) ?_
          refine lv_aload_n hx hb dX7_refuses_148 rfl (lv_at hl 0 rfl) ?_
          refine q_getR (T := TX7) (N := 12) X hH hf iw_X7 rfl (by decide) tw_319 (fun _ h => h) dX7_refuses_149 (fun v15 hf => ?_)
          refine lv_iload_n hx hb dX7_refuses_152 rfl (lv_at hl 2 rfl) ?_
          refine lv_iload_n hx hb dX7_refuses_153 rfl (lv_at hl 3 rfl) ?_
          obtain ⟨hb1, hb2, hf⟩ := hf
          refine q_backI0 X hH (q_runV [.int a2, .int a3] [] X hH hl (c_X6_tie l D cy G X.2.2.2.1 S v15 a2 a3 _ _ hf) mf_X6_tie mv_X6_tie tw_902 ⟨Nat.le_of_ble_eq_true rfl, Nat.le_of_ble_eq_true rfl⟩ hb1 hb2 (T := TX6) (N := 6) rfl rfl (Nat.le_of_ble_eq_true rfl) dX7_refuses_154 ⟨Nat.le_of_ble_eq_true rfl, Nat.le_of_ble_eq_true rfl⟩) (fun v17 S16 hf H locs hH => ?_)
          refine lv_if_ne (tgt := 164) hx hb dX7_refuses_157 (by decide) (fun c18 => ?_) (fun c18 => ?_)
          · have hf := (if_neg c18).mp hf
            refine lv_iconst (v := 0) hx hb dX7_refuses_164 (by decide) ?_
            exact hJ165 S16 a0 a2 a3 0 hf H locs ls hH (lv_sub hl [0, 2, 3] rfl)
          · have hf := (if_pos c18).mp hf
            refine lv_iconst (v := 1) hx hb dX7_refuses_160 (by decide) ?_
            refine lv_goto (tgt := 165) hx hb dX7_refuses_161 (by decide) ?_
            exact hJ165 S16 a0 a2 a3 1 hf H locs ls hH (lv_sub hl [0, 2, 3] rfl)
        · have hf := (if_neg c14).mp hf
          by_cases c19 : a1 = 4
          · have hf := (if_pos c19).mp hf
            refine lv_tableIn (off := 199) (tgt := 200) hx hb dX7_refuses_1 (by rw [c19]; decide) (by rw [c19]; decide) (by rw [c19]; rfl) (by decide) ?_
            refine lv_aload_n hx hb dX7_refuses_200 rfl (lv_at hl 0 rfl) ?_
            refine lv_iload_n hx hb dX7_refuses_201 rfl (lv_at hl 2 rfl) ?_
            refine lv_iload_n hx hb dX7_refuses_202 rfl (lv_at hl 3 rfl) ?_
            obtain ⟨hb1, hb2, hf⟩ := hf
            refine q_backI0 X hH (q_runV [.int a2, .int a3] [] X hH hl (c_X7_refusesPair l D cy G X.2.2.2.1 S a0 a2 a3 _ _ hf) mf_X7_refusesPair mv_X7_refusesPair tw_974 ⟨Nat.le_of_ble_eq_true rfl, Nat.le_of_ble_eq_true rfl⟩ hb1 hb2 (T := TX7) (N := 12) rfl rfl (Nat.le_of_ble_eq_true rfl) dX7_refuses_203 ⟨Nat.le_of_ble_eq_true rfl, Nat.le_of_ble_eq_true rfl⟩) (fun v21 S20 hf H locs hH => ?_)
            exact q_retZ X hH hr hlk hf (Nat.zero_le _) (Nat.zero_le _) dX7_refuses_206
          · have hf := (if_neg c19).mp hf
            by_cases c22 : a1 = 5
            · have hf := (if_pos c22).mp hf
              refine lv_tableIn (off := 206) (tgt := 207) hx hb dX7_refuses_1 (by rw [c22]; decide) (by rw [c22]; decide) (by rw [c22]; rfl) (by decide) ?_
              refine lv_aload_n hx hb dX7_refuses_207 rfl (lv_at hl 0 rfl) ?_
              refine lv_iload_n hx hb dX7_refuses_208 rfl (lv_at hl 2 rfl) ?_
              obtain ⟨hb1, hb2, hf⟩ := hf
              refine q_backI0 X hH (q_runV [.int a2] [] X hH hl (c_X7_refusesHousehold l D cy G X.2.2.2.1 S a0 a2 _ _ hf) mf_X7_refusesHousehold mv_X7_refusesHousehold tw_969 ⟨Nat.le_of_ble_eq_true rfl, Nat.le_of_ble_eq_true rfl⟩ hb1 hb2 (T := TX7) (N := 12) rfl rfl (Nat.le_of_ble_eq_true rfl) dX7_refuses_209 ⟨Nat.le_of_ble_eq_true rfl, Nat.le_of_ble_eq_true rfl⟩) (fun v24 S23 hf H locs hH => ?_)
              refine lv_if_ne (tgt := 264) hx hb dX7_refuses_212 (by decide) (fun c25 => ?_) (fun c25 => ?_)
              · have hf := (if_neg c25).mp hf
                refine lv_iconst (v := 1) hx hb dX7_refuses_264 (by decide) ?_
                refine lv_goto (tgt := 269) hx hb dX7_refuses_265 (by decide) ?_
                exact q_retZ X hH hr hlk hf (Nat.zero_le _) (Nat.zero_le _) dX7_refuses_269
              · have hf := (if_pos c25).mp hf
                refine lv_aload_n hx hb dX7_refuses_215 rfl (lv_at hl 0 rfl) ?_
                refine lv_iload_n hx hb dX7_refuses_216 rfl (lv_at hl 3 rfl) ?_
                refine lv_if_eq (tgt := 229) hx hb dX7_refuses_217 (by decide) (fun c26 => ?_) (fun c26 => ?_)
                · have hf := (if_pos c26).mp hf
                  exact hJ229 S23 a0 a2 a3 a0 hf H locs ls hH (lv_sub hl [0, 2, 3] rfl)
                · have hf := (if_neg c26).mp hf
                  refine lv_iload_n hx hb dX7_refuses_220 rfl (lv_at hl 3 rfl) ?_
                  refine lv_iconst (v := 1) hx hb dX7_refuses_221 (by decide) ?_
                  refine lv_icmp_eq (tgt := 229) hx hb dX7_refuses_222 (by decide) (fun c27 => ?_) (fun c27 => ?_)
                  · have hf := (if_pos c27).mp hf
                    exact hJ229 S23 a0 a2 a3 a0 hf H locs ls hH (lv_sub hl [0, 2, 3] rfl)
                  · have hf := (if_neg c27).mp hf
                    refine lv_iconst (v := 1) hx hb dX7_refuses_225 (by decide) ?_
                    refine lv_goto (tgt := 230) hx hb dX7_refuses_226 (by decide) ?_
                    exact hJ230 S23 a0 a2 a3 1 a0 hf H locs ls hH (lv_sub hl [0, 2, 3] rfl)
            · have hf := (if_neg c22).mp hf
              refine lv_tableOut (tgt := 270) hx hb dX7_refuses_1 (by have z0 := lv_neT c1 (a := 0) rfl; have z1 := lv_neT c5 (a := 1) rfl; have z2 := lv_neT c8 (a := 2) rfl; have z3 := lv_neT c14 (a := 3) rfl; have z4 := lv_neT c19 (a := 4) rfl; have z5 := lv_neT c22 (a := 5) rfl; omega) (by decide) ?_
              refine lv_aload_n hx hb dX7_refuses_270 rfl (lv_at hl 0 rfl) ?_
              refine lv_aload_n hx hb dX7_refuses_271 rfl (lv_at hl 0 rfl) ?_
              obtain ⟨hb1, hb2, hf⟩ := hf
              refine q_backI0 X hH (q_runV [] [.ref a0] X hH hl (c_X7_isTooSmall l D cy G X.2.2.2.1 S a0 _ _ hf) mf_X7_isTooSmall mv_X7_isTooSmall tw_427 ⟨Nat.le_of_ble_eq_true rfl, Nat.le_of_ble_eq_true rfl⟩ hb1 hb2 (T := TX7) (N := 12) rfl rfl (Nat.le_of_ble_eq_true rfl) dX7_refuses_272 ⟨Nat.le_of_ble_eq_true rfl, Nat.le_of_ble_eq_true rfl⟩) (fun v29 S28 hf H locs hH => ?_)
              refine lv_bipush (v := 7) hx hb dX7_refuses_275 (by decide) ?_
              refine lv_aload_n hx hb dX7_refuses_277 rfl (lv_at hl 0 rfl) ?_
              refine q_getR (T := TX7) (N := 12) X hH hf iw_X7 rfl (by decide) tw_319 (fun _ h => h) dX7_refuses_278 (fun v30 hf => ?_)
              refine q_getIN (T := TX6) (N := 6) X hH hf iw_X6 rfl (by decide) (List.mem_of_getElem? (i := 0) rfl) (fun _ h => h) dX7_refuses_281 (fun v31 hf => ?_)
              obtain ⟨hb1, hb2, hf⟩ := hf
              refine q_backI0 X hH (q_runV [.int v29, .int 7, .int v31] [] X hH hl (c_X7_refusesIf l D cy G X.2.2.2.1 S28 a0 v29 7 v31 _ _ hf) mf_X7_refusesIf mv_X7_refusesIf tw_961 ⟨Nat.le_of_ble_eq_true rfl, Nat.le_of_ble_eq_true rfl⟩ hb1 hb2 (T := TX7) (N := 12) rfl rfl (Nat.le_of_ble_eq_true rfl) dX7_refuses_284 ⟨Nat.le_of_ble_eq_true rfl, Nat.le_of_ble_eq_true rfl⟩) (fun v33 S32 hf H locs hH => ?_)
              exact q_retZ X hH hr hlk hf (Nat.zero_le _) (Nat.zero_le _) dX7_refuses_287
-- X7_done
def f_X7_done (S : PS) (a0 : Nat) (a1 : Int32) (a2 : Int32) (a3 : Int32) (a4 : Int32) (post : Int32 → PS → Prop) : Prop :=
  if a1 = 0 then
    gR S a0 11 0 fun v2 => (
    isO S v2 10 (
    f_X6_welcome S v2 fun v4 S3 => (
    post v4 S3)))
  else
  if a1 = 1 then
    gR S a0 11 0 fun v6 => (
    isO S v6 10 (
    f_X6_dismiss S v6 a2 fun v8 S7 => (
    post v8 S7)))
  else
  if a1 = 2 then
    gR S a0 11 0 fun v10 => (
    isO S v10 10 (
    f_X6_retie S v10 a2 a3 a4 fun v12 S11 => (
    post v12 S11)))
  else
  if a1 = 3 then
    gR S a0 11 0 fun v14 => (
    isO S v14 10 (
    f_X6_retie S v14 a2 a3 0 fun v16 S15 => (
    post v16 S15)))
  else
  if a1 = 4 then
    gR S a0 11 0 fun v18 => (
    isO S v18 10 (
    f_X6_unite S v18 a2 a3 fun v20 S19 => (
    post v20 S19)))
  else
  if a1 = 5 then
    gR S a0 11 0 fun v22 => (
    isO S v22 10 (
    f_X6_moveTo S v22 a2 a3 fun S23 => (
    gR S23 a0 11 0 fun v25 => (
    isO S23 v25 10 (
    f_X6_feudByBonds S23 v25 fun v27 S26 => (
    post v27 S26))))))
  else
    gR S a0 11 4 fun v28 => (
    gR S a0 11 0 fun v29 => (
    isO S v28 7 (
    f_X3_measure S v28 v29 fun S30 => (
    gR S30 a0 11 0 fun v32 => (
    gR S30 a0 11 4 fun v33 => (
    isO S30 v33 7 (
    f_X3_leastGroup S30 v33 fun v35 S34 => (
    pV S34 v32 10 2 (.int v35) fun S36 => (
    gR S36 a0 11 0 fun v37 => (
    isO S36 v37 10 (
    f_X6_feudByBonds S36 v37 fun v39 S38 => (
    post v39 S38))))))))))))
abbrev rm_X7_done : Room := { frames := 5, cells := 0, slots := 0, locals := 108 }
set_option maxHeartbeats 4000000 in
set_option maxRecDepth 100000 in
theorem c_X7_done (l : Launch) (D : va_G) (cy : Nat → ClassId) (G : p_GT) (hG : p_ok G) (S : PS) (a0 : Nat) (a1 : Int32) (a2 : Int32) (a3 : Int32) (a4 : Int32) (post : Int32 → PS → Prop) (sz : Nat) (hf : f_X7_done S a0 a1 a2 a3 a4 post) : p_Mi l D cy G S sz yX7_done (Cond.code yX7_done cX7_done 5 (some .int) :: wG) rm_X7_done [.ref a0, .int a1, .int a2, .int a3, .int a4] 0 0 post := by
  refine q_start hG (Qc := fun A => va_Qi post (p_Post D cy A) A) mf_X7_done (Nat.le_of_ble_eq_true rfl) (own := RX7) rfl ?_
  intro p e s m below meth c A X hr hlk hnm ls hl hH
  have hx := X.1.1
  have hb := X.1.2.1
  replace hl : lv_has ls 5 [(0, .ref a0), (1, .int a1), (2, .int a2), (3, .int a3), (4, .int a4)] := hl
  obtain ⟨H, hHe⟩ : ∃ H, H = s.heap := ⟨_, rfl⟩
  obtain ⟨locs, hlo⟩ : ∃ locs : List Loc, locs = [] := ⟨_, rfl⟩
  rw [← hHe, ← hlo] at hH
  show W p l e rm_X7_done s m [.ref a0, .int a1, .int a2, .int a3, .int a4].toArray below meth c s.heap [] 0 0 _ _
  rw [← hHe, ← hlo]
  refine lv_iload_n hx hb dX7_done_0 rfl (lv_at hl 1 rfl) ?_
  by_cases c1 : a1 = 0
  · have hf := (if_pos c1).mp hf
    refine lv_tableIn (off := 39) (tgt := 40) hx hb dX7_done_1 (by rw [c1]; decide) (by rw [c1]; decide) (by rw [c1]; rfl) (by decide) ?_
    refine lv_aload_n hx hb dX7_done_40 rfl (lv_at hl 0 rfl) ?_
    refine q_getR (T := TX7) (N := 12) X hH hf iw_X7 rfl (by decide) tw_319 (fun _ h => h) dX7_done_41 (fun v2 hf => ?_)
    obtain ⟨hb1, hb2, hf⟩ := hf
    refine q_backI0 X hH (q_runV [] [] X hH hl (c_X6_welcome l D cy G X.2.2.2.1 S v2 _ _ hf) mf_X6_welcome mv_X6_welcome tw_1018 ⟨Nat.le_of_ble_eq_true rfl, Nat.le_of_ble_eq_true rfl⟩ hb1 hb2 (T := TX6) (N := 6) rfl rfl (Nat.le_of_ble_eq_true rfl) dX7_done_44 ⟨Nat.le_of_ble_eq_true rfl, Nat.le_of_ble_eq_true rfl⟩) (fun v4 S3 hf H locs hH => ?_)
    exact q_retI X hH hr hlk hf (Nat.zero_le _) (Nat.zero_le _) dX7_done_47
  · have hf := (if_neg c1).mp hf
    by_cases c5 : a1 = 1
    · have hf := (if_pos c5).mp hf
      refine lv_tableIn (off := 47) (tgt := 48) hx hb dX7_done_1 (by rw [c5]; decide) (by rw [c5]; decide) (by rw [c5]; rfl) (by decide) ?_
      refine lv_aload_n hx hb dX7_done_48 rfl (lv_at hl 0 rfl) ?_
      refine q_getR (T := TX7) (N := 12) X hH hf iw_X7 rfl (by decide) tw_319 (fun _ h => h) dX7_done_49 (fun v6 hf => ?_)
      refine lv_iload_n hx hb dX7_done_52 rfl (lv_at hl 2 rfl) ?_
      obtain ⟨hb1, hb2, hf⟩ := hf
      refine q_backI0 X hH (q_runV [.int a2] [] X hH hl (c_X6_dismiss l D cy G X.2.2.2.1 S v6 a2 _ _ hf) mf_X6_dismiss mv_X6_dismiss tw_1022 ⟨Nat.le_of_ble_eq_true rfl, Nat.le_of_ble_eq_true rfl⟩ hb1 hb2 (T := TX6) (N := 6) rfl rfl (Nat.le_of_ble_eq_true rfl) dX7_done_53 ⟨Nat.le_of_ble_eq_true rfl, Nat.le_of_ble_eq_true rfl⟩) (fun v8 S7 hf H locs hH => ?_)
      exact q_retI X hH hr hlk hf (Nat.zero_le _) (Nat.zero_le _) dX7_done_56
    · have hf := (if_neg c5).mp hf
      by_cases c9 : a1 = 2
      · have hf := (if_pos c9).mp hf
        refine lv_tableIn (off := 56) (tgt := 57) hx hb dX7_done_1 (by rw [c9]; decide) (by rw [c9]; decide) (by rw [c9]; rfl) (by decide) ?_
        refine lv_aload_n hx hb dX7_done_57 rfl (lv_at hl 0 rfl) ?_
        refine q_getR (T := TX7) (N := 12) X hH hf iw_X7 rfl (by decide) tw_319 (fun _ h => h) dX7_done_58 (fun v10 hf => ?_)
        refine lv_iload_n hx hb dX7_done_61 rfl (lv_at hl 2 rfl) ?_
        refine lv_iload_n hx hb dX7_done_62 rfl (lv_at hl 3 rfl) ?_
        refine lv_iload hx hb dX7_done_63 (lv_at hl 4 rfl) ?_
        obtain ⟨hb1, hb2, hf⟩ := hf
        refine q_backI0 X hH (q_runV [.int a2, .int a3, .int a4] [] X hH hl (c_X6_retie l D cy G X.2.2.2.1 S v10 a2 a3 a4 _ _ hf) mf_X6_retie mv_X6_retie tw_1030 ⟨Nat.le_of_ble_eq_true rfl, Nat.le_of_ble_eq_true rfl⟩ hb1 hb2 (T := TX6) (N := 6) rfl rfl (Nat.le_of_ble_eq_true rfl) dX7_done_65 ⟨Nat.le_of_ble_eq_true rfl, Nat.le_of_ble_eq_true rfl⟩) (fun v12 S11 hf H locs hH => ?_)
        exact q_retI X hH hr hlk hf (Nat.zero_le _) (Nat.zero_le _) dX7_done_68
      · have hf := (if_neg c9).mp hf
        by_cases c13 : a1 = 3
        · have hf := (if_pos c13).mp hf
          refine lv_tableIn (off := 68) (tgt := 69) hx hb dX7_done_1 (by rw [c13]; decide) (by rw [c13]; decide) (by rw [c13]; rfl) (by decide) ?_
          refine lv_aload_n hx hb dX7_done_69 rfl (lv_at hl 0 rfl) ?_
          refine q_getR (T := TX7) (N := 12) X hH hf iw_X7 rfl (by decide) tw_319 (fun _ h => h) dX7_done_70 (fun v14 hf => ?_)
          refine lv_iload_n hx hb dX7_done_73 rfl (lv_at hl 2 rfl) ?_
          refine lv_iload_n hx hb dX7_done_74 rfl (lv_at hl 3 rfl) ?_
          refine lv_iconst (v := 0) hx hb dX7_done_75 (by decide) ?_
          obtain ⟨hb1, hb2, hf⟩ := hf
          refine q_backI0 X hH (q_runV [.int a2, .int a3, .int 0] [] X hH hl (c_X6_retie l D cy G X.2.2.2.1 S v14 a2 a3 0 _ _ hf) mf_X6_retie mv_X6_retie tw_1030 ⟨Nat.le_of_ble_eq_true rfl, Nat.le_of_ble_eq_true rfl⟩ hb1 hb2 (T := TX6) (N := 6) rfl rfl (Nat.le_of_ble_eq_true rfl) dX7_done_76 ⟨Nat.le_of_ble_eq_true rfl, Nat.le_of_ble_eq_true rfl⟩) (fun v16 S15 hf H locs hH => ?_)
          exact q_retI X hH hr hlk hf (Nat.zero_le _) (Nat.zero_le _) dX7_done_79
        · have hf := (if_neg c13).mp hf
          by_cases c17 : a1 = 4
          · have hf := (if_pos c17).mp hf
            refine lv_tableIn (off := 79) (tgt := 80) hx hb dX7_done_1 (by rw [c17]; decide) (by rw [c17]; decide) (by rw [c17]; rfl) (by decide) ?_
            refine lv_aload_n hx hb dX7_done_80 rfl (lv_at hl 0 rfl) ?_
            refine q_getR (T := TX7) (N := 12) X hH hf iw_X7 rfl (by decide) tw_319 (fun _ h => h) dX7_done_81 (fun v18 hf => ?_)
            refine lv_iload_n hx hb dX7_done_84 rfl (lv_at hl 2 rfl) ?_
            refine lv_iload_n hx hb dX7_done_85 rfl (lv_at hl 3 rfl) ?_
            obtain ⟨hb1, hb2, hf⟩ := hf
            refine q_backI0 X hH (q_runV [.int a2, .int a3] [] X hH hl (c_X6_unite l D cy G X.2.2.2.1 S v18 a2 a3 _ _ hf) mf_X6_unite mv_X6_unite tw_1034 ⟨Nat.le_of_ble_eq_true rfl, Nat.le_of_ble_eq_true rfl⟩ hb1 hb2 (T := TX6) (N := 6) rfl rfl (Nat.le_of_ble_eq_true rfl) dX7_done_86 ⟨Nat.le_of_ble_eq_true rfl, Nat.le_of_ble_eq_true rfl⟩) (fun v20 S19 hf H locs hH => ?_)
            exact q_retI X hH hr hlk hf (Nat.zero_le _) (Nat.zero_le _) dX7_done_89
          · have hf := (if_neg c17).mp hf
            by_cases c21 : a1 = 5
            · have hf := (if_pos c21).mp hf
              refine lv_tableIn (off := 89) (tgt := 90) hx hb dX7_done_1 (by rw [c21]; decide) (by rw [c21]; decide) (by rw [c21]; rfl) (by decide) ?_
              refine lv_aload_n hx hb dX7_done_90 rfl (lv_at hl 0 rfl) ?_
              refine q_getR (T := TX7) (N := 12) X hH hf iw_X7 rfl (by decide) tw_319 (fun _ h => h) dX7_done_91 (fun v22 hf => ?_)
              refine lv_iload_n hx hb dX7_done_94 rfl (lv_at hl 2 rfl) ?_
              refine lv_iload_n hx hb dX7_done_95 rfl (lv_at hl 3 rfl) ?_
              obtain ⟨hb1, hb2, hf⟩ := hf
              refine q_backV0 X hH (q_runV [.int a2, .int a3] [] X hH hl (c_X6_moveTo l D cy G X.2.2.2.1 S v22 a2 a3 _ _ hf) mf_X6_moveTo mv_X6_moveTo tw_1039 ⟨Nat.le_of_ble_eq_true rfl, Nat.le_of_ble_eq_true rfl⟩ hb1 hb2 (T := TX6) (N := 6) rfl rfl (Nat.le_of_ble_eq_true rfl) dX7_done_96 ⟨Nat.le_of_ble_eq_true rfl, Nat.le_of_ble_eq_true rfl⟩) (fun S23 hf H locs hH => ?_)
              refine lv_aload_n hx hb dX7_done_99 rfl (lv_at hl 0 rfl) ?_
              refine q_getR (T := TX7) (N := 12) X hH hf iw_X7 rfl (by decide) tw_319 (fun _ h => h) dX7_done_100 (fun v25 hf => ?_)
              obtain ⟨hb1, hb2, hf⟩ := hf
              refine q_backI0 X hH (q_runV [] [] X hH hl (c_X6_feudByBonds l D cy G X.2.2.2.1 S23 v25 _ _ hf) mf_X6_feudByBonds mv_X6_feudByBonds tw_360 ⟨Nat.le_of_ble_eq_true rfl, Nat.le_of_ble_eq_true rfl⟩ hb1 hb2 (T := TX6) (N := 6) rfl rfl (Nat.le_of_ble_eq_true rfl) dX7_done_103 ⟨Nat.le_of_ble_eq_true rfl, Nat.le_of_ble_eq_true rfl⟩) (fun v27 S26 hf H locs hH => ?_)
              exact q_retI X hH hr hlk hf (Nat.zero_le _) (Nat.zero_le _) dX7_done_106
            · have hf := (if_neg c21).mp hf
              refine lv_tableOut (tgt := 107) hx hb dX7_done_1 (by have z0 := lv_neT c1 (a := 0) rfl; have z1 := lv_neT c5 (a := 1) rfl; have z2 := lv_neT c9 (a := 2) rfl; have z3 := lv_neT c13 (a := 3) rfl; have z4 := lv_neT c17 (a := 4) rfl; have z5 := lv_neT c21 (a := 5) rfl; omega) (by decide) ?_
              refine lv_aload_n hx hb dX7_done_107 rfl (lv_at hl 0 rfl) ?_
              refine q_getR (T := TX7) (N := 12) X hH hf iw_X7 rfl (by decide) tw_323 (fun _ h => h) dX7_done_108 (fun v28 hf => ?_)
              refine lv_aload_n hx hb dX7_done_111 rfl (lv_at hl 0 rfl) ?_
              refine q_getR (T := TX7) (N := 12) X hH hf iw_X7 rfl (by decide) tw_319 (fun _ h => h) dX7_done_112 (fun v29 hf => ?_)
              obtain ⟨hb1, hb2, hf⟩ := hf
              refine q_backV0 X hH (q_runV [.ref v29] [] X hH hl (c_X3_measure l D cy G X.2.2.2.1 S v28 v29 _ _ hf) mf_X3_measure mv_X3_measure tw_439 ⟨Nat.le_of_ble_eq_true rfl, Nat.le_of_ble_eq_true rfl⟩ hb1 hb2 (T := TX3) (N := 6) rfl rfl (Nat.le_of_ble_eq_true rfl) dX7_done_115 ⟨Nat.le_of_ble_eq_true rfl, Nat.le_of_ble_eq_true rfl⟩) (fun S30 hf H locs hH => ?_)
              refine lv_aload_n hx hb dX7_done_118 rfl (lv_at hl 0 rfl) ?_
              refine q_getR (T := TX7) (N := 12) X hH hf iw_X7 rfl (by decide) tw_319 (fun _ h => h) dX7_done_119 (fun v32 hf => ?_)
              refine lv_aload_n hx hb dX7_done_122 rfl (lv_at hl 0 rfl) ?_
              refine q_getR (T := TX7) (N := 12) X hH hf iw_X7 rfl (by decide) tw_323 (fun _ h => h) dX7_done_123 (fun v33 hf => ?_)
              obtain ⟨hb1, hb2, hf⟩ := hf
              refine q_backI0 X hH (q_runV [] [.ref v32] X hH hl (c_X3_leastGroup l D cy G X.2.2.2.1 S30 v33 _ _ hf) mf_X3_leastGroup mv_X3_leastGroup tw_1043 ⟨Nat.le_of_ble_eq_true rfl, Nat.le_of_ble_eq_true rfl⟩ hb1 hb2 (T := TX3) (N := 6) rfl rfl (Nat.le_of_ble_eq_true rfl) dX7_done_126 ⟨Nat.le_of_ble_eq_true rfl, Nat.le_of_ble_eq_true rfl⟩) (fun v35 S34 hf H locs hH => ?_)
              refine q_putN (T := TX6) (N := 6) (ty0 := tyX6) (ty := tyX6 2) X hH hf iw_X6 tyX6_ok nmX6 rfl (by decide) (List.mem_of_getElem? (i := 1) rfl) (fun _ h => h) rfl (tyX6_ok 2 (by decide)) rfl rfl dX7_done_129 (fun S36 hf H locs hH => ?_)
              refine lv_aload_n hx hb dX7_done_132 rfl (lv_at hl 0 rfl) ?_
              refine q_getR (T := TX7) (N := 12) X hH hf iw_X7 rfl (by decide) tw_319 (fun _ h => h) dX7_done_133 (fun v37 hf => ?_)
              obtain ⟨hb1, hb2, hf⟩ := hf
              refine q_backI0 X hH (q_runV [] [] X hH hl (c_X6_feudByBonds l D cy G X.2.2.2.1 S36 v37 _ _ hf) mf_X6_feudByBonds mv_X6_feudByBonds tw_360 ⟨Nat.le_of_ble_eq_true rfl, Nat.le_of_ble_eq_true rfl⟩ hb1 hb2 (T := TX6) (N := 6) rfl rfl (Nat.le_of_ble_eq_true rfl) dX7_done_136 ⟨Nat.le_of_ble_eq_true rfl, Nat.le_of_ble_eq_true rfl⟩) (fun v39 S38 hf H locs hH => ?_)
              exact q_retI X hH hr hlk hf (Nat.zero_le _) (Nat.zero_le _) dX7_done_139
