-- X6_bondsAcross
def f_X6_bondsAcross_J55 (post : Int32 → PS → Prop) (g4 : PS → Nat → Int32 → Int32 → Prop) (S : PS) (l0 : Nat) (l1 : Int32) (l2 : Int32) : Prop :=
  g4 S l0 l1 (l2 + 1)
def f_X6_bondsAcross_J49 (post : Int32 → PS → Prop) (g16 : PS → Nat → Int32 → Int32 → Int32 → Prop) (S : PS) (l0 : Nat) (l1 : Int32) (l2 : Int32) (l3 : Int32) : Prop :=
  g16 S l0 l1 l2 (l3 + 1)
def f_X6_bondsAcross_L16 (post : Int32 → PS → Prop) (g4 : PS → Nat → Int32 → Int32 → Prop) : Nat → PS → Nat → Int32 → Int32 → Int32 → Prop
  | 0, _, _, _, _, _ => False
  | n + 1, S, l0, l1, l2, l3 =>
  gI S l0 10 1 fun v1 => (
  if v1 ≤ l3 then
    f_X6_bondsAcross_J55 post g4 S l0 l1 l2
  else
    isO S l0 10 (
    f_X6_sideOf S l0 l2 fun v4 S3 => (
    isO S3 l0 10 (
    f_X6_sideOf S3 l0 l3 fun v6 S5 => (
    if v4 = v6 then
      f_X6_bondsAcross_J49 post (f_X6_bondsAcross_L16 post g4 n) S5 l0 l1 l2 l3
    else
      isO S5 l0 10 (
      f_X6_tie S5 l0 l2 l3 fun v9 S8 => (
      if v9 ≤ 0 then
        f_X6_bondsAcross_J49 post (f_X6_bondsAcross_L16 post g4 n) S8 l0 l1 l2 l3
      else
        f_X6_bondsAcross_J49 post (f_X6_bondsAcross_L16 post g4 n) S8 l0 (l1 + 1) l2 l3)))))))
def f_X6_bondsAcross_L4 (post : Int32 → PS → Prop) : Nat → PS → Nat → Int32 → Int32 → Prop
  | 0, _, _, _, _ => False
  | n + 1, S, l0, l1, l2 =>
  gI S l0 10 1 fun v1 => (
  if v1 ≤ l2 then
    post l1 S
  else
    f_X6_bondsAcross_L16 post (f_X6_bondsAcross_L4 post n) 4096 S l0 l1 l2 (l2 + 1))
def f_X6_bondsAcross (S : PS) (a0 : Nat) (post : Int32 → PS → Prop) : Prop :=
  f_X6_bondsAcross_L4 post 4096 S a0 0 0
abbrev rm_X6_bondsAcross : Room := { frames := 2, cells := 0, slots := 0, locals := 43 }
set_option maxHeartbeats 4000000 in
set_option maxRecDepth 100000 in
theorem c_X6_bondsAcross (l : Launch) (D : va_G) (cy : Nat → ClassId) (G : p_GT) (hG : p_ok G) (S : PS) (a0 : Nat) (post : Int32 → PS → Prop) (sz : Nat) (hf : f_X6_bondsAcross S a0 post) : p_Mi l D cy G S sz yX6_bondsAcross (Cond.code yX6_bondsAcross cX6_bondsAcross 4 (some .int) :: wG) rm_X6_bondsAcross [.ref a0] 0 0 post := by
  refine q_start hG (Qc := fun A => va_Qi post (p_Post D cy A) A) mf_X6_bondsAcross (Nat.le_of_ble_eq_true rfl) (own := RX6) rfl ?_
  intro p e s m below meth c A X hr hlk hnm ls hl hH
  have hx := X.1.1
  have hb := X.1.2.1
  replace hl : lv_has ls 4 [(0, .ref a0)] := hl
  obtain ⟨H, hHe⟩ : ∃ H, H = s.heap := ⟨_, rfl⟩
  obtain ⟨locs, hlo⟩ : ∃ locs : List Loc, locs = [] := ⟨_, rfl⟩
  rw [← hHe, ← hlo] at hH
  show W p l e rm_X6_bondsAcross s m [.ref a0].toArray below meth c s.heap [] 0 0 _ _
  rw [← hHe, ← hlo]
  have hL4 : ∀ (n4 : Nat) (S : PS) (l0 : Nat) (l1 : Int32) (l2 : Int32), f_X6_bondsAcross_L4 post n4 S l0 l1 l2 → ∀ (H : Heap) (locs : List Loc) (ls : Array Slot), p_H D cy S A s H locs → lv_has ls 4 [(0, .ref l0), (1, .int l1), (2, .int l2)] → W p l e rm_X6_bondsAcross s m [.ref a0].toArray below meth c H locs 0 0 (MQ below (va_Qi post (p_Post D cy A) A) [.ref a0].toArray s 0 0 A) (F0 m 4 ls []) := by
    intro n4
    induction n4 with
    | zero => intro S l0 l1 l2 hf; exact hf.elim
    | succ n4 ih4 =>
      intro S l0 l1 l2 hf H locs ls hH hl
      have hL16 : ∀ (n16 : Nat) (S : PS) (l0 : Nat) (l1 : Int32) (l2 : Int32) (l3 : Int32), f_X6_bondsAcross_L16 post (f_X6_bondsAcross_L4 post n4) n16 S l0 l1 l2 l3 → ∀ (H : Heap) (locs : List Loc) (ls : Array Slot), p_H D cy S A s H locs → lv_has ls 4 [(0, .ref l0), (1, .int l1), (2, .int l2), (3, .int l3)] → W p l e rm_X6_bondsAcross s m [.ref a0].toArray below meth c H locs 0 0 (MQ below (va_Qi post (p_Post D cy A) A) [.ref a0].toArray s 0 0 A) (F0 m 16 ls []) := by
        intro n16
        induction n16 with
        | zero => intro S l0 l1 l2 l3 hf; exact hf.elim
        | succ n16 ih16 =>
          intro S l0 l1 l2 l3 hf H locs ls hH hl
          have hJ55 : ∀ (S : PS) (l0 : Nat) (l1 : Int32) (l2 : Int32), f_X6_bondsAcross_J55 post (f_X6_bondsAcross_L4 post n4) S l0 l1 l2 → ∀ (H : Heap) (locs : List Loc) (ls : Array Slot), p_H D cy S A s H locs → lv_has ls 4 [(0, .ref l0), (1, .int l1), (2, .int l2)] → W p l e rm_X6_bondsAcross s m [.ref a0].toArray below meth c H locs 0 0 (MQ below (va_Qi post (p_Post D cy A) A) [.ref a0].toArray s 0 0 A) (F0 m 55 ls []) := by
            intro S l0 l1 l2 hf H locs ls hH hl
            refine lv_iinc (v := l2 + 1) (lv' := [(2, .int (l2 + 1)), (0, .ref l0), (1, .int l1)]) hx hb dX6_bondsAcross_55 hl (k := 2) rfl rfl (by decide) rfl (fun ls hl => ?_)
            refine lv_goto (tgt := 4) hx hb dX6_bondsAcross_58 (by decide) ?_
            exact ih4 S l0 l1 (l2 + 1) hf H locs ls hH (lv_sub hl [1, 2, 0] rfl)
          have hJ49 : ∀ (S : PS) (l0 : Nat) (l1 : Int32) (l2 : Int32) (l3 : Int32), f_X6_bondsAcross_J49 post (f_X6_bondsAcross_L16 post (f_X6_bondsAcross_L4 post n4) n16) S l0 l1 l2 l3 → ∀ (H : Heap) (locs : List Loc) (ls : Array Slot), p_H D cy S A s H locs → lv_has ls 4 [(0, .ref l0), (1, .int l1), (2, .int l2), (3, .int l3)] → W p l e rm_X6_bondsAcross s m [.ref a0].toArray below meth c H locs 0 0 (MQ below (va_Qi post (p_Post D cy A) A) [.ref a0].toArray s 0 0 A) (F0 m 49 ls []) := by
            intro S l0 l1 l2 l3 hf H locs ls hH hl
            refine lv_iinc (v := l3 + 1) (lv' := [(3, .int (l3 + 1)), (0, .ref l0), (1, .int l1), (2, .int l2)]) hx hb dX6_bondsAcross_49 hl (k := 3) rfl rfl (by decide) rfl (fun ls hl => ?_)
            refine lv_goto (tgt := 16) hx hb dX6_bondsAcross_52 (by decide) ?_
            exact ih16 S l0 l1 l2 (l3 + 1) hf H locs ls hH (lv_sub hl [1, 2, 3, 0] rfl)
          refine lv_iload_n hx hb dX6_bondsAcross_16 rfl (lv_at hl 3 rfl) ?_
          refine lv_aload_n hx hb dX6_bondsAcross_17 rfl (lv_at hl 0 rfl) ?_
          refine q_getI (T := TX6) (N := 6) X hH hf iw_X6 rfl (by decide) tw_73 (fun _ h => h) dX6_bondsAcross_18 (fun v1 hf => ?_)
          refine lv_icmp_ge (tgt := 55) hx hb dX6_bondsAcross_21 (by decide) (fun c2 => ?_) (fun c2 => ?_)
          · have hf := (if_pos c2).mp hf
            exact hJ55 S l0 l1 l2 hf H locs ls hH (lv_sub hl [0, 1, 2] rfl)
          · have hf := (if_neg c2).mp hf
            refine lv_aload_n hx hb dX6_bondsAcross_24 rfl (lv_at hl 0 rfl) ?_
            refine lv_iload_n hx hb dX6_bondsAcross_25 rfl (lv_at hl 2 rfl) ?_
            obtain ⟨hb1, hb2, hf⟩ := hf
            refine q_backI0 X hH (q_runV [.int l2] [] X hH hl (c_X6_sideOf l D cy G X.2.2.2.1 S l0 l2 _ _ hf) mf_X6_sideOf mv_X6_sideOf tw_395 ⟨Nat.le_of_ble_eq_true rfl, Nat.le_of_ble_eq_true rfl⟩ hb1 hb2 (T := TX6) (N := 6) rfl rfl (Nat.le_of_ble_eq_true rfl) dX6_bondsAcross_26 ⟨Nat.le_of_ble_eq_true rfl, Nat.le_of_ble_eq_true rfl⟩) (fun v4 S3 hf H locs hH => ?_)
            refine lv_aload_n hx hb dX6_bondsAcross_29 rfl (lv_at hl 0 rfl) ?_
            refine lv_iload_n hx hb dX6_bondsAcross_30 rfl (lv_at hl 3 rfl) ?_
            obtain ⟨hb1, hb2, hf⟩ := hf
            refine q_backI0 X hH (q_runV [.int l3] [.int v4] X hH hl (c_X6_sideOf l D cy G X.2.2.2.1 S3 l0 l3 _ _ hf) mf_X6_sideOf mv_X6_sideOf tw_395 ⟨Nat.le_of_ble_eq_true rfl, Nat.le_of_ble_eq_true rfl⟩ hb1 hb2 (T := TX6) (N := 6) rfl rfl (Nat.le_of_ble_eq_true rfl) dX6_bondsAcross_31 ⟨Nat.le_of_ble_eq_true rfl, Nat.le_of_ble_eq_true rfl⟩) (fun v6 S5 hf H locs hH => ?_)
            refine lv_icmp_eq (tgt := 49) hx hb dX6_bondsAcross_34 (by decide) (fun c7 => ?_) (fun c7 => ?_)
            · have hf := (if_pos c7).mp hf
              exact hJ49 S5 l0 l1 l2 l3 hf H locs ls hH hl
            · have hf := (if_neg c7).mp hf
              refine lv_aload_n hx hb dX6_bondsAcross_37 rfl (lv_at hl 0 rfl) ?_
              refine lv_iload_n hx hb dX6_bondsAcross_38 rfl (lv_at hl 2 rfl) ?_
              refine lv_iload_n hx hb dX6_bondsAcross_39 rfl (lv_at hl 3 rfl) ?_
              obtain ⟨hb1, hb2, hf⟩ := hf
              refine q_backI0 X hH (q_runV [.int l2, .int l3] [] X hH hl (c_X6_tie l D cy G X.2.2.2.1 S5 l0 l2 l3 _ _ hf) mf_X6_tie mv_X6_tie tw_378 ⟨Nat.le_of_ble_eq_true rfl, Nat.le_of_ble_eq_true rfl⟩ hb1 hb2 (T := TX6) (N := 6) rfl rfl (Nat.le_of_ble_eq_true rfl) dX6_bondsAcross_40 ⟨Nat.le_of_ble_eq_true rfl, Nat.le_of_ble_eq_true rfl⟩) (fun v9 S8 hf H locs hH => ?_)
              refine lv_if_le (tgt := 49) hx hb dX6_bondsAcross_43 (by decide) (fun c10 => ?_) (fun c10 => ?_)
              · have hf := (if_pos c10).mp hf
                exact hJ49 S8 l0 l1 l2 l3 hf H locs ls hH hl
              · have hf := (if_neg c10).mp hf
                refine lv_iinc (v := l1 + 1) (lv' := [(1, .int (l1 + 1)), (0, .ref l0), (2, .int l2), (3, .int l3)]) hx hb dX6_bondsAcross_46 hl (k := 1) rfl rfl (by decide) rfl (fun ls hl => ?_)
                exact hJ49 S8 l0 (l1 + 1) l2 l3 hf H locs ls hH (lv_sub hl [1, 0, 2, 3] rfl)
      refine lv_iload_n hx hb dX6_bondsAcross_4 rfl (lv_at hl 2 rfl) ?_
      refine lv_aload_n hx hb dX6_bondsAcross_5 rfl (lv_at hl 0 rfl) ?_
      refine q_getI (T := TX6) (N := 6) X hH hf iw_X6 rfl (by decide) tw_73 (fun _ h => h) dX6_bondsAcross_6 (fun v1 hf => ?_)
      refine lv_icmp_ge (tgt := 61) hx hb dX6_bondsAcross_9 (by decide) (fun c2 => ?_) (fun c2 => ?_)
      · have hf := (if_pos c2).mp hf
        refine lv_iload_n hx hb dX6_bondsAcross_61 rfl (lv_at hl 1 rfl) ?_
        exact q_retI X hH hr hlk hf (Nat.zero_le _) (Nat.zero_le _) dX6_bondsAcross_62
      · have hf := (if_neg c2).mp hf
        refine lv_iload_n hx hb dX6_bondsAcross_12 rfl (lv_at hl 2 rfl) ?_
        refine lv_iconst (v := 1) hx hb dX6_bondsAcross_13 (by decide) ?_
        refine lv_iadd hx hb dX6_bondsAcross_14 ?_
        refine lv_istore_n (lv' := [(3, .int (l2 + 1)), (0, .ref l0), (1, .int l1), (2, .int l2)]) hx hb dX6_bondsAcross_15 rfl hl (by decide) rfl (fun ls hl => ?_)
        exact hL16 4096 S l0 l1 l2 (l2 + 1) hf H locs ls hH (lv_sub hl [1, 2, 3, 0] rfl)
  refine lv_iconst (v := 0) hx hb dX6_bondsAcross_0 (by decide) ?_
  refine lv_istore_n (lv' := [(1, .int 0), (0, .ref a0)]) hx hb dX6_bondsAcross_1 rfl hl (by decide) rfl (fun ls hl => ?_)
  refine lv_iconst (v := 0) hx hb dX6_bondsAcross_2 (by decide) ?_
  refine lv_istore_n (lv' := [(2, .int 0), (1, .int 0), (0, .ref a0)]) hx hb dX6_bondsAcross_3 rfl hl (by decide) rfl (fun ls hl => ?_)
  exact hL4 4096 S a0 0 0 hf H locs ls hH (lv_sub hl [2, 1, 0] rfl)
-- X6_reachOf
def f_X6_reachOf_J49 (post : Int32 → PS → Prop) (g6 : PS → Nat → Int32 → Int32 → Prop) (S : PS) (l0 : Nat) (l2 : Int32) (l3 : Int32) : Prop :=
  g6 S l0 l2 (l3 + 1)
def f_X6_reachOf_J43 (post : Int32 → PS → Prop) (g17 : PS → Nat → Int32 → Int32 → Int32 → Prop) (S : PS) (l0 : Nat) (l2 : Int32) (l3 : Int32) (l4 : Int32) : Prop :=
  g17 S l0 l2 l3 (l4 + 1)
def f_X6_reachOf_L17 (post : Int32 → PS → Prop) (g6 : PS → Nat → Int32 → Int32 → Prop) : Nat → PS → Nat → Int32 → Int32 → Int32 → Prop
  | 0, _, _, _, _, _ => False
  | n + 1, S, l0, l2, l3, l4 =>
  gI S l0 10 1 fun v1 => (
  if v1 ≤ l4 then
    f_X6_reachOf_J49 post g6 S l0 l2 l3
  else
    isO S l0 10 (
    f_X6_tieToSet S l0 l4 l2 fun v4 S3 => (
    if v4 ≤ 0 then
      f_X6_reachOf_J43 post (f_X6_reachOf_L17 post g6 n) S3 l0 l2 l3 l4
    else
      f_X6_reachOf_J43 post (f_X6_reachOf_L17 post g6 n) S3 l0 (l2 ||| ((1 : Int32) <<< (l4 &&& 31))) l3 l4)))
def f_X6_reachOf_L6 (post : Int32 → PS → Prop) : Nat → PS → Nat → Int32 → Int32 → Prop
  | 0, _, _, _, _ => False
  | n + 1, S, l0, l2, l3 =>
  gI S l0 10 1 fun v1 => (
  if v1 ≤ l3 then
    post l2 S
  else
    f_X6_reachOf_L17 post (f_X6_reachOf_L6 post n) 4096 S l0 l2 l3 0)
def f_X6_reachOf (S : PS) (a0 : Nat) (a1 : Int32) (post : Int32 → PS → Prop) : Prop :=
  f_X6_reachOf_L6 post 4096 S a0 ((1 : Int32) <<< (a1 &&& 31)) 0
abbrev rm_X6_reachOf : Room := { frames := 3, cells := 0, slots := 0, locals := 67 }
set_option maxHeartbeats 4000000 in
set_option maxRecDepth 100000 in
theorem c_X6_reachOf (l : Launch) (D : va_G) (cy : Nat → ClassId) (G : p_GT) (hG : p_ok G) (S : PS) (a0 : Nat) (a1 : Int32) (post : Int32 → PS → Prop) (sz : Nat) (hf : f_X6_reachOf S a0 a1 post) : p_Mi l D cy G S sz yX6_reachOf (Cond.code yX6_reachOf cX6_reachOf 5 (some .int) :: wG) rm_X6_reachOf [.ref a0, .int a1] 0 0 post := by
  refine q_start hG (Qc := fun A => va_Qi post (p_Post D cy A) A) mf_X6_reachOf (Nat.le_of_ble_eq_true rfl) (own := RX6) rfl ?_
  intro p e s m below meth c A X hr hlk hnm ls hl hH
  have hx := X.1.1
  have hb := X.1.2.1
  replace hl : lv_has ls 5 [(0, .ref a0), (1, .int a1)] := hl
  obtain ⟨H, hHe⟩ : ∃ H, H = s.heap := ⟨_, rfl⟩
  obtain ⟨locs, hlo⟩ : ∃ locs : List Loc, locs = [] := ⟨_, rfl⟩
  rw [← hHe, ← hlo] at hH
  show W p l e rm_X6_reachOf s m [.ref a0, .int a1].toArray below meth c s.heap [] 0 0 _ _
  rw [← hHe, ← hlo]
  have hL6 : ∀ (n6 : Nat) (S : PS) (l0 : Nat) (l2 : Int32) (l3 : Int32), f_X6_reachOf_L6 post n6 S l0 l2 l3 → ∀ (H : Heap) (locs : List Loc) (ls : Array Slot), p_H D cy S A s H locs → lv_has ls 5 [(0, .ref l0), (2, .int l2), (3, .int l3)] → W p l e rm_X6_reachOf s m [.ref a0, .int a1].toArray below meth c H locs 0 0 (MQ below (va_Qi post (p_Post D cy A) A) [.ref a0, .int a1].toArray s 0 0 A) (F0 m 6 ls []) := by
    intro n6
    induction n6 with
    | zero => intro S l0 l2 l3 hf; exact hf.elim
    | succ n6 ih6 =>
      intro S l0 l2 l3 hf H locs ls hH hl
      have hL17 : ∀ (n17 : Nat) (S : PS) (l0 : Nat) (l2 : Int32) (l3 : Int32) (l4 : Int32), f_X6_reachOf_L17 post (f_X6_reachOf_L6 post n6) n17 S l0 l2 l3 l4 → ∀ (H : Heap) (locs : List Loc) (ls : Array Slot), p_H D cy S A s H locs → lv_has ls 5 [(0, .ref l0), (2, .int l2), (3, .int l3), (4, .int l4)] → W p l e rm_X6_reachOf s m [.ref a0, .int a1].toArray below meth c H locs 0 0 (MQ below (va_Qi post (p_Post D cy A) A) [.ref a0, .int a1].toArray s 0 0 A) (F0 m 17 ls []) := by
        intro n17
        induction n17 with
        | zero => intro S l0 l2 l3 l4 hf; exact hf.elim
        | succ n17 ih17 =>
          intro S l0 l2 l3 l4 hf H locs ls hH hl
          have hJ49 : ∀ (S : PS) (l0 : Nat) (l2 : Int32) (l3 : Int32), f_X6_reachOf_J49 post (f_X6_reachOf_L6 post n6) S l0 l2 l3 → ∀ (H : Heap) (locs : List Loc) (ls : Array Slot), p_H D cy S A s H locs → lv_has ls 5 [(0, .ref l0), (2, .int l2), (3, .int l3)] → W p l e rm_X6_reachOf s m [.ref a0, .int a1].toArray below meth c H locs 0 0 (MQ below (va_Qi post (p_Post D cy A) A) [.ref a0, .int a1].toArray s 0 0 A) (F0 m 49 ls []) := by
            intro S l0 l2 l3 hf H locs ls hH hl
            refine lv_iinc (v := l3 + 1) (lv' := [(3, .int (l3 + 1)), (0, .ref l0), (2, .int l2)]) hx hb dX6_reachOf_49 hl (k := 2) rfl rfl (by decide) rfl (fun ls hl => ?_)
            refine lv_goto (tgt := 6) hx hb dX6_reachOf_52 (by decide) ?_
            exact ih6 S l0 l2 (l3 + 1) hf H locs ls hH (lv_sub hl [1, 2, 0] rfl)
          have hJ43 : ∀ (S : PS) (l0 : Nat) (l2 : Int32) (l3 : Int32) (l4 : Int32), f_X6_reachOf_J43 post (f_X6_reachOf_L17 post (f_X6_reachOf_L6 post n6) n17) S l0 l2 l3 l4 → ∀ (H : Heap) (locs : List Loc) (ls : Array Slot), p_H D cy S A s H locs → lv_has ls 5 [(0, .ref l0), (2, .int l2), (3, .int l3), (4, .int l4)] → W p l e rm_X6_reachOf s m [.ref a0, .int a1].toArray below meth c H locs 0 0 (MQ below (va_Qi post (p_Post D cy A) A) [.ref a0, .int a1].toArray s 0 0 A) (F0 m 43 ls []) := by
            intro S l0 l2 l3 l4 hf H locs ls hH hl
            refine lv_iinc (v := l4 + 1) (lv' := [(4, .int (l4 + 1)), (0, .ref l0), (2, .int l2), (3, .int l3)]) hx hb dX6_reachOf_43 hl (k := 3) rfl rfl (by decide) rfl (fun ls hl => ?_)
            refine lv_goto (tgt := 17) hx hb dX6_reachOf_46 (by decide) ?_
            exact ih17 S l0 l2 l3 (l4 + 1) hf H locs ls hH (lv_sub hl [1, 2, 3, 0] rfl)
          refine lv_iload hx hb dX6_reachOf_17 (lv_at hl 3 rfl) ?_
          refine lv_aload_n hx hb dX6_reachOf_19 rfl (lv_at hl 0 rfl) ?_
          refine q_getI (T := TX6) (N := 6) X hH hf iw_X6 rfl (by decide) tw_73 (fun _ h => h) dX6_reachOf_20 (fun v1 hf => ?_)
          refine lv_icmp_ge (tgt := 49) hx hb dX6_reachOf_23 (by decide) (fun c2 => ?_) (fun c2 => ?_)
          · have hf := (if_pos c2).mp hf
            exact hJ49 S l0 l2 l3 hf H locs ls hH (lv_sub hl [0, 1, 2] rfl)
          · have hf := (if_neg c2).mp hf
            refine lv_aload_n hx hb dX6_reachOf_26 rfl (lv_at hl 0 rfl) ?_
            refine lv_iload hx hb dX6_reachOf_27 (lv_at hl 3 rfl) ?_
            refine lv_iload_n hx hb dX6_reachOf_29 rfl (lv_at hl 1 rfl) ?_
            obtain ⟨hb1, hb2, hf⟩ := hf
            refine q_backI0 X hH (q_runV [.int l4, .int l2] [] X hH hl (c_X6_tieToSet l D cy G X.2.2.2.1 S l0 l4 l2 _ _ hf) mf_X6_tieToSet mv_X6_tieToSet tw_439 ⟨Nat.le_of_ble_eq_true rfl, Nat.le_of_ble_eq_true rfl⟩ hb1 hb2 (T := TX6) (N := 6) rfl rfl (Nat.le_of_ble_eq_true rfl) dX6_reachOf_30 ⟨Nat.le_of_ble_eq_true rfl, Nat.le_of_ble_eq_true rfl⟩) (fun v4 S3 hf H locs hH => ?_)
            refine lv_if_le (tgt := 43) hx hb dX6_reachOf_33 (by decide) (fun c5 => ?_) (fun c5 => ?_)
            · have hf := (if_pos c5).mp hf
              exact hJ43 S3 l0 l2 l3 l4 hf H locs ls hH hl
            · have hf := (if_neg c5).mp hf
              refine lv_iload_n hx hb dX6_reachOf_36 rfl (lv_at hl 1 rfl) ?_
              refine lv_iconst (v := 1) hx hb dX6_reachOf_37 (by decide) ?_
              refine lv_iload hx hb dX6_reachOf_38 (lv_at hl 3 rfl) ?_
              refine lv_ishl hx hb dX6_reachOf_40 ?_
              refine lv_ior hx hb dX6_reachOf_41 ?_
              refine lv_istore_n (lv' := [(2, .int (l2 ||| ((1 : Int32) <<< (l4 &&& 31)))), (0, .ref l0), (3, .int l3), (4, .int l4)]) hx hb dX6_reachOf_42 rfl hl (by decide) rfl (fun ls hl => ?_)
              exact hJ43 S3 l0 (l2 ||| ((1 : Int32) <<< (l4 &&& 31))) l3 l4 hf H locs ls hH (lv_sub hl [1, 0, 2, 3] rfl)
      refine lv_iload_n hx hb dX6_reachOf_6 rfl (lv_at hl 2 rfl) ?_
      refine lv_aload_n hx hb dX6_reachOf_7 rfl (lv_at hl 0 rfl) ?_
      refine q_getI (T := TX6) (N := 6) X hH hf iw_X6 rfl (by decide) tw_73 (fun _ h => h) dX6_reachOf_8 (fun v1 hf => ?_)
      refine lv_icmp_ge (tgt := 55) hx hb dX6_reachOf_11 (by decide) (fun c2 => ?_) (fun c2 => ?_)
      · have hf := (if_pos c2).mp hf
        refine lv_iload_n hx hb dX6_reachOf_55 rfl (lv_at hl 1 rfl) ?_
        exact q_retI X hH hr hlk hf (Nat.zero_le _) (Nat.zero_le _) dX6_reachOf_56
      · have hf := (if_neg c2).mp hf
        refine lv_iconst (v := 0) hx hb dX6_reachOf_14 (by decide) ?_
        refine lv_istore (lv' := [(4, .int 0), (0, .ref l0), (2, .int l2), (3, .int l3)]) hx hb dX6_reachOf_15 hl (by decide) rfl (fun ls hl => ?_)
        exact hL17 4096 S l0 l2 l3 0 hf H locs ls hH (lv_sub hl [1, 2, 3, 0] rfl)
  refine lv_iconst (v := 1) hx hb dX6_reachOf_0 (by decide) ?_
  refine lv_iload_n hx hb dX6_reachOf_1 rfl (lv_at hl 1 rfl) ?_
  refine lv_ishl hx hb dX6_reachOf_2 ?_
  refine lv_istore_n (lv' := [(2, .int ((1 : Int32) <<< (a1 &&& 31))), (0, .ref a0), (1, .int a1)]) hx hb dX6_reachOf_3 rfl hl (by decide) rfl (fun ls hl => ?_)
  refine lv_iconst (v := 0) hx hb dX6_reachOf_4 (by decide) ?_
  refine lv_istore_n (lv' := [(3, .int 0), (2, .int ((1 : Int32) <<< (a1 &&& 31))), (0, .ref a0), (1, .int a1)]) hx hb dX6_reachOf_5 rfl hl (by decide) rfl (fun ls hl => ?_)
  exact hL6 4096 S a0 ((1 : Int32) <<< (a1 &&& 31)) 0 hf H locs ls hH (lv_sub hl [2, 1, 0] rfl)
-- X7_init
def f_X7_init (S : PS) (a0 : Nat) (bc bs : Nat) (post : PS → Prop) : Prop :=
  nO S 10 [.null, .int 0, .int 0, .int 0, .int 0, .int 0] 6 bc bs fun q1 S2 bc3 bs4 => (
  ∃ mc6 ms6 : Nat, mc6 ≤ bc3 ∧ ms6 ≤ bs4 ∧ (f_X6_init S2 q1 mc6 ms6 fun S5 => (
  pV S5 a0 11 0 (.ref q1) fun S8 => (
  nO S8 10 [.null, .int 0, .int 0, .int 0, .int 0, .int 0] 6 (bc3 - mc6) (bs4 - ms6) fun q9 S10 bc11 bs12 => (
  ∃ mc14 ms14 : Nat, mc14 ≤ bc11 ∧ ms14 ≤ bs12 ∧ (f_X6_init S10 q9 mc14 ms14 fun S13 => (
  pV S13 a0 11 1 (.ref q9) fun S16 => (
  nO S16 10 [.null, .int 0, .int 0, .int 0, .int 0, .int 0] 6 (bc11 - mc14) (bs12 - ms14) fun q17 S18 bc19 bs20 => (
  ∃ mc22 ms22 : Nat, mc22 ≤ bc19 ∧ ms22 ≤ bs20 ∧ (f_X6_init S18 q17 mc22 ms22 fun S21 => (
  pV S21 a0 11 2 (.ref q17) fun S24 => (
  nO S24 6 [.null, .int 0, .int 0] 3 (bc19 - mc22) (bs20 - ms22) fun q25 S26 bc27 bs28 => (
  ∃ mc30 ms30 : Nat, mc30 ≤ bc27 ∧ ms30 ≤ bs28 ∧ (f_X2_init S26 q25 mc30 ms30 fun S29 => (
  pV S29 a0 11 3 (.ref q25) fun S32 => (
  nO S32 7 [.null, .null, .null, .null, .null, .int 0] 6 (bc27 - mc30) (bs28 - ms30) fun q33 S34 bc35 bs36 => (
  ∃ mc38 ms38 : Nat, mc38 ≤ bc35 ∧ ms38 ≤ bs36 ∧ (f_X3_init S34 q33 mc38 ms38 fun S37 => (
  pV S37 a0 11 4 (.ref q33) fun S40 => (
  nO S40 4 [.null, .int 0] 2 (bc35 - mc38) (bs36 - ms38) fun q41 S42 bc43 bs44 => (
  ∃ mc46 ms46 : Nat, mc46 ≤ bc43 ∧ ms46 ≤ bs44 ∧ (f_X0_init S42 q41 mc46 ms46 fun S45 => (
  pV S45 a0 11 5 (.ref q41) fun S48 => (
  nO S48 5 [.null, .null, .null] 3 (bc43 - mc46) (bs44 - ms46) fun q49 S50 bc51 bs52 => (
  ∃ mc54 ms54 : Nat, mc54 ≤ bc51 ∧ ms54 ≤ bs52 ∧ (f_X1_init S50 q49 mc54 ms54 fun S53 => (
  pV S53 a0 11 6 (.ref q49) fun S56 => (
  nO S56 9 [.null, .null, .null, .int 0, .int 0, .int 0, .int 0] 7 (bc51 - mc54) (bs52 - ms54) fun q57 S58 bc59 bs60 => (
  ∃ mc62 ms62 : Nat, mc62 ≤ bc59 ∧ ms62 ≤ bs60 ∧ (f_X5_init S58 q57 mc62 ms62 fun S61 => (
  pV S61 a0 11 7 (.ref q57) fun S64 => (
  nO S64 8 [.int 0, .int 0, .int 0, .int 0] 4 (bc59 - mc62) (bs60 - ms62) fun q65 S66 bc67 bs68 => (
  f_X4_init S66 q65 fun S69 => (
  pV S69 a0 11 8 (.ref q65) fun S71 => (
  nO S71 1 [.null, .int 0, .int 0, .int 0] 4 bc67 bs68 fun q72 S73 bc74 bs75 => (
  ∃ mc77 ms77 : Nat, mc77 ≤ bc74 ∧ ms77 ≤ bs75 ∧ (f_J4_init_da8c8 S73 q72 mc77 ms77 fun S76 => (
  pV S76 a0 11 9 (.ref q72) fun S79 => (
  nA S79 0 9 (bc74 - mc77) (bs75 - ms77) fun q80 S81 bc82 bs83 => (
  pV S81 a0 11 10 (.ref q80) fun S84 => (
  pV S84 a0 11 11 (.null) fun S85 => (
  post S85))))))))))))))))))))))))))))))))))))))))))
abbrev rm_X7_init (mc ms : Nat) : Room := { frames := 4, cells := mc, slots := ms, locals := 81 }
set_option maxHeartbeats 4000000 in
set_option maxRecDepth 100000 in
theorem c_X7_init (l : Launch) (D : va_G) (cy : Nat → ClassId) (G : p_GT) (hG : p_ok G) (hGC : ∀ (A : Nat → Prop) (U : State) (H : Heap), G A U H → gC A U H) (hGO : ∀ (A : Nat → Prop) (U : State) (H : Heap), G A U H → va_AO "VillageFeud$Village" U) (S : PS) (a0 : Nat) (mc ms : Nat) (post : PS → Prop) (sz : Nat) (hf : f_X7_init S a0 mc ms post) : p_Mv l D cy G S sz yX7_init (Cond.code yX7_init cX7_init 1 none :: wG) (rm_X7_init mc ms) [.ref a0] mc ms post := by
  refine q_start hG (Qc := fun A => va_Qv post (p_Post D cy A) A) mf_X7_init (Nat.le_of_ble_eq_true rfl) (own := RX7) rfl ?_
  intro p e s m below meth c A X hr hlk hnm ls hl hH
  have hx := X.1.1
  have hb := X.1.2.1
  replace hl : lv_has ls 1 [(0, .ref a0)] := hl
  have main : ∀ (H : Heap) (locs : List Loc) (ls : Array Slot) (cells slots bc bs : Nat), f_X7_init S a0 bc bs post → p_H D cy S A s H locs → lv_has ls 1 [(0, .ref a0)] → cells + bc ≤ mc ∧ slots + bs ≤ ms → W p l e (rm_X7_init mc ms) s m [.ref a0].toArray below meth c H locs cells slots (MQ below (va_Qv post (p_Post D cy A) A) [.ref a0].toArray s mc ms A) (F0 m 0 ls []) := by
    intro H locs ls cells slots bc bs hf hH hl hB
    refine lv_aload_n hx hb dX7_init_0 rfl (lv_at hl 0 rfl) ?_
    refine q_objInit X hl tw_63 tw_64 tw_o ⟨Nat.le_of_ble_eq_true rfl, Nat.le_of_ble_eq_true rfl⟩ (Nat.le_of_ble_eq_true rfl) dX7_init_1 ?_
    refine lv_aload_n hx hb dX7_init_4 rfl (lv_at hl 0 rfl) ?_
    refine q_new (T := TX6) (N := 6) X hH hB hf iw_X6 tyX6 tyX6_ok rfl tw_66 tw_67 tw_31 (fun j hj => by rcases (show j = 0 ∨ j = 1 ∨ j = 2 ∨ j = 3 ∨ j = 4 ∨ j = 5 by omega) with rfl | rfl | rfl | rfl | rfl | rfl <;> rfl) dX7_init_5 (fun q1 S2 bc3 bs4 hf H locs cells slots hH hB => ?_)
    refine lv_dup hx hb dX7_init_8 rfl ?_
    obtain ⟨mc6, ms6, hm1, hs1, hf⟩ := hf
    refine q_backVB X hH hB hm1 hs1 (q_runIN [] [.ref q1, .ref a0] X hH hl (c_X6_init l D cy G X.2.2.2.1 S2 q1 mc6 ms6 _ _ hf) mf_X6_init tw_69 (List.mem_of_getElem? (i := 7) rfl) ⟨Nat.le_of_ble_eq_true rfl, Nat.le_of_ble_eq_true rfl⟩ rfl (Nat.le_of_ble_eq_true rfl) dX7_init_9 ⟨Nat.le_trans (Nat.add_le_add_left hm1 _) hB.1, Nat.le_trans (Nat.add_le_add_left hs1 _) hB.2⟩) (fun S5 hf H locs cells slots hH hB => ?_)
    refine q_putF (T := TX7) (N := 12) (ty0 := tyX7) (ty := tyX7 0) X hH hf iw_X7 tyX7_ok nmX7 rfl (by decide) tw_253 (fun _ h => h) rfl hnm rfl (tyX7_ok 0 (by decide)) rfl rfl dX7_init_12 (fun S8 hf H locs hH => ?_)
    refine lv_aload_n hx hb dX7_init_15 rfl (lv_at hl 0 rfl) ?_
    refine q_new (T := TX6) (N := 6) X hH hB hf iw_X6 tyX6 tyX6_ok rfl tw_66 tw_67 tw_31 (fun j hj => by rcases (show j = 0 ∨ j = 1 ∨ j = 2 ∨ j = 3 ∨ j = 4 ∨ j = 5 by omega) with rfl | rfl | rfl | rfl | rfl | rfl <;> rfl) dX7_init_16 (fun q9 S10 bc11 bs12 hf H locs cells slots hH hB => ?_)
    refine lv_dup hx hb dX7_init_19 rfl ?_
    obtain ⟨mc14, ms14, hm1, hs1, hf⟩ := hf
    refine q_backVB X hH hB hm1 hs1 (q_runIN [] [.ref q9, .ref a0] X hH hl (c_X6_init l D cy G X.2.2.2.1 S10 q9 mc14 ms14 _ _ hf) mf_X6_init tw_69 (List.mem_of_getElem? (i := 7) rfl) ⟨Nat.le_of_ble_eq_true rfl, Nat.le_of_ble_eq_true rfl⟩ rfl (Nat.le_of_ble_eq_true rfl) dX7_init_20 ⟨Nat.le_trans (Nat.add_le_add_left hm1 _) hB.1, Nat.le_trans (Nat.add_le_add_left hs1 _) hB.2⟩) (fun S13 hf H locs cells slots hH hB => ?_)
    refine q_putF (T := TX7) (N := 12) (ty0 := tyX7) (ty := tyX7 1) X hH hf iw_X7 tyX7_ok nmX7 rfl (by decide) tw_254 (fun _ h => h) rfl hnm rfl (tyX7_ok 1 (by decide)) rfl rfl dX7_init_23 (fun S16 hf H locs hH => ?_)
    refine lv_aload_n hx hb dX7_init_26 rfl (lv_at hl 0 rfl) ?_
    refine q_new (T := TX6) (N := 6) X hH hB hf iw_X6 tyX6 tyX6_ok rfl tw_66 tw_67 tw_31 (fun j hj => by rcases (show j = 0 ∨ j = 1 ∨ j = 2 ∨ j = 3 ∨ j = 4 ∨ j = 5 by omega) with rfl | rfl | rfl | rfl | rfl | rfl <;> rfl) dX7_init_27 (fun q17 S18 bc19 bs20 hf H locs cells slots hH hB => ?_)
    refine lv_dup hx hb dX7_init_30 rfl ?_
    obtain ⟨mc22, ms22, hm1, hs1, hf⟩ := hf
    refine q_backVB X hH hB hm1 hs1 (q_runIN [] [.ref q17, .ref a0] X hH hl (c_X6_init l D cy G X.2.2.2.1 S18 q17 mc22 ms22 _ _ hf) mf_X6_init tw_69 (List.mem_of_getElem? (i := 7) rfl) ⟨Nat.le_of_ble_eq_true rfl, Nat.le_of_ble_eq_true rfl⟩ rfl (Nat.le_of_ble_eq_true rfl) dX7_init_31 ⟨Nat.le_trans (Nat.add_le_add_left hm1 _) hB.1, Nat.le_trans (Nat.add_le_add_left hs1 _) hB.2⟩) (fun S21 hf H locs cells slots hH hB => ?_)
    refine q_putF (T := TX7) (N := 12) (ty0 := tyX7) (ty := tyX7 2) X hH hf iw_X7 tyX7_ok nmX7 rfl (by decide) tw_255 (fun _ h => h) rfl hnm rfl (tyX7_ok 2 (by decide)) rfl rfl dX7_init_34 (fun S24 hf H locs hH => ?_)
    refine lv_aload_n hx hb dX7_init_37 rfl (lv_at hl 0 rfl) ?_
    refine q_new (T := TX2) (N := 3) X hH hB hf iw_X2 tyX2 tyX2_ok rfl tw_99 tw_100 tw_32 (fun j hj => by rcases (show j = 0 ∨ j = 1 ∨ j = 2 by omega) with rfl | rfl | rfl <;> rfl) dX7_init_38 (fun q25 S26 bc27 bs28 hf H locs cells slots hH hB => ?_)
    refine lv_dup hx hb dX7_init_41 rfl ?_
    obtain ⟨mc30, ms30, hm1, hs1, hf⟩ := hf
    refine q_backVB X hH hB hm1 hs1 (q_runIN [] [.ref q25, .ref a0] X hH hl (c_X2_init l D cy G X.2.2.2.1 hGO S26 q25 mc30 ms30 _ _ hf) mf_X2_init tw_102 (List.mem_of_getElem? (i := 8) rfl) ⟨Nat.le_of_ble_eq_true rfl, Nat.le_of_ble_eq_true rfl⟩ rfl (Nat.le_of_ble_eq_true rfl) dX7_init_42 ⟨Nat.le_trans (Nat.add_le_add_left hm1 _) hB.1, Nat.le_trans (Nat.add_le_add_left hs1 _) hB.2⟩) (fun S29 hf H locs cells slots hH hB => ?_)
    refine q_putF (T := TX7) (N := 12) (ty0 := tyX7) (ty := tyX7 3) X hH hf iw_X7 tyX7_ok nmX7 rfl (by decide) tw_256 (fun _ h => h) rfl hnm rfl (tyX7_ok 3 (by decide)) rfl rfl dX7_init_45 (fun S32 hf H locs hH => ?_)
    refine lv_aload_n hx hb dX7_init_48 rfl (lv_at hl 0 rfl) ?_
    refine q_new (T := TX3) (N := 6) X hH hB hf iw_X3 tyX3 tyX3_ok rfl tw_117 tw_118 tw_33 (fun j hj => by rcases (show j = 0 ∨ j = 1 ∨ j = 2 ∨ j = 3 ∨ j = 4 ∨ j = 5 by omega) with rfl | rfl | rfl | rfl | rfl | rfl <;> rfl) dX7_init_49 (fun q33 S34 bc35 bs36 hf H locs cells slots hH hB => ?_)
    refine lv_dup hx hb dX7_init_52 rfl ?_
    obtain ⟨mc38, ms38, hm1, hs1, hf⟩ := hf
    refine q_backVB X hH hB hm1 hs1 (q_runIN [] [.ref q33, .ref a0] X hH hl (c_X3_init l D cy G X.2.2.2.1 S34 q33 mc38 ms38 _ _ hf) mf_X3_init tw_120 (List.mem_of_getElem? (i := 9) rfl) ⟨Nat.le_of_ble_eq_true rfl, Nat.le_of_ble_eq_true rfl⟩ rfl (Nat.le_of_ble_eq_true rfl) dX7_init_53 ⟨Nat.le_trans (Nat.add_le_add_left hm1 _) hB.1, Nat.le_trans (Nat.add_le_add_left hs1 _) hB.2⟩) (fun S37 hf H locs cells slots hH hB => ?_)
    refine q_putF (T := TX7) (N := 12) (ty0 := tyX7) (ty := tyX7 4) X hH hf iw_X7 tyX7_ok nmX7 rfl (by decide) tw_257 (fun _ h => h) rfl hnm rfl (tyX7_ok 4 (by decide)) rfl rfl dX7_init_56 (fun S40 hf H locs hH => ?_)
    refine lv_aload_n hx hb dX7_init_59 rfl (lv_at hl 0 rfl) ?_
    refine q_new (T := TX0) (N := 2) X hH hB hf iw_X0 tyX0 tyX0_ok rfl tw_142 tw_143 tw_34 (fun j hj => by rcases (show j = 0 ∨ j = 1 by omega) with rfl | rfl <;> rfl) dX7_init_60 (fun q41 S42 bc43 bs44 hf H locs cells slots hH hB => ?_)
    refine lv_dup hx hb dX7_init_63 rfl ?_
    obtain ⟨mc46, ms46, hm1, hs1, hf⟩ := hf
    refine q_backVB X hH hB hm1 hs1 (q_runIN [] [.ref q41, .ref a0] X hH hl (c_X0_init l D cy G X.2.2.2.1 S42 q41 mc46 ms46 _ _ hf) mf_X0_init tw_145 (List.mem_of_getElem? (i := 10) rfl) ⟨Nat.le_of_ble_eq_true rfl, Nat.le_of_ble_eq_true rfl⟩ rfl (Nat.le_of_ble_eq_true rfl) dX7_init_64 ⟨Nat.le_trans (Nat.add_le_add_left hm1 _) hB.1, Nat.le_trans (Nat.add_le_add_left hs1 _) hB.2⟩) (fun S45 hf H locs cells slots hH hB => ?_)
    refine q_putF (T := TX7) (N := 12) (ty0 := tyX7) (ty := tyX7 5) X hH hf iw_X7 tyX7_ok nmX7 rfl (by decide) tw_258 (fun _ h => h) rfl hnm rfl (tyX7_ok 5 (by decide)) rfl rfl dX7_init_67 (fun S48 hf H locs hH => ?_)
    refine lv_aload_n hx hb dX7_init_70 rfl (lv_at hl 0 rfl) ?_
    refine q_new (T := TX1) (N := 3) X hH hB hf iw_X1 tyX1 tyX1_ok rfl tw_155 tw_156 tw_35 (fun j hj => by rcases (show j = 0 ∨ j = 1 ∨ j = 2 by omega) with rfl | rfl | rfl <;> rfl) dX7_init_71 (fun q49 S50 bc51 bs52 hf H locs cells slots hH hB => ?_)
    refine lv_dup hx hb dX7_init_74 rfl ?_
    obtain ⟨mc54, ms54, hm1, hs1, hf⟩ := hf
    refine q_backVB X hH hB hm1 hs1 (q_runIN [] [.ref q49, .ref a0] X hH hl (c_X1_init l D cy G X.2.2.2.1 S50 q49 mc54 ms54 _ _ hf) mf_X1_init tw_158 (List.mem_of_getElem? (i := 11) rfl) ⟨Nat.le_of_ble_eq_true rfl, Nat.le_of_ble_eq_true rfl⟩ rfl (Nat.le_of_ble_eq_true rfl) dX7_init_75 ⟨Nat.le_trans (Nat.add_le_add_left hm1 _) hB.1, Nat.le_trans (Nat.add_le_add_left hs1 _) hB.2⟩) (fun S53 hf H locs cells slots hH hB => ?_)
    refine q_putF (T := TX7) (N := 12) (ty0 := tyX7) (ty := tyX7 6) X hH hf iw_X7 tyX7_ok nmX7 rfl (by decide) tw_259 (fun _ h => h) rfl hnm rfl (tyX7_ok 6 (by decide)) rfl rfl dX7_init_78 (fun S56 hf H locs hH => ?_)
    refine lv_aload_n hx hb dX7_init_81 rfl (lv_at hl 0 rfl) ?_
    refine q_new (T := TX5) (N := 7) X hH hB hf iw_X5 tyX5 tyX5_ok rfl tw_171 tw_172 tw_36 (fun j hj => by rcases (show j = 0 ∨ j = 1 ∨ j = 2 ∨ j = 3 ∨ j = 4 ∨ j = 5 ∨ j = 6 by omega) with rfl | rfl | rfl | rfl | rfl | rfl | rfl <;> rfl) dX7_init_82 (fun q57 S58 bc59 bs60 hf H locs cells slots hH hB => ?_)
    refine lv_dup hx hb dX7_init_85 rfl ?_
    obtain ⟨mc62, ms62, hm1, hs1, hf⟩ := hf
    refine q_backVB X hH hB hm1 hs1 (q_runIN [] [.ref q57, .ref a0] X hH hl (c_X5_init l D cy G X.2.2.2.1 hGC S58 q57 mc62 ms62 _ _ hf) mf_X5_init tw_174 (List.mem_of_getElem? (i := 12) rfl) ⟨Nat.le_of_ble_eq_true rfl, Nat.le_of_ble_eq_true rfl⟩ rfl (Nat.le_of_ble_eq_true rfl) dX7_init_86 ⟨Nat.le_trans (Nat.add_le_add_left hm1 _) hB.1, Nat.le_trans (Nat.add_le_add_left hs1 _) hB.2⟩) (fun S61 hf H locs cells slots hH hB => ?_)
    refine q_putF (T := TX7) (N := 12) (ty0 := tyX7) (ty := tyX7 7) X hH hf iw_X7 tyX7_ok nmX7 rfl (by decide) tw_260 (fun _ h => h) rfl hnm rfl (tyX7_ok 7 (by decide)) rfl rfl dX7_init_89 (fun S64 hf H locs hH => ?_)
    refine lv_aload_n hx hb dX7_init_92 rfl (lv_at hl 0 rfl) ?_
    refine q_new (T := TX4) (N := 4) X hH hB hf iw_X4 tyX4 tyX4_ok rfl tw_232 tw_233 tw_41 (fun j hj => by rcases (show j = 0 ∨ j = 1 ∨ j = 2 ∨ j = 3 by omega) with rfl | rfl | rfl | rfl <;> rfl) dX7_init_93 (fun q65 S66 bc67 bs68 hf H locs cells slots hH hB => ?_)
    refine lv_dup hx hb dX7_init_96 rfl ?_
    refine q_backV0 X hH (q_runIN [] [.ref q65, .ref a0] X hH hl (c_X4_init l D cy G X.2.2.2.1 S66 q65 _ _ hf) mf_X4_init tw_235 (List.mem_of_getElem? (i := 13) rfl) ⟨Nat.le_of_ble_eq_true rfl, Nat.le_of_ble_eq_true rfl⟩ rfl (Nat.le_of_ble_eq_true rfl) dX7_init_97 ⟨Nat.le_trans (Nat.le_add_right _ _) hB.1, Nat.le_trans (Nat.le_add_right _ _) hB.2⟩) (fun S69 hf H locs hH => ?_)
    refine q_putF (T := TX7) (N := 12) (ty0 := tyX7) (ty := tyX7 8) X hH hf iw_X7 tyX7_ok nmX7 rfl (by decide) tw_261 (fun _ h => h) rfl hnm rfl (tyX7_ok 8 (by decide)) rfl rfl dX7_init_100 (fun S71 hf H locs hH => ?_)
    refine lv_aload_n hx hb dX7_init_103 rfl (lv_at hl 0 rfl) ?_
    refine q_new (T := TJ4) (N := 4) X hH hB hf iw_J4 tyJ4 tyJ4_ok rfl tw_251 tw_178 tw_38 (fun j hj => by rcases (show j = 0 ∨ j = 1 ∨ j = 2 ∨ j = 3 by omega) with rfl | rfl | rfl | rfl <;> rfl) dX7_init_104 (fun q72 S73 bc74 bs75 hf H locs cells slots hH hB => ?_)
    refine lv_dup hx hb dX7_init_107 rfl ?_
    obtain ⟨mc77, ms77, hm1, hs1, hf⟩ := hf
    refine q_backVB X hH hB hm1 hs1 (q_runI [] [.ref q72, .ref a0] X hH hl (c_J4_init_da8c8 l D cy G X.2.2.2.1 hGC S73 q72 mc77 ms77 _ _ hf) mf_J4_init_da8c8 tw_180 tw_252 ⟨Nat.le_of_ble_eq_true rfl, Nat.le_of_ble_eq_true rfl⟩ rfl (Nat.le_of_ble_eq_true rfl) dX7_init_108 ⟨Nat.le_trans (Nat.add_le_add_left hm1 _) hB.1, Nat.le_trans (Nat.add_le_add_left hs1 _) hB.2⟩) (fun S76 hf H locs cells slots hH hB => ?_)
    refine q_putF (T := TX7) (N := 12) (ty0 := tyX7) (ty := tyX7 9) X hH hf iw_X7 tyX7_ok nmX7 rfl (by decide) tw_262 (fun _ h => h) rfl hnm rfl (tyX7_ok 9 (by decide)) rfl rfl dX7_init_111 (fun S79 hf H locs hH => ?_)
    refine lv_aload_n hx hb dX7_init_114 rfl (lv_at hl 0 rfl) ?_
    refine lv_bipush (v := 9) hx hb dX7_init_115 (by decide) ?_
    refine q_newa (t := 0) (atype := .int) (ty := .int) X hH hB hf tw_98 rfl rfl (fun C h => by cases h) (fun N cA => rfl) (by decide) dX7_init_117 (fun q80 S81 bc82 bs83 hf H locs cells slots hH hB => ?_)
    refine q_putF (T := TX7) (N := 12) (ty0 := tyX7) (ty := tyX7 10) X hH hf iw_X7 tyX7_ok nmX7 rfl (by decide) tw_263 (fun _ h => h) rfl hnm rfl (tyX7_ok 10 (by decide)) rfl rfl dX7_init_119 (fun S84 hf H locs hH => ?_)
    refine lv_aload_n hx hb dX7_init_122 rfl (lv_at hl 0 rfl) ?_
    refine lv_null hx hb dX7_init_123 ?_
    refine q_putV (T := TX7) (N := 12) (ty0 := tyX7) (ty := tyX7 11) X hH hf iw_X7 tyX7_ok nmX7 rfl (by decide) tw_264 (fun _ h => h) rfl (tyX7_ok 11 (by decide)) rfl rfl dX7_init_124 (fun S85 hf H locs hH => ?_)
    exact q_retV X hH hr hlk hf (Nat.le_trans (Nat.le_add_right _ _) hB.1) (Nat.le_trans (Nat.le_add_right _ _) hB.2) dX7_init_127
  exact main s.heap [] ls 0 0 mc ms hf hH hl ⟨by omega, by omega⟩
-- X7_householdOf
def f_X7_householdOf (S : PS) (a0 : Nat) (a1 : Int32) (a2 : Int32) (bc bs : Nat) (post : Int32 → PS → Prop) (postX : String → PS → Prop) : Prop :=
  gR S a0 11 0 fun v1 => (
  isO S v1 10 (
  f_X6_has S v1 a1 fun v3 S2 => (
  if v3 = 0 then
    tX S2 "java/lang/IndexOutOfBoundsException" bc bs postX
  else
    if a2 = 0 then
      gR S2 a0 11 0 fun v6 => (
      isO S2 v6 10 (
      f_X6_sideOf S2 v6 a1 fun v8 S7 => (
      post v8 S7)))
    else
    if a2 = 1 then
      gR S2 a0 11 0 fun v10 => (
      isO S2 v10 10 (
      f_X6_bondsOf S2 v10 a1 fun v12 S11 => (
      post v12 S11)))
    else
    if a2 = 2 then
      gR S2 a0 11 0 fun v14 => (
      gR S2 a0 11 0 fun v15 => (
      isO S2 v15 10 (
      f_X6_everyone S2 v15 fun v17 S16 => (
      isO S16 v14 10 (
      f_X6_tieToSet S16 v14 a1 v17 fun v19 S18 => (
      post v19 S18))))))
    else
    if a2 = 3 then
      gR S2 a0 11 0 fun v21 => (
      gR S2 a0 11 0 fun v22 => (
      isO S2 v22 10 (
      f_X6_sameSide S2 v22 a1 fun v24 S23 => (
      isO S23 v21 10 (
      f_X6_tieToSet S23 v21 a1 v24 fun v26 S25 => (
      post v26 S25))))))
    else
    if a2 = 4 then
      gR S2 a0 11 0 fun v28 => (
      gR S2 a0 11 0 fun v29 => (
      isO S2 v29 10 (
      f_X6_otherSide S2 v29 a1 fun v31 S30 => (
      isO S30 v28 10 (
      f_X6_tieToSet S30 v28 a1 v31 fun v33 S32 => (
      post v33 S32))))))
    else
    if a2 = 5 then
      gR S2 a0 11 0 fun v35 => (
      isO S2 v35 10 (
      f_X6_closestTo S2 v35 a1 fun v37 S36 => (
      post v37 S36)))
    else
      tX S2 "java/lang/IllegalArgumentException" bc bs postX)))
abbrev rm_X7_householdOf (mc ms : Nat) : Room := { frames := 6, cells := mc, slots := ms, locals := 90 }
set_option maxHeartbeats 4000000 in
set_option maxRecDepth 100000 in
theorem c_X7_householdOf (l : Launch) (D : va_G) (cy : Nat → ClassId) (G : p_GT) (hG : p_ok G) (hst : l.stackTraces = false) (hGE : ∀ (A : Nat → Prop) (U : State) (H : Heap), G A U H → p_Ex A U H) (S : PS) (a0 : Nat) (a1 : Int32) (a2 : Int32) (mc ms : Nat) (post : Int32 → PS → Prop) (postX : String → PS → Prop) (sz : Nat) (hf : f_X7_householdOf S a0 a1 a2 mc ms post postX) : p_Xi l D cy G S sz yX7_householdOf (Cond.code yX7_householdOf cX7_householdOf 3 (some .int) :: wG) (rm_X7_householdOf mc ms) [.ref a0, .int a1, .int a2] mc ms post postX := by
  refine q_startX hG (Qc := fun A => va_Qi post (p_Post D cy A) A) (XC := fun A => p_XC D cy A postX) mf_X7_householdOf (Nat.le_of_ble_eq_true rfl) (own := RX7) rfl ?_
  intro p e s m below meth c A X hr hlk hnm htab ls hl hH
  have hx := X.1.1
  have hb := X.1.2.1
  replace hl : lv_has ls 3 [(0, .ref a0), (1, .int a1), (2, .int a2)] := hl
  have main : ∀ (H : Heap) (locs : List Loc) (ls : Array Slot) (cells slots bc bs : Nat), f_X7_householdOf S a0 a1 a2 bc bs post postX → p_H D cy S A s H locs → lv_has ls 3 [(0, .ref a0), (1, .int a1), (2, .int a2)] → cells + bc ≤ mc ∧ slots + bs ≤ ms → W p l e (rm_X7_householdOf mc ms) s m [.ref a0, .int a1, .int a2].toArray below meth c H locs cells slots (vx_MQ below (va_Qi post (p_Post D cy A) A) (p_XC D cy A postX) [.ref a0, .int a1, .int a2].toArray s mc ms A) (F0 m 0 ls []) := by
    intro H locs ls cells slots bc bs hf hH hl hB
    refine lv_aload_n hx hb dX7_householdOf_0 rfl (lv_at hl 0 rfl) ?_
    refine q_getR (T := TX7) (N := 12) X hH hf iw_X7 rfl (by decide) tw_253 (fun _ h => h) dX7_householdOf_1 (fun v1 hf => ?_)
    refine lv_iload_n hx hb dX7_householdOf_4 rfl (lv_at hl 1 rfl) ?_
    obtain ⟨hb1, hb2, hf⟩ := hf
    refine q_backI0 X hH (q_runV [.int a1] [] X hH hl (c_X6_has l D cy G X.2.2.2.1 S v1 a1 _ _ hf) mf_X6_has mv_X6_has tw_294 ⟨Nat.le_of_ble_eq_true rfl, Nat.le_of_ble_eq_true rfl⟩ hb1 hb2 (T := TX6) (N := 6) rfl rfl (Nat.le_of_ble_eq_true rfl) dX7_householdOf_5 ⟨Nat.le_trans (Nat.le_add_right _ _) hB.1, Nat.le_trans (Nat.le_add_right _ _) hB.2⟩) (fun v3 S2 hf H locs hH => ?_)
    refine lv_if_ne (tgt := 21) hx hb dX7_householdOf_8 (by decide) (fun c4 => ?_) (fun c4 => ?_)
    · have hf := (if_neg c4).mp hf
      refine lv_iload_n hx hb dX7_householdOf_21 rfl (lv_at hl 2 rfl) ?_
      by_cases c5 : a2 = 0
      · have hf := (if_pos c5).mp hf
        refine lv_tableIn (off := 38) (tgt := 60) hx hb dX7_householdOf_22 (by rw [c5]; decide) (by rw [c5]; decide) (by rw [c5]; rfl) (by decide) ?_
        refine lv_aload_n hx hb dX7_householdOf_60 rfl (lv_at hl 0 rfl) ?_
        refine q_getR (T := TX7) (N := 12) X hH hf iw_X7 rfl (by decide) tw_253 (fun _ h => h) dX7_householdOf_61 (fun v6 hf => ?_)
        refine lv_iload_n hx hb dX7_householdOf_64 rfl (lv_at hl 1 rfl) ?_
        obtain ⟨hb1, hb2, hf⟩ := hf
        refine q_backI0 X hH (q_runV [.int a1] [] X hH hl (c_X6_sideOf l D cy G X.2.2.2.1 S2 v6 a1 _ _ hf) mf_X6_sideOf mv_X6_sideOf tw_367 ⟨Nat.le_of_ble_eq_true rfl, Nat.le_of_ble_eq_true rfl⟩ hb1 hb2 (T := TX6) (N := 6) rfl rfl (Nat.le_of_ble_eq_true rfl) dX7_householdOf_65 ⟨Nat.le_trans (Nat.le_add_right _ _) hB.1, Nat.le_trans (Nat.le_add_right _ _) hB.2⟩) (fun v8 S7 hf H locs hH => ?_)
        exact vx_ret (q_retI X hH hr hlk hf (Nat.le_trans (Nat.le_add_right _ _) hB.1) (Nat.le_trans (Nat.le_add_right _ _) hB.2) dX7_householdOf_68)
      · have hf := (if_neg c5).mp hf
        by_cases c9 : a2 = 1
        · have hf := (if_pos c9).mp hf
          refine lv_tableIn (off := 47) (tgt := 69) hx hb dX7_householdOf_22 (by rw [c9]; decide) (by rw [c9]; decide) (by rw [c9]; rfl) (by decide) ?_
          refine lv_aload_n hx hb dX7_householdOf_69 rfl (lv_at hl 0 rfl) ?_
          refine q_getR (T := TX7) (N := 12) X hH hf iw_X7 rfl (by decide) tw_253 (fun _ h => h) dX7_householdOf_70 (fun v10 hf => ?_)
          refine lv_iload_n hx hb dX7_householdOf_73 rfl (lv_at hl 1 rfl) ?_
          obtain ⟨hb1, hb2, hf⟩ := hf
          refine q_backI0 X hH (q_runV [.int a1] [] X hH hl (c_X6_bondsOf l D cy G X.2.2.2.1 S2 v10 a1 _ _ hf) mf_X6_bondsOf mv_X6_bondsOf tw_374 ⟨Nat.le_of_ble_eq_true rfl, Nat.le_of_ble_eq_true rfl⟩ hb1 hb2 (T := TX6) (N := 6) rfl rfl (Nat.le_of_ble_eq_true rfl) dX7_householdOf_74 ⟨Nat.le_trans (Nat.le_add_right _ _) hB.1, Nat.le_trans (Nat.le_add_right _ _) hB.2⟩) (fun v12 S11 hf H locs hH => ?_)
          exact vx_ret (q_retI X hH hr hlk hf (Nat.le_trans (Nat.le_add_right _ _) hB.1) (Nat.le_trans (Nat.le_add_right _ _) hB.2) dX7_householdOf_77)
        · have hf := (if_neg c9).mp hf
          by_cases c13 : a2 = 2
          · have hf := (if_pos c13).mp hf
            refine lv_tableIn (off := 56) (tgt := 78) hx hb dX7_householdOf_22 (by rw [c13]; decide) (by rw [c13]; decide) (by rw [c13]; rfl) (by decide) ?_
            refine lv_aload_n hx hb dX7_householdOf_78 rfl (lv_at hl 0 rfl) ?_
            refine q_getR (T := TX7) (N := 12) X hH hf iw_X7 rfl (by decide) tw_253 (fun _ h => h) dX7_householdOf_79 (fun v14 hf => ?_)
            refine lv_iload_n hx hb dX7_householdOf_82 rfl (lv_at hl 1 rfl) ?_
            refine lv_aload_n hx hb dX7_householdOf_83 rfl (lv_at hl 0 rfl) ?_
            refine q_getR (T := TX7) (N := 12) X hH hf iw_X7 rfl (by decide) tw_253 (fun _ h => h) dX7_householdOf_84 (fun v15 hf => ?_)
            obtain ⟨hb1, hb2, hf⟩ := hf
            refine q_backI0 X hH (q_runV [] [.int a1, .ref v14] X hH hl (c_X6_everyone l D cy G X.2.2.2.1 S2 v15 _ _ hf) mf_X6_everyone mv_X6_everyone tw_383 ⟨Nat.le_of_ble_eq_true rfl, Nat.le_of_ble_eq_true rfl⟩ hb1 hb2 (T := TX6) (N := 6) rfl rfl (Nat.le_of_ble_eq_true rfl) dX7_householdOf_87 ⟨Nat.le_trans (Nat.le_add_right _ _) hB.1, Nat.le_trans (Nat.le_add_right _ _) hB.2⟩) (fun v17 S16 hf H locs hH => ?_)
            obtain ⟨hb1, hb2, hf⟩ := hf
            refine q_backI0 X hH (q_runV [.int a1, .int v17] [] X hH hl (c_X6_tieToSet l D cy G X.2.2.2.1 S16 v14 a1 v17 _ _ hf) mf_X6_tieToSet mv_X6_tieToSet tw_387 ⟨Nat.le_of_ble_eq_true rfl, Nat.le_of_ble_eq_true rfl⟩ hb1 hb2 (T := TX6) (N := 6) rfl rfl (Nat.le_of_ble_eq_true rfl) dX7_householdOf_90 ⟨Nat.le_trans (Nat.le_add_right _ _) hB.1, Nat.le_trans (Nat.le_add_right _ _) hB.2⟩) (fun v19 S18 hf H locs hH => ?_)
            exact vx_ret (q_retI X hH hr hlk hf (Nat.le_trans (Nat.le_add_right _ _) hB.1) (Nat.le_trans (Nat.le_add_right _ _) hB.2) dX7_householdOf_93)
          · have hf := (if_neg c13).mp hf
            by_cases c20 : a2 = 3
            · have hf := (if_pos c20).mp hf
              refine lv_tableIn (off := 72) (tgt := 94) hx hb dX7_householdOf_22 (by rw [c20]; decide) (by rw [c20]; decide) (by rw [c20]; rfl) (by decide) ?_
              refine lv_aload_n hx hb dX7_householdOf_94 rfl (lv_at hl 0 rfl) ?_
              refine q_getR (T := TX7) (N := 12) X hH hf iw_X7 rfl (by decide) tw_253 (fun _ h => h) dX7_householdOf_95 (fun v21 hf => ?_)
              refine lv_iload_n hx hb dX7_householdOf_98 rfl (lv_at hl 1 rfl) ?_
              refine lv_aload_n hx hb dX7_householdOf_99 rfl (lv_at hl 0 rfl) ?_
              refine q_getR (T := TX7) (N := 12) X hH hf iw_X7 rfl (by decide) tw_253 (fun _ h => h) dX7_householdOf_100 (fun v22 hf => ?_)
              refine lv_iload_n hx hb dX7_householdOf_103 rfl (lv_at hl 1 rfl) ?_
              obtain ⟨hb1, hb2, hf⟩ := hf
              refine q_backI0 X hH (q_runV [.int a1] [.int a1, .ref v21] X hH hl (c_X6_sameSide l D cy G X.2.2.2.1 S2 v22 a1 _ _ hf) mf_X6_sameSide mv_X6_sameSide tw_391 ⟨Nat.le_of_ble_eq_true rfl, Nat.le_of_ble_eq_true rfl⟩ hb1 hb2 (T := TX6) (N := 6) rfl rfl (Nat.le_of_ble_eq_true rfl) dX7_householdOf_104 ⟨Nat.le_trans (Nat.le_add_right _ _) hB.1, Nat.le_trans (Nat.le_add_right _ _) hB.2⟩) (fun v24 S23 hf H locs hH => ?_)
              obtain ⟨hb1, hb2, hf⟩ := hf
              refine q_backI0 X hH (q_runV [.int a1, .int v24] [] X hH hl (c_X6_tieToSet l D cy G X.2.2.2.1 S23 v21 a1 v24 _ _ hf) mf_X6_tieToSet mv_X6_tieToSet tw_387 ⟨Nat.le_of_ble_eq_true rfl, Nat.le_of_ble_eq_true rfl⟩ hb1 hb2 (T := TX6) (N := 6) rfl rfl (Nat.le_of_ble_eq_true rfl) dX7_householdOf_107 ⟨Nat.le_trans (Nat.le_add_right _ _) hB.1, Nat.le_trans (Nat.le_add_right _ _) hB.2⟩) (fun v26 S25 hf H locs hH => ?_)
              exact vx_ret (q_retI X hH hr hlk hf (Nat.le_trans (Nat.le_add_right _ _) hB.1) (Nat.le_trans (Nat.le_add_right _ _) hB.2) dX7_householdOf_110)
            · have hf := (if_neg c20).mp hf
              by_cases c27 : a2 = 4
              · have hf := (if_pos c27).mp hf
                refine lv_tableIn (off := 89) (tgt := 111) hx hb dX7_householdOf_22 (by rw [c27]; decide) (by rw [c27]; decide) (by rw [c27]; rfl) (by decide) ?_
                refine lv_aload_n hx hb dX7_householdOf_111 rfl (lv_at hl 0 rfl) ?_
                refine q_getR (T := TX7) (N := 12) X hH hf iw_X7 rfl (by decide) tw_253 (fun _ h => h) dX7_householdOf_112 (fun v28 hf => ?_)
                refine lv_iload_n hx hb dX7_householdOf_115 rfl (lv_at hl 1 rfl) ?_
                refine lv_aload_n hx hb dX7_householdOf_116 rfl (lv_at hl 0 rfl) ?_
                refine q_getR (T := TX7) (N := 12) X hH hf iw_X7 rfl (by decide) tw_253 (fun _ h => h) dX7_householdOf_117 (fun v29 hf => ?_)
                refine lv_iload_n hx hb dX7_householdOf_120 rfl (lv_at hl 1 rfl) ?_
                obtain ⟨hb1, hb2, hf⟩ := hf
                refine q_backI0 X hH (q_runV [.int a1] [.int a1, .ref v28] X hH hl (c_X6_otherSide l D cy G X.2.2.2.1 S2 v29 a1 _ _ hf) mf_X6_otherSide mv_X6_otherSide tw_397 ⟨Nat.le_of_ble_eq_true rfl, Nat.le_of_ble_eq_true rfl⟩ hb1 hb2 (T := TX6) (N := 6) rfl rfl (Nat.le_of_ble_eq_true rfl) dX7_householdOf_121 ⟨Nat.le_trans (Nat.le_add_right _ _) hB.1, Nat.le_trans (Nat.le_add_right _ _) hB.2⟩) (fun v31 S30 hf H locs hH => ?_)
                obtain ⟨hb1, hb2, hf⟩ := hf
                refine q_backI0 X hH (q_runV [.int a1, .int v31] [] X hH hl (c_X6_tieToSet l D cy G X.2.2.2.1 S30 v28 a1 v31 _ _ hf) mf_X6_tieToSet mv_X6_tieToSet tw_387 ⟨Nat.le_of_ble_eq_true rfl, Nat.le_of_ble_eq_true rfl⟩ hb1 hb2 (T := TX6) (N := 6) rfl rfl (Nat.le_of_ble_eq_true rfl) dX7_householdOf_124 ⟨Nat.le_trans (Nat.le_add_right _ _) hB.1, Nat.le_trans (Nat.le_add_right _ _) hB.2⟩) (fun v33 S32 hf H locs hH => ?_)
                exact vx_ret (q_retI X hH hr hlk hf (Nat.le_trans (Nat.le_add_right _ _) hB.1) (Nat.le_trans (Nat.le_add_right _ _) hB.2) dX7_householdOf_127)
              · have hf := (if_neg c27).mp hf
                by_cases c34 : a2 = 5
                · have hf := (if_pos c34).mp hf
                  refine lv_tableIn (off := 106) (tgt := 128) hx hb dX7_householdOf_22 (by rw [c34]; decide) (by rw [c34]; decide) (by rw [c34]; rfl) (by decide) ?_
                  refine lv_aload_n hx hb dX7_householdOf_128 rfl (lv_at hl 0 rfl) ?_
                  refine q_getR (T := TX7) (N := 12) X hH hf iw_X7 rfl (by decide) tw_253 (fun _ h => h) dX7_householdOf_129 (fun v35 hf => ?_)
                  refine lv_iload_n hx hb dX7_householdOf_132 rfl (lv_at hl 1 rfl) ?_
                  obtain ⟨hb1, hb2, hf⟩ := hf
                  refine q_backI0 X hH (q_runV [.int a1] [] X hH hl (c_X6_closestTo l D cy G X.2.2.2.1 S2 v35 a1 _ _ hf) mf_X6_closestTo mv_X6_closestTo tw_402 ⟨Nat.le_of_ble_eq_true rfl, Nat.le_of_ble_eq_true rfl⟩ hb1 hb2 (T := TX6) (N := 6) rfl rfl (Nat.le_of_ble_eq_true rfl) dX7_householdOf_133 ⟨Nat.le_trans (Nat.le_add_right _ _) hB.1, Nat.le_trans (Nat.le_add_right _ _) hB.2⟩) (fun v37 S36 hf H locs hH => ?_)
                  exact vx_ret (q_retI X hH hr hlk hf (Nat.le_trans (Nat.le_add_right _ _) hB.1) (Nat.le_trans (Nat.le_add_right _ _) hB.2) dX7_householdOf_136)
                · have hf := (if_neg c34).mp hf
                  refine lv_tableOut (tgt := 137) hx hb dX7_householdOf_22 (by have z0 := lv_neT c5 (a := 0) rfl; have z1 := lv_neT c9 (a := 1) rfl; have z2 := lv_neT c13 (a := 2) rfl; have z3 := lv_neT c20 (a := 3) rfl; have z4 := lv_neT c27 (a := 4) rfl; have z5 := lv_neT c34 (a := 5) rfl; omega) (by decide) ?_
                  exact q_throw X hH hl hB rfl rfl hst (hGE _ _ _ X.2.2.2.2) hf tw_406 tw_48 (text := "what is not 0 to 5") (List.mem_of_getElem? (i := 7) rfl) xa_IllegalArgumentException xg_IllegalArgumentException (by decide +kernel) (by decide +kernel) dX7_householdOf_137 dX7_householdOf_140 dX7_householdOf_141 dX7_householdOf_143 dX7_householdOf_146 htab ⟨Nat.le_of_ble_eq_true rfl, Nat.le_of_ble_eq_true rfl⟩ (Nat.le_of_ble_eq_true rfl) hlk
    · have hf := (if_pos c4).mp hf
      exact q_throw X hH hl hB rfl rfl hst (hGE _ _ _ X.2.2.2.2) hf tw_298 tw_52 (text := "there is no such household") (List.mem_of_getElem? (i := 1) rfl) xa_IndexOutOfBoundsException xg_IndexOutOfBoundsException (by decide +kernel) (by decide +kernel) dX7_householdOf_11 dX7_householdOf_14 dX7_householdOf_15 dX7_householdOf_17 dX7_householdOf_20 htab ⟨Nat.le_of_ble_eq_true rfl, Nat.le_of_ble_eq_true rfl⟩ (Nat.le_of_ble_eq_true rfl) hlk
  exact main s.heap [] ls 0 0 mc ms hf hH hl ⟨by omega, by omega⟩
-- X7_feud
def f_X7_feud (S : PS) (a0 : Nat) (post : Int32 → PS → Prop) : Prop :=
  gR S a0 11 0 fun v1 => (
  isO S v1 10 (
  f_X6_feudByBonds S v1 fun v3 S2 => (
  post v3 S2)))
abbrev rm_X7_feud : Room := { frames := 3, cells := 0, slots := 0, locals := 66 }
set_option maxHeartbeats 4000000 in
set_option maxRecDepth 100000 in
theorem c_X7_feud (l : Launch) (D : va_G) (cy : Nat → ClassId) (G : p_GT) (hG : p_ok G) (S : PS) (a0 : Nat) (post : Int32 → PS → Prop) (sz : Nat) (hf : f_X7_feud S a0 post) : p_Mi l D cy G S sz yX7_feud (Cond.code yX7_feud cX7_feud 1 (some .int) :: wG) rm_X7_feud [.ref a0] 0 0 post := by
  refine q_start hG (Qc := fun A => va_Qi post (p_Post D cy A) A) mf_X7_feud (Nat.le_of_ble_eq_true rfl) (own := RX7) rfl ?_
  intro p e s m below meth c A X hr hlk hnm ls hl hH
  have hx := X.1.1
  have hb := X.1.2.1
  replace hl : lv_has ls 1 [(0, .ref a0)] := hl
  obtain ⟨H, hHe⟩ : ∃ H, H = s.heap := ⟨_, rfl⟩
  obtain ⟨locs, hlo⟩ : ∃ locs : List Loc, locs = [] := ⟨_, rfl⟩
  rw [← hHe, ← hlo] at hH
  show W p l e rm_X7_feud s m [.ref a0].toArray below meth c s.heap [] 0 0 _ _
  rw [← hHe, ← hlo]
  refine lv_aload_n hx hb dX7_feud_0 rfl (lv_at hl 0 rfl) ?_
  refine q_getR (T := TX7) (N := 12) X hH hf iw_X7 rfl (by decide) tw_253 (fun _ h => h) dX7_feud_1 (fun v1 hf => ?_)
  obtain ⟨hb1, hb2, hf⟩ := hf
  refine q_backI0 X hH (q_runV [] [] X hH hl (c_X6_feudByBonds l D cy G X.2.2.2.1 S v1 _ _ hf) mf_X6_feudByBonds mv_X6_feudByBonds tw_426 ⟨Nat.le_of_ble_eq_true rfl, Nat.le_of_ble_eq_true rfl⟩ hb1 hb2 (T := TX6) (N := 6) rfl rfl (Nat.le_of_ble_eq_true rfl) dX7_feud_4 ⟨Nat.le_of_ble_eq_true rfl, Nat.le_of_ble_eq_true rfl⟩) (fun v3 S2 hf H locs hH => ?_)
  exact q_retI X hH hr hlk hf (Nat.zero_le _) (Nat.zero_le _) dX7_feud_7
-- X7_feudAgain
def f_X7_feudAgain (S : PS) (a0 : Nat) (post : Int32 → PS → Prop) : Prop :=
  gR S a0 11 0 fun v1 => (
  isO S v1 10 (
  f_X6_feudByHalves S v1 fun v3 S2 => (
  post v3 S2)))
abbrev rm_X7_feudAgain : Room := { frames := 5, cells := 0, slots := 0, locals := 106 }
set_option maxHeartbeats 4000000 in
set_option maxRecDepth 100000 in
theorem c_X7_feudAgain (l : Launch) (D : va_G) (cy : Nat → ClassId) (G : p_GT) (hG : p_ok G) (S : PS) (a0 : Nat) (post : Int32 → PS → Prop) (sz : Nat) (hf : f_X7_feudAgain S a0 post) : p_Mi l D cy G S sz yX7_feudAgain (Cond.code yX7_feudAgain cX7_feudAgain 1 (some .int) :: wG) rm_X7_feudAgain [.ref a0] 0 0 post := by
  refine q_start hG (Qc := fun A => va_Qi post (p_Post D cy A) A) mf_X7_feudAgain (Nat.le_of_ble_eq_true rfl) (own := RX7) rfl ?_
  intro p e s m below meth c A X hr hlk hnm ls hl hH
  have hx := X.1.1
  have hb := X.1.2.1
  replace hl : lv_has ls 1 [(0, .ref a0)] := hl
  obtain ⟨H, hHe⟩ : ∃ H, H = s.heap := ⟨_, rfl⟩
  obtain ⟨locs, hlo⟩ : ∃ locs : List Loc, locs = [] := ⟨_, rfl⟩
  rw [← hHe, ← hlo] at hH
  show W p l e rm_X7_feudAgain s m [.ref a0].toArray below meth c s.heap [] 0 0 _ _
  rw [← hHe, ← hlo]
  refine lv_aload_n hx hb dX7_feudAgain_0 rfl (lv_at hl 0 rfl) ?_
  refine q_getR (T := TX7) (N := 12) X hH hf iw_X7 rfl (by decide) tw_253 (fun _ h => h) dX7_feudAgain_1 (fun v1 hf => ?_)
  obtain ⟨hb1, hb2, hf⟩ := hf
  refine q_backI0 X hH (q_runV [] [] X hH hl (c_X6_feudByHalves l D cy G X.2.2.2.1 S v1 _ _ hf) mf_X6_feudByHalves mv_X6_feudByHalves tw_434 ⟨Nat.le_of_ble_eq_true rfl, Nat.le_of_ble_eq_true rfl⟩ hb1 hb2 (T := TX6) (N := 6) rfl rfl (Nat.le_of_ble_eq_true rfl) dX7_feudAgain_4 ⟨Nat.le_of_ble_eq_true rfl, Nat.le_of_ble_eq_true rfl⟩) (fun v3 S2 hf H locs hH => ?_)
  exact q_retI X hH hr hlk hf (Nat.zero_le _) (Nat.zero_le _) dX7_feudAgain_7
-- X7_bestMove
def f_X7_bestMove_J56 (post : Int32 → PS → Prop) (postX : String → PS → Prop) (g24 : PS → Nat → Nat → Nat → Int32 → Int32 → Prop) (S : PS) (bc bs : Nat) (l0 : Nat) (l1 : Int32) (l2 : Int32) : Prop :=
  g24 S bc bs l0 l1 (l2 + 1)
def f_X7_bestMove_L24 (post : Int32 → PS → Prop) (postX : String → PS → Prop) : Nat → PS → Nat → Nat → Nat → Int32 → Int32 → Prop
  | 0, _, _, _, _, _, _ => False
  | n + 1, S, bc, bs, l0, l1, l2 =>
  gR S l0 11 0 fun v1 => (
  gI S v1 10 1 fun v2 => (
  if v2 ≤ l2 then
    post l1 S
  else
    gR S l0 11 0 fun v4 => (
    isO S v4 10 (
    f_X6_feudAfterMove S v4 l2 fun v6 S5 => (
    gR S5 l0 11 0 fun v7 => (
    isO S5 v7 10 (
    f_X6_feudAfterMove S5 v7 l1 fun v9 S8 => (
    if v9 ≤ v6 then
      f_X7_bestMove_J56 post postX (f_X7_bestMove_L24 post postX n) S8 bc bs l0 l1 l2
    else
      f_X7_bestMove_J56 post postX (f_X7_bestMove_L24 post postX n) S8 bc bs l0 l2 l2))))))))
def f_X7_bestMove (S : PS) (a0 : Nat) (bc bs : Nat) (post : Int32 → PS → Prop) (postX : String → PS → Prop) : Prop :=
  gR S a0 11 0 fun v1 => (
  gI S v1 10 1 fun v2 => (
  if v2 = 0 then
    tX S "java/util/NoSuchElementException" bc bs postX
  else
    f_X7_bestMove_L24 post postX 4096 S bc bs a0 0 1))
abbrev rm_X7_bestMove (mc ms : Nat) : Room := { frames := 6, cells := mc, slots := ms, locals := 105 }
set_option maxHeartbeats 4000000 in
set_option maxRecDepth 100000 in
theorem c_X7_bestMove (l : Launch) (D : va_G) (cy : Nat → ClassId) (G : p_GT) (hG : p_ok G) (hst : l.stackTraces = false) (hGE : ∀ (A : Nat → Prop) (U : State) (H : Heap), G A U H → p_Ex A U H) (S : PS) (a0 : Nat) (mc ms : Nat) (post : Int32 → PS → Prop) (postX : String → PS → Prop) (sz : Nat) (hf : f_X7_bestMove S a0 mc ms post postX) : p_Xi l D cy G S sz yX7_bestMove (Cond.code yX7_bestMove cX7_bestMove 3 (some .int) :: wG) (rm_X7_bestMove mc ms) [.ref a0] mc ms post postX := by
  refine q_startX hG (Qc := fun A => va_Qi post (p_Post D cy A) A) (XC := fun A => p_XC D cy A postX) mf_X7_bestMove (Nat.le_of_ble_eq_true rfl) (own := RX7) rfl ?_
  intro p e s m below meth c A X hr hlk hnm htab ls hl hH
  have hx := X.1.1
  have hb := X.1.2.1
  replace hl : lv_has ls 3 [(0, .ref a0)] := hl
  have main : ∀ (H : Heap) (locs : List Loc) (ls : Array Slot) (cells slots bc bs : Nat), f_X7_bestMove S a0 bc bs post postX → p_H D cy S A s H locs → lv_has ls 3 [(0, .ref a0)] → cells + bc ≤ mc ∧ slots + bs ≤ ms → W p l e (rm_X7_bestMove mc ms) s m [.ref a0].toArray below meth c H locs cells slots (vx_MQ below (va_Qi post (p_Post D cy A) A) (p_XC D cy A postX) [.ref a0].toArray s mc ms A) (F0 m 0 ls []) := by
    intro H locs ls cells slots bc bs hf hH hl hB
    have hL24 : ∀ (n24 : Nat) (S : PS) (bc bs : Nat) (l0 : Nat) (l1 : Int32) (l2 : Int32), f_X7_bestMove_L24 post postX n24 S bc bs l0 l1 l2 → ∀ (H : Heap) (locs : List Loc) (ls : Array Slot) (cells slots : Nat), p_H D cy S A s H locs → lv_has ls 3 [(0, .ref l0), (1, .int l1), (2, .int l2)] → cells + bc ≤ mc ∧ slots + bs ≤ ms → W p l e (rm_X7_bestMove mc ms) s m [.ref a0].toArray below meth c H locs cells slots (vx_MQ below (va_Qi post (p_Post D cy A) A) (p_XC D cy A postX) [.ref a0].toArray s mc ms A) (F0 m 24 ls []) := by
      intro n24
      induction n24 with
      | zero => intro S bc bs l0 l1 l2 hf; exact hf.elim
      | succ n24 ih24 =>
        intro S bc bs l0 l1 l2 hf H locs ls cells slots hH hl hB
        have hJ56 : ∀ (S : PS) (bc bs : Nat) (l0 : Nat) (l1 : Int32) (l2 : Int32), f_X7_bestMove_J56 post postX (f_X7_bestMove_L24 post postX n24) S bc bs l0 l1 l2 → ∀ (H : Heap) (locs : List Loc) (ls : Array Slot) (cells slots : Nat), p_H D cy S A s H locs → lv_has ls 3 [(0, .ref l0), (1, .int l1), (2, .int l2)] → cells + bc ≤ mc ∧ slots + bs ≤ ms → W p l e (rm_X7_bestMove mc ms) s m [.ref a0].toArray below meth c H locs cells slots (vx_MQ below (va_Qi post (p_Post D cy A) A) (p_XC D cy A postX) [.ref a0].toArray s mc ms A) (F0 m 56 ls []) := by
          intro S bc bs l0 l1 l2 hf H locs ls cells slots hH hl hB
          refine lv_iinc (v := l2 + 1) (lv' := [(2, .int (l2 + 1)), (0, .ref l0), (1, .int l1)]) hx hb dX7_bestMove_56 hl (k := 2) rfl rfl (by decide) rfl (fun ls hl => ?_)
          refine lv_goto (tgt := 24) hx hb dX7_bestMove_59 (by decide) ?_
          exact ih24 S bc bs l0 l1 (l2 + 1) hf H locs ls cells slots hH (lv_sub hl [1, 2, 0] rfl) hB
        refine lv_iload_n hx hb dX7_bestMove_24 rfl (lv_at hl 2 rfl) ?_
        refine lv_aload_n hx hb dX7_bestMove_25 rfl (lv_at hl 0 rfl) ?_
        refine q_getR (T := TX7) (N := 12) X hH hf iw_X7 rfl (by decide) tw_253 (fun _ h => h) dX7_bestMove_26 (fun v1 hf => ?_)
        refine q_getIN (T := TX6) (N := 6) X hH hf iw_X6 rfl (by decide) (List.mem_of_getElem? (i := 0) rfl) (fun _ h => h) dX7_bestMove_29 (fun v2 hf => ?_)
        refine lv_icmp_ge (tgt := 62) hx hb dX7_bestMove_32 (by decide) (fun c3 => ?_) (fun c3 => ?_)
        · have hf := (if_pos c3).mp hf
          refine lv_iload_n hx hb dX7_bestMove_62 rfl (lv_at hl 1 rfl) ?_
          exact vx_ret (q_retI X hH hr hlk hf (Nat.le_trans (Nat.le_add_right _ _) hB.1) (Nat.le_trans (Nat.le_add_right _ _) hB.2) dX7_bestMove_63)
        · have hf := (if_neg c3).mp hf
          refine lv_aload_n hx hb dX7_bestMove_35 rfl (lv_at hl 0 rfl) ?_
          refine q_getR (T := TX7) (N := 12) X hH hf iw_X7 rfl (by decide) tw_253 (fun _ h => h) dX7_bestMove_36 (fun v4 hf => ?_)
          refine lv_iload_n hx hb dX7_bestMove_39 rfl (lv_at hl 2 rfl) ?_
          obtain ⟨hb1, hb2, hf⟩ := hf
          refine q_backI0 X hH (q_runV [.int l2] [] X hH hl (c_X6_feudAfterMove l D cy G X.2.2.2.1 S v4 l2 _ _ hf) mf_X6_feudAfterMove mv_X6_feudAfterMove tw_598 ⟨Nat.le_of_ble_eq_true rfl, Nat.le_of_ble_eq_true rfl⟩ hb1 hb2 (T := TX6) (N := 6) rfl rfl (Nat.le_of_ble_eq_true rfl) dX7_bestMove_40 ⟨Nat.le_trans (Nat.le_add_right _ _) hB.1, Nat.le_trans (Nat.le_add_right _ _) hB.2⟩) (fun v6 S5 hf H locs hH => ?_)
          refine lv_aload_n hx hb dX7_bestMove_43 rfl (lv_at hl 0 rfl) ?_
          refine q_getR (T := TX7) (N := 12) X hH hf iw_X7 rfl (by decide) tw_253 (fun _ h => h) dX7_bestMove_44 (fun v7 hf => ?_)
          refine lv_iload_n hx hb dX7_bestMove_47 rfl (lv_at hl 1 rfl) ?_
          obtain ⟨hb1, hb2, hf⟩ := hf
          refine q_backI0 X hH (q_runV [.int l1] [.int v6] X hH hl (c_X6_feudAfterMove l D cy G X.2.2.2.1 S5 v7 l1 _ _ hf) mf_X6_feudAfterMove mv_X6_feudAfterMove tw_598 ⟨Nat.le_of_ble_eq_true rfl, Nat.le_of_ble_eq_true rfl⟩ hb1 hb2 (T := TX6) (N := 6) rfl rfl (Nat.le_of_ble_eq_true rfl) dX7_bestMove_48 ⟨Nat.le_trans (Nat.le_add_right _ _) hB.1, Nat.le_trans (Nat.le_add_right _ _) hB.2⟩) (fun v9 S8 hf H locs hH => ?_)
          refine lv_icmp_ge (tgt := 56) hx hb dX7_bestMove_51 (by decide) (fun c10 => ?_) (fun c10 => ?_)
          · have hf := (if_pos c10).mp hf
            exact hJ56 S8 bc bs l0 l1 l2 hf H locs ls cells slots hH hl hB
          · have hf := (if_neg c10).mp hf
            refine lv_iload_n hx hb dX7_bestMove_54 rfl (lv_at hl 2 rfl) ?_
            refine lv_istore_n (lv' := [(1, .int l2), (0, .ref l0), (2, .int l2)]) hx hb dX7_bestMove_55 rfl hl (by decide) rfl (fun ls hl => ?_)
            exact hJ56 S8 bc bs l0 l2 l2 hf H locs ls cells slots hH (lv_sub hl [1, 0, 2] rfl) hB
    refine lv_aload_n hx hb dX7_bestMove_0 rfl (lv_at hl 0 rfl) ?_
    refine q_getR (T := TX7) (N := 12) X hH hf iw_X7 rfl (by decide) tw_253 (fun _ h => h) dX7_bestMove_1 (fun v1 hf => ?_)
    refine q_getIN (T := TX6) (N := 6) X hH hf iw_X6 rfl (by decide) (List.mem_of_getElem? (i := 0) rfl) (fun _ h => h) dX7_bestMove_4 (fun v2 hf => ?_)
    refine lv_if_ne (tgt := 20) hx hb dX7_bestMove_7 (by decide) (fun c3 => ?_) (fun c3 => ?_)
    · have hf := (if_neg c3).mp hf
      refine lv_iconst (v := 0) hx hb dX7_bestMove_20 (by decide) ?_
      refine lv_istore_n (lv' := [(1, .int 0), (0, .ref a0)]) hx hb dX7_bestMove_21 rfl hl (by decide) rfl (fun ls hl => ?_)
      refine lv_iconst (v := 1) hx hb dX7_bestMove_22 (by decide) ?_
      refine lv_istore_n (lv' := [(2, .int 1), (1, .int 0), (0, .ref a0)]) hx hb dX7_bestMove_23 rfl hl (by decide) rfl (fun ls hl => ?_)
      exact hL24 4096 S bc bs a0 0 1 hf H locs ls cells slots hH (lv_sub hl [2, 1, 0] rfl) hB
    · have hf := (if_pos c3).mp hf
      exact q_throwX (by decide +kernel) (by decide +kernel) (by decide +kernel) (by decide +kernel) X hH hl hB rfl rfl hst (hGE _ _ _ X.2.2.2.2) hf tw_518 tw_49 (text := "there are no households") (List.mem_of_getElem? (i := 12) rfl) xa_NoSuchElementException xg_NoSuchElementException (by decide +kernel) (by decide +kernel) dX7_bestMove_10 dX7_bestMove_13 dX7_bestMove_14 dX7_bestMove_16 dX7_bestMove_19 htab ⟨Nat.le_of_ble_eq_true rfl, Nat.le_of_ble_eq_true rfl⟩ (Nat.le_of_ble_eq_true rfl) hlk
  exact main s.heap [] ls 0 0 mc ms hf hH hl ⟨by omega, by omega⟩
-- X7_ifMoved
def f_X7_ifMoved (S : PS) (a0 : Nat) (a1 : Int32) (bc bs : Nat) (post : Int32 → PS → Prop) (postX : String → PS → Prop) : Prop :=
  gR S a0 11 0 fun v1 => (
  isO S v1 10 (
  f_X6_has S v1 a1 fun v3 S2 => (
  if v3 = 0 then
    tX S2 "java/lang/IndexOutOfBoundsException" bc bs postX
  else
    gR S2 a0 11 0 fun v5 => (
    isO S2 v5 10 (
    f_X6_feudAfterMove S2 v5 a1 fun v7 S6 => (
    post v7 S6))))))
abbrev rm_X7_ifMoved (mc ms : Nat) : Room := { frames := 6, cells := mc, slots := ms, locals := 105 }
set_option maxHeartbeats 4000000 in
set_option maxRecDepth 100000 in
theorem c_X7_ifMoved (l : Launch) (D : va_G) (cy : Nat → ClassId) (G : p_GT) (hG : p_ok G) (hst : l.stackTraces = false) (hGE : ∀ (A : Nat → Prop) (U : State) (H : Heap), G A U H → p_Ex A U H) (S : PS) (a0 : Nat) (a1 : Int32) (mc ms : Nat) (post : Int32 → PS → Prop) (postX : String → PS → Prop) (sz : Nat) (hf : f_X7_ifMoved S a0 a1 mc ms post postX) : p_Xi l D cy G S sz yX7_ifMoved (Cond.code yX7_ifMoved cX7_ifMoved 2 (some .int) :: wG) (rm_X7_ifMoved mc ms) [.ref a0, .int a1] mc ms post postX := by
  refine q_startX hG (Qc := fun A => va_Qi post (p_Post D cy A) A) (XC := fun A => p_XC D cy A postX) mf_X7_ifMoved (Nat.le_of_ble_eq_true rfl) (own := RX7) rfl ?_
  intro p e s m below meth c A X hr hlk hnm htab ls hl hH
  have hx := X.1.1
  have hb := X.1.2.1
  replace hl : lv_has ls 2 [(0, .ref a0), (1, .int a1)] := hl
  have main : ∀ (H : Heap) (locs : List Loc) (ls : Array Slot) (cells slots bc bs : Nat), f_X7_ifMoved S a0 a1 bc bs post postX → p_H D cy S A s H locs → lv_has ls 2 [(0, .ref a0), (1, .int a1)] → cells + bc ≤ mc ∧ slots + bs ≤ ms → W p l e (rm_X7_ifMoved mc ms) s m [.ref a0, .int a1].toArray below meth c H locs cells slots (vx_MQ below (va_Qi post (p_Post D cy A) A) (p_XC D cy A postX) [.ref a0, .int a1].toArray s mc ms A) (F0 m 0 ls []) := by
    intro H locs ls cells slots bc bs hf hH hl hB
    refine lv_aload_n hx hb dX7_ifMoved_0 rfl (lv_at hl 0 rfl) ?_
    refine q_getR (T := TX7) (N := 12) X hH hf iw_X7 rfl (by decide) tw_253 (fun _ h => h) dX7_ifMoved_1 (fun v1 hf => ?_)
    refine lv_iload_n hx hb dX7_ifMoved_4 rfl (lv_at hl 1 rfl) ?_
    obtain ⟨hb1, hb2, hf⟩ := hf
    refine q_backI0 X hH (q_runV [.int a1] [] X hH hl (c_X6_has l D cy G X.2.2.2.1 S v1 a1 _ _ hf) mf_X6_has mv_X6_has tw_294 ⟨Nat.le_of_ble_eq_true rfl, Nat.le_of_ble_eq_true rfl⟩ hb1 hb2 (T := TX6) (N := 6) rfl rfl (Nat.le_of_ble_eq_true rfl) dX7_ifMoved_5 ⟨Nat.le_trans (Nat.le_add_right _ _) hB.1, Nat.le_trans (Nat.le_add_right _ _) hB.2⟩) (fun v3 S2 hf H locs hH => ?_)
    refine lv_if_ne (tgt := 21) hx hb dX7_ifMoved_8 (by decide) (fun c4 => ?_) (fun c4 => ?_)
    · have hf := (if_neg c4).mp hf
      refine lv_aload_n hx hb dX7_ifMoved_21 rfl (lv_at hl 0 rfl) ?_
      refine q_getR (T := TX7) (N := 12) X hH hf iw_X7 rfl (by decide) tw_253 (fun _ h => h) dX7_ifMoved_22 (fun v5 hf => ?_)
      refine lv_iload_n hx hb dX7_ifMoved_25 rfl (lv_at hl 1 rfl) ?_
      obtain ⟨hb1, hb2, hf⟩ := hf
      refine q_backI0 X hH (q_runV [.int a1] [] X hH hl (c_X6_feudAfterMove l D cy G X.2.2.2.1 S2 v5 a1 _ _ hf) mf_X6_feudAfterMove mv_X6_feudAfterMove tw_598 ⟨Nat.le_of_ble_eq_true rfl, Nat.le_of_ble_eq_true rfl⟩ hb1 hb2 (T := TX6) (N := 6) rfl rfl (Nat.le_of_ble_eq_true rfl) dX7_ifMoved_26 ⟨Nat.le_trans (Nat.le_add_right _ _) hB.1, Nat.le_trans (Nat.le_add_right _ _) hB.2⟩) (fun v7 S6 hf H locs hH => ?_)
      exact vx_ret (q_retI X hH hr hlk hf (Nat.le_trans (Nat.le_add_right _ _) hB.1) (Nat.le_trans (Nat.le_add_right _ _) hB.2) dX7_ifMoved_29)
    · have hf := (if_pos c4).mp hf
      exact q_throw X hH hl hB rfl rfl hst (hGE _ _ _ X.2.2.2.2) hf tw_298 tw_52 (text := "there is no such household") (List.mem_of_getElem? (i := 1) rfl) xa_IndexOutOfBoundsException xg_IndexOutOfBoundsException (by decide +kernel) (by decide +kernel) dX7_ifMoved_11 dX7_ifMoved_14 dX7_ifMoved_15 dX7_ifMoved_17 dX7_ifMoved_20 htab ⟨Nat.le_of_ble_eq_true rfl, Nat.le_of_ble_eq_true rfl⟩ (Nat.le_of_ble_eq_true rfl) hlk
  exact main s.heap [] ls 0 0 mc ms hf hH hl ⟨by omega, by omega⟩
-- X7_parts
def f_X7_parts_J33 (post : Int32 → PS → Prop) (g4 : PS → Nat → Int32 → Int32 → Prop) (S : PS) (l0 : Nat) (l1 : Int32) (l2 : Int32) : Prop :=
  g4 S l0 l1 (l2 + 1)
def f_X7_parts_L4 (post : Int32 → PS → Prop) : Nat → PS → Nat → Int32 → Int32 → Prop
  | 0, _, _, _, _ => False
  | n + 1, S, l0, l1, l2 =>
  gR S l0 11 0 fun v1 => (
  gI S v1 10 1 fun v2 => (
  if v2 ≤ l2 then
    post l1 S
  else
    gR S l0 11 0 fun v4 => (
    isO S v4 10 (
    f_X6_reachOf S v4 l2 fun v6 S5 => (
    f_X7_lowestOf S5 v6 fun v8 S7 => (
    if v8 = l2 then
      f_X7_parts_J33 post (f_X7_parts_L4 post n) S7 l0 (l1 + 1) l2
    else
      f_X7_parts_J33 post (f_X7_parts_L4 post n) S7 l0 l1 l2))))))
def f_X7_parts (S : PS) (a0 : Nat) (post : Int32 → PS → Prop) : Prop :=
  f_X7_parts_L4 post 4096 S a0 0 0
abbrev rm_X7_parts : Room := { frames := 4, cells := 0, slots := 0, locals := 91 }
set_option maxHeartbeats 4000000 in
set_option maxRecDepth 100000 in
theorem c_X7_parts (l : Launch) (D : va_G) (cy : Nat → ClassId) (G : p_GT) (hG : p_ok G) (S : PS) (a0 : Nat) (post : Int32 → PS → Prop) (sz : Nat) (hf : f_X7_parts S a0 post) : p_Mi l D cy G S sz yX7_parts (Cond.code yX7_parts cX7_parts 3 (some .int) :: wG) rm_X7_parts [.ref a0] 0 0 post := by
  refine q_start hG (Qc := fun A => va_Qi post (p_Post D cy A) A) mf_X7_parts (Nat.le_of_ble_eq_true rfl) (own := RX7) rfl ?_
  intro p e s m below meth c A X hr hlk hnm ls hl hH
  have hx := X.1.1
  have hb := X.1.2.1
  replace hl : lv_has ls 3 [(0, .ref a0)] := hl
  obtain ⟨H, hHe⟩ : ∃ H, H = s.heap := ⟨_, rfl⟩
  obtain ⟨locs, hlo⟩ : ∃ locs : List Loc, locs = [] := ⟨_, rfl⟩
  rw [← hHe, ← hlo] at hH
  show W p l e rm_X7_parts s m [.ref a0].toArray below meth c s.heap [] 0 0 _ _
  rw [← hHe, ← hlo]
  have hL4 : ∀ (n4 : Nat) (S : PS) (l0 : Nat) (l1 : Int32) (l2 : Int32), f_X7_parts_L4 post n4 S l0 l1 l2 → ∀ (H : Heap) (locs : List Loc) (ls : Array Slot), p_H D cy S A s H locs → lv_has ls 3 [(0, .ref l0), (1, .int l1), (2, .int l2)] → W p l e rm_X7_parts s m [.ref a0].toArray below meth c H locs 0 0 (MQ below (va_Qi post (p_Post D cy A) A) [.ref a0].toArray s 0 0 A) (F0 m 4 ls []) := by
    intro n4
    induction n4 with
    | zero => intro S l0 l1 l2 hf; exact hf.elim
    | succ n4 ih4 =>
      intro S l0 l1 l2 hf H locs ls hH hl
      have hJ33 : ∀ (S : PS) (l0 : Nat) (l1 : Int32) (l2 : Int32), f_X7_parts_J33 post (f_X7_parts_L4 post n4) S l0 l1 l2 → ∀ (H : Heap) (locs : List Loc) (ls : Array Slot), p_H D cy S A s H locs → lv_has ls 3 [(0, .ref l0), (1, .int l1), (2, .int l2)] → W p l e rm_X7_parts s m [.ref a0].toArray below meth c H locs 0 0 (MQ below (va_Qi post (p_Post D cy A) A) [.ref a0].toArray s 0 0 A) (F0 m 33 ls []) := by
        intro S l0 l1 l2 hf H locs ls hH hl
        refine lv_iinc (v := l2 + 1) (lv' := [(2, .int (l2 + 1)), (0, .ref l0), (1, .int l1)]) hx hb dX7_parts_33 hl (k := 2) rfl rfl (by decide) rfl (fun ls hl => ?_)
        refine lv_goto (tgt := 4) hx hb dX7_parts_36 (by decide) ?_
        exact ih4 S l0 l1 (l2 + 1) hf H locs ls hH (lv_sub hl [1, 2, 0] rfl)
      refine lv_iload_n hx hb dX7_parts_4 rfl (lv_at hl 2 rfl) ?_
      refine lv_aload_n hx hb dX7_parts_5 rfl (lv_at hl 0 rfl) ?_
      refine q_getR (T := TX7) (N := 12) X hH hf iw_X7 rfl (by decide) tw_253 (fun _ h => h) dX7_parts_6 (fun v1 hf => ?_)
      refine q_getIN (T := TX6) (N := 6) X hH hf iw_X6 rfl (by decide) (List.mem_of_getElem? (i := 0) rfl) (fun _ h => h) dX7_parts_9 (fun v2 hf => ?_)
      refine lv_icmp_ge (tgt := 39) hx hb dX7_parts_12 (by decide) (fun c3 => ?_) (fun c3 => ?_)
      · have hf := (if_pos c3).mp hf
        refine lv_iload_n hx hb dX7_parts_39 rfl (lv_at hl 1 rfl) ?_
        exact q_retI X hH hr hlk hf (Nat.zero_le _) (Nat.zero_le _) dX7_parts_40
      · have hf := (if_neg c3).mp hf
        refine lv_aload_n hx hb dX7_parts_15 rfl (lv_at hl 0 rfl) ?_
        refine q_getR (T := TX7) (N := 12) X hH hf iw_X7 rfl (by decide) tw_253 (fun _ h => h) dX7_parts_16 (fun v4 hf => ?_)
        refine lv_iload_n hx hb dX7_parts_19 rfl (lv_at hl 2 rfl) ?_
        obtain ⟨hb1, hb2, hf⟩ := hf
        refine q_backI0 X hH (q_runV [.int l2] [] X hH hl (c_X6_reachOf l D cy G X.2.2.2.1 S v4 l2 _ _ hf) mf_X6_reachOf mv_X6_reachOf tw_607 ⟨Nat.le_of_ble_eq_true rfl, Nat.le_of_ble_eq_true rfl⟩ hb1 hb2 (T := TX6) (N := 6) rfl rfl (Nat.le_of_ble_eq_true rfl) dX7_parts_20 ⟨Nat.le_of_ble_eq_true rfl, Nat.le_of_ble_eq_true rfl⟩) (fun v6 S5 hf H locs hH => ?_)
        refine q_backI0 X hH (q_runS [.int v6] [] X hH hl (c_X7_lowestOf l D cy G X.2.2.2.1 S5 v6 _ _ hf) mf_X7_lowestOf tw_492 tw_511 ⟨Nat.le_of_ble_eq_true rfl, Nat.le_of_ble_eq_true rfl⟩ rfl (Nat.le_of_ble_eq_true rfl) dX7_parts_23 ⟨Nat.le_of_ble_eq_true rfl, Nat.le_of_ble_eq_true rfl⟩) (fun v8 S7 hf H locs hH => ?_)
        refine lv_iload_n hx hb dX7_parts_26 rfl (lv_at hl 2 rfl) ?_
        refine lv_icmp_ne (tgt := 33) hx hb dX7_parts_27 (by decide) (fun c9 => ?_) (fun c9 => ?_)
        · have hf := (if_neg c9).mp hf
          exact hJ33 S7 l0 l1 l2 hf H locs ls hH hl
        · have hf := (if_pos c9).mp hf
          refine lv_iinc (v := l1 + 1) (lv' := [(1, .int (l1 + 1)), (0, .ref l0), (2, .int l2)]) hx hb dX7_parts_30 hl (k := 1) rfl rfl (by decide) rfl (fun ls hl => ?_)
          exact hJ33 S7 l0 (l1 + 1) l2 hf H locs ls hH (lv_sub hl [1, 0, 2] rfl)
  refine lv_iconst (v := 0) hx hb dX7_parts_0 (by decide) ?_
  refine lv_istore_n (lv' := [(1, .int 0), (0, .ref a0)]) hx hb dX7_parts_1 rfl hl (by decide) rfl (fun ls hl => ?_)
  refine lv_iconst (v := 0) hx hb dX7_parts_2 (by decide) ?_
  refine lv_istore_n (lv' := [(2, .int 0), (1, .int 0), (0, .ref a0)]) hx hb dX7_parts_3 rfl hl (by decide) rfl (fun ls hl => ?_)
  exact hL4 4096 S a0 0 0 hf H locs ls hH (lv_sub hl [2, 1, 0] rfl)
-- X7_partOf
def f_X7_partOf (S : PS) (a0 : Nat) (a1 : Int32) (bc bs : Nat) (post : Int32 → PS → Prop) (postX : String → PS → Prop) : Prop :=
  gR S a0 11 0 fun v1 => (
  isO S v1 10 (
  f_X6_has S v1 a1 fun v3 S2 => (
  if v3 = 0 then
    tX S2 "java/lang/IndexOutOfBoundsException" bc bs postX
  else
    gR S2 a0 11 0 fun v5 => (
    isO S2 v5 10 (
    f_X6_reachOf S2 v5 a1 fun v7 S6 => (
    post v7 S6))))))
abbrev rm_X7_partOf (mc ms : Nat) : Room := { frames := 6, cells := mc, slots := ms, locals := 91 }
set_option maxHeartbeats 4000000 in
set_option maxRecDepth 100000 in
theorem c_X7_partOf (l : Launch) (D : va_G) (cy : Nat → ClassId) (G : p_GT) (hG : p_ok G) (hst : l.stackTraces = false) (hGE : ∀ (A : Nat → Prop) (U : State) (H : Heap), G A U H → p_Ex A U H) (S : PS) (a0 : Nat) (a1 : Int32) (mc ms : Nat) (post : Int32 → PS → Prop) (postX : String → PS → Prop) (sz : Nat) (hf : f_X7_partOf S a0 a1 mc ms post postX) : p_Xi l D cy G S sz yX7_partOf (Cond.code yX7_partOf cX7_partOf 2 (some .int) :: wG) (rm_X7_partOf mc ms) [.ref a0, .int a1] mc ms post postX := by
  refine q_startX hG (Qc := fun A => va_Qi post (p_Post D cy A) A) (XC := fun A => p_XC D cy A postX) mf_X7_partOf (Nat.le_of_ble_eq_true rfl) (own := RX7) rfl ?_
  intro p e s m below meth c A X hr hlk hnm htab ls hl hH
  have hx := X.1.1
  have hb := X.1.2.1
  replace hl : lv_has ls 2 [(0, .ref a0), (1, .int a1)] := hl
  have main : ∀ (H : Heap) (locs : List Loc) (ls : Array Slot) (cells slots bc bs : Nat), f_X7_partOf S a0 a1 bc bs post postX → p_H D cy S A s H locs → lv_has ls 2 [(0, .ref a0), (1, .int a1)] → cells + bc ≤ mc ∧ slots + bs ≤ ms → W p l e (rm_X7_partOf mc ms) s m [.ref a0, .int a1].toArray below meth c H locs cells slots (vx_MQ below (va_Qi post (p_Post D cy A) A) (p_XC D cy A postX) [.ref a0, .int a1].toArray s mc ms A) (F0 m 0 ls []) := by
    intro H locs ls cells slots bc bs hf hH hl hB
    refine lv_aload_n hx hb dX7_partOf_0 rfl (lv_at hl 0 rfl) ?_
    refine q_getR (T := TX7) (N := 12) X hH hf iw_X7 rfl (by decide) tw_253 (fun _ h => h) dX7_partOf_1 (fun v1 hf => ?_)
    refine lv_iload_n hx hb dX7_partOf_4 rfl (lv_at hl 1 rfl) ?_
    obtain ⟨hb1, hb2, hf⟩ := hf
    refine q_backI0 X hH (q_runV [.int a1] [] X hH hl (c_X6_has l D cy G X.2.2.2.1 S v1 a1 _ _ hf) mf_X6_has mv_X6_has tw_294 ⟨Nat.le_of_ble_eq_true rfl, Nat.le_of_ble_eq_true rfl⟩ hb1 hb2 (T := TX6) (N := 6) rfl rfl (Nat.le_of_ble_eq_true rfl) dX7_partOf_5 ⟨Nat.le_trans (Nat.le_add_right _ _) hB.1, Nat.le_trans (Nat.le_add_right _ _) hB.2⟩) (fun v3 S2 hf H locs hH => ?_)
    refine lv_if_ne (tgt := 21) hx hb dX7_partOf_8 (by decide) (fun c4 => ?_) (fun c4 => ?_)
    · have hf := (if_neg c4).mp hf
      refine lv_aload_n hx hb dX7_partOf_21 rfl (lv_at hl 0 rfl) ?_
      refine q_getR (T := TX7) (N := 12) X hH hf iw_X7 rfl (by decide) tw_253 (fun _ h => h) dX7_partOf_22 (fun v5 hf => ?_)
      refine lv_iload_n hx hb dX7_partOf_25 rfl (lv_at hl 1 rfl) ?_
      obtain ⟨hb1, hb2, hf⟩ := hf
      refine q_backI0 X hH (q_runV [.int a1] [] X hH hl (c_X6_reachOf l D cy G X.2.2.2.1 S2 v5 a1 _ _ hf) mf_X6_reachOf mv_X6_reachOf tw_607 ⟨Nat.le_of_ble_eq_true rfl, Nat.le_of_ble_eq_true rfl⟩ hb1 hb2 (T := TX6) (N := 6) rfl rfl (Nat.le_of_ble_eq_true rfl) dX7_partOf_26 ⟨Nat.le_trans (Nat.le_add_right _ _) hB.1, Nat.le_trans (Nat.le_add_right _ _) hB.2⟩) (fun v7 S6 hf H locs hH => ?_)
      exact vx_ret (q_retI X hH hr hlk hf (Nat.le_trans (Nat.le_add_right _ _) hB.1) (Nat.le_trans (Nat.le_add_right _ _) hB.2) dX7_partOf_29)
    · have hf := (if_pos c4).mp hf
      exact q_throw X hH hl hB rfl rfl hst (hGE _ _ _ X.2.2.2.2) hf tw_298 tw_52 (text := "there is no such household") (List.mem_of_getElem? (i := 1) rfl) xa_IndexOutOfBoundsException xg_IndexOutOfBoundsException (by decide +kernel) (by decide +kernel) dX7_partOf_11 dX7_partOf_14 dX7_partOf_15 dX7_partOf_17 dX7_partOf_20 htab ⟨Nat.le_of_ble_eq_true rfl, Nat.le_of_ble_eq_true rfl⟩ (Nat.le_of_ble_eq_true rfl) hlk
  exact main s.heap [] ls 0 0 mc ms hf hH hl ⟨by omega, by omega⟩
-- X7_account
def f_X7_account (S : PS) (a0 : Nat) (a1 : Int32) (bc bs : Nat) (post : Int32 → PS → Prop) (postX : String → PS → Prop) : Prop :=
  if a1 = 0 then
    gR S a0 11 0 fun v2 => (
    gI S v2 10 1 fun v3 => (
    post v3 S))
  else
  if a1 = 1 then
    gR S a0 11 0 fun v5 => (
    isO S v5 10 (
    f_X6_bondCount S v5 fun v7 S6 => (
    post v7 S6)))
  else
  if a1 = 2 then
    gR S a0 11 0 fun v9 => (
    isO S v9 10 (
    f_X6_weightSum S v9 fun v11 S10 => (
    post v11 S10)))
  else
  if a1 = 3 then
    gR S a0 11 0 fun v13 => (
    gI S v13 10 2 fun v14 => (
    f_J6_bitCount_0f7a4 S v14 fun v16 S15 => (
    post v16 S15)))
  else
  if a1 = 4 then
    gR S a0 11 0 fun v18 => (
    isO S v18 10 (
    f_X6_bondsAcross S v18 fun v20 S19 => (
    post v20 S19)))
  else
  if a1 = 5 then
    gR S a0 11 0 fun v22 => (
    gI S v22 10 3 fun v23 => (
    post v23 S))
  else
  if a1 = 6 then
    gR S a0 11 0 fun v25 => (
    gI S v25 10 4 fun v26 => (
    post v26 S))
  else
  if a1 = 7 then
    gR S a0 11 0 fun v28 => (
    gI S v28 10 5 fun v29 => (
    post v29 S))
  else
  if a1 = 8 then
    gR S a0 11 0 fun v31 => (
    isO S v31 10 (
    f_X6_lonelyCount S v31 fun v33 S32 => (
    post v33 S32)))
  else
  if a1 = 9 then
    gR S a0 11 7 fun v35 => (
    isO S v35 9 (
    f_X5_length S v35 fun v37 S36 => (
    post v37 S36)))
  else
  if a1 = 10 then
    gR S a0 11 3 fun v39 => (
    isO S v39 6 (
    f_X2_count S v39 fun v41 S40 => (
    post v41 S40)))
  else
    tX S "java/lang/IllegalArgumentException" bc bs postX
abbrev rm_X7_account (mc ms : Nat) : Room := { frames := 6, cells := mc, slots := ms, locals := 90 }
set_option maxHeartbeats 4000000 in
set_option maxRecDepth 100000 in
theorem c_X7_account (l : Launch) (D : va_G) (cy : Nat → ClassId) (G : p_GT) (hG : p_ok G) (hst : l.stackTraces = false) (hGE : ∀ (A : Nat → Prop) (U : State) (H : Heap), G A U H → p_Ex A U H) (S : PS) (a0 : Nat) (a1 : Int32) (mc ms : Nat) (post : Int32 → PS → Prop) (postX : String → PS → Prop) (sz : Nat) (hf : f_X7_account S a0 a1 mc ms post postX) : p_Xi l D cy G S sz yX7_account (Cond.code yX7_account cX7_account 2 (some .int) :: wG) (rm_X7_account mc ms) [.ref a0, .int a1] mc ms post postX := by
  refine q_startX hG (Qc := fun A => va_Qi post (p_Post D cy A) A) (XC := fun A => p_XC D cy A postX) mf_X7_account (Nat.le_of_ble_eq_true rfl) (own := RX7) rfl ?_
  intro p e s m below meth c A X hr hlk hnm htab ls hl hH
  have hx := X.1.1
  have hb := X.1.2.1
  replace hl : lv_has ls 2 [(0, .ref a0), (1, .int a1)] := hl
  have main : ∀ (H : Heap) (locs : List Loc) (ls : Array Slot) (cells slots bc bs : Nat), f_X7_account S a0 a1 bc bs post postX → p_H D cy S A s H locs → lv_has ls 2 [(0, .ref a0), (1, .int a1)] → cells + bc ≤ mc ∧ slots + bs ≤ ms → W p l e (rm_X7_account mc ms) s m [.ref a0, .int a1].toArray below meth c H locs cells slots (vx_MQ below (va_Qi post (p_Post D cy A) A) (p_XC D cy A postX) [.ref a0, .int a1].toArray s mc ms A) (F0 m 0 ls []) := by
    intro H locs ls cells slots bc bs hf hH hl hB
    refine lv_iload_n hx hb dX7_account_0 rfl (lv_at hl 1 rfl) ?_
    by_cases c1 : a1 = 0
    · have hf := (if_pos c1).mp hf
      refine lv_tableIn (off := 59) (tgt := 60) hx hb dX7_account_1 (by rw [c1]; decide) (by rw [c1]; decide) (by rw [c1]; rfl) (by decide) ?_
      refine lv_aload_n hx hb dX7_account_60 rfl (lv_at hl 0 rfl) ?_
      refine q_getR (T := TX7) (N := 12) X hH hf iw_X7 rfl (by decide) tw_253 (fun _ h => h) dX7_account_61 (fun v2 hf => ?_)
      refine q_getIN (T := TX6) (N := 6) X hH hf iw_X6 rfl (by decide) (List.mem_of_getElem? (i := 0) rfl) (fun _ h => h) dX7_account_64 (fun v3 hf => ?_)
      exact vx_ret (q_retI X hH hr hlk hf (Nat.le_trans (Nat.le_add_right _ _) hB.1) (Nat.le_trans (Nat.le_add_right _ _) hB.2) dX7_account_67)
    · have hf := (if_neg c1).mp hf
      by_cases c4 : a1 = 1
      · have hf := (if_pos c4).mp hf
        refine lv_tableIn (off := 67) (tgt := 68) hx hb dX7_account_1 (by rw [c4]; decide) (by rw [c4]; decide) (by rw [c4]; rfl) (by decide) ?_
        refine lv_aload_n hx hb dX7_account_68 rfl (lv_at hl 0 rfl) ?_
        refine q_getR (T := TX7) (N := 12) X hH hf iw_X7 rfl (by decide) tw_253 (fun _ h => h) dX7_account_69 (fun v5 hf => ?_)
        obtain ⟨hb1, hb2, hf⟩ := hf
        refine q_backI0 X hH (q_runV [] [] X hH hl (c_X6_bondCount l D cy G X.2.2.2.1 S v5 _ _ hf) mf_X6_bondCount mv_X6_bondCount tw_839 ⟨Nat.le_of_ble_eq_true rfl, Nat.le_of_ble_eq_true rfl⟩ hb1 hb2 (T := TX6) (N := 6) rfl rfl (Nat.le_of_ble_eq_true rfl) dX7_account_72 ⟨Nat.le_trans (Nat.le_add_right _ _) hB.1, Nat.le_trans (Nat.le_add_right _ _) hB.2⟩) (fun v7 S6 hf H locs hH => ?_)
        exact vx_ret (q_retI X hH hr hlk hf (Nat.le_trans (Nat.le_add_right _ _) hB.1) (Nat.le_trans (Nat.le_add_right _ _) hB.2) dX7_account_75)
      · have hf := (if_neg c4).mp hf
        by_cases c8 : a1 = 2
        · have hf := (if_pos c8).mp hf
          refine lv_tableIn (off := 75) (tgt := 76) hx hb dX7_account_1 (by rw [c8]; decide) (by rw [c8]; decide) (by rw [c8]; rfl) (by decide) ?_
          refine lv_aload_n hx hb dX7_account_76 rfl (lv_at hl 0 rfl) ?_
          refine q_getR (T := TX7) (N := 12) X hH hf iw_X7 rfl (by decide) tw_253 (fun _ h => h) dX7_account_77 (fun v9 hf => ?_)
          obtain ⟨hb1, hb2, hf⟩ := hf
          refine q_backI0 X hH (q_runV [] [] X hH hl (c_X6_weightSum l D cy G X.2.2.2.1 S v9 _ _ hf) mf_X6_weightSum mv_X6_weightSum tw_844 ⟨Nat.le_of_ble_eq_true rfl, Nat.le_of_ble_eq_true rfl⟩ hb1 hb2 (T := TX6) (N := 6) rfl rfl (Nat.le_of_ble_eq_true rfl) dX7_account_80 ⟨Nat.le_trans (Nat.le_add_right _ _) hB.1, Nat.le_trans (Nat.le_add_right _ _) hB.2⟩) (fun v11 S10 hf H locs hH => ?_)
          exact vx_ret (q_retI X hH hr hlk hf (Nat.le_trans (Nat.le_add_right _ _) hB.1) (Nat.le_trans (Nat.le_add_right _ _) hB.2) dX7_account_83)
        · have hf := (if_neg c8).mp hf
          by_cases c12 : a1 = 3
          · have hf := (if_pos c12).mp hf
            refine lv_tableIn (off := 83) (tgt := 84) hx hb dX7_account_1 (by rw [c12]; decide) (by rw [c12]; decide) (by rw [c12]; rfl) (by decide) ?_
            refine lv_aload_n hx hb dX7_account_84 rfl (lv_at hl 0 rfl) ?_
            refine q_getR (T := TX7) (N := 12) X hH hf iw_X7 rfl (by decide) tw_253 (fun _ h => h) dX7_account_85 (fun v13 hf => ?_)
            refine q_getIN (T := TX6) (N := 6) X hH hf iw_X6 rfl (by decide) (List.mem_of_getElem? (i := 1) rfl) (fun _ h => h) dX7_account_88 (fun v14 hf => ?_)
            refine q_backI0 X hH (q_runS [.int v14] [] X hH hl (c_J6_bitCount_0f7a4 l D cy G X.2.2.2.1 S v14 _ _ hf) mf_J6_bitCount_0f7a4 tw_849 tw_848 ⟨Nat.le_of_ble_eq_true rfl, Nat.le_of_ble_eq_true rfl⟩ rfl (Nat.le_of_ble_eq_true rfl) dX7_account_91 ⟨Nat.le_trans (Nat.le_add_right _ _) hB.1, Nat.le_trans (Nat.le_add_right _ _) hB.2⟩) (fun v16 S15 hf H locs hH => ?_)
            exact vx_ret (q_retI X hH hr hlk hf (Nat.le_trans (Nat.le_add_right _ _) hB.1) (Nat.le_trans (Nat.le_add_right _ _) hB.2) dX7_account_94)
          · have hf := (if_neg c12).mp hf
            by_cases c17 : a1 = 4
            · have hf := (if_pos c17).mp hf
              refine lv_tableIn (off := 94) (tgt := 95) hx hb dX7_account_1 (by rw [c17]; decide) (by rw [c17]; decide) (by rw [c17]; rfl) (by decide) ?_
              refine lv_aload_n hx hb dX7_account_95 rfl (lv_at hl 0 rfl) ?_
              refine q_getR (T := TX7) (N := 12) X hH hf iw_X7 rfl (by decide) tw_253 (fun _ h => h) dX7_account_96 (fun v18 hf => ?_)
              obtain ⟨hb1, hb2, hf⟩ := hf
              refine q_backI0 X hH (q_runV [] [] X hH hl (c_X6_bondsAcross l D cy G X.2.2.2.1 S v18 _ _ hf) mf_X6_bondsAcross mv_X6_bondsAcross tw_854 ⟨Nat.le_of_ble_eq_true rfl, Nat.le_of_ble_eq_true rfl⟩ hb1 hb2 (T := TX6) (N := 6) rfl rfl (Nat.le_of_ble_eq_true rfl) dX7_account_99 ⟨Nat.le_trans (Nat.le_add_right _ _) hB.1, Nat.le_trans (Nat.le_add_right _ _) hB.2⟩) (fun v20 S19 hf H locs hH => ?_)
              exact vx_ret (q_retI X hH hr hlk hf (Nat.le_trans (Nat.le_add_right _ _) hB.1) (Nat.le_trans (Nat.le_add_right _ _) hB.2) dX7_account_102)
            · have hf := (if_neg c17).mp hf
              by_cases c21 : a1 = 5
              · have hf := (if_pos c21).mp hf
                refine lv_tableIn (off := 102) (tgt := 103) hx hb dX7_account_1 (by rw [c21]; decide) (by rw [c21]; decide) (by rw [c21]; rfl) (by decide) ?_
                refine lv_aload_n hx hb dX7_account_103 rfl (lv_at hl 0 rfl) ?_
                refine q_getR (T := TX7) (N := 12) X hH hf iw_X7 rfl (by decide) tw_253 (fun _ h => h) dX7_account_104 (fun v22 hf => ?_)
                refine q_getIN (T := TX6) (N := 6) X hH hf iw_X6 rfl (by decide) (List.mem_of_getElem? (i := 2) rfl) (fun _ h => h) dX7_account_107 (fun v23 hf => ?_)
                exact vx_ret (q_retI X hH hr hlk hf (Nat.le_trans (Nat.le_add_right _ _) hB.1) (Nat.le_trans (Nat.le_add_right _ _) hB.2) dX7_account_110)
              · have hf := (if_neg c21).mp hf
                by_cases c24 : a1 = 6
                · have hf := (if_pos c24).mp hf
                  refine lv_tableIn (off := 110) (tgt := 111) hx hb dX7_account_1 (by rw [c24]; decide) (by rw [c24]; decide) (by rw [c24]; rfl) (by decide) ?_
                  refine lv_aload_n hx hb dX7_account_111 rfl (lv_at hl 0 rfl) ?_
                  refine q_getR (T := TX7) (N := 12) X hH hf iw_X7 rfl (by decide) tw_253 (fun _ h => h) dX7_account_112 (fun v25 hf => ?_)
                  refine q_getIN (T := TX6) (N := 6) X hH hf iw_X6 rfl (by decide) (List.mem_of_getElem? (i := 3) rfl) (fun _ h => h) dX7_account_115 (fun v26 hf => ?_)
                  exact vx_ret (q_retI X hH hr hlk hf (Nat.le_trans (Nat.le_add_right _ _) hB.1) (Nat.le_trans (Nat.le_add_right _ _) hB.2) dX7_account_118)
                · have hf := (if_neg c24).mp hf
                  by_cases c27 : a1 = 7
                  · have hf := (if_pos c27).mp hf
                    refine lv_tableIn (off := 118) (tgt := 119) hx hb dX7_account_1 (by rw [c27]; decide) (by rw [c27]; decide) (by rw [c27]; rfl) (by decide) ?_
                    refine lv_aload_n hx hb dX7_account_119 rfl (lv_at hl 0 rfl) ?_
                    refine q_getR (T := TX7) (N := 12) X hH hf iw_X7 rfl (by decide) tw_253 (fun _ h => h) dX7_account_120 (fun v28 hf => ?_)
                    refine q_getIN (T := TX6) (N := 6) X hH hf iw_X6 rfl (by decide) (List.mem_of_getElem? (i := 4) rfl) (fun _ h => h) dX7_account_123 (fun v29 hf => ?_)
                    exact vx_ret (q_retI X hH hr hlk hf (Nat.le_trans (Nat.le_add_right _ _) hB.1) (Nat.le_trans (Nat.le_add_right _ _) hB.2) dX7_account_126)
                  · have hf := (if_neg c27).mp hf
                    by_cases c30 : a1 = 8
                    · have hf := (if_pos c30).mp hf
                      refine lv_tableIn (off := 126) (tgt := 127) hx hb dX7_account_1 (by rw [c30]; decide) (by rw [c30]; decide) (by rw [c30]; rfl) (by decide) ?_
                      refine lv_aload_n hx hb dX7_account_127 rfl (lv_at hl 0 rfl) ?_
                      refine q_getR (T := TX7) (N := 12) X hH hf iw_X7 rfl (by decide) tw_253 (fun _ h => h) dX7_account_128 (fun v31 hf => ?_)
                      obtain ⟨hb1, hb2, hf⟩ := hf
                      refine q_backI0 X hH (q_runV [] [] X hH hl (c_X6_lonelyCount l D cy G X.2.2.2.1 S v31 _ _ hf) mf_X6_lonelyCount mv_X6_lonelyCount tw_858 ⟨Nat.le_of_ble_eq_true rfl, Nat.le_of_ble_eq_true rfl⟩ hb1 hb2 (T := TX6) (N := 6) rfl rfl (Nat.le_of_ble_eq_true rfl) dX7_account_131 ⟨Nat.le_trans (Nat.le_add_right _ _) hB.1, Nat.le_trans (Nat.le_add_right _ _) hB.2⟩) (fun v33 S32 hf H locs hH => ?_)
                      exact vx_ret (q_retI X hH hr hlk hf (Nat.le_trans (Nat.le_add_right _ _) hB.1) (Nat.le_trans (Nat.le_add_right _ _) hB.2) dX7_account_134)
                    · have hf := (if_neg c30).mp hf
                      by_cases c34 : a1 = 9
                      · have hf := (if_pos c34).mp hf
                        refine lv_tableIn (off := 134) (tgt := 135) hx hb dX7_account_1 (by rw [c34]; decide) (by rw [c34]; decide) (by rw [c34]; rfl) (by decide) ?_
                        refine lv_aload_n hx hb dX7_account_135 rfl (lv_at hl 0 rfl) ?_
                        refine q_getR (T := TX7) (N := 12) X hH hf iw_X7 rfl (by decide) tw_260 (fun _ h => h) dX7_account_136 (fun v35 hf => ?_)
                        obtain ⟨hb1, hb2, hf⟩ := hf
                        refine q_backI0 X hH (q_runV [] [] X hH hl (c_X5_length l D cy G X.2.2.2.1 S v35 _ _ hf) mf_X5_length mv_X5_length tw_862 ⟨Nat.le_of_ble_eq_true rfl, Nat.le_of_ble_eq_true rfl⟩ hb1 hb2 (T := TX5) (N := 7) rfl rfl (Nat.le_of_ble_eq_true rfl) dX7_account_139 ⟨Nat.le_trans (Nat.le_add_right _ _) hB.1, Nat.le_trans (Nat.le_add_right _ _) hB.2⟩) (fun v37 S36 hf H locs hH => ?_)
                        exact vx_ret (q_retI X hH hr hlk hf (Nat.le_trans (Nat.le_add_right _ _) hB.1) (Nat.le_trans (Nat.le_add_right _ _) hB.2) dX7_account_142)
                      · have hf := (if_neg c34).mp hf
                        by_cases c38 : a1 = 10
                        · have hf := (if_pos c38).mp hf
                          refine lv_tableIn (off := 142) (tgt := 143) hx hb dX7_account_1 (by rw [c38]; decide) (by rw [c38]; decide) (by rw [c38]; rfl) (by decide) ?_
                          refine lv_aload_n hx hb dX7_account_143 rfl (lv_at hl 0 rfl) ?_
                          refine q_getR (T := TX7) (N := 12) X hH hf iw_X7 rfl (by decide) tw_256 (fun _ h => h) dX7_account_144 (fun v39 hf => ?_)
                          obtain ⟨hb1, hb2, hf⟩ := hf
                          refine q_backI0 X hH (q_runV [] [] X hH hl (c_X2_count l D cy G X.2.2.2.1 S v39 _ _ hf) mf_X2_count mv_X2_count tw_867 ⟨Nat.le_of_ble_eq_true rfl, Nat.le_of_ble_eq_true rfl⟩ hb1 hb2 (T := TX2) (N := 3) rfl rfl (Nat.le_of_ble_eq_true rfl) dX7_account_147 ⟨Nat.le_trans (Nat.le_add_right _ _) hB.1, Nat.le_trans (Nat.le_add_right _ _) hB.2⟩) (fun v41 S40 hf H locs hH => ?_)
                          exact vx_ret (q_retI X hH hr hlk hf (Nat.le_trans (Nat.le_add_right _ _) hB.1) (Nat.le_trans (Nat.le_add_right _ _) hB.2) dX7_account_150)
                        · have hf := (if_neg c38).mp hf
                          refine lv_tableOut (tgt := 151) hx hb dX7_account_1 (by have z0 := lv_neT c1 (a := 0) rfl; have z1 := lv_neT c4 (a := 1) rfl; have z2 := lv_neT c8 (a := 2) rfl; have z3 := lv_neT c12 (a := 3) rfl; have z4 := lv_neT c17 (a := 4) rfl; have z5 := lv_neT c21 (a := 5) rfl; have z6 := lv_neT c24 (a := 6) rfl; have z7 := lv_neT c27 (a := 7) rfl; have z8 := lv_neT c30 (a := 8) rfl; have z9 := lv_neT c34 (a := 9) rfl; have z10 := lv_neT c38 (a := 10) rfl; omega) (by decide) ?_
                          exact q_throwW X hH hl hB rfl rfl hst (hGE _ _ _ X.2.2.2.2) hf tw_406 tw_48 (text := "what is not 0 to 10") (List.mem_of_getElem? (i := 19) rfl) xa_IllegalArgumentException xg_IllegalArgumentException (by decide +kernel) (by decide +kernel) dX7_account_151 dX7_account_154 dX7_account_155 dX7_account_158 dX7_account_161 htab ⟨Nat.le_of_ble_eq_true rfl, Nat.le_of_ble_eq_true rfl⟩ (Nat.le_of_ble_eq_true rfl) hlk
  exact main s.heap [] ls 0 0 mc ms hf hH hl ⟨by omega, by omega⟩
-- X7_meanWeight
def f_X7_meanWeight (S : PS) (a0 : Nat) (bc bs : Nat) (post : UInt64 → PS → Prop) (postX : String → PS → Prop) : Prop :=
  gR S a0 11 0 fun v1 => (
  isO S v1 10 (
  f_X6_bondCount S v1 fun v3 S2 => (
  if v3 = 0 then
    tX S2 "java/lang/ArithmeticException" bc bs postX
  else
    gR S2 a0 11 0 fun v5 => (
    isO S2 v5 10 (
    f_X6_weightSum S2 v5 fun v7 S6 => (
    vf_n64 (FP.ddiv (FP.i2d v7) (FP.i2d v3)) ∧ (
    post (FP.ddiv (FP.i2d v7) (FP.i2d v3)) S6)))))))
abbrev rm_X7_meanWeight (mc ms : Nat) : Room := { frames := 6, cells := mc, slots := ms, locals := 90 }
set_option maxHeartbeats 4000000 in
set_option maxRecDepth 100000 in
theorem c_X7_meanWeight (l : Launch) (D : va_G) (cy : Nat → ClassId) (G : p_GT) (hG : p_ok G) (hst : l.stackTraces = false) (hGE : ∀ (A : Nat → Prop) (U : State) (H : Heap), G A U H → p_Ex A U H) (S : PS) (a0 : Nat) (mc ms : Nat) (post : UInt64 → PS → Prop) (postX : String → PS → Prop) (sz : Nat) (hf : f_X7_meanWeight S a0 mc ms post postX) : p_Xd l D cy G S sz yX7_meanWeight (Cond.code yX7_meanWeight cX7_meanWeight 2 (some .double) :: wG) (rm_X7_meanWeight mc ms) [.ref a0] mc ms post postX := by
  refine q_startX hG (Qc := fun A => va_Qd post (p_Post D cy A) A) (XC := fun A => p_XC D cy A postX) mf_X7_meanWeight (Nat.le_of_ble_eq_true rfl) (own := RX7) rfl ?_
  intro p e s m below meth c A X hr hlk hnm htab ls hl hH
  have hx := X.1.1
  have hb := X.1.2.1
  replace hl : lv_has ls 2 [(0, .ref a0)] := hl
  have main : ∀ (H : Heap) (locs : List Loc) (ls : Array Slot) (cells slots bc bs : Nat), f_X7_meanWeight S a0 bc bs post postX → p_H D cy S A s H locs → lv_has ls 2 [(0, .ref a0)] → cells + bc ≤ mc ∧ slots + bs ≤ ms → W p l e (rm_X7_meanWeight mc ms) s m [.ref a0].toArray below meth c H locs cells slots (vx_MQ below (va_Qd post (p_Post D cy A) A) (p_XC D cy A postX) [.ref a0].toArray s mc ms A) (F0 m 0 ls []) := by
    intro H locs ls cells slots bc bs hf hH hl hB
    refine lv_aload_n hx hb dX7_meanWeight_0 rfl (lv_at hl 0 rfl) ?_
    refine q_getR (T := TX7) (N := 12) X hH hf iw_X7 rfl (by decide) tw_253 (fun _ h => h) dX7_meanWeight_1 (fun v1 hf => ?_)
    obtain ⟨hb1, hb2, hf⟩ := hf
    refine q_backI0 X hH (q_runV [] [] X hH hl (c_X6_bondCount l D cy G X.2.2.2.1 S v1 _ _ hf) mf_X6_bondCount mv_X6_bondCount tw_839 ⟨Nat.le_of_ble_eq_true rfl, Nat.le_of_ble_eq_true rfl⟩ hb1 hb2 (T := TX6) (N := 6) rfl rfl (Nat.le_of_ble_eq_true rfl) dX7_meanWeight_4 ⟨Nat.le_trans (Nat.le_add_right _ _) hB.1, Nat.le_trans (Nat.le_add_right _ _) hB.2⟩) (fun v3 S2 hf H locs hH => ?_)
    refine lv_istore_n (lv' := [(1, .int v3), (0, .ref a0)]) hx hb dX7_meanWeight_7 rfl hl (by decide) rfl (fun ls hl => ?_)
    refine lv_iload_n hx hb dX7_meanWeight_8 rfl (lv_at hl 0 rfl) ?_
    refine lv_if_ne (tgt := 22) hx hb dX7_meanWeight_9 (by decide) (fun c4 => ?_) (fun c4 => ?_)
    · have hf := (if_neg c4).mp hf
      refine lv_aload_n hx hb dX7_meanWeight_22 rfl (lv_at hl 1 rfl) ?_
      refine q_getR (T := TX7) (N := 12) X hH hf iw_X7 rfl (by decide) tw_253 (fun _ h => h) dX7_meanWeight_23 (fun v5 hf => ?_)
      obtain ⟨hb1, hb2, hf⟩ := hf
      refine q_backI0 X hH (q_runV [] [] X hH hl (c_X6_weightSum l D cy G X.2.2.2.1 S2 v5 _ _ hf) mf_X6_weightSum mv_X6_weightSum tw_844 ⟨Nat.le_of_ble_eq_true rfl, Nat.le_of_ble_eq_true rfl⟩ hb1 hb2 (T := TX6) (N := 6) rfl rfl (Nat.le_of_ble_eq_true rfl) dX7_meanWeight_26 ⟨Nat.le_trans (Nat.le_add_right _ _) hB.1, Nat.le_trans (Nat.le_add_right _ _) hB.2⟩) (fun v7 S6 hf H locs hH => ?_)
      refine lv_i2d hx hb dX7_meanWeight_29 ?_
      refine lv_iload_n hx hb dX7_meanWeight_30 rfl (lv_at hl 0 rfl) ?_
      refine lv_i2d hx hb dX7_meanWeight_31 ?_
      refine lv_ddiv hx hb dX7_meanWeight_32 hf.1 ?_
      have hf := hf.2
      exact vx_ret (q_retD X hH hr hlk hf (Nat.le_trans (Nat.le_add_right _ _) hB.1) (Nat.le_trans (Nat.le_add_right _ _) hB.2) dX7_meanWeight_33)
    · have hf := (if_pos c4).mp hf
      exact q_throw X hH hl hB rfl rfl hst (hGE _ _ _ X.2.2.2.2) hf tw_876 tw_57 (text := "there are no bonds") (List.mem_of_getElem? (i := 14) rfl) xa_ArithmeticException xg_ArithmeticException (by decide +kernel) (by decide +kernel) dX7_meanWeight_12 dX7_meanWeight_15 dX7_meanWeight_16 dX7_meanWeight_18 dX7_meanWeight_21 htab ⟨Nat.le_of_ble_eq_true rfl, Nat.le_of_ble_eq_true rfl⟩ (Nat.le_of_ble_eq_true rfl) hlk
  exact main s.heap [] ls 0 0 mc ms hf hH hl ⟨by omega, by omega⟩
-- X7_feudShare
def f_X7_feudShare (S : PS) (a0 : Nat) (bc bs : Nat) (post : UInt32 → PS → Prop) (postX : String → PS → Prop) : Prop :=
  gR S a0 11 0 fun v1 => (
  isO S v1 10 (
  f_X6_weightSum S v1 fun v3 S2 => (
  if v3 = 0 then
    tX S2 "java/lang/ArithmeticException" bc bs postX
  else
    gR S2 a0 11 0 fun v5 => (
    isO S2 v5 10 (
    f_X6_feudByBonds S2 v5 fun v7 S6 => (
    vf_n32 (FP.fdiv (FP.i2f v7) (FP.i2f v3)) ∧ (
    post (FP.fdiv (FP.i2f v7) (FP.i2f v3)) S6)))))))
abbrev rm_X7_feudShare (mc ms : Nat) : Room := { frames := 6, cells := mc, slots := ms, locals := 90 }
set_option maxHeartbeats 4000000 in
set_option maxRecDepth 100000 in
theorem c_X7_feudShare (l : Launch) (D : va_G) (cy : Nat → ClassId) (G : p_GT) (hG : p_ok G) (hst : l.stackTraces = false) (hGE : ∀ (A : Nat → Prop) (U : State) (H : Heap), G A U H → p_Ex A U H) (S : PS) (a0 : Nat) (mc ms : Nat) (post : UInt32 → PS → Prop) (postX : String → PS → Prop) (sz : Nat) (hf : f_X7_feudShare S a0 mc ms post postX) : p_Xf l D cy G S sz yX7_feudShare (Cond.code yX7_feudShare cX7_feudShare 2 (some .float) :: wG) (rm_X7_feudShare mc ms) [.ref a0] mc ms post postX := by
  refine q_startX hG (Qc := fun A => va_Qf post (p_Post D cy A) A) (XC := fun A => p_XC D cy A postX) mf_X7_feudShare (Nat.le_of_ble_eq_true rfl) (own := RX7) rfl ?_
  intro p e s m below meth c A X hr hlk hnm htab ls hl hH
  have hx := X.1.1
  have hb := X.1.2.1
  replace hl : lv_has ls 2 [(0, .ref a0)] := hl
  have main : ∀ (H : Heap) (locs : List Loc) (ls : Array Slot) (cells slots bc bs : Nat), f_X7_feudShare S a0 bc bs post postX → p_H D cy S A s H locs → lv_has ls 2 [(0, .ref a0)] → cells + bc ≤ mc ∧ slots + bs ≤ ms → W p l e (rm_X7_feudShare mc ms) s m [.ref a0].toArray below meth c H locs cells slots (vx_MQ below (va_Qf post (p_Post D cy A) A) (p_XC D cy A postX) [.ref a0].toArray s mc ms A) (F0 m 0 ls []) := by
    intro H locs ls cells slots bc bs hf hH hl hB
    refine lv_aload_n hx hb dX7_feudShare_0 rfl (lv_at hl 0 rfl) ?_
    refine q_getR (T := TX7) (N := 12) X hH hf iw_X7 rfl (by decide) tw_253 (fun _ h => h) dX7_feudShare_1 (fun v1 hf => ?_)
    obtain ⟨hb1, hb2, hf⟩ := hf
    refine q_backI0 X hH (q_runV [] [] X hH hl (c_X6_weightSum l D cy G X.2.2.2.1 S v1 _ _ hf) mf_X6_weightSum mv_X6_weightSum tw_844 ⟨Nat.le_of_ble_eq_true rfl, Nat.le_of_ble_eq_true rfl⟩ hb1 hb2 (T := TX6) (N := 6) rfl rfl (Nat.le_of_ble_eq_true rfl) dX7_feudShare_4 ⟨Nat.le_trans (Nat.le_add_right _ _) hB.1, Nat.le_trans (Nat.le_add_right _ _) hB.2⟩) (fun v3 S2 hf H locs hH => ?_)
    refine lv_istore_n (lv' := [(1, .int v3), (0, .ref a0)]) hx hb dX7_feudShare_7 rfl hl (by decide) rfl (fun ls hl => ?_)
    refine lv_iload_n hx hb dX7_feudShare_8 rfl (lv_at hl 0 rfl) ?_
    refine lv_if_ne (tgt := 22) hx hb dX7_feudShare_9 (by decide) (fun c4 => ?_) (fun c4 => ?_)
    · have hf := (if_neg c4).mp hf
      refine lv_aload_n hx hb dX7_feudShare_22 rfl (lv_at hl 1 rfl) ?_
      refine q_getR (T := TX7) (N := 12) X hH hf iw_X7 rfl (by decide) tw_253 (fun _ h => h) dX7_feudShare_23 (fun v5 hf => ?_)
      obtain ⟨hb1, hb2, hf⟩ := hf
      refine q_backI0 X hH (q_runV [] [] X hH hl (c_X6_feudByBonds l D cy G X.2.2.2.1 S2 v5 _ _ hf) mf_X6_feudByBonds mv_X6_feudByBonds tw_426 ⟨Nat.le_of_ble_eq_true rfl, Nat.le_of_ble_eq_true rfl⟩ hb1 hb2 (T := TX6) (N := 6) rfl rfl (Nat.le_of_ble_eq_true rfl) dX7_feudShare_26 ⟨Nat.le_trans (Nat.le_add_right _ _) hB.1, Nat.le_trans (Nat.le_add_right _ _) hB.2⟩) (fun v7 S6 hf H locs hH => ?_)
      refine lv_i2f hx hb dX7_feudShare_29 ?_
      refine lv_iload_n hx hb dX7_feudShare_30 rfl (lv_at hl 0 rfl) ?_
      refine lv_i2f hx hb dX7_feudShare_31 ?_
      refine lv_fdiv hx hb dX7_feudShare_32 hf.1 ?_
      have hf := hf.2
      exact vx_ret (q_retF X hH hr hlk hf (Nat.le_trans (Nat.le_add_right _ _) hB.1) (Nat.le_trans (Nat.le_add_right _ _) hB.2) dX7_feudShare_33)
    · have hf := (if_pos c4).mp hf
      exact q_throw X hH hl hB rfl rfl hst (hGE _ _ _ X.2.2.2.2) hf tw_876 tw_57 (text := "there are no bonds") (List.mem_of_getElem? (i := 14) rfl) xa_ArithmeticException xg_ArithmeticException (by decide +kernel) (by decide +kernel) dX7_feudShare_12 dX7_feudShare_15 dX7_feudShare_16 dX7_feudShare_18 dX7_feudShare_21 htab ⟨Nat.le_of_ble_eq_true rfl, Nat.le_of_ble_eq_true rfl⟩ (Nat.le_of_ble_eq_true rfl) hlk
  exact main s.heap [] ls 0 0 mc ms hf hH hl ⟨by omega, by omega⟩
-- X7_refusesHousehold
def f_X7_refusesHousehold_J17 (post : Int32 → PS → Prop) (S : PS) (l1 : Int32) (t0 : Int32) (t1 : Nat) : Prop :=
  isO S t1 11 (
  f_X7_refusesIf S t1 t0 2 l1 fun v2 S1 => (
  nZ .boolean v2 (post v2 S1)))
def f_X7_refusesHousehold (S : PS) (a0 : Nat) (a1 : Int32) (post : Int32 → PS → Prop) : Prop :=
  gR S a0 11 0 fun v1 => (
  isO S v1 10 (
  f_X6_has S v1 a1 fun v3 S2 => (
  if v3 = 0 then
    f_X7_refusesHousehold_J17 post S2 a1 1 a0
  else
    f_X7_refusesHousehold_J17 post S2 a1 0 a0)))
abbrev rm_X7_refusesHousehold : Room := { frames := 2, cells := 0, slots := 0, locals := 45 }
set_option maxHeartbeats 4000000 in
set_option maxRecDepth 100000 in
theorem c_X7_refusesHousehold (l : Launch) (D : va_G) (cy : Nat → ClassId) (G : p_GT) (hG : p_ok G) (S : PS) (a0 : Nat) (a1 : Int32) (post : Int32 → PS → Prop) (sz : Nat) (hf : f_X7_refusesHousehold S a0 a1 post) : p_Mi l D cy G S sz yX7_refusesHousehold (Cond.code yX7_refusesHousehold cX7_refusesHousehold 2 (some .boolean) :: wG) rm_X7_refusesHousehold [.ref a0, .int a1] 0 0 post := by
  refine q_start hG (Qc := fun A => va_Qi post (p_Post D cy A) A) mf_X7_refusesHousehold (Nat.le_of_ble_eq_true rfl) (own := RX7) rfl ?_
  intro p e s m below meth c A X hr hlk hnm ls hl hH
  have hx := X.1.1
  have hb := X.1.2.1
  replace hl : lv_has ls 2 [(0, .ref a0), (1, .int a1)] := hl
  obtain ⟨H, hHe⟩ : ∃ H, H = s.heap := ⟨_, rfl⟩
  obtain ⟨locs, hlo⟩ : ∃ locs : List Loc, locs = [] := ⟨_, rfl⟩
  rw [← hHe, ← hlo] at hH
  show W p l e rm_X7_refusesHousehold s m [.ref a0, .int a1].toArray below meth c s.heap [] 0 0 _ _
  rw [← hHe, ← hlo]
  have hJ17 : ∀ (S : PS) (l1 : Int32) (t0 : Int32) (t1 : Nat), f_X7_refusesHousehold_J17 post S l1 t0 t1 → ∀ (H : Heap) (locs : List Loc) (ls : Array Slot), p_H D cy S A s H locs → lv_has ls 2 [(1, .int l1)] → W p l e rm_X7_refusesHousehold s m [.ref a0, .int a1].toArray below meth c H locs 0 0 (MQ below (va_Qi post (p_Post D cy A) A) [.ref a0, .int a1].toArray s 0 0 A) (F0 m 17 ls [.int t0, .ref t1]) := by
    intro S l1 t0 t1 hf H locs ls hH hl
    refine lv_iconst (v := 2) hx hb dX7_refusesHousehold_17 (by decide) ?_
    refine lv_iload_n hx hb dX7_refusesHousehold_18 rfl (lv_at hl 0 rfl) ?_
    obtain ⟨hb1, hb2, hf⟩ := hf
    refine q_backI0 X hH (q_runV [.int t0, .int 2, .int l1] [] X hH hl (c_X7_refusesIf l D cy G X.2.2.2.1 S t1 t0 2 l1 _ _ hf) mf_X7_refusesIf mv_X7_refusesIf tw_993 ⟨Nat.le_of_ble_eq_true rfl, Nat.le_of_ble_eq_true rfl⟩ hb1 hb2 (T := TX7) (N := 12) rfl rfl (Nat.le_of_ble_eq_true rfl) dX7_refusesHousehold_19 ⟨Nat.le_of_ble_eq_true rfl, Nat.le_of_ble_eq_true rfl⟩) (fun v2 S1 hf H locs hH => ?_)
    exact q_retZ X hH hr hlk hf (Nat.zero_le _) (Nat.zero_le _) dX7_refusesHousehold_22
  refine lv_aload_n hx hb dX7_refusesHousehold_0 rfl (lv_at hl 0 rfl) ?_
  refine lv_aload_n hx hb dX7_refusesHousehold_1 rfl (lv_at hl 0 rfl) ?_
  refine q_getR (T := TX7) (N := 12) X hH hf iw_X7 rfl (by decide) tw_253 (fun _ h => h) dX7_refusesHousehold_2 (fun v1 hf => ?_)
  refine lv_iload_n hx hb dX7_refusesHousehold_5 rfl (lv_at hl 1 rfl) ?_
  obtain ⟨hb1, hb2, hf⟩ := hf
  refine q_backI0 X hH (q_runV [.int a1] [.ref a0] X hH hl (c_X6_has l D cy G X.2.2.2.1 S v1 a1 _ _ hf) mf_X6_has mv_X6_has tw_294 ⟨Nat.le_of_ble_eq_true rfl, Nat.le_of_ble_eq_true rfl⟩ hb1 hb2 (T := TX6) (N := 6) rfl rfl (Nat.le_of_ble_eq_true rfl) dX7_refusesHousehold_6 ⟨Nat.le_of_ble_eq_true rfl, Nat.le_of_ble_eq_true rfl⟩) (fun v3 S2 hf H locs hH => ?_)
  refine lv_if_ne (tgt := 16) hx hb dX7_refusesHousehold_9 (by decide) (fun c4 => ?_) (fun c4 => ?_)
  · have hf := (if_neg c4).mp hf
    refine lv_iconst (v := 0) hx hb dX7_refusesHousehold_16 (by decide) ?_
    exact hJ17 S2 a1 0 a0 hf H locs ls hH (lv_sub hl [1] rfl)
  · have hf := (if_pos c4).mp hf
    refine lv_iconst (v := 1) hx hb dX7_refusesHousehold_12 (by decide) ?_
    refine lv_goto (tgt := 17) hx hb dX7_refusesHousehold_13 (by decide) ?_
    exact hJ17 S2 a1 1 a0 hf H locs ls hH (lv_sub hl [1] rfl)
