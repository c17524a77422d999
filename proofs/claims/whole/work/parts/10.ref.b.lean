-- X8_goes
def f_X8_goes_J177 (post : PS → Prop) (S : PS) (l0 : Nat) (l2 : Int32) : Prop :=
  gR S l0 12 1 fun v1 => (
  sI S v1 0 ((4 : Int32) + l2) 0 fun S2 => (
  gR S2 l0 12 1 fun v3 => (
  aI S2 v3 0 0 fun v4 => (
  sI S2 v3 0 0 (v4 - 1) fun S5 => (
  gR S5 l0 12 1 fun v6 => (
  aI S5 v6 0 2 fun v7 => (
  sI S5 v6 0 2 (v7 + 1) fun S8 => (
  post S8))))))))
def f_X8_goes_J156 (post : PS → Prop) (g111 : PS → Nat → Int32 → Int32 → Int32 → Prop) (S : PS) (l0 : Nat) (l1 : Int32) (l2 : Int32) (l3 : Int32) : Prop :=
  gR S l0 12 1 fun v1 => (
  sI S v1 0 (((13 : Int32) + ((9 : Int32) * l3)) + l2) 0 fun S2 => (
  g111 S2 l0 l1 l2 (l3 + 1)))
def f_X8_goes_L120 (post : PS → Prop) (g111 : PS → Nat → Int32 → Int32 → Int32 → Prop) : Nat → PS → Nat → Int32 → Int32 → Int32 → Int32 → Prop
  | 0, _, _, _, _, _, _ => False
  | n + 1, S, l0, l1, l2, l3, l4 =>
  if l2 ≤ l4 then
    f_X8_goes_J156 post g111 S l0 l1 l2 l3
  else
    gR S l0 12 1 fun v2 => (
    isO S l0 12 (
    f_X8_w S l0 l3 (l4 + 1) fun v4 S3 => (
    sI S3 v2 0 (((13 : Int32) + ((9 : Int32) * l3)) + l4) v4 fun S5 => (
    (f_X8_goes_L120 post g111 n) S5 l0 l1 l2 l3 (l4 + 1)))))
def f_X8_goes_L111 (post : PS → Prop) : Nat → PS → Nat → Int32 → Int32 → Int32 → Prop
  | 0, _, _, _, _, _ => False
  | n + 1, S, l0, l1, l2, l3 =>
  if 9 ≤ l3 then
    f_X8_goes_J177 post S l0 l2
  else
    f_X8_goes_L120 post (f_X8_goes_L111 post n) 4096 S l0 l1 l2 l3 l1
def f_X8_goes_J109 (post : PS → Prop) (S : PS) (l0 : Nat) (l1 : Int32) (l2 : Int32) : Prop :=
  f_X8_goes_L111 post 4096 S l0 l1 l2 0
def f_X8_goes_L82 (post : PS → Prop) : Nat → PS → Nat → Int32 → Int32 → Int32 → Prop
  | 0, _, _, _, _, _ => False
  | n + 1, S, l0, l1, l2, l3 =>
  if 9 ≤ l3 then
    f_X8_goes_J109 post S l0 l1 l2
  else
    gR S l0 12 1 fun v2 => (
    sI S v2 0 (((13 : Int32) + ((9 : Int32) * l2)) + l3) 0 fun S3 => (
    (f_X8_goes_L82 post n) S3 l0 l1 l2 (l3 + 1)))
def f_X8_goes_J80 (post : PS → Prop) (S : PS) (l0 : Nat) (l1 : Int32) (l2 : Int32) : Prop :=
  f_X8_goes_L82 post 4096 S l0 l1 l2 0
def f_X8_goes_J74 (post : PS → Prop) (g11 : PS → Nat → Int32 → Int32 → Int32 → Prop) (S : PS) (l0 : Nat) (l1 : Int32) (l2 : Int32) (l3 : Int32) : Prop :=
  g11 S l0 l1 l2 (l3 + 1)
def f_X8_goes_L37 (post : PS → Prop) (g11 : PS → Nat → Int32 → Int32 → Int32 → Prop) : Nat → PS → Nat → Int32 → Int32 → Int32 → Int32 → Prop
  | 0, _, _, _, _, _, _ => False
  | n + 1, S, l0, l1, l2, l3, l4 =>
  if 9 ≤ l4 then
    f_X8_goes_J74 post g11 S l0 l1 l2 l3
  else
    gR S l0 12 1 fun v2 => (
    isO S l0 12 (
    f_X8_w S l0 (l3 + 1) l4 fun v4 S3 => (
    sI S3 v2 0 (((13 : Int32) + ((9 : Int32) * l3)) + l4) v4 fun S5 => (
    (f_X8_goes_L37 post g11 n) S5 l0 l1 l2 l3 (l4 + 1)))))
def f_X8_goes_L11 (post : PS → Prop) : Nat → PS → Nat → Int32 → Int32 → Int32 → Prop
  | 0, _, _, _, _, _ => False
  | n + 1, S, l0, l1, l2, l3 =>
  if l2 ≤ l3 then
    f_X8_goes_J80 post S l0 l1 l2
  else
    gR S l0 12 1 fun v2 => (
    gR S l0 12 1 fun v3 => (
    aI S v3 0 (((4 : Int32) + l3) + 1) fun v4 => (
    sI S v2 0 ((4 : Int32) + l3) v4 fun S5 => (
    f_X8_goes_L37 post (f_X8_goes_L11 post n) 4096 S5 l0 l1 l2 l3 0))))
def f_X8_goes (S : PS) (a0 : Nat) (a1 : Int32) (post : PS → Prop) : Prop :=
  gR S a0 12 1 fun v1 => (
  aI S v1 0 0 fun v2 => (
  f_X8_goes_L11 post 4096 S a0 a1 (v2 - 1) a1))
abbrev rm_X8_goes : Room := { frames := 1, cells := 0, slots := 0, locals := 22 }
set_option maxHeartbeats 4000000 in
set_option maxRecDepth 100000 in
theorem c_X8_goes (l : Launch) (D : va_G) (cy : Nat → ClassId) (G : p_GT) (hG : p_ok G) (S : PS) (a0 : Nat) (a1 : Int32) (post : PS → Prop) (sz : Nat) (hf : f_X8_goes S a0 a1 post) : p_Mv l D cy G S sz yX8_goes (Cond.code yX8_goes cX8_goes 5 none :: wG) rm_X8_goes [.ref a0, .int a1] 0 0 post := by
  refine q_start hG (Qc := fun A => va_Qv post (p_Post D cy A) A) mf_X8_goes (Nat.le_of_ble_eq_true rfl) (own := RX8) rfl ?_
  intro p e s m below meth c A X hr hlk hnm ls hl hH
  have hx := X.1.1
  have hb := X.1.2.1
  replace hl : lv_has ls 5 [(0, .ref a0), (1, .int a1)] := hl
  obtain ⟨H, hHe⟩ : ∃ H, H = s.heap := ⟨_, rfl⟩
  obtain ⟨locs, hlo⟩ : ∃ locs : List Loc, locs = [] := ⟨_, rfl⟩
  rw [← hHe, ← hlo] at hH
  show W p l e rm_X8_goes s m [.ref a0, .int a1].toArray below meth c s.heap [] 0 0 _ _
  rw [← hHe, ← hlo]
  have hL11 : ∀ (n11 : Nat) (S : PS) (l0 : Nat) (l1 : Int32) (l2 : Int32) (l3 : Int32), f_X8_goes_L11 post n11 S l0 l1 l2 l3 → ∀ (H : Heap) (locs : List Loc) (ls : Array Slot), p_H D cy S A s H locs → lv_has ls 5 [(0, .ref l0), (1, .int l1), (2, .int l2), (3, .int l3)] → W p l e rm_X8_goes s m [.ref a0, .int a1].toArray below meth c H locs 0 0 (MQ below (va_Qv post (p_Post D cy A) A) [.ref a0, .int a1].toArray s 0 0 A) (F0 m 11 ls []) := by
    intro n11
    induction n11 with
    | zero => intro S l0 l1 l2 l3 hf; exact hf.elim
    | succ n11 ih11 =>
      intro S l0 l1 l2 l3 hf H locs ls hH hl
      have hJ80 : ∀ (S : PS) (l0 : Nat) (l1 : Int32) (l2 : Int32), f_X8_goes_J80 post S l0 l1 l2 → ∀ (H : Heap) (locs : List Loc) (ls : Array Slot), p_H D cy S A s H locs → lv_has ls 5 [(0, .ref l0), (1, .int l1), (2, .int l2)] → W p l e rm_X8_goes s m [.ref a0, .int a1].toArray below meth c H locs 0 0 (MQ below (va_Qv post (p_Post D cy A) A) [.ref a0, .int a1].toArray s 0 0 A) (F0 m 80 ls []) := by
        intro S l0 l1 l2 hf H locs ls hH hl
        have hL82 : ∀ (n82 : Nat) (S : PS) (l0 : Nat) (l1 : Int32) (l2 : Int32) (l3 : Int32), f_X8_goes_L82 post n82 S l0 l1 l2 l3 → ∀ (H : Heap) (locs : List Loc) (ls : Array Slot), p_H D cy S A s H locs → lv_has ls 5 [(0, .ref l0), (1, .int l1), (2, .int l2), (3, .int l3)] → W p l e rm_X8_goes s m [.ref a0, .int a1].toArray below meth c H locs 0 0 (MQ below (va_Qv post (p_Post D cy A) A) [.ref a0, .int a1].toArray s 0 0 A) (F0 m 82 ls []) := by
          intro n82
          induction n82 with
          | zero => intro S l0 l1 l2 l3 hf; exact hf.elim
          | succ n82 ih82 =>
            intro S l0 l1 l2 l3 hf H locs ls hH hl
            have hJ109 : ∀ (S : PS) (l0 : Nat) (l1 : Int32) (l2 : Int32), f_X8_goes_J109 post S l0 l1 l2 → ∀ (H : Heap) (locs : List Loc) (ls : Array Slot), p_H D cy S A s H locs → lv_has ls 5 [(0, .ref l0), (1, .int l1), (2, .int l2)] → W p l e rm_X8_goes s m [.ref a0, .int a1].toArray below meth c H locs 0 0 (MQ below (va_Qv post (p_Post D cy A) A) [.ref a0, .int a1].toArray s 0 0 A) (F0 m 109 ls []) := by
              intro S l0 l1 l2 hf H locs ls hH hl
              have hL111 : ∀ (n111 : Nat) (S : PS) (l0 : Nat) (l1 : Int32) (l2 : Int32) (l3 : Int32), f_X8_goes_L111 post n111 S l0 l1 l2 l3 → ∀ (H : Heap) (locs : List Loc) (ls : Array Slot), p_H D cy S A s H locs → lv_has ls 5 [(0, .ref l0), (1, .int l1), (2, .int l2), (3, .int l3)] → W p l e rm_X8_goes s m [.ref a0, .int a1].toArray below meth c H locs 0 0 (MQ below (va_Qv post (p_Post D cy A) A) [.ref a0, .int a1].toArray s 0 0 A) (F0 m 111 ls []) := by
                intro n111
                induction n111 with
                | zero => intro S l0 l1 l2 l3 hf; exact hf.elim
                | succ n111 ih111 =>
                  intro S l0 l1 l2 l3 hf H locs ls hH hl
                  have hJ177 : ∀ (S : PS) (l0 : Nat) (l2 : Int32), f_X8_goes_J177 post S l0 l2 → ∀ (H : Heap) (locs : List Loc) (ls : Array Slot), p_H D cy S A s H locs → lv_has ls 5 [(0, .ref l0), (2, .int l2)] → W p l e rm_X8_goes s m [.ref a0, .int a1].toArray below meth c H locs 0 0 (MQ below (va_Qv post (p_Post D cy A) A) [.ref a0, .int a1].toArray s 0 0 A) (F0 m 177 ls []) := by
                    intro S l0 l2 hf H locs ls hH hl
                    refine lv_aload_n hx hb dX8_goes_177 rfl (lv_at hl 0 rfl) ?_
                    refine q_getR (T := TX8) (N := 25) X hH hf iw_X8 rfl (by decide) tw_1610 (fun _ h => h) dX8_goes_178 (fun v1 hf => ?_)
                    refine lv_iconst (v := 4) hx hb dX8_goes_181 (by decide) ?_
                    refine lv_iload_n hx hb dX8_goes_182 rfl (lv_at hl 1 rfl) ?_
                    refine lv_iadd hx hb dX8_goes_183 ?_
                    refine lv_iconst (v := 0) hx hb dX8_goes_184 (by decide) ?_
                    refine q_iast X hH hf dX8_goes_185 (fun S2 hf H locs hH => ?_)
                    refine lv_aload_n hx hb dX8_goes_186 rfl (lv_at hl 0 rfl) ?_
                    refine q_getR (T := TX8) (N := 25) X hH hf iw_X8 rfl (by decide) tw_1610 (fun _ h => h) dX8_goes_187 (fun v3 hf => ?_)
                    refine lv_iconst (v := 0) hx hb dX8_goes_190 (by decide) ?_
                    refine lv_dup2_11 hx hb dX8_goes_191 rfl rfl ?_
                    refine q_iald X hH hf dX8_goes_192 (fun v4 hf => ?_)
                    refine lv_iconst (v := 1) hx hb dX8_goes_193 (by decide) ?_
                    refine lv_isub hx hb dX8_goes_194 ?_
                    refine q_iast X hH hf dX8_goes_195 (fun S5 hf H locs hH => ?_)
                    refine lv_aload_n hx hb dX8_goes_196 rfl (lv_at hl 0 rfl) ?_
                    refine q_getR (T := TX8) (N := 25) X hH hf iw_X8 rfl (by decide) tw_1610 (fun _ h => h) dX8_goes_197 (fun v6 hf => ?_)
                    refine lv_iconst (v := 2) hx hb dX8_goes_200 (by decide) ?_
                    refine lv_dup2_11 hx hb dX8_goes_201 rfl rfl ?_
                    refine q_iald X hH hf dX8_goes_202 (fun v7 hf => ?_)
                    refine lv_iconst (v := 1) hx hb dX8_goes_203 (by decide) ?_
                    refine lv_iadd hx hb dX8_goes_204 ?_
                    refine q_iast X hH hf dX8_goes_205 (fun S8 hf H locs hH => ?_)
                    exact q_retV X hH hr hlk hf (Nat.zero_le _) (Nat.zero_le _) dX8_goes_206
                  have hL120 : ∀ (n120 : Nat) (S : PS) (l0 : Nat) (l1 : Int32) (l2 : Int32) (l3 : Int32) (l4 : Int32), f_X8_goes_L120 post (f_X8_goes_L111 post n111) n120 S l0 l1 l2 l3 l4 → ∀ (H : Heap) (locs : List Loc) (ls : Array Slot), p_H D cy S A s H locs → lv_has ls 5 [(0, .ref l0), (1, .int l1), (2, .int l2), (3, .int l3), (4, .int l4)] → W p l e rm_X8_goes s m [.ref a0, .int a1].toArray below meth c H locs 0 0 (MQ below (va_Qv post (p_Post D cy A) A) [.ref a0, .int a1].toArray s 0 0 A) (F0 m 120 ls []) := by
                    intro n120
                    induction n120 with
                    | zero => intro S l0 l1 l2 l3 l4 hf; exact hf.elim
                    | succ n120 ih120 =>
                      intro S l0 l1 l2 l3 l4 hf H locs ls hH hl
                      have hJ156 : ∀ (S : PS) (l0 : Nat) (l1 : Int32) (l2 : Int32) (l3 : Int32), f_X8_goes_J156 post (f_X8_goes_L111 post n111) S l0 l1 l2 l3 → ∀ (H : Heap) (locs : List Loc) (ls : Array Slot), p_H D cy S A s H locs → lv_has ls 5 [(0, .ref l0), (1, .int l1), (2, .int l2), (3, .int l3)] → W p l e rm_X8_goes s m [.ref a0, .int a1].toArray below meth c H locs 0 0 (MQ below (va_Qv post (p_Post D cy A) A) [.ref a0, .int a1].toArray s 0 0 A) (F0 m 156 ls []) := by
                        intro S l0 l1 l2 l3 hf H locs ls hH hl
                        refine lv_aload_n hx hb dX8_goes_156 rfl (lv_at hl 0 rfl) ?_
                        refine q_getR (T := TX8) (N := 25) X hH hf iw_X8 rfl (by decide) tw_1610 (fun _ h => h) dX8_goes_157 (fun v1 hf => ?_)
                        refine lv_bipush (v := 13) hx hb dX8_goes_160 (by decide) ?_
                        refine lv_bipush (v := 9) hx hb dX8_goes_162 (by decide) ?_
                        refine lv_iload_n hx hb dX8_goes_164 rfl (lv_at hl 3 rfl) ?_
                        refine lv_imul hx hb dX8_goes_165 ?_
                        refine lv_iadd hx hb dX8_goes_166 ?_
                        refine lv_iload_n hx hb dX8_goes_167 rfl (lv_at hl 2 rfl) ?_
                        refine lv_iadd hx hb dX8_goes_168 ?_
                        refine lv_iconst (v := 0) hx hb dX8_goes_169 (by decide) ?_
                        refine q_iast X hH hf dX8_goes_170 (fun S2 hf H locs hH => ?_)
                        refine lv_iinc (v := l3 + 1) (lv' := [(3, .int (l3 + 1)), (0, .ref l0), (1, .int l1), (2, .int l2)]) hx hb dX8_goes_171 hl (k := 3) rfl rfl (by decide) rfl (fun ls hl => ?_)
                        refine lv_goto (tgt := 111) hx hb dX8_goes_174 (by decide) ?_
                        exact ih111 S2 l0 l1 l2 (l3 + 1) hf H locs ls hH (lv_sub hl [1, 2, 3, 0] rfl)
                      refine lv_iload hx hb dX8_goes_120 (lv_at hl 4 rfl) ?_
                      refine lv_iload_n hx hb dX8_goes_122 rfl (lv_at hl 2 rfl) ?_
                      refine lv_icmp_ge (tgt := 156) hx hb dX8_goes_123 (by decide) (fun c1 => ?_) (fun c1 => ?_)
                      · have hf := (if_pos c1).mp hf
                        exact hJ156 S l0 l1 l2 l3 hf H locs ls hH (lv_sub hl [0, 1, 2, 3] rfl)
                      · have hf := (if_neg c1).mp hf
                        refine lv_aload_n hx hb dX8_goes_126 rfl (lv_at hl 0 rfl) ?_
                        refine q_getR (T := TX8) (N := 25) X hH hf iw_X8 rfl (by decide) tw_1610 (fun _ h => h) dX8_goes_127 (fun v2 hf => ?_)
                        refine lv_bipush (v := 13) hx hb dX8_goes_130 (by decide) ?_
                        refine lv_bipush (v := 9) hx hb dX8_goes_132 (by decide) ?_
                        refine lv_iload_n hx hb dX8_goes_134 rfl (lv_at hl 3 rfl) ?_
                        refine lv_imul hx hb dX8_goes_135 ?_
                        refine lv_iadd hx hb dX8_goes_136 ?_
                        refine lv_iload hx hb dX8_goes_137 (lv_at hl 4 rfl) ?_
                        refine lv_iadd hx hb dX8_goes_139 ?_
                        refine lv_aload_n hx hb dX8_goes_140 rfl (lv_at hl 0 rfl) ?_
                        refine lv_iload_n hx hb dX8_goes_141 rfl (lv_at hl 3 rfl) ?_
                        refine lv_iload hx hb dX8_goes_142 (lv_at hl 4 rfl) ?_
                        refine lv_iconst (v := 1) hx hb dX8_goes_144 (by decide) ?_
                        refine lv_iadd hx hb dX8_goes_145 ?_
                        obtain ⟨hb1, hb2, hf⟩ := hf
                        refine q_backI0 X hH (q_runV [.int l3, .int (l4 + 1)] [.int (((13 : Int32) + ((9 : Int32) * l3)) + l4), .ref v2] X hH hl (c_X8_w l D cy G X.2.2.2.1 S l0 l3 (l4 + 1) _ _ hf) mf_X8_w mv_X8_w tw_1745 ⟨Nat.le_of_ble_eq_true rfl, Nat.le_of_ble_eq_true rfl⟩ hb1 hb2 (T := TX8) (N := 25) rfl rfl (Nat.le_of_ble_eq_true rfl) dX8_goes_146 ⟨Nat.le_of_ble_eq_true rfl, Nat.le_of_ble_eq_true rfl⟩) (fun v4 S3 hf H locs hH => ?_)
                        refine q_iast X hH hf dX8_goes_149 (fun S5 hf H locs hH => ?_)
                        refine lv_iinc (v := l4 + 1) (lv' := [(4, .int (l4 + 1)), (0, .ref l0), (1, .int l1), (2, .int l2), (3, .int l3)]) hx hb dX8_goes_150 hl (k := 4) rfl rfl (by decide) rfl (fun ls hl => ?_)
                        refine lv_goto (tgt := 120) hx hb dX8_goes_153 (by decide) ?_
                        exact ih120 S5 l0 l1 l2 l3 (l4 + 1) hf H locs ls hH (lv_sub hl [1, 2, 3, 4, 0] rfl)
                  refine lv_iload_n hx hb dX8_goes_111 rfl (lv_at hl 3 rfl) ?_
                  refine lv_bipush (v := 9) hx hb dX8_goes_112 (by decide) ?_
                  refine lv_icmp_ge (tgt := 177) hx hb dX8_goes_114 (by decide) (fun c1 => ?_) (fun c1 => ?_)
                  · have hf := (if_pos c1).mp hf
                    exact hJ177 S l0 l2 hf H locs ls hH (lv_sub hl [0, 2] rfl)
                  · have hf := (if_neg c1).mp hf
                    refine lv_iload_n hx hb dX8_goes_117 rfl (lv_at hl 1 rfl) ?_
                    refine lv_istore (lv' := [(4, .int l1), (0, .ref l0), (1, .int l1), (2, .int l2), (3, .int l3)]) hx hb dX8_goes_118 hl (by decide) rfl (fun ls hl => ?_)
                    exact hL120 4096 S l0 l1 l2 l3 l1 hf H locs ls hH (lv_sub hl [1, 2, 3, 4, 0] rfl)
              refine lv_iconst (v := 0) hx hb dX8_goes_109 (by decide) ?_
              refine lv_istore_n (lv' := [(3, .int 0), (0, .ref l0), (1, .int l1), (2, .int l2)]) hx hb dX8_goes_110 rfl hl (by decide) rfl (fun ls hl => ?_)
              exact hL111 4096 S l0 l1 l2 0 hf H locs ls hH (lv_sub hl [1, 2, 3, 0] rfl)
            refine lv_iload_n hx hb dX8_goes_82 rfl (lv_at hl 3 rfl) ?_
            refine lv_bipush (v := 9) hx hb dX8_goes_83 (by decide) ?_
            refine lv_icmp_ge (tgt := 109) hx hb dX8_goes_85 (by decide) (fun c1 => ?_) (fun c1 => ?_)
            · have hf := (if_pos c1).mp hf
              exact hJ109 S l0 l1 l2 hf H locs ls hH (lv_sub hl [0, 1, 2] rfl)
            · have hf := (if_neg c1).mp hf
              refine lv_aload_n hx hb dX8_goes_88 rfl (lv_at hl 0 rfl) ?_
              refine q_getR (T := TX8) (N := 25) X hH hf iw_X8 rfl (by decide) tw_1610 (fun _ h => h) dX8_goes_89 (fun v2 hf => ?_)
              refine lv_bipush (v := 13) hx hb dX8_goes_92 (by decide) ?_
              refine lv_bipush (v := 9) hx hb dX8_goes_94 (by decide) ?_
              refine lv_iload_n hx hb dX8_goes_96 rfl (lv_at hl 2 rfl) ?_
              refine lv_imul hx hb dX8_goes_97 ?_
              refine lv_iadd hx hb dX8_goes_98 ?_
              refine lv_iload_n hx hb dX8_goes_99 rfl (lv_at hl 3 rfl) ?_
              refine lv_iadd hx hb dX8_goes_100 ?_
              refine lv_iconst (v := 0) hx hb dX8_goes_101 (by decide) ?_
              refine q_iast X hH hf dX8_goes_102 (fun S3 hf H locs hH => ?_)
              refine lv_iinc (v := l3 + 1) (lv' := [(3, .int (l3 + 1)), (0, .ref l0), (1, .int l1), (2, .int l2)]) hx hb dX8_goes_103 hl (k := 3) rfl rfl (by decide) rfl (fun ls hl => ?_)
              refine lv_goto (tgt := 82) hx hb dX8_goes_106 (by decide) ?_
              exact ih82 S3 l0 l1 l2 (l3 + 1) hf H locs ls hH (lv_sub hl [1, 2, 3, 0] rfl)
        refine lv_iconst (v := 0) hx hb dX8_goes_80 (by decide) ?_
        refine lv_istore_n (lv' := [(3, .int 0), (0, .ref l0), (1, .int l1), (2, .int l2)]) hx hb dX8_goes_81 rfl hl (by decide) rfl (fun ls hl => ?_)
        exact hL82 4096 S l0 l1 l2 0 hf H locs ls hH (lv_sub hl [1, 2, 3, 0] rfl)
      have hL37 : ∀ (n37 : Nat) (S : PS) (l0 : Nat) (l1 : Int32) (l2 : Int32) (l3 : Int32) (l4 : Int32), f_X8_goes_L37 post (f_X8_goes_L11 post n11) n37 S l0 l1 l2 l3 l4 → ∀ (H : Heap) (locs : List Loc) (ls : Array Slot), p_H D cy S A s H locs → lv_has ls 5 [(0, .ref l0), (1, .int l1), (2, .int l2), (3, .int l3), (4, .int l4)] → W p l e rm_X8_goes s m [.ref a0, .int a1].toArray below meth c H locs 0 0 (MQ below (va_Qv post (p_Post D cy A) A) [.ref a0, .int a1].toArray s 0 0 A) (F0 m 37 ls []) := by
        intro n37
        induction n37 with
        | zero => intro S l0 l1 l2 l3 l4 hf; exact hf.elim
        | succ n37 ih37 =>
          intro S l0 l1 l2 l3 l4 hf H locs ls hH hl
          have hJ74 : ∀ (S : PS) (l0 : Nat) (l1 : Int32) (l2 : Int32) (l3 : Int32), f_X8_goes_J74 post (f_X8_goes_L11 post n11) S l0 l1 l2 l3 → ∀ (H : Heap) (locs : List Loc) (ls : Array Slot), p_H D cy S A s H locs → lv_has ls 5 [(0, .ref l0), (1, .int l1), (2, .int l2), (3, .int l3)] → W p l e rm_X8_goes s m [.ref a0, .int a1].toArray below meth c H locs 0 0 (MQ below (va_Qv post (p_Post D cy A) A) [.ref a0, .int a1].toArray s 0 0 A) (F0 m 74 ls []) := by
            intro S l0 l1 l2 l3 hf H locs ls hH hl
            refine lv_iinc (v := l3 + 1) (lv' := [(3, .int (l3 + 1)), (0, .ref l0), (1, .int l1), (2, .int l2)]) hx hb dX8_goes_74 hl (k := 3) rfl rfl (by decide) rfl (fun ls hl => ?_)
            refine lv_goto (tgt := 11) hx hb dX8_goes_77 (by decide) ?_
            exact ih11 S l0 l1 l2 (l3 + 1) hf H locs ls hH (lv_sub hl [1, 2, 3, 0] rfl)
          refine lv_iload hx hb dX8_goes_37 (lv_at hl 4 rfl) ?_
          refine lv_bipush (v := 9) hx hb dX8_goes_39 (by decide) ?_
          refine lv_icmp_ge (tgt := 74) hx hb dX8_goes_41 (by decide) (fun c1 => ?_) (fun c1 => ?_)
          · have hf := (if_pos c1).mp hf
            exact hJ74 S l0 l1 l2 l3 hf H locs ls hH (lv_sub hl [0, 1, 2, 3] rfl)
          · have hf := (if_neg c1).mp hf
            refine lv_aload_n hx hb dX8_goes_44 rfl (lv_at hl 0 rfl) ?_
            refine q_getR (T := TX8) (N := 25) X hH hf iw_X8 rfl (by decide) tw_1610 (fun _ h => h) dX8_goes_45 (fun v2 hf => ?_)
            refine lv_bipush (v := 13) hx hb dX8_goes_48 (by decide) ?_
            refine lv_bipush (v := 9) hx hb dX8_goes_50 (by decide) ?_
            refine lv_iload_n hx hb dX8_goes_52 rfl (lv_at hl 3 rfl) ?_
            refine lv_imul hx hb dX8_goes_53 ?_
            refine lv_iadd hx hb dX8_goes_54 ?_
            refine lv_iload hx hb dX8_goes_55 (lv_at hl 4 rfl) ?_
            refine lv_iadd hx hb dX8_goes_57 ?_
            refine lv_aload_n hx hb dX8_goes_58 rfl (lv_at hl 0 rfl) ?_
            refine lv_iload_n hx hb dX8_goes_59 rfl (lv_at hl 3 rfl) ?_
            refine lv_iconst (v := 1) hx hb dX8_goes_60 (by decide) ?_
            refine lv_iadd hx hb dX8_goes_61 ?_
            refine lv_iload hx hb dX8_goes_62 (lv_at hl 4 rfl) ?_
            obtain ⟨hb1, hb2, hf⟩ := hf
            refine q_backI0 X hH (q_runV [.int (l3 + 1), .int l4] [.int (((13 : Int32) + ((9 : Int32) * l3)) + l4), .ref v2] X hH hl (c_X8_w l D cy G X.2.2.2.1 S l0 (l3 + 1) l4 _ _ hf) mf_X8_w mv_X8_w tw_1745 ⟨Nat.le_of_ble_eq_true rfl, Nat.le_of_ble_eq_true rfl⟩ hb1 hb2 (T := TX8) (N := 25) rfl rfl (Nat.le_of_ble_eq_true rfl) dX8_goes_64 ⟨Nat.le_of_ble_eq_true rfl, Nat.le_of_ble_eq_true rfl⟩) (fun v4 S3 hf H locs hH => ?_)
            refine q_iast X hH hf dX8_goes_67 (fun S5 hf H locs hH => ?_)
            refine lv_iinc (v := l4 + 1) (lv' := [(4, .int (l4 + 1)), (0, .ref l0), (1, .int l1), (2, .int l2), (3, .int l3)]) hx hb dX8_goes_68 hl (k := 4) rfl rfl (by decide) rfl (fun ls hl => ?_)
            refine lv_goto (tgt := 37) hx hb dX8_goes_71 (by decide) ?_
            exact ih37 S5 l0 l1 l2 l3 (l4 + 1) hf H locs ls hH (lv_sub hl [1, 2, 3, 4, 0] rfl)
      refine lv_iload_n hx hb dX8_goes_11 rfl (lv_at hl 3 rfl) ?_
      refine lv_iload_n hx hb dX8_goes_12 rfl (lv_at hl 2 rfl) ?_
      refine lv_icmp_ge (tgt := 80) hx hb dX8_goes_13 (by decide) (fun c1 => ?_) (fun c1 => ?_)
      · have hf := (if_pos c1).mp hf
        exact hJ80 S l0 l1 l2 hf H locs ls hH (lv_sub hl [0, 1, 2] rfl)
      · have hf := (if_neg c1).mp hf
        refine lv_aload_n hx hb dX8_goes_16 rfl (lv_at hl 0 rfl) ?_
        refine q_getR (T := TX8) (N := 25) X hH hf iw_X8 rfl (by decide) tw_1610 (fun _ h => h) dX8_goes_17 (fun v2 hf => ?_)
        refine lv_iconst (v := 4) hx hb dX8_goes_20 (by decide) ?_
        refine lv_iload_n hx hb dX8_goes_21 rfl (lv_at hl 3 rfl) ?_
        refine lv_iadd hx hb dX8_goes_22 ?_
        refine lv_aload_n hx hb dX8_goes_23 rfl (lv_at hl 0 rfl) ?_
        refine q_getR (T := TX8) (N := 25) X hH hf iw_X8 rfl (by decide) tw_1610 (fun _ h => h) dX8_goes_24 (fun v3 hf => ?_)
        refine lv_iconst (v := 4) hx hb dX8_goes_27 (by decide) ?_
        refine lv_iload_n hx hb dX8_goes_28 rfl (lv_at hl 3 rfl) ?_
        refine lv_iadd hx hb dX8_goes_29 ?_
        refine lv_iconst (v := 1) hx hb dX8_goes_30 (by decide) ?_
        refine lv_iadd hx hb dX8_goes_31 ?_
        refine q_iald X hH hf dX8_goes_32 (fun v4 hf => ?_)
        refine q_iast X hH hf dX8_goes_33 (fun S5 hf H locs hH => ?_)
        refine lv_iconst (v := 0) hx hb dX8_goes_34 (by decide) ?_
        refine lv_istore (lv' := [(4, .int 0), (0, .ref l0), (1, .int l1), (2, .int l2), (3, .int l3)]) hx hb dX8_goes_35 hl (by decide) rfl (fun ls hl => ?_)
        exact hL37 4096 S5 l0 l1 l2 l3 0 hf H locs ls hH (lv_sub hl [1, 2, 3, 4, 0] rfl)
  refine lv_aload_n hx hb dX8_goes_0 rfl (lv_at hl 0 rfl) ?_
  refine q_getR (T := TX8) (N := 25) X hH hf iw_X8 rfl (by decide) tw_1610 (fun _ h => h) dX8_goes_1 (fun v1 hf => ?_)
  refine lv_iconst (v := 0) hx hb dX8_goes_4 (by decide) ?_
  refine q_iald X hH hf dX8_goes_5 (fun v2 hf => ?_)
  refine lv_iconst (v := 1) hx hb dX8_goes_6 (by decide) ?_
  refine lv_isub hx hb dX8_goes_7 ?_
  refine lv_istore_n (lv' := [(2, .int (v2 - 1)), (0, .ref a0), (1, .int a1)]) hx hb dX8_goes_8 rfl hl (by decide) rfl (fun ls hl => ?_)
  refine lv_iload_n hx hb dX8_goes_9 rfl (lv_at hl 2 rfl) ?_
  refine lv_istore_n (lv' := [(3, .int a1), (2, .int (v2 - 1)), (0, .ref a0), (1, .int a1)]) hx hb dX8_goes_10 rfl hl (by decide) rfl (fun ls hl => ?_)
  exact hL11 4096 S a0 a1 (v2 - 1) a1 hf H locs ls hH (lv_sub hl [2, 3, 1, 0] rfl)
-- X8_leaves
def f_X8_leaves (S : PS) (a0 : Nat) (a1 : Int32) (post : Int32 → PS → Prop) : Prop :=
  isO S a0 12 (
  f_X8_isNone S a0 a1 fun v2 S1 => (
  if v2 = 0 then
    isO S1 a0 12 (
    f_X8_goes S1 a0 a1 fun S4 => (
    gR S4 a0 12 1 fun v6 => (
    aI S4 v6 0 0 fun v7 => (
    pV S4 a0 12 4 (.int v7) fun S8 => (
    nZ .boolean 1 (post 1 S8))))))
  else
    nZ .boolean 0 (post 0 S1)))
abbrev rm_X8_leaves : Room := { frames := 3, cells := 0, slots := 0, locals := 64 }
set_option maxHeartbeats 4000000 in
set_option maxRecDepth 100000 in
theorem c_X8_leaves (l : Launch) (D : va_G) (cy : Nat → ClassId) (G : p_GT) (hG : p_ok G) (S : PS) (a0 : Nat) (a1 : Int32) (post : Int32 → PS → Prop) (sz : Nat) (hf : f_X8_leaves S a0 a1 post) : p_Mi l D cy G S sz yX8_leaves (Cond.code yX8_leaves cX8_leaves 2 (some .boolean) :: wG) rm_X8_leaves [.ref a0, .int a1] 0 0 post := by
  refine q_start hG (Qc := fun A => va_Qi post (p_Post D cy A) A) mf_X8_leaves (Nat.le_of_ble_eq_true rfl) (own := RX8) rfl ?_
  intro p e s m below meth c A X hr hlk hnm ls hl hH
  have hx := X.1.1
  have hb := X.1.2.1
  replace hl : lv_has ls 2 [(0, .ref a0), (1, .int a1)] := hl
  obtain ⟨H, hHe⟩ : ∃ H, H = s.heap := ⟨_, rfl⟩
  obtain ⟨locs, hlo⟩ : ∃ locs : List Loc, locs = [] := ⟨_, rfl⟩
  rw [← hHe, ← hlo] at hH
  show W p l e rm_X8_leaves s m [.ref a0, .int a1].toArray below meth c s.heap [] 0 0 _ _
  rw [← hHe, ← hlo]
  refine lv_aload_n hx hb dX8_leaves_0 rfl (lv_at hl 0 rfl) ?_
  refine lv_iload_n hx hb dX8_leaves_1 rfl (lv_at hl 1 rfl) ?_
  obtain ⟨hb1, hb2, hf⟩ := hf
  refine q_backI0 X hH (q_runV [.int a1] [] X hH hl (c_X8_isNone l D cy G X.2.2.2.1 S a0 a1 _ _ hf) mf_X8_isNone mv_X8_isNone tw_1733 ⟨Nat.le_of_ble_eq_true rfl, Nat.le_of_ble_eq_true rfl⟩ hb1 hb2 (T := TX8) (N := 25) rfl rfl (Nat.le_of_ble_eq_true rfl) dX8_leaves_2 ⟨Nat.le_of_ble_eq_true rfl, Nat.le_of_ble_eq_true rfl⟩) (fun v2 S1 hf H locs hH => ?_)
  refine lv_if_eq (tgt := 10) hx hb dX8_leaves_5 (by decide) (fun c3 => ?_) (fun c3 => ?_)
  · have hf := (if_pos c3).mp hf
    refine lv_aload_n hx hb dX8_leaves_10 rfl (lv_at hl 0 rfl) ?_
    refine lv_iload_n hx hb dX8_leaves_11 rfl (lv_at hl 1 rfl) ?_
    obtain ⟨hb1, hb2, hf⟩ := hf
    refine q_backV0 X hH (q_runV [.int a1] [] X hH hl (c_X8_goes l D cy G X.2.2.2.1 S1 a0 a1 _ _ hf) mf_X8_goes mv_X8_goes tw_1741 ⟨Nat.le_of_ble_eq_true rfl, Nat.le_of_ble_eq_true rfl⟩ hb1 hb2 (T := TX8) (N := 25) rfl rfl (Nat.le_of_ble_eq_true rfl) dX8_leaves_12 ⟨Nat.le_of_ble_eq_true rfl, Nat.le_of_ble_eq_true rfl⟩) (fun S4 hf H locs hH => ?_)
    refine lv_aload_n hx hb dX8_leaves_15 rfl (lv_at hl 0 rfl) ?_
    refine lv_aload_n hx hb dX8_leaves_16 rfl (lv_at hl 0 rfl) ?_
    refine q_getR (T := TX8) (N := 25) X hH hf iw_X8 rfl (by decide) tw_1610 (fun _ h => h) dX8_leaves_17 (fun v6 hf => ?_)
    refine lv_iconst (v := 0) hx hb dX8_leaves_20 (by decide) ?_
    refine q_iald X hH hf dX8_leaves_21 (fun v7 hf => ?_)
    refine q_putV (T := TX8) (N := 25) (ty0 := tyX8) (ty := tyX8 4) X hH hf iw_X8 tyX8_ok nmX8 rfl (by decide) tw_1613 (fun _ h => h) rfl (tyX8_ok 4 (by decide)) rfl rfl dX8_leaves_22 (fun S8 hf H locs hH => ?_)
    refine lv_iconst (v := 1) hx hb dX8_leaves_25 (by decide) ?_
    exact q_retZ X hH hr hlk hf (Nat.zero_le _) (Nat.zero_le _) dX8_leaves_26
  · have hf := (if_neg c3).mp hf
    refine lv_iconst (v := 0) hx hb dX8_leaves_8 (by decide) ?_
    exact q_retZ X hH hr hlk hf (Nat.zero_le _) (Nat.zero_le _) dX8_leaves_9
-- X8_leave
def f_X8_leave (S : PS) (a0 : Nat) (a1 : Int32) (post : Int32 → PS → Prop) : Prop :=
  isO S a0 12 (
  f_X8_begins S a0 fun S1 => (
  isO S1 a0 12 (
  f_X8_leaves S1 a0 a1 fun v4 S3 => (
  isO S3 a0 12 (
  f_X8_ends S3 a0 v4 1 fun v6 S5 => (
  post v6 S5))))))
abbrev rm_X8_leave : Room := { frames := 4, cells := 0, slots := 0, locals := 85 }
set_option maxHeartbeats 4000000 in
set_option maxRecDepth 100000 in
theorem c_X8_leave (l : Launch) (D : va_G) (cy : Nat → ClassId) (G : p_GT) (hG : p_ok G) (S : PS) (a0 : Nat) (a1 : Int32) (post : Int32 → PS → Prop) (sz : Nat) (hf : f_X8_leave S a0 a1 post) : p_Mi l D cy G S sz yX8_leave (Cond.code yX8_leave cX8_leave 2 (some .int) :: wG) rm_X8_leave [.ref a0, .int a1] 0 0 post := by
  refine q_start hG (Qc := fun A => va_Qi post (p_Post D cy A) A) mf_X8_leave (Nat.le_of_ble_eq_true rfl) (own := RX8) rfl ?_
  intro p e s m below meth c A X hr hlk hnm ls hl hH
  have hx := X.1.1
  have hb := X.1.2.1
  replace hl : lv_has ls 2 [(0, .ref a0), (1, .int a1)] := hl
  obtain ⟨H, hHe⟩ : ∃ H, H = s.heap := ⟨_, rfl⟩
  obtain ⟨locs, hlo⟩ : ∃ locs : List Loc, locs = [] := ⟨_, rfl⟩
  rw [← hHe, ← hlo] at hH
  show W p l e rm_X8_leave s m [.ref a0, .int a1].toArray below meth c s.heap [] 0 0 _ _
  rw [← hHe, ← hlo]
  refine lv_aload_n hx hb dX8_leave_0 rfl (lv_at hl 0 rfl) ?_
  obtain ⟨hb1, hb2, hf⟩ := hf
  refine q_backV0 X hH (q_runV [] [] X hH hl (c_X8_begins l D cy G X.2.2.2.1 S a0 _ _ hf) mf_X8_begins mv_X8_begins tw_1701 ⟨Nat.le_of_ble_eq_true rfl, Nat.le_of_ble_eq_true rfl⟩ hb1 hb2 (T := TX8) (N := 25) rfl rfl (Nat.le_of_ble_eq_true rfl) dX8_leave_1 ⟨Nat.le_of_ble_eq_true rfl, Nat.le_of_ble_eq_true rfl⟩) (fun S1 hf H locs hH => ?_)
  refine lv_aload_n hx hb dX8_leave_4 rfl (lv_at hl 0 rfl) ?_
  refine lv_aload_n hx hb dX8_leave_5 rfl (lv_at hl 0 rfl) ?_
  refine lv_iload_n hx hb dX8_leave_6 rfl (lv_at hl 1 rfl) ?_
  obtain ⟨hb1, hb2, hf⟩ := hf
  refine q_backI0 X hH (q_runV [.int a1] [.ref a0] X hH hl (c_X8_leaves l D cy G X.2.2.2.1 S1 a0 a1 _ _ hf) mf_X8_leaves mv_X8_leaves tw_1729 ⟨Nat.le_of_ble_eq_true rfl, Nat.le_of_ble_eq_true rfl⟩ hb1 hb2 (T := TX8) (N := 25) rfl rfl (Nat.le_of_ble_eq_true rfl) dX8_leave_7 ⟨Nat.le_of_ble_eq_true rfl, Nat.le_of_ble_eq_true rfl⟩) (fun v4 S3 hf H locs hH => ?_)
  refine lv_iconst (v := 1) hx hb dX8_leave_10 (by decide) ?_
  obtain ⟨hb1, hb2, hf⟩ := hf
  refine q_backI0 X hH (q_runV [.int v4, .int 1] [] X hH hl (c_X8_ends l D cy G X.2.2.2.1 S3 a0 v4 1 _ _ hf) mf_X8_ends mv_X8_ends tw_1721 ⟨Nat.le_of_ble_eq_true rfl, Nat.le_of_ble_eq_true rfl⟩ hb1 hb2 (T := TX8) (N := 25) rfl rfl (Nat.le_of_ble_eq_true rfl) dX8_leave_11 ⟨Nat.le_of_ble_eq_true rfl, Nat.le_of_ble_eq_true rfl⟩) (fun v6 S5 hf H locs hH => ?_)
  exact q_retI X hH hr hlk hf (Nat.zero_le _) (Nat.zero_le _) dX8_leave_14
-- X8_bonds
def f_X8_bonds_J49 (post : Int32 → PS → Prop) (S : PS) (l0 : Nat) (l1 : Int32) (l2 : Int32) (l3 : Int32) (t0 : Int32) (t1 : Nat) : Prop :=
  isO S t1 12 (
  f_X8_refuses S t1 t0 5 l3 fun v2 S1 => (
  if v2 = 0 then
    isO S1 l0 12 (
    f_X8_w S1 l0 l1 l2 fun v5 S4 => (
    pV S4 l0 12 4 (.int v5) fun S6 => (
    isO S6 l0 12 (
    f_X8_setBond S6 l0 l1 l2 l3 fun S7 => (
    nZ .boolean 1 (post 1 S7))))))
  else
    nZ .boolean 0 (post 0 S1)))
def f_X8_bonds_J25 (post : Int32 → PS → Prop) (S : PS) (l0 : Nat) (l1 : Int32) (l2 : Int32) (l3 : Int32) (t0 : Int32) (t1 : Nat) : Prop :=
  isO S t1 12 (
  f_X8_refuses S t1 t0 4 l3 fun v2 S1 => (
  if v2 = 0 then
    isO S1 l0 12 (
    f_X8_w S1 l0 l1 l2 fun v5 S4 => (
    if v5 = l3 then
      f_X8_bonds_J49 post S4 l0 l1 l2 l3 1 l0
    else
      f_X8_bonds_J49 post S4 l0 l1 l2 l3 0 l0))
  else
    nZ .boolean 0 (post 0 S1)))
def f_X8_bonds (S : PS) (a0 : Nat) (a1 : Int32) (a2 : Int32) (a3 : Int32) (post : Int32 → PS → Prop) : Prop :=
  isO S a0 12 (
  f_X8_areNone S a0 a1 a2 fun v2 S1 => (
  if v2 = 0 then
    f_X8_in S1 a3 1 99 fun v5 S4 => (
    if v5 = 0 then
      f_X8_bonds_J25 post S4 a0 a1 a2 a3 1 a0
    else
      f_X8_bonds_J25 post S4 a0 a1 a2 a3 0 a0)
  else
    nZ .boolean 0 (post 0 S1)))
abbrev rm_X8_bonds : Room := { frames := 4, cells := 0, slots := 0, locals := 86 }
set_option maxHeartbeats 4000000 in
set_option maxRecDepth 100000 in
theorem c_X8_bonds (l : Launch) (D : va_G) (cy : Nat → ClassId) (G : p_GT) (hG : p_ok G) (S : PS) (a0 : Nat) (a1 : Int32) (a2 : Int32) (a3 : Int32) (post : Int32 → PS → Prop) (sz : Nat) (hf : f_X8_bonds S a0 a1 a2 a3 post) : p_Mi l D cy G S sz yX8_bonds (Cond.code yX8_bonds cX8_bonds 4 (some .boolean) :: wG) rm_X8_bonds [.ref a0, .int a1, .int a2, .int a3] 0 0 post := by
  refine q_start hG (Qc := fun A => va_Qi post (p_Post D cy A) A) mf_X8_bonds (Nat.le_of_ble_eq_true rfl) (own := RX8) rfl ?_
  intro p e s m below meth c A X hr hlk hnm ls hl hH
  have hx := X.1.1
  have hb := X.1.2.1
  replace hl : lv_has ls 4 [(0, .ref a0), (1, .int a1), (2, .int a2), (3, .int a3)] := hl
  obtain ⟨H, hHe⟩ : ∃ H, H = s.heap := ⟨_, rfl⟩
  obtain ⟨locs, hlo⟩ : ∃ locs : List Loc, locs = [] := ⟨_, rfl⟩
  rw [← hHe, ← hlo] at hH
  show W p l e rm_X8_bonds s m [.ref a0, .int a1, .int a2, .int a3].toArray below meth c s.heap [] 0 0 _ _
  rw [← hHe, ← hlo]
  have hJ25 : ∀ (S : PS) (l0 : Nat) (l1 : Int32) (l2 : Int32) (l3 : Int32) (t0 : Int32) (t1 : Nat), f_X8_bonds_J25 post S l0 l1 l2 l3 t0 t1 → ∀ (H : Heap) (locs : List Loc) (ls : Array Slot), p_H D cy S A s H locs → lv_has ls 4 [(0, .ref l0), (1, .int l1), (2, .int l2), (3, .int l3)] → W p l e rm_X8_bonds s m [.ref a0, .int a1, .int a2, .int a3].toArray below meth c H locs 0 0 (MQ below (va_Qi post (p_Post D cy A) A) [.ref a0, .int a1, .int a2, .int a3].toArray s 0 0 A) (F0 m 25 ls [.int t0, .ref t1]) := by
    intro S l0 l1 l2 l3 t0 t1 hf H locs ls hH hl
    have hJ49 : ∀ (S : PS) (l0 : Nat) (l1 : Int32) (l2 : Int32) (l3 : Int32) (t0 : Int32) (t1 : Nat), f_X8_bonds_J49 post S l0 l1 l2 l3 t0 t1 → ∀ (H : Heap) (locs : List Loc) (ls : Array Slot), p_H D cy S A s H locs → lv_has ls 4 [(0, .ref l0), (1, .int l1), (2, .int l2), (3, .int l3)] → W p l e rm_X8_bonds s m [.ref a0, .int a1, .int a2, .int a3].toArray below meth c H locs 0 0 (MQ below (va_Qi post (p_Post D cy A) A) [.ref a0, .int a1, .int a2, .int a3].toArray s 0 0 A) (F0 m 49 ls [.int t0, .ref t1]) := by
      intro S l0 l1 l2 l3 t0 t1 hf H locs ls hH hl
      refine lv_iconst (v := 5) hx hb dX8_bonds_49 (by decide) ?_
      refine lv_iload_n hx hb dX8_bonds_50 rfl (lv_at hl 3 rfl) ?_
      obtain ⟨hb1, hb2, hf⟩ := hf
      refine q_backI0 X hH (q_runV [.int t0, .int 5, .int l3] [] X hH hl (c_X8_refuses l D cy G X.2.2.2.1 S t1 t0 5 l3 _ _ hf) mf_X8_refuses mv_X8_refuses tw_1713 ⟨Nat.le_of_ble_eq_true rfl, Nat.le_of_ble_eq_true rfl⟩ hb1 hb2 (T := TX8) (N := 25) rfl rfl (Nat.le_of_ble_eq_true rfl) dX8_bonds_51 ⟨Nat.le_of_ble_eq_true rfl, Nat.le_of_ble_eq_true rfl⟩) (fun v2 S1 hf H locs hH => ?_)
      refine lv_if_eq (tgt := 59) hx hb dX8_bonds_54 (by decide) (fun c3 => ?_) (fun c3 => ?_)
      · have hf := (if_pos c3).mp hf
        refine lv_aload_n hx hb dX8_bonds_59 rfl (lv_at hl 0 rfl) ?_
        refine lv_aload_n hx hb dX8_bonds_60 rfl (lv_at hl 0 rfl) ?_
        refine lv_iload_n hx hb dX8_bonds_61 rfl (lv_at hl 1 rfl) ?_
        refine lv_iload_n hx hb dX8_bonds_62 rfl (lv_at hl 2 rfl) ?_
        obtain ⟨hb1, hb2, hf⟩ := hf
        refine q_backI0 X hH (q_runV [.int l1, .int l2] [.ref l0] X hH hl (c_X8_w l D cy G X.2.2.2.1 S1 l0 l1 l2 _ _ hf) mf_X8_w mv_X8_w tw_1745 ⟨Nat.le_of_ble_eq_true rfl, Nat.le_of_ble_eq_true rfl⟩ hb1 hb2 (T := TX8) (N := 25) rfl rfl (Nat.le_of_ble_eq_true rfl) dX8_bonds_63 ⟨Nat.le_of_ble_eq_true rfl, Nat.le_of_ble_eq_true rfl⟩) (fun v5 S4 hf H locs hH => ?_)
        refine q_putV (T := TX8) (N := 25) (ty0 := tyX8) (ty := tyX8 4) X hH hf iw_X8 tyX8_ok nmX8 rfl (by decide) tw_1613 (fun _ h => h) rfl (tyX8_ok 4 (by decide)) rfl rfl dX8_bonds_66 (fun S6 hf H locs hH => ?_)
        refine lv_aload_n hx hb dX8_bonds_69 rfl (lv_at hl 0 rfl) ?_
        refine lv_iload_n hx hb dX8_bonds_70 rfl (lv_at hl 1 rfl) ?_
        refine lv_iload_n hx hb dX8_bonds_71 rfl (lv_at hl 2 rfl) ?_
        refine lv_iload_n hx hb dX8_bonds_72 rfl (lv_at hl 3 rfl) ?_
        obtain ⟨hb1, hb2, hf⟩ := hf
        refine q_backV0 X hH (q_runV [.int l1, .int l2, .int l3] [] X hH hl (c_X8_setBond l D cy G X.2.2.2.1 S6 l0 l1 l2 l3 _ _ hf) mf_X8_setBond mv_X8_setBond tw_1717 ⟨Nat.le_of_ble_eq_true rfl, Nat.le_of_ble_eq_true rfl⟩ hb1 hb2 (T := TX8) (N := 25) rfl rfl (Nat.le_of_ble_eq_true rfl) dX8_bonds_73 ⟨Nat.le_of_ble_eq_true rfl, Nat.le_of_ble_eq_true rfl⟩) (fun S7 hf H locs hH => ?_)
        refine lv_iconst (v := 1) hx hb dX8_bonds_76 (by decide) ?_
        exact q_retZ X hH hr hlk hf (Nat.zero_le _) (Nat.zero_le _) dX8_bonds_77
      · have hf := (if_neg c3).mp hf
        refine lv_iconst (v := 0) hx hb dX8_bonds_57 (by decide) ?_
        exact q_retZ X hH hr hlk hf (Nat.zero_le _) (Nat.zero_le _) dX8_bonds_58
    refine lv_iconst (v := 4) hx hb dX8_bonds_25 (by decide) ?_
    refine lv_iload_n hx hb dX8_bonds_26 rfl (lv_at hl 3 rfl) ?_
    obtain ⟨hb1, hb2, hf⟩ := hf
    refine q_backI0 X hH (q_runV [.int t0, .int 4, .int l3] [] X hH hl (c_X8_refuses l D cy G X.2.2.2.1 S t1 t0 4 l3 _ _ hf) mf_X8_refuses mv_X8_refuses tw_1713 ⟨Nat.le_of_ble_eq_true rfl, Nat.le_of_ble_eq_true rfl⟩ hb1 hb2 (T := TX8) (N := 25) rfl rfl (Nat.le_of_ble_eq_true rfl) dX8_bonds_27 ⟨Nat.le_of_ble_eq_true rfl, Nat.le_of_ble_eq_true rfl⟩) (fun v2 S1 hf H locs hH => ?_)
    refine lv_if_ne (tgt := 57) hx hb dX8_bonds_30 (by decide) (fun c3 => ?_) (fun c3 => ?_)
    · have hf := (if_neg c3).mp hf
      refine lv_iconst (v := 0) hx hb dX8_bonds_57 (by decide) ?_
      exact q_retZ X hH hr hlk hf (Nat.zero_le _) (Nat.zero_le _) dX8_bonds_58
    · have hf := (if_pos c3).mp hf
      refine lv_aload_n hx hb dX8_bonds_33 rfl (lv_at hl 0 rfl) ?_
      refine lv_aload_n hx hb dX8_bonds_34 rfl (lv_at hl 0 rfl) ?_
      refine lv_iload_n hx hb dX8_bonds_35 rfl (lv_at hl 1 rfl) ?_
      refine lv_iload_n hx hb dX8_bonds_36 rfl (lv_at hl 2 rfl) ?_
      obtain ⟨hb1, hb2, hf⟩ := hf
      refine q_backI0 X hH (q_runV [.int l1, .int l2] [.ref l0] X hH hl (c_X8_w l D cy G X.2.2.2.1 S1 l0 l1 l2 _ _ hf) mf_X8_w mv_X8_w tw_1745 ⟨Nat.le_of_ble_eq_true rfl, Nat.le_of_ble_eq_true rfl⟩ hb1 hb2 (T := TX8) (N := 25) rfl rfl (Nat.le_of_ble_eq_true rfl) dX8_bonds_37 ⟨Nat.le_of_ble_eq_true rfl, Nat.le_of_ble_eq_true rfl⟩) (fun v5 S4 hf H locs hH => ?_)
      refine lv_iload_n hx hb dX8_bonds_40 rfl (lv_at hl 3 rfl) ?_
      refine lv_icmp_ne (tgt := 48) hx hb dX8_bonds_41 (by decide) (fun c6 => ?_) (fun c6 => ?_)
      · have hf := (if_neg c6).mp hf
        refine lv_iconst (v := 0) hx hb dX8_bonds_48 (by decide) ?_
        exact hJ49 S4 l0 l1 l2 l3 0 l0 hf H locs ls hH hl
      · have hf := (if_pos c6).mp hf
        refine lv_iconst (v := 1) hx hb dX8_bonds_44 (by decide) ?_
        refine lv_goto (tgt := 49) hx hb dX8_bonds_45 (by decide) ?_
        exact hJ49 S4 l0 l1 l2 l3 1 l0 hf H locs ls hH hl
  refine lv_aload_n hx hb dX8_bonds_0 rfl (lv_at hl 0 rfl) ?_
  refine lv_iload_n hx hb dX8_bonds_1 rfl (lv_at hl 1 rfl) ?_
  refine lv_iload_n hx hb dX8_bonds_2 rfl (lv_at hl 2 rfl) ?_
  obtain ⟨hb1, hb2, hf⟩ := hf
  refine q_backI0 X hH (q_runV [.int a1, .int a2] [] X hH hl (c_X8_areNone l D cy G X.2.2.2.1 S a0 a1 a2 _ _ hf) mf_X8_areNone mv_X8_areNone tw_1757 ⟨Nat.le_of_ble_eq_true rfl, Nat.le_of_ble_eq_true rfl⟩ hb1 hb2 (T := TX8) (N := 25) rfl rfl (Nat.le_of_ble_eq_true rfl) dX8_bonds_3 ⟨Nat.le_of_ble_eq_true rfl, Nat.le_of_ble_eq_true rfl⟩) (fun v2 S1 hf H locs hH => ?_)
  refine lv_if_ne (tgt := 57) hx hb dX8_bonds_6 (by decide) (fun c3 => ?_) (fun c3 => ?_)
  · have hf := (if_neg c3).mp hf
    refine lv_iconst (v := 0) hx hb dX8_bonds_57 (by decide) ?_
    exact q_retZ X hH hr hlk hf (Nat.zero_le _) (Nat.zero_le _) dX8_bonds_58
  · have hf := (if_pos c3).mp hf
    refine lv_aload_n hx hb dX8_bonds_9 rfl (lv_at hl 0 rfl) ?_
    refine lv_iload_n hx hb dX8_bonds_10 rfl (lv_at hl 3 rfl) ?_
    refine lv_iconst (v := 1) hx hb dX8_bonds_11 (by decide) ?_
    refine lv_bipush (v := 99) hx hb dX8_bonds_12 (by decide) ?_
    refine q_backI0 X hH (q_runS [.int a3, .int 1, .int 99] [.ref a0] X hH hl (c_X8_in l D cy G X.2.2.2.1 S1 a3 1 99 _ _ hf) mf_X8_in tw_1695 tw_1694 ⟨Nat.le_of_ble_eq_true rfl, Nat.le_of_ble_eq_true rfl⟩ rfl (Nat.le_of_ble_eq_true rfl) dX8_bonds_14 ⟨Nat.le_of_ble_eq_true rfl, Nat.le_of_ble_eq_true rfl⟩) (fun v5 S4 hf H locs hH => ?_)
    refine lv_if_ne (tgt := 24) hx hb dX8_bonds_17 (by decide) (fun c6 => ?_) (fun c6 => ?_)
    · have hf := (if_neg c6).mp hf
      refine lv_iconst (v := 0) hx hb dX8_bonds_24 (by decide) ?_
      exact hJ25 S4 a0 a1 a2 a3 0 a0 hf H locs ls hH hl
    · have hf := (if_pos c6).mp hf
      refine lv_iconst (v := 1) hx hb dX8_bonds_20 (by decide) ?_
      refine lv_goto (tgt := 25) hx hb dX8_bonds_21 (by decide) ?_
      exact hJ25 S4 a0 a1 a2 a3 1 a0 hf H locs ls hH hl
-- X8_bond
def f_X8_bond (S : PS) (a0 : Nat) (a1 : Int32) (a2 : Int32) (a3 : Int32) (post : Int32 → PS → Prop) : Prop :=
  isO S a0 12 (
  f_X8_begins S a0 fun S1 => (
  isO S1 a0 12 (
  f_X8_bonds S1 a0 a1 a2 a3 fun v4 S3 => (
  isO S3 a0 12 (
  f_X8_ends S3 a0 v4 1 fun v6 S5 => (
  post v6 S5))))))
abbrev rm_X8_bond : Room := { frames := 5, cells := 0, slots := 0, locals := 109 }
set_option maxHeartbeats 4000000 in
set_option maxRecDepth 100000 in
theorem c_X8_bond (l : Launch) (D : va_G) (cy : Nat → ClassId) (G : p_GT) (hG : p_ok G) (S : PS) (a0 : Nat) (a1 : Int32) (a2 : Int32) (a3 : Int32) (post : Int32 → PS → Prop) (sz : Nat) (hf : f_X8_bond S a0 a1 a2 a3 post) : p_Mi l D cy G S sz yX8_bond (Cond.code yX8_bond cX8_bond 4 (some .int) :: wG) rm_X8_bond [.ref a0, .int a1, .int a2, .int a3] 0 0 post := by
  refine q_start hG (Qc := fun A => va_Qi post (p_Post D cy A) A) mf_X8_bond (Nat.le_of_ble_eq_true rfl) (own := RX8) rfl ?_
  intro p e s m below meth c A X hr hlk hnm ls hl hH
  have hx := X.1.1
  have hb := X.1.2.1
  replace hl : lv_has ls 4 [(0, .ref a0), (1, .int a1), (2, .int a2), (3, .int a3)] := hl
  obtain ⟨H, hHe⟩ : ∃ H, H = s.heap := ⟨_, rfl⟩
  obtain ⟨locs, hlo⟩ : ∃ locs : List Loc, locs = [] := ⟨_, rfl⟩
  rw [← hHe, ← hlo] at hH
  show W p l e rm_X8_bond s m [.ref a0, .int a1, .int a2, .int a3].toArray below meth c s.heap [] 0 0 _ _
  rw [← hHe, ← hlo]
  refine lv_aload_n hx hb dX8_bond_0 rfl (lv_at hl 0 rfl) ?_
  obtain ⟨hb1, hb2, hf⟩ := hf
  refine q_backV0 X hH (q_runV [] [] X hH hl (c_X8_begins l D cy G X.2.2.2.1 S a0 _ _ hf) mf_X8_begins mv_X8_begins tw_1701 ⟨Nat.le_of_ble_eq_true rfl, Nat.le_of_ble_eq_true rfl⟩ hb1 hb2 (T := TX8) (N := 25) rfl rfl (Nat.le_of_ble_eq_true rfl) dX8_bond_1 ⟨Nat.le_of_ble_eq_true rfl, Nat.le_of_ble_eq_true rfl⟩) (fun S1 hf H locs hH => ?_)
  refine lv_aload_n hx hb dX8_bond_4 rfl (lv_at hl 0 rfl) ?_
  refine lv_aload_n hx hb dX8_bond_5 rfl (lv_at hl 0 rfl) ?_
  refine lv_iload_n hx hb dX8_bond_6 rfl (lv_at hl 1 rfl) ?_
  refine lv_iload_n hx hb dX8_bond_7 rfl (lv_at hl 2 rfl) ?_
  refine lv_iload_n hx hb dX8_bond_8 rfl (lv_at hl 3 rfl) ?_
  obtain ⟨hb1, hb2, hf⟩ := hf
  refine q_backI0 X hH (q_runV [.int a1, .int a2, .int a3] [.ref a0] X hH hl (c_X8_bonds l D cy G X.2.2.2.1 S1 a0 a1 a2 a3 _ _ hf) mf_X8_bonds mv_X8_bonds tw_1753 ⟨Nat.le_of_ble_eq_true rfl, Nat.le_of_ble_eq_true rfl⟩ hb1 hb2 (T := TX8) (N := 25) rfl rfl (Nat.le_of_ble_eq_true rfl) dX8_bond_9 ⟨Nat.le_of_ble_eq_true rfl, Nat.le_of_ble_eq_true rfl⟩) (fun v4 S3 hf H locs hH => ?_)
  refine lv_iconst (v := 1) hx hb dX8_bond_12 (by decide) ?_
  obtain ⟨hb1, hb2, hf⟩ := hf
  refine q_backI0 X hH (q_runV [.int v4, .int 1] [] X hH hl (c_X8_ends l D cy G X.2.2.2.1 S3 a0 v4 1 _ _ hf) mf_X8_ends mv_X8_ends tw_1721 ⟨Nat.le_of_ble_eq_true rfl, Nat.le_of_ble_eq_true rfl⟩ hb1 hb2 (T := TX8) (N := 25) rfl rfl (Nat.le_of_ble_eq_true rfl) dX8_bond_13 ⟨Nat.le_of_ble_eq_true rfl, Nat.le_of_ble_eq_true rfl⟩) (fun v6 S5 hf H locs hH => ?_)
  exact q_retI X hH hr hlk hf (Nat.zero_le _) (Nat.zero_le _) dX8_bond_16
-- X8_loosens
def f_X8_loosens_J24 (post : Int32 → PS → Prop) (S : PS) (l0 : Nat) (l1 : Int32) (l2 : Int32) (t0 : Int32) (t1 : Nat) : Prop :=
  isO S l0 12 (
  f_X8_bondMany S l0 fun v2 S1 => (
  isO S1 t1 12 (
  f_X8_refuses S1 t1 t0 6 v2 fun v4 S3 => (
  if v4 = 0 then
    isO S3 l0 12 (
    f_X8_w S3 l0 l1 l2 fun v7 S6 => (
    pV S6 l0 12 4 (.int v7) fun S8 => (
    isO S8 l0 12 (
    f_X8_setBond S8 l0 l1 l2 0 fun S9 => (
    nZ .boolean 1 (post 1 S9))))))
  else
    nZ .boolean 0 (post 0 S3)))))
def f_X8_loosens (S : PS) (a0 : Nat) (a1 : Int32) (a2 : Int32) (post : Int32 → PS → Prop) : Prop :=
  isO S a0 12 (
  f_X8_areNone S a0 a1 a2 fun v2 S1 => (
  if v2 = 0 then
    isO S1 a0 12 (
    f_X8_w S1 a0 a1 a2 fun v5 S4 => (
    if v5 = 0 then
      f_X8_loosens_J24 post S4 a0 a1 a2 1 a0
    else
      f_X8_loosens_J24 post S4 a0 a1 a2 0 a0))
  else
    nZ .boolean 0 (post 0 S1)))
abbrev rm_X8_loosens : Room := { frames := 4, cells := 0, slots := 0, locals := 86 }
set_option maxHeartbeats 4000000 in
set_option maxRecDepth 100000 in
theorem c_X8_loosens (l : Launch) (D : va_G) (cy : Nat → ClassId) (G : p_GT) (hG : p_ok G) (S : PS) (a0 : Nat) (a1 : Int32) (a2 : Int32) (post : Int32 → PS → Prop) (sz : Nat) (hf : f_X8_loosens S a0 a1 a2 post) : p_Mi l D cy G S sz yX8_loosens (Cond.code yX8_loosens cX8_loosens 3 (some .boolean) :: wG) rm_X8_loosens [.ref a0, .int a1, .int a2] 0 0 post := by
  refine q_start hG (Qc := fun A => va_Qi post (p_Post D cy A) A) mf_X8_loosens (Nat.le_of_ble_eq_true rfl) (own := RX8) rfl ?_
  intro p e s m below meth c A X hr hlk hnm ls hl hH
  have hx := X.1.1
  have hb := X.1.2.1
  replace hl : lv_has ls 3 [(0, .ref a0), (1, .int a1), (2, .int a2)] := hl
  obtain ⟨H, hHe⟩ : ∃ H, H = s.heap := ⟨_, rfl⟩
  obtain ⟨locs, hlo⟩ : ∃ locs : List Loc, locs = [] := ⟨_, rfl⟩
  rw [← hHe, ← hlo] at hH
  show W p l e rm_X8_loosens s m [.ref a0, .int a1, .int a2].toArray below meth c s.heap [] 0 0 _ _
  rw [← hHe, ← hlo]
  have hJ24 : ∀ (S : PS) (l0 : Nat) (l1 : Int32) (l2 : Int32) (t0 : Int32) (t1 : Nat), f_X8_loosens_J24 post S l0 l1 l2 t0 t1 → ∀ (H : Heap) (locs : List Loc) (ls : Array Slot), p_H D cy S A s H locs → lv_has ls 3 [(0, .ref l0), (1, .int l1), (2, .int l2)] → W p l e rm_X8_loosens s m [.ref a0, .int a1, .int a2].toArray below meth c H locs 0 0 (MQ below (va_Qi post (p_Post D cy A) A) [.ref a0, .int a1, .int a2].toArray s 0 0 A) (F0 m 24 ls [.int t0, .ref t1]) := by
    intro S l0 l1 l2 t0 t1 hf H locs ls hH hl
    refine lv_bipush (v := 6) hx hb dX8_loosens_24 (by decide) ?_
    refine lv_aload_n hx hb dX8_loosens_26 rfl (lv_at hl 0 rfl) ?_
    obtain ⟨hb1, hb2, hf⟩ := hf
    refine q_backI0 X hH (q_runV [] [.int 6, .int t0, .ref t1] X hH hl (c_X8_bondMany l D cy G X.2.2.2.1 S l0 _ _ hf) mf_X8_bondMany mv_X8_bondMany tw_1769 ⟨Nat.le_of_ble_eq_true rfl, Nat.le_of_ble_eq_true rfl⟩ hb1 hb2 (T := TX8) (N := 25) rfl rfl (Nat.le_of_ble_eq_true rfl) dX8_loosens_27 ⟨Nat.le_of_ble_eq_true rfl, Nat.le_of_ble_eq_true rfl⟩) (fun v2 S1 hf H locs hH => ?_)
    obtain ⟨hb1, hb2, hf⟩ := hf
    refine q_backI0 X hH (q_runV [.int t0, .int 6, .int v2] [] X hH hl (c_X8_refuses l D cy G X.2.2.2.1 S1 t1 t0 6 v2 _ _ hf) mf_X8_refuses mv_X8_refuses tw_1713 ⟨Nat.le_of_ble_eq_true rfl, Nat.le_of_ble_eq_true rfl⟩ hb1 hb2 (T := TX8) (N := 25) rfl rfl (Nat.le_of_ble_eq_true rfl) dX8_loosens_30 ⟨Nat.le_of_ble_eq_true rfl, Nat.le_of_ble_eq_true rfl⟩) (fun v4 S3 hf H locs hH => ?_)
    refine lv_if_eq (tgt := 38) hx hb dX8_loosens_33 (by decide) (fun c5 => ?_) (fun c5 => ?_)
    · have hf := (if_pos c5).mp hf
      refine lv_aload_n hx hb dX8_loosens_38 rfl (lv_at hl 0 rfl) ?_
      refine lv_aload_n hx hb dX8_loosens_39 rfl (lv_at hl 0 rfl) ?_
      refine lv_iload_n hx hb dX8_loosens_40 rfl (lv_at hl 1 rfl) ?_
      refine lv_iload_n hx hb dX8_loosens_41 rfl (lv_at hl 2 rfl) ?_
      obtain ⟨hb1, hb2, hf⟩ := hf
      refine q_backI0 X hH (q_runV [.int l1, .int l2] [.ref l0] X hH hl (c_X8_w l D cy G X.2.2.2.1 S3 l0 l1 l2 _ _ hf) mf_X8_w mv_X8_w tw_1745 ⟨Nat.le_of_ble_eq_true rfl, Nat.le_of_ble_eq_true rfl⟩ hb1 hb2 (T := TX8) (N := 25) rfl rfl (Nat.le_of_ble_eq_true rfl) dX8_loosens_42 ⟨Nat.le_of_ble_eq_true rfl, Nat.le_of_ble_eq_true rfl⟩) (fun v7 S6 hf H locs hH => ?_)
      refine q_putV (T := TX8) (N := 25) (ty0 := tyX8) (ty := tyX8 4) X hH hf iw_X8 tyX8_ok nmX8 rfl (by decide) tw_1613 (fun _ h => h) rfl (tyX8_ok 4 (by decide)) rfl rfl dX8_loosens_45 (fun S8 hf H locs hH => ?_)
      refine lv_aload_n hx hb dX8_loosens_48 rfl (lv_at hl 0 rfl) ?_
      refine lv_iload_n hx hb dX8_loosens_49 rfl (lv_at hl 1 rfl) ?_
      refine lv_iload_n hx hb dX8_loosens_50 rfl (lv_at hl 2 rfl) ?_
      refine lv_iconst (v := 0) hx hb dX8_loosens_51 (by decide) ?_
      obtain ⟨hb1, hb2, hf⟩ := hf
      refine q_backV0 X hH (q_runV [.int l1, .int l2, .int 0] [] X hH hl (c_X8_setBond l D cy G X.2.2.2.1 S8 l0 l1 l2 0 _ _ hf) mf_X8_setBond mv_X8_setBond tw_1717 ⟨Nat.le_of_ble_eq_true rfl, Nat.le_of_ble_eq_true rfl⟩ hb1 hb2 (T := TX8) (N := 25) rfl rfl (Nat.le_of_ble_eq_true rfl) dX8_loosens_52 ⟨Nat.le_of_ble_eq_true rfl, Nat.le_of_ble_eq_true rfl⟩) (fun S9 hf H locs hH => ?_)
      refine lv_iconst (v := 1) hx hb dX8_loosens_55 (by decide) ?_
      exact q_retZ X hH hr hlk hf (Nat.zero_le _) (Nat.zero_le _) dX8_loosens_56
    · have hf := (if_neg c5).mp hf
      refine lv_iconst (v := 0) hx hb dX8_loosens_36 (by decide) ?_
      exact q_retZ X hH hr hlk hf (Nat.zero_le _) (Nat.zero_le _) dX8_loosens_37
  refine lv_aload_n hx hb dX8_loosens_0 rfl (lv_at hl 0 rfl) ?_
  refine lv_iload_n hx hb dX8_loosens_1 rfl (lv_at hl 1 rfl) ?_
  refine lv_iload_n hx hb dX8_loosens_2 rfl (lv_at hl 2 rfl) ?_
  obtain ⟨hb1, hb2, hf⟩ := hf
  refine q_backI0 X hH (q_runV [.int a1, .int a2] [] X hH hl (c_X8_areNone l D cy G X.2.2.2.1 S a0 a1 a2 _ _ hf) mf_X8_areNone mv_X8_areNone tw_1757 ⟨Nat.le_of_ble_eq_true rfl, Nat.le_of_ble_eq_true rfl⟩ hb1 hb2 (T := TX8) (N := 25) rfl rfl (Nat.le_of_ble_eq_true rfl) dX8_loosens_3 ⟨Nat.le_of_ble_eq_true rfl, Nat.le_of_ble_eq_true rfl⟩) (fun v2 S1 hf H locs hH => ?_)
  refine lv_if_ne (tgt := 36) hx hb dX8_loosens_6 (by decide) (fun c3 => ?_) (fun c3 => ?_)
  · have hf := (if_neg c3).mp hf
    refine lv_iconst (v := 0) hx hb dX8_loosens_36 (by decide) ?_
    exact q_retZ X hH hr hlk hf (Nat.zero_le _) (Nat.zero_le _) dX8_loosens_37
  · have hf := (if_pos c3).mp hf
    refine lv_aload_n hx hb dX8_loosens_9 rfl (lv_at hl 0 rfl) ?_
    refine lv_aload_n hx hb dX8_loosens_10 rfl (lv_at hl 0 rfl) ?_
    refine lv_iload_n hx hb dX8_loosens_11 rfl (lv_at hl 1 rfl) ?_
    refine lv_iload_n hx hb dX8_loosens_12 rfl (lv_at hl 2 rfl) ?_
    obtain ⟨hb1, hb2, hf⟩ := hf
    refine q_backI0 X hH (q_runV [.int a1, .int a2] [.ref a0] X hH hl (c_X8_w l D cy G X.2.2.2.1 S1 a0 a1 a2 _ _ hf) mf_X8_w mv_X8_w tw_1745 ⟨Nat.le_of_ble_eq_true rfl, Nat.le_of_ble_eq_true rfl⟩ hb1 hb2 (T := TX8) (N := 25) rfl rfl (Nat.le_of_ble_eq_true rfl) dX8_loosens_13 ⟨Nat.le_of_ble_eq_true rfl, Nat.le_of_ble_eq_true rfl⟩) (fun v5 S4 hf H locs hH => ?_)
    refine lv_if_ne (tgt := 23) hx hb dX8_loosens_16 (by decide) (fun c6 => ?_) (fun c6 => ?_)
    · have hf := (if_neg c6).mp hf
      refine lv_iconst (v := 0) hx hb dX8_loosens_23 (by decide) ?_
      exact hJ24 S4 a0 a1 a2 0 a0 hf H locs ls hH hl
    · have hf := (if_pos c6).mp hf
      refine lv_iconst (v := 1) hx hb dX8_loosens_19 (by decide) ?_
      refine lv_goto (tgt := 24) hx hb dX8_loosens_20 (by decide) ?_
      exact hJ24 S4 a0 a1 a2 1 a0 hf H locs ls hH hl
-- X8_loosen
def f_X8_loosen (S : PS) (a0 : Nat) (a1 : Int32) (a2 : Int32) (post : Int32 → PS → Prop) : Prop :=
  isO S a0 12 (
  f_X8_begins S a0 fun S1 => (
  isO S1 a0 12 (
  f_X8_loosens S1 a0 a1 a2 fun v4 S3 => (
  isO S3 a0 12 (
  f_X8_ends S3 a0 v4 1 fun v6 S5 => (
  post v6 S5))))))
abbrev rm_X8_loosen : Room := { frames := 5, cells := 0, slots := 0, locals := 108 }
set_option maxHeartbeats 4000000 in
set_option maxRecDepth 100000 in
theorem c_X8_loosen (l : Launch) (D : va_G) (cy : Nat → ClassId) (G : p_GT) (hG : p_ok G) (S : PS) (a0 : Nat) (a1 : Int32) (a2 : Int32) (post : Int32 → PS → Prop) (sz : Nat) (hf : f_X8_loosen S a0 a1 a2 post) : p_Mi l D cy G S sz yX8_loosen (Cond.code yX8_loosen cX8_loosen 3 (some .int) :: wG) rm_X8_loosen [.ref a0, .int a1, .int a2] 0 0 post := by
  refine q_start hG (Qc := fun A => va_Qi post (p_Post D cy A) A) mf_X8_loosen (Nat.le_of_ble_eq_true rfl) (own := RX8) rfl ?_
  intro p e s m below meth c A X hr hlk hnm ls hl hH
  have hx := X.1.1
  have hb := X.1.2.1
  replace hl : lv_has ls 3 [(0, .ref a0), (1, .int a1), (2, .int a2)] := hl
  obtain ⟨H, hHe⟩ : ∃ H, H = s.heap := ⟨_, rfl⟩
  obtain ⟨locs, hlo⟩ : ∃ locs : List Loc, locs = [] := ⟨_, rfl⟩
  rw [← hHe, ← hlo] at hH
  show W p l e rm_X8_loosen s m [.ref a0, .int a1, .int a2].toArray below meth c s.heap [] 0 0 _ _
  rw [← hHe, ← hlo]
  refine lv_aload_n hx hb dX8_loosen_0 rfl (lv_at hl 0 rfl) ?_
  obtain ⟨hb1, hb2, hf⟩ := hf
  refine q_backV0 X hH (q_runV [] [] X hH hl (c_X8_begins l D cy G X.2.2.2.1 S a0 _ _ hf) mf_X8_begins mv_X8_begins tw_1701 ⟨Nat.le_of_ble_eq_true rfl, Nat.le_of_ble_eq_true rfl⟩ hb1 hb2 (T := TX8) (N := 25) rfl rfl (Nat.le_of_ble_eq_true rfl) dX8_loosen_1 ⟨Nat.le_of_ble_eq_true rfl, Nat.le_of_ble_eq_true rfl⟩) (fun S1 hf H locs hH => ?_)
  refine lv_aload_n hx hb dX8_loosen_4 rfl (lv_at hl 0 rfl) ?_
  refine lv_aload_n hx hb dX8_loosen_5 rfl (lv_at hl 0 rfl) ?_
  refine lv_iload_n hx hb dX8_loosen_6 rfl (lv_at hl 1 rfl) ?_
  refine lv_iload_n hx hb dX8_loosen_7 rfl (lv_at hl 2 rfl) ?_
  obtain ⟨hb1, hb2, hf⟩ := hf
  refine q_backI0 X hH (q_runV [.int a1, .int a2] [.ref a0] X hH hl (c_X8_loosens l D cy G X.2.2.2.1 S1 a0 a1 a2 _ _ hf) mf_X8_loosens mv_X8_loosens tw_1765 ⟨Nat.le_of_ble_eq_true rfl, Nat.le_of_ble_eq_true rfl⟩ hb1 hb2 (T := TX8) (N := 25) rfl rfl (Nat.le_of_ble_eq_true rfl) dX8_loosen_8 ⟨Nat.le_of_ble_eq_true rfl, Nat.le_of_ble_eq_true rfl⟩) (fun v4 S3 hf H locs hH => ?_)
  refine lv_iconst (v := 1) hx hb dX8_loosen_11 (by decide) ?_
  obtain ⟨hb1, hb2, hf⟩ := hf
  refine q_backI0 X hH (q_runV [.int v4, .int 1] [] X hH hl (c_X8_ends l D cy G X.2.2.2.1 S3 a0 v4 1 _ _ hf) mf_X8_ends mv_X8_ends tw_1721 ⟨Nat.le_of_ble_eq_true rfl, Nat.le_of_ble_eq_true rfl⟩ hb1 hb2 (T := TX8) (N := 25) rfl rfl (Nat.le_of_ble_eq_true rfl) dX8_loosen_12 ⟨Nat.le_of_ble_eq_true rfl, Nat.le_of_ble_eq_true rfl⟩) (fun v6 S5 hf H locs hH => ?_)
  exact q_retI X hH hr hlk hf (Nat.zero_le _) (Nat.zero_le _) dX8_loosen_15
-- X8_marries
def f_X8_marries_J58 (post : Int32 → PS → Prop) (S : PS) (l0 : Nat) (l1 : Int32) (l2 : Int32) : Prop :=
  isO S l0 12 (
  f_X8_goes S l0 l2 fun S1 => (
  gR S1 l0 12 1 fun v3 => (
  aI S1 v3 0 3 fun v4 => (
  sI S1 v3 0 3 (v4 + 1) fun S5 => (
  if l1 ≤ l2 then
    pV S5 l0 12 4 (.int l1) fun S7 => (
    nZ .boolean 1 (post 1 S7))
  else
    pV S5 l0 12 4 (.int (l1 - 1)) fun S8 => (
    nZ .boolean 1 (post 1 S8)))))))
def f_X8_marries_J52 (post : Int32 → PS → Prop) (g13 : PS → Nat → Int32 → Int32 → Int32 → Prop) (S : PS) (l0 : Nat) (l1 : Int32) (l2 : Int32) (l3 : Int32) : Prop :=
  g13 S l0 l1 l2 (l3 + 1)
def f_X8_marries_L13 (post : Int32 → PS → Prop) : Nat → PS → Nat → Int32 → Int32 → Int32 → Prop
  | 0, _, _, _, _, _ => False
  | n + 1, S, l0, l1, l2, l3 =>
  gR S l0 12 1 fun v1 => (
  aI S v1 0 0 fun v2 => (
  if v2 ≤ l3 then
    f_X8_marries_J58 post S l0 l1 l2
  else
    if l3 = l1 then
      f_X8_marries_J52 post (f_X8_marries_L13 post n) S l0 l1 l2 l3
    else
      if l3 = l2 then
        f_X8_marries_J52 post (f_X8_marries_L13 post n) S l0 l1 l2 l3
      else
        isO S l0 12 (
        f_X8_w S l0 l1 l3 fun v7 S6 => (
        isO S6 l0 12 (
        f_X8_w S6 l0 l2 l3 fun v9 S8 => (
        isO S8 l0 12 (
        f_X8_setBond S8 l0 l1 l3 (v7 + v9) fun S10 => (
        f_X8_marries_J52 post (f_X8_marries_L13 post n) S10 l0 l1 l2 l3))))))))
def f_X8_marries (S : PS) (a0 : Nat) (a1 : Int32) (a2 : Int32) (post : Int32 → PS → Prop) : Prop :=
  isO S a0 12 (
  f_X8_areNone S a0 a1 a2 fun v2 S1 => (
  if v2 = 0 then
    f_X8_marries_L13 post 4096 S1 a0 a1 a2 0
  else
    nZ .boolean 0 (post 0 S1)))
abbrev rm_X8_marries : Room := { frames := 4, cells := 0, slots := 0, locals := 86 }
set_option maxHeartbeats 4000000 in
set_option maxRecDepth 100000 in
theorem c_X8_marries (l : Launch) (D : va_G) (cy : Nat → ClassId) (G : p_GT) (hG : p_ok G) (S : PS) (a0 : Nat) (a1 : Int32) (a2 : Int32) (post : Int32 → PS → Prop) (sz : Nat) (hf : f_X8_marries S a0 a1 a2 post) : p_Mi l D cy G S sz yX8_marries (Cond.code yX8_marries cX8_marries 4 (some .boolean) :: wG) rm_X8_marries [.ref a0, .int a1, .int a2] 0 0 post := by
  refine q_start hG (Qc := fun A => va_Qi post (p_Post D cy A) A) mf_X8_marries (Nat.le_of_ble_eq_true rfl) (own := RX8) rfl ?_
  intro p e s m below meth c A X hr hlk hnm ls hl hH
  have hx := X.1.1
  have hb := X.1.2.1
  replace hl : lv_has ls 4 [(0, .ref a0), (1, .int a1), (2, .int a2)] := hl
  obtain ⟨H, hHe⟩ : ∃ H, H = s.heap := ⟨_, rfl⟩
  obtain ⟨locs, hlo⟩ : ∃ locs : List Loc, locs = [] := ⟨_, rfl⟩
  rw [← hHe, ← hlo] at hH
  show W p l e rm_X8_marries s m [.ref a0, .int a1, .int a2].toArray below meth c s.heap [] 0 0 _ _
  rw [← hHe, ← hlo]
  have hL13 : ∀ (n13 : Nat) (S : PS) (l0 : Nat) (l1 : Int32) (l2 : Int32) (l3 : Int32), f_X8_marries_L13 post n13 S l0 l1 l2 l3 → ∀ (H : Heap) (locs : List Loc) (ls : Array Slot), p_H D cy S A s H locs → lv_has ls 4 [(0, .ref l0), (1, .int l1), (2, .int l2), (3, .int l3)] → W p l e rm_X8_marries s m [.ref a0, .int a1, .int a2].toArray below meth c H locs 0 0 (MQ below (va_Qi post (p_Post D cy A) A) [.ref a0, .int a1, .int a2].toArray s 0 0 A) (F0 m 13 ls []) := by
    intro n13
    induction n13 with
    | zero => intro S l0 l1 l2 l3 hf; exact hf.elim
    | succ n13 ih13 =>
      intro S l0 l1 l2 l3 hf H locs ls hH hl
      have hJ58 : ∀ (S : PS) (l0 : Nat) (l1 : Int32) (l2 : Int32), f_X8_marries_J58 post S l0 l1 l2 → ∀ (H : Heap) (locs : List Loc) (ls : Array Slot), p_H D cy S A s H locs → lv_has ls 4 [(0, .ref l0), (1, .int l1), (2, .int l2)] → W p l e rm_X8_marries s m [.ref a0, .int a1, .int a2].toArray below meth c H locs 0 0 (MQ below (va_Qi post (p_Post D cy A) A) [.ref a0, .int a1, .int a2].toArray s 0 0 A) (F0 m 58 ls []) := by
        intro S l0 l1 l2 hf H locs ls hH hl
        refine lv_aload_n hx hb dX8_marries_58 rfl (lv_at hl 0 rfl) ?_
        refine lv_iload_n hx hb dX8_marries_59 rfl (lv_at hl 2 rfl) ?_
        obtain ⟨hb1, hb2, hf⟩ := hf
        refine q_backV0 X hH (q_runV [.int l2] [] X hH hl (c_X8_goes l D cy G X.2.2.2.1 S l0 l2 _ _ hf) mf_X8_goes mv_X8_goes tw_1741 ⟨Nat.le_of_ble_eq_true rfl, Nat.le_of_ble_eq_true rfl⟩ hb1 hb2 (T := TX8) (N := 25) rfl rfl (Nat.le_of_ble_eq_true rfl) dX8_marries_60 ⟨Nat.le_of_ble_eq_true rfl, Nat.le_of_ble_eq_true rfl⟩) (fun S1 hf H locs hH => ?_)
        refine lv_aload_n hx hb dX8_marries_63 rfl (lv_at hl 0 rfl) ?_
        refine q_getR (T := TX8) (N := 25) X hH hf iw_X8 rfl (by decide) tw_1610 (fun _ h => h) dX8_marries_64 (fun v3 hf => ?_)
        refine lv_iconst (v := 3) hx hb dX8_marries_67 (by decide) ?_
        refine lv_dup2_11 hx hb dX8_marries_68 rfl rfl ?_
        refine q_iald X hH hf dX8_marries_69 (fun v4 hf => ?_)
        refine lv_iconst (v := 1) hx hb dX8_marries_70 (by decide) ?_
        refine lv_iadd hx hb dX8_marries_71 ?_
        refine q_iast X hH hf dX8_marries_72 (fun S5 hf H locs hH => ?_)
        refine lv_aload_n hx hb dX8_marries_73 rfl (lv_at hl 0 rfl) ?_
        refine lv_iload_n hx hb dX8_marries_74 rfl (lv_at hl 2 rfl) ?_
        refine lv_iload_n hx hb dX8_marries_75 rfl (lv_at hl 1 rfl) ?_
        refine lv_icmp_ge (tgt := 85) hx hb dX8_marries_76 (by decide) (fun c6 => ?_) (fun c6 => ?_)
        · have hf := (if_pos c6).mp hf
          refine lv_iload_n hx hb dX8_marries_85 rfl (lv_at hl 1 rfl) ?_
          refine q_putV (T := TX8) (N := 25) (ty0 := tyX8) (ty := tyX8 4) X hH hf iw_X8 tyX8_ok nmX8 rfl (by decide) tw_1613 (fun _ h => h) rfl (tyX8_ok 4 (by decide)) rfl rfl dX8_marries_86 (fun S7 hf H locs hH => ?_)
          refine lv_iconst (v := 1) hx hb dX8_marries_89 (by decide) ?_
          exact q_retZ X hH hr hlk hf (Nat.zero_le _) (Nat.zero_le _) dX8_marries_90
        · have hf := (if_neg c6).mp hf
          refine lv_iload_n hx hb dX8_marries_79 rfl (lv_at hl 1 rfl) ?_
          refine lv_iconst (v := 1) hx hb dX8_marries_80 (by decide) ?_
          refine lv_isub hx hb dX8_marries_81 ?_
          refine lv_goto (tgt := 86) hx hb dX8_marries_82 (by decide) ?_
          refine q_putV (T := TX8) (N := 25) (ty0 := tyX8) (ty := tyX8 4) X hH hf iw_X8 tyX8_ok nmX8 rfl (by decide) tw_1613 (fun _ h => h) rfl (tyX8_ok 4 (by decide)) rfl rfl dX8_marries_86 (fun S8 hf H locs hH => ?_)
          refine lv_iconst (v := 1) hx hb dX8_marries_89 (by decide) ?_
          exact q_retZ X hH hr hlk hf (Nat.zero_le _) (Nat.zero_le _) dX8_marries_90
      have hJ52 : ∀ (S : PS) (l0 : Nat) (l1 : Int32) (l2 : Int32) (l3 : Int32), f_X8_marries_J52 post (f_X8_marries_L13 post n13) S l0 l1 l2 l3 → ∀ (H : Heap) (locs : List Loc) (ls : Array Slot), p_H D cy S A s H locs → lv_has ls 4 [(0, .ref l0), (1, .int l1), (2, .int l2), (3, .int l3)] → W p l e rm_X8_marries s m [.ref a0, .int a1, .int a2].toArray below meth c H locs 0 0 (MQ below (va_Qi post (p_Post D cy A) A) [.ref a0, .int a1, .int a2].toArray s 0 0 A) (F0 m 52 ls []) := by
        intro S l0 l1 l2 l3 hf H locs ls hH hl
        refine lv_iinc (v := l3 + 1) (lv' := [(3, .int (l3 + 1)), (0, .ref l0), (1, .int l1), (2, .int l2)]) hx hb dX8_marries_52 hl (k := 3) rfl rfl (by decide) rfl (fun ls hl => ?_)
        refine lv_goto (tgt := 13) hx hb dX8_marries_55 (by decide) ?_
        exact ih13 S l0 l1 l2 (l3 + 1) hf H locs ls hH (lv_sub hl [1, 2, 3, 0] rfl)
      refine lv_iload_n hx hb dX8_marries_13 rfl (lv_at hl 3 rfl) ?_
      refine lv_aload_n hx hb dX8_marries_14 rfl (lv_at hl 0 rfl) ?_
      refine q_getR (T := TX8) (N := 25) X hH hf iw_X8 rfl (by decide) tw_1610 (fun _ h => h) dX8_marries_15 (fun v1 hf => ?_)
      refine lv_iconst (v := 0) hx hb dX8_marries_18 (by decide) ?_
      refine q_iald X hH hf dX8_marries_19 (fun v2 hf => ?_)
      refine lv_icmp_ge (tgt := 58) hx hb dX8_marries_20 (by decide) (fun c3 => ?_) (fun c3 => ?_)
      · have hf := (if_pos c3).mp hf
        exact hJ58 S l0 l1 l2 hf H locs ls hH (lv_sub hl [0, 1, 2] rfl)
      · have hf := (if_neg c3).mp hf
        refine lv_iload_n hx hb dX8_marries_23 rfl (lv_at hl 3 rfl) ?_
        refine lv_iload_n hx hb dX8_marries_24 rfl (lv_at hl 1 rfl) ?_
        refine lv_icmp_eq (tgt := 52) hx hb dX8_marries_25 (by decide) (fun c4 => ?_) (fun c4 => ?_)
        · have hf := (if_pos c4).mp hf
          exact hJ52 S l0 l1 l2 l3 hf H locs ls hH hl
        · have hf := (if_neg c4).mp hf
          refine lv_iload_n hx hb dX8_marries_28 rfl (lv_at hl 3 rfl) ?_
          refine lv_iload_n hx hb dX8_marries_29 rfl (lv_at hl 2 rfl) ?_
          refine lv_icmp_eq (tgt := 52) hx hb dX8_marries_30 (by decide) (fun c5 => ?_) (fun c5 => ?_)
          · have hf := (if_pos c5).mp hf
            exact hJ52 S l0 l1 l2 l3 hf H locs ls hH hl
          · have hf := (if_neg c5).mp hf
            refine lv_aload_n hx hb dX8_marries_33 rfl (lv_at hl 0 rfl) ?_
            refine lv_iload_n hx hb dX8_marries_34 rfl (lv_at hl 1 rfl) ?_
            refine lv_iload_n hx hb dX8_marries_35 rfl (lv_at hl 3 rfl) ?_
            refine lv_aload_n hx hb dX8_marries_36 rfl (lv_at hl 0 rfl) ?_
            refine lv_iload_n hx hb dX8_marries_37 rfl (lv_at hl 1 rfl) ?_
            refine lv_iload_n hx hb dX8_marries_38 rfl (lv_at hl 3 rfl) ?_
            obtain ⟨hb1, hb2, hf⟩ := hf
            refine q_backI0 X hH (q_runV [.int l1, .int l3] [.int l3, .int l1, .ref l0] X hH hl (c_X8_w l D cy G X.2.2.2.1 S l0 l1 l3 _ _ hf) mf_X8_w mv_X8_w tw_1745 ⟨Nat.le_of_ble_eq_true rfl, Nat.le_of_ble_eq_true rfl⟩ hb1 hb2 (T := TX8) (N := 25) rfl rfl (Nat.le_of_ble_eq_true rfl) dX8_marries_39 ⟨Nat.le_of_ble_eq_true rfl, Nat.le_of_ble_eq_true rfl⟩) (fun v7 S6 hf H locs hH => ?_)
            refine lv_aload_n hx hb dX8_marries_42 rfl (lv_at hl 0 rfl) ?_
            refine lv_iload_n hx hb dX8_marries_43 rfl (lv_at hl 2 rfl) ?_
            refine lv_iload_n hx hb dX8_marries_44 rfl (lv_at hl 3 rfl) ?_
            obtain ⟨hb1, hb2, hf⟩ := hf
            refine q_backI0 X hH (q_runV [.int l2, .int l3] [.int v7, .int l3, .int l1, .ref l0] X hH hl (c_X8_w l D cy G X.2.2.2.1 S6 l0 l2 l3 _ _ hf) mf_X8_w mv_X8_w tw_1745 ⟨Nat.le_of_ble_eq_true rfl, Nat.le_of_ble_eq_true rfl⟩ hb1 hb2 (T := TX8) (N := 25) rfl rfl (Nat.le_of_ble_eq_true rfl) dX8_marries_45 ⟨Nat.le_of_ble_eq_true rfl, Nat.le_of_ble_eq_true rfl⟩) (fun v9 S8 hf H locs hH => ?_)
            refine lv_iadd hx hb dX8_marries_48 ?_
            obtain ⟨hb1, hb2, hf⟩ := hf
            refine q_backV0 X hH (q_runV [.int l1, .int l3, .int (v7 + v9)] [] X hH hl (c_X8_setBond l D cy G X.2.2.2.1 S8 l0 l1 l3 (v7 + v9) _ _ hf) mf_X8_setBond mv_X8_setBond tw_1717 ⟨Nat.le_of_ble_eq_true rfl, Nat.le_of_ble_eq_true rfl⟩ hb1 hb2 (T := TX8) (N := 25) rfl rfl (Nat.le_of_ble_eq_true rfl) dX8_marries_49 ⟨Nat.le_of_ble_eq_true rfl, Nat.le_of_ble_eq_true rfl⟩) (fun S10 hf H locs hH => ?_)
            exact hJ52 S10 l0 l1 l2 l3 hf H locs ls hH hl
  refine lv_aload_n hx hb dX8_marries_0 rfl (lv_at hl 0 rfl) ?_
  refine lv_iload_n hx hb dX8_marries_1 rfl (lv_at hl 1 rfl) ?_
  refine lv_iload_n hx hb dX8_marries_2 rfl (lv_at hl 2 rfl) ?_
  obtain ⟨hb1, hb2, hf⟩ := hf
  refine q_backI0 X hH (q_runV [.int a1, .int a2] [] X hH hl (c_X8_areNone l D cy G X.2.2.2.1 S a0 a1 a2 _ _ hf) mf_X8_areNone mv_X8_areNone tw_1757 ⟨Nat.le_of_ble_eq_true rfl, Nat.le_of_ble_eq_true rfl⟩ hb1 hb2 (T := TX8) (N := 25) rfl rfl (Nat.le_of_ble_eq_true rfl) dX8_marries_3 ⟨Nat.le_of_ble_eq_true rfl, Nat.le_of_ble_eq_true rfl⟩) (fun v2 S1 hf H locs hH => ?_)
  refine lv_if_eq (tgt := 11) hx hb dX8_marries_6 (by decide) (fun c3 => ?_) (fun c3 => ?_)
  · have hf := (if_pos c3).mp hf
    refine lv_iconst (v := 0) hx hb dX8_marries_11 (by decide) ?_
    refine lv_istore_n (lv' := [(3, .int 0), (0, .ref a0), (1, .int a1), (2, .int a2)]) hx hb dX8_marries_12 rfl hl (by decide) rfl (fun ls hl => ?_)
    exact hL13 4096 S1 a0 a1 a2 0 hf H locs ls hH (lv_sub hl [1, 2, 3, 0] rfl)
  · have hf := (if_neg c3).mp hf
    refine lv_iconst (v := 0) hx hb dX8_marries_9 (by decide) ?_
    exact q_retZ X hH hr hlk hf (Nat.zero_le _) (Nat.zero_le _) dX8_marries_10
-- X8_marry
def f_X8_marry (S : PS) (a0 : Nat) (a1 : Int32) (a2 : Int32) (post : Int32 → PS → Prop) : Prop :=
  isO S a0 12 (
  f_X8_begins S a0 fun S1 => (
  isO S1 a0 12 (
  f_X8_marries S1 a0 a1 a2 fun v4 S3 => (
  isO S3 a0 12 (
  f_X8_ends S3 a0 v4 1 fun v6 S5 => (
  post v6 S5))))))
abbrev rm_X8_marry : Room := { frames := 5, cells := 0, slots := 0, locals := 109 }
set_option maxHeartbeats 4000000 in
set_option maxRecDepth 100000 in
theorem c_X8_marry (l : Launch) (D : va_G) (cy : Nat → ClassId) (G : p_GT) (hG : p_ok G) (S : PS) (a0 : Nat) (a1 : Int32) (a2 : Int32) (post : Int32 → PS → Prop) (sz : Nat) (hf : f_X8_marry S a0 a1 a2 post) : p_Mi l D cy G S sz yX8_marry (Cond.code yX8_marry cX8_marry 3 (some .int) :: wG) rm_X8_marry [.ref a0, .int a1, .int a2] 0 0 post := by
  refine q_start hG (Qc := fun A => va_Qi post (p_Post D cy A) A) mf_X8_marry (Nat.le_of_ble_eq_true rfl) (own := RX8) rfl ?_
  intro p e s m below meth c A X hr hlk hnm ls hl hH
  have hx := X.1.1
  have hb := X.1.2.1
  replace hl : lv_has ls 3 [(0, .ref a0), (1, .int a1), (2, .int a2)] := hl
  obtain ⟨H, hHe⟩ : ∃ H, H = s.heap := ⟨_, rfl⟩
  obtain ⟨locs, hlo⟩ : ∃ locs : List Loc, locs = [] := ⟨_, rfl⟩
  rw [← hHe, ← hlo] at hH
  show W p l e rm_X8_marry s m [.ref a0, .int a1, .int a2].toArray below meth c s.heap [] 0 0 _ _
  rw [← hHe, ← hlo]
  refine lv_aload_n hx hb dX8_marry_0 rfl (lv_at hl 0 rfl) ?_
  obtain ⟨hb1, hb2, hf⟩ := hf
  refine q_backV0 X hH (q_runV [] [] X hH hl (c_X8_begins l D cy G X.2.2.2.1 S a0 _ _ hf) mf_X8_begins mv_X8_begins tw_1701 ⟨Nat.le_of_ble_eq_true rfl, Nat.le_of_ble_eq_true rfl⟩ hb1 hb2 (T := TX8) (N := 25) rfl rfl (Nat.le_of_ble_eq_true rfl) dX8_marry_1 ⟨Nat.le_of_ble_eq_true rfl, Nat.le_of_ble_eq_true rfl⟩) (fun S1 hf H locs hH => ?_)
  refine lv_aload_n hx hb dX8_marry_4 rfl (lv_at hl 0 rfl) ?_
  refine lv_aload_n hx hb dX8_marry_5 rfl (lv_at hl 0 rfl) ?_
  refine lv_iload_n hx hb dX8_marry_6 rfl (lv_at hl 1 rfl) ?_
  refine lv_iload_n hx hb dX8_marry_7 rfl (lv_at hl 2 rfl) ?_
  obtain ⟨hb1, hb2, hf⟩ := hf
  refine q_backI0 X hH (q_runV [.int a1, .int a2] [.ref a0] X hH hl (c_X8_marries l D cy G X.2.2.2.1 S1 a0 a1 a2 _ _ hf) mf_X8_marries mv_X8_marries tw_1781 ⟨Nat.le_of_ble_eq_true rfl, Nat.le_of_ble_eq_true rfl⟩ hb1 hb2 (T := TX8) (N := 25) rfl rfl (Nat.le_of_ble_eq_true rfl) dX8_marry_8 ⟨Nat.le_of_ble_eq_true rfl, Nat.le_of_ble_eq_true rfl⟩) (fun v4 S3 hf H locs hH => ?_)
  refine lv_iconst (v := 1) hx hb dX8_marry_11 (by decide) ?_
  obtain ⟨hb1, hb2, hf⟩ := hf
  refine q_backI0 X hH (q_runV [.int v4, .int 1] [] X hH hl (c_X8_ends l D cy G X.2.2.2.1 S3 a0 v4 1 _ _ hf) mf_X8_ends mv_X8_ends tw_1721 ⟨Nat.le_of_ble_eq_true rfl, Nat.le_of_ble_eq_true rfl⟩ hb1 hb2 (T := TX8) (N := 25) rfl rfl (Nat.le_of_ble_eq_true rfl) dX8_marry_12 ⟨Nat.le_of_ble_eq_true rfl, Nat.le_of_ble_eq_true rfl⟩) (fun v6 S5 hf H locs hH => ?_)
  exact q_retI X hH hr hlk hf (Nat.zero_le _) (Nat.zero_le _) dX8_marry_15
-- X8_stands
def f_X8_stands_J49 (post : Int32 → PS → Prop) (S : PS) (l0 : Nat) (l1 : Int32) (l2 : Int32) (t0 : Int32) (t1 : Nat) : Prop :=
  isO S t1 12 (
  f_X8_refuses S t1 t0 5 l2 fun v2 S1 => (
  if v2 = 0 then
    gR S1 l0 12 1 fun v4 => (
    sI S1 v4 0 ((4 : Int32) + l1) l2 fun S5 => (
    isO S5 l0 12 (
    f_X8_sideSet S5 l0 fun v7 S6 => (
    isO S6 l0 12 (
    f_X8_feudOf S6 l0 v7 fun v9 S8 => (
    pV S8 l0 12 4 (.int v9) fun S10 => (
    nZ .boolean 1 (post 1 S10))))))))
  else
    nZ .boolean 0 (post 0 S1)))
def f_X8_stands_J23 (post : Int32 → PS → Prop) (S : PS) (l0 : Nat) (l1 : Int32) (l2 : Int32) (t0 : Int32) (t1 : Nat) : Prop :=
  isO S t1 12 (
  f_X8_refuses S t1 t0 4 l2 fun v2 S1 => (
  if v2 = 0 then
    gR S1 l0 12 1 fun v4 => (
    aI S1 v4 0 ((4 : Int32) + l1) fun v5 => (
    if v5 = l2 then
      f_X8_stands_J49 post S1 l0 l1 l2 1 l0
    else
      f_X8_stands_J49 post S1 l0 l1 l2 0 l0))
  else
    nZ .boolean 0 (post 0 S1)))
def f_X8_stands (S : PS) (a0 : Nat) (a1 : Int32) (a2 : Int32) (post : Int32 → PS → Prop) : Prop :=
  isO S a0 12 (
  f_X8_isNone S a0 a1 fun v2 S1 => (
  if v2 = 0 then
    f_X8_in S1 a2 0 1 fun v5 S4 => (
    if v5 = 0 then
      f_X8_stands_J23 post S4 a0 a1 a2 1 a0
    else
      f_X8_stands_J23 post S4 a0 a1 a2 0 a0)
  else
    nZ .boolean 0 (post 0 S1)))
abbrev rm_X8_stands : Room := { frames := 3, cells := 0, slots := 0, locals := 68 }
set_option maxHeartbeats 4000000 in
set_option maxRecDepth 100000 in
theorem c_X8_stands (l : Launch) (D : va_G) (cy : Nat → ClassId) (G : p_GT) (hG : p_ok G) (S : PS) (a0 : Nat) (a1 : Int32) (a2 : Int32) (post : Int32 → PS → Prop) (sz : Nat) (hf : f_X8_stands S a0 a1 a2 post) : p_Mi l D cy G S sz yX8_stands (Cond.code yX8_stands cX8_stands 3 (some .boolean) :: wG) rm_X8_stands [.ref a0, .int a1, .int a2] 0 0 post := by
  refine q_start hG (Qc := fun A => va_Qi post (p_Post D cy A) A) mf_X8_stands (Nat.le_of_ble_eq_true rfl) (own := RX8) rfl ?_
  intro p e s m below meth c A X hr hlk hnm ls hl hH
  have hx := X.1.1
  have hb := X.1.2.1
  replace hl : lv_has ls 3 [(0, .ref a0), (1, .int a1), (2, .int a2)] := hl
  obtain ⟨H, hHe⟩ : ∃ H, H = s.heap := ⟨_, rfl⟩
  obtain ⟨locs, hlo⟩ : ∃ locs : List Loc, locs = [] := ⟨_, rfl⟩
  rw [← hHe, ← hlo] at hH
  show W p l e rm_X8_stands s m [.ref a0, .int a1, .int a2].toArray below meth c s.heap [] 0 0 _ _
  rw [← hHe, ← hlo]
  have hJ23 : ∀ (S : PS) (l0 : Nat) (l1 : Int32) (l2 : Int32) (t0 : Int32) (t1 : Nat), f_X8_stands_J23 post S l0 l1 l2 t0 t1 → ∀ (H : Heap) (locs : List Loc) (ls : Array Slot), p_H D cy S A s H locs → lv_has ls 3 [(0, .ref l0), (1, .int l1), (2, .int l2)] → W p l e rm_X8_stands s m [.ref a0, .int a1, .int a2].toArray below meth c H locs 0 0 (MQ below (va_Qi post (p_Post D cy A) A) [.ref a0, .int a1, .int a2].toArray s 0 0 A) (F0 m 23 ls [.int t0, .ref t1]) := by
    intro S l0 l1 l2 t0 t1 hf H locs ls hH hl
    have hJ49 : ∀ (S : PS) (l0 : Nat) (l1 : Int32) (l2 : Int32) (t0 : Int32) (t1 : Nat), f_X8_stands_J49 post S l0 l1 l2 t0 t1 → ∀ (H : Heap) (locs : List Loc) (ls : Array Slot), p_H D cy S A s H locs → lv_has ls 3 [(0, .ref l0), (1, .int l1), (2, .int l2)] → W p l e rm_X8_stands s m [.ref a0, .int a1, .int a2].toArray below meth c H locs 0 0 (MQ below (va_Qi post (p_Post D cy A) A) [.ref a0, .int a1, .int a2].toArray s 0 0 A) (F0 m 49 ls [.int t0, .ref t1]) := by
      intro S l0 l1 l2 t0 t1 hf H locs ls hH hl
      refine lv_iconst (v := 5) hx hb dX8_stands_49 (by decide) ?_
      refine lv_iload_n hx hb dX8_stands_50 rfl (lv_at hl 2 rfl) ?_
      obtain ⟨hb1, hb2, hf⟩ := hf
      refine q_backI0 X hH (q_runV [.int t0, .int 5, .int l2] [] X hH hl (c_X8_refuses l D cy G X.2.2.2.1 S t1 t0 5 l2 _ _ hf) mf_X8_refuses mv_X8_refuses tw_1713 ⟨Nat.le_of_ble_eq_true rfl, Nat.le_of_ble_eq_true rfl⟩ hb1 hb2 (T := TX8) (N := 25) rfl rfl (Nat.le_of_ble_eq_true rfl) dX8_stands_51 ⟨Nat.le_of_ble_eq_true rfl, Nat.le_of_ble_eq_true rfl⟩) (fun v2 S1 hf H locs hH => ?_)
      refine lv_if_eq (tgt := 59) hx hb dX8_stands_54 (by decide) (fun c3 => ?_) (fun c3 => ?_)
      · have hf := (if_pos c3).mp hf
        refine lv_aload_n hx hb dX8_stands_59 rfl (lv_at hl 0 rfl) ?_
        refine q_getR (T := TX8) (N := 25) X hH hf iw_X8 rfl (by decide) tw_1610 (fun _ h => h) dX8_stands_60 (fun v4 hf => ?_)
        refine lv_iconst (v := 4) hx hb dX8_stands_63 (by decide) ?_
        refine lv_iload_n hx hb dX8_stands_64 rfl (lv_at hl 1 rfl) ?_
        refine lv_iadd hx hb dX8_stands_65 ?_
        refine lv_iload_n hx hb dX8_stands_66 rfl (lv_at hl 2 rfl) ?_
        refine q_iast X hH hf dX8_stands_67 (fun S5 hf H locs hH => ?_)
        refine lv_aload_n hx hb dX8_stands_68 rfl (lv_at hl 0 rfl) ?_
        refine lv_aload_n hx hb dX8_stands_69 rfl (lv_at hl 0 rfl) ?_
        refine lv_aload_n hx hb dX8_stands_70 rfl (lv_at hl 0 rfl) ?_
        obtain ⟨hb1, hb2, hf⟩ := hf
        refine q_backI0 X hH (q_runV [] [.ref l0, .ref l0] X hH hl (c_X8_sideSet l D cy G X.2.2.2.1 S5 l0 _ _ hf) mf_X8_sideSet mv_X8_sideSet tw_1793 ⟨Nat.le_of_ble_eq_true rfl, Nat.le_of_ble_eq_true rfl⟩ hb1 hb2 (T := TX8) (N := 25) rfl rfl (Nat.le_of_ble_eq_true rfl) dX8_stands_71 ⟨Nat.le_of_ble_eq_true rfl, Nat.le_of_ble_eq_true rfl⟩) (fun v7 S6 hf H locs hH => ?_)
        obtain ⟨hb1, hb2, hf⟩ := hf
        refine q_backI0 X hH (q_runV [.int v7] [.ref l0] X hH hl (c_X8_feudOf l D cy G X.2.2.2.1 S6 l0 v7 _ _ hf) mf_X8_feudOf mv_X8_feudOf tw_1797 ⟨Nat.le_of_ble_eq_true rfl, Nat.le_of_ble_eq_true rfl⟩ hb1 hb2 (T := TX8) (N := 25) rfl rfl (Nat.le_of_ble_eq_true rfl) dX8_stands_74 ⟨Nat.le_of_ble_eq_true rfl, Nat.le_of_ble_eq_true rfl⟩) (fun v9 S8 hf H locs hH => ?_)
        refine q_putV (T := TX8) (N := 25) (ty0 := tyX8) (ty := tyX8 4) X hH hf iw_X8 tyX8_ok nmX8 rfl (by decide) tw_1613 (fun _ h => h) rfl (tyX8_ok 4 (by decide)) rfl rfl dX8_stands_77 (fun S10 hf H locs hH => ?_)
        refine lv_iconst (v := 1) hx hb dX8_stands_80 (by decide) ?_
        exact q_retZ X hH hr hlk hf (Nat.zero_le _) (Nat.zero_le _) dX8_stands_81
      · have hf := (if_neg c3).mp hf
        refine lv_iconst (v := 0) hx hb dX8_stands_57 (by decide) ?_
        exact q_retZ X hH hr hlk hf (Nat.zero_le _) (Nat.zero_le _) dX8_stands_58
    refine lv_iconst (v := 4) hx hb dX8_stands_23 (by decide) ?_
    refine lv_iload_n hx hb dX8_stands_24 rfl (lv_at hl 2 rfl) ?_
    obtain ⟨hb1, hb2, hf⟩ := hf
    refine q_backI0 X hH (q_runV [.int t0, .int 4, .int l2] [] X hH hl (c_X8_refuses l D cy G X.2.2.2.1 S t1 t0 4 l2 _ _ hf) mf_X8_refuses mv_X8_refuses tw_1713 ⟨Nat.le_of_ble_eq_true rfl, Nat.le_of_ble_eq_true rfl⟩ hb1 hb2 (T := TX8) (N := 25) rfl rfl (Nat.le_of_ble_eq_true rfl) dX8_stands_25 ⟨Nat.le_of_ble_eq_true rfl, Nat.le_of_ble_eq_true rfl⟩) (fun v2 S1 hf H locs hH => ?_)
    refine lv_if_ne (tgt := 57) hx hb dX8_stands_28 (by decide) (fun c3 => ?_) (fun c3 => ?_)
    · have hf := (if_neg c3).mp hf
      refine lv_iconst (v := 0) hx hb dX8_stands_57 (by decide) ?_
      exact q_retZ X hH hr hlk hf (Nat.zero_le _) (Nat.zero_le _) dX8_stands_58
    · have hf := (if_pos c3).mp hf
      refine lv_aload_n hx hb dX8_stands_31 rfl (lv_at hl 0 rfl) ?_
      refine lv_aload_n hx hb dX8_stands_32 rfl (lv_at hl 0 rfl) ?_
      refine q_getR (T := TX8) (N := 25) X hH hf iw_X8 rfl (by decide) tw_1610 (fun _ h => h) dX8_stands_33 (fun v4 hf => ?_)
      refine lv_iconst (v := 4) hx hb dX8_stands_36 (by decide) ?_
      refine lv_iload_n hx hb dX8_stands_37 rfl (lv_at hl 1 rfl) ?_
      refine lv_iadd hx hb dX8_stands_38 ?_
      refine q_iald X hH hf dX8_stands_39 (fun v5 hf => ?_)
      refine lv_iload_n hx hb dX8_stands_40 rfl (lv_at hl 2 rfl) ?_
      refine lv_icmp_ne (tgt := 48) hx hb dX8_stands_41 (by decide) (fun c6 => ?_) (fun c6 => ?_)
      · have hf := (if_neg c6).mp hf
        refine lv_iconst (v := 0) hx hb dX8_stands_48 (by decide) ?_
        exact hJ49 S1 l0 l1 l2 0 l0 hf H locs ls hH hl
      · have hf := (if_pos c6).mp hf
        refine lv_iconst (v := 1) hx hb dX8_stands_44 (by decide) ?_
        refine lv_goto (tgt := 49) hx hb dX8_stands_45 (by decide) ?_
        exact hJ49 S1 l0 l1 l2 1 l0 hf H locs ls hH hl
  refine lv_aload_n hx hb dX8_stands_0 rfl (lv_at hl 0 rfl) ?_
  refine lv_iload_n hx hb dX8_stands_1 rfl (lv_at hl 1 rfl) ?_
  obtain ⟨hb1, hb2, hf⟩ := hf
  refine q_backI0 X hH (q_runV [.int a1] [] X hH hl (c_X8_isNone l D cy G X.2.2.2.1 S a0 a1 _ _ hf) mf_X8_isNone mv_X8_isNone tw_1733 ⟨Nat.le_of_ble_eq_true rfl, Nat.le_of_ble_eq_true rfl⟩ hb1 hb2 (T := TX8) (N := 25) rfl rfl (Nat.le_of_ble_eq_true rfl) dX8_stands_2 ⟨Nat.le_of_ble_eq_true rfl, Nat.le_of_ble_eq_true rfl⟩) (fun v2 S1 hf H locs hH => ?_)
  refine lv_if_ne (tgt := 57) hx hb dX8_stands_5 (by decide) (fun c3 => ?_) (fun c3 => ?_)
  · have hf := (if_neg c3).mp hf
    refine lv_iconst (v := 0) hx hb dX8_stands_57 (by decide) ?_
    exact q_retZ X hH hr hlk hf (Nat.zero_le _) (Nat.zero_le _) dX8_stands_58
  · have hf := (if_pos c3).mp hf
    refine lv_aload_n hx hb dX8_stands_8 rfl (lv_at hl 0 rfl) ?_
    refine lv_iload_n hx hb dX8_stands_9 rfl (lv_at hl 2 rfl) ?_
    refine lv_iconst (v := 0) hx hb dX8_stands_10 (by decide) ?_
    refine lv_iconst (v := 1) hx hb dX8_stands_11 (by decide) ?_
    refine q_backI0 X hH (q_runS [.int a2, .int 0, .int 1] [.ref a0] X hH hl (c_X8_in l D cy G X.2.2.2.1 S1 a2 0 1 _ _ hf) mf_X8_in tw_1695 tw_1694 ⟨Nat.le_of_ble_eq_true rfl, Nat.le_of_ble_eq_true rfl⟩ rfl (Nat.le_of_ble_eq_true rfl) dX8_stands_12 ⟨Nat.le_of_ble_eq_true rfl, Nat.le_of_ble_eq_true rfl⟩) (fun v5 S4 hf H locs hH => ?_)
    refine lv_if_ne (tgt := 22) hx hb dX8_stands_15 (by decide) (fun c6 => ?_) (fun c6 => ?_)
    · have hf := (if_neg c6).mp hf
      refine lv_iconst (v := 0) hx hb dX8_stands_22 (by decide) ?_
      exact hJ23 S4 a0 a1 a2 0 a0 hf H locs ls hH hl
    · have hf := (if_pos c6).mp hf
      refine lv_iconst (v := 1) hx hb dX8_stands_18 (by decide) ?_
      refine lv_goto (tgt := 23) hx hb dX8_stands_19 (by decide) ?_
      exact hJ23 S4 a0 a1 a2 1 a0 hf H locs ls hH hl
-- X8_stand
def f_X8_stand (S : PS) (a0 : Nat) (a1 : Int32) (a2 : Int32) (post : Int32 → PS → Prop) : Prop :=
  isO S a0 12 (
  f_X8_begins S a0 fun S1 => (
  isO S1 a0 12 (
  f_X8_stands S1 a0 a1 a2 fun v4 S3 => (
  isO S3 a0 12 (
  f_X8_ends S3 a0 v4 1 fun v6 S5 => (
  post v6 S5))))))
abbrev rm_X8_stand : Room := { frames := 4, cells := 0, slots := 0, locals := 90 }
set_option maxHeartbeats 4000000 in
set_option maxRecDepth 100000 in
theorem c_X8_stand (l : Launch) (D : va_G) (cy : Nat → ClassId) (G : p_GT) (hG : p_ok G) (S : PS) (a0 : Nat) (a1 : Int32) (a2 : Int32) (post : Int32 → PS → Prop) (sz : Nat) (hf : f_X8_stand S a0 a1 a2 post) : p_Mi l D cy G S sz yX8_stand (Cond.code yX8_stand cX8_stand 3 (some .int) :: wG) rm_X8_stand [.ref a0, .int a1, .int a2] 0 0 post := by
  refine q_start hG (Qc := fun A => va_Qi post (p_Post D cy A) A) mf_X8_stand (Nat.le_of_ble_eq_true rfl) (own := RX8) rfl ?_
  intro p e s m below meth c A X hr hlk hnm ls hl hH
  have hx := X.1.1
  have hb := X.1.2.1
  replace hl : lv_has ls 3 [(0, .ref a0), (1, .int a1), (2, .int a2)] := hl
  obtain ⟨H, hHe⟩ : ∃ H, H = s.heap := ⟨_, rfl⟩
  obtain ⟨locs, hlo⟩ : ∃ locs : List Loc, locs = [] := ⟨_, rfl⟩
  rw [← hHe, ← hlo] at hH
  show W p l e rm_X8_stand s m [.ref a0, .int a1, .int a2].toArray below meth c s.heap [] 0 0 _ _
  rw [← hHe, ← hlo]
  refine lv_aload_n hx hb dX8_stand_0 rfl (lv_at hl 0 rfl) ?_
  obtain ⟨hb1, hb2, hf⟩ := hf
  refine q_backV0 X hH (q_runV [] [] X hH hl (c_X8_begins l D cy G X.2.2.2.1 S a0 _ _ hf) mf_X8_begins mv_X8_begins tw_1701 ⟨Nat.le_of_ble_eq_true rfl, Nat.le_of_ble_eq_true rfl⟩ hb1 hb2 (T := TX8) (N := 25) rfl rfl (Nat.le_of_ble_eq_true rfl) dX8_stand_1 ⟨Nat.le_of_ble_eq_true rfl, Nat.le_of_ble_eq_true rfl⟩) (fun S1 hf H locs hH => ?_)
  refine lv_aload_n hx hb dX8_stand_4 rfl (lv_at hl 0 rfl) ?_
  refine lv_aload_n hx hb dX8_stand_5 rfl (lv_at hl 0 rfl) ?_
  refine lv_iload_n hx hb dX8_stand_6 rfl (lv_at hl 1 rfl) ?_
  refine lv_iload_n hx hb dX8_stand_7 rfl (lv_at hl 2 rfl) ?_
  obtain ⟨hb1, hb2, hf⟩ := hf
  refine q_backI0 X hH (q_runV [.int a1, .int a2] [.ref a0] X hH hl (c_X8_stands l D cy G X.2.2.2.1 S1 a0 a1 a2 _ _ hf) mf_X8_stands mv_X8_stands tw_1789 ⟨Nat.le_of_ble_eq_true rfl, Nat.le_of_ble_eq_true rfl⟩ hb1 hb2 (T := TX8) (N := 25) rfl rfl (Nat.le_of_ble_eq_true rfl) dX8_stand_8 ⟨Nat.le_of_ble_eq_true rfl, Nat.le_of_ble_eq_true rfl⟩) (fun v4 S3 hf H locs hH => ?_)
  refine lv_iconst (v := 1) hx hb dX8_stand_11 (by decide) ?_
  obtain ⟨hb1, hb2, hf⟩ := hf
  refine q_backI0 X hH (q_runV [.int v4, .int 1] [] X hH hl (c_X8_ends l D cy G X.2.2.2.1 S3 a0 v4 1 _ _ hf) mf_X8_ends mv_X8_ends tw_1721 ⟨Nat.le_of_ble_eq_true rfl, Nat.le_of_ble_eq_true rfl⟩ hb1 hb2 (T := TX8) (N := 25) rfl rfl (Nat.le_of_ble_eq_true rfl) dX8_stand_12 ⟨Nat.le_of_ble_eq_true rfl, Nat.le_of_ble_eq_true rfl⟩) (fun v6 S5 hf H locs hH => ?_)
  exact q_retI X hH hr hlk hf (Nat.zero_le _) (Nat.zero_le _) dX8_stand_15
-- X8_lowest
def f_X8_lowest_L2 (post : Int32 → PS → Prop) : Nat → PS → Int32 → Int32 → Prop
  | 0, _, _, _ => False
  | n + 1, S, l0, l1 =>
  f_X8_holds S l0 l1 fun v2 S1 => (
  if v2 = 0 then
    (f_X8_lowest_L2 post n) S1 l0 (l1 + 1)
  else
    post l1 S1)
def f_X8_lowest (S : PS) (a0 : Int32) (post : Int32 → PS → Prop) : Prop :=
  f_X8_lowest_L2 post 4096 S a0 0
abbrev rm_X8_lowest : Room := { frames := 1, cells := 0, slots := 0, locals := 21 }
set_option maxHeartbeats 4000000 in
set_option maxRecDepth 100000 in
theorem c_X8_lowest (l : Launch) (D : va_G) (cy : Nat → ClassId) (G : p_GT) (hG : p_ok G) (S : PS) (a0 : Int32) (post : Int32 → PS → Prop) (sz : Nat) (hf : f_X8_lowest S a0 post) : p_Mi l D cy G S sz yX8_lowest (Cond.code yX8_lowest cX8_lowest 2 (some .int) :: wG) rm_X8_lowest [.int a0] 0 0 post := by
  refine q_start hG (Qc := fun A => va_Qi post (p_Post D cy A) A) mf_X8_lowest (Nat.le_of_ble_eq_true rfl) (own := RX8) rfl ?_
  intro p e s m below meth c A X hr hlk hnm ls hl hH
  have hx := X.1.1
  have hb := X.1.2.1
  replace hl : lv_has ls 2 [(0, .int a0)] := hl
  obtain ⟨H, hHe⟩ : ∃ H, H = s.heap := ⟨_, rfl⟩
  obtain ⟨locs, hlo⟩ : ∃ locs : List Loc, locs = [] := ⟨_, rfl⟩
  rw [← hHe, ← hlo] at hH
  show W p l e rm_X8_lowest s m [.int a0].toArray below meth c s.heap [] 0 0 _ _
  rw [← hHe, ← hlo]
  have hL2 : ∀ (n2 : Nat) (S : PS) (l0 : Int32) (l1 : Int32), f_X8_lowest_L2 post n2 S l0 l1 → ∀ (H : Heap) (locs : List Loc) (ls : Array Slot), p_H D cy S A s H locs → lv_has ls 2 [(0, .int l0), (1, .int l1)] → W p l e rm_X8_lowest s m [.int a0].toArray below meth c H locs 0 0 (MQ below (va_Qi post (p_Post D cy A) A) [.int a0].toArray s 0 0 A) (F0 m 2 ls []) := by
    intro n2
    induction n2 with
    | zero => intro S l0 l1 hf; exact hf.elim
    | succ n2 ih2 =>
      intro S l0 l1 hf H locs ls hH hl
      refine lv_iload_n hx hb dX8_lowest_2 rfl (lv_at hl 0 rfl) ?_
      refine lv_iload_n hx hb dX8_lowest_3 rfl (lv_at hl 1 rfl) ?_
      refine q_backI0 X hH (q_runS [.int l0, .int l1] [] X hH hl (c_X8_holds l D cy G X.2.2.2.1 S l0 l1 _ _ hf) mf_X8_holds tw_1810 tw_1809 ⟨Nat.le_of_ble_eq_true rfl, Nat.le_of_ble_eq_true rfl⟩ rfl (Nat.le_of_ble_eq_true rfl) dX8_lowest_4 ⟨Nat.le_of_ble_eq_true rfl, Nat.le_of_ble_eq_true rfl⟩) (fun v2 S1 hf H locs hH => ?_)
      refine lv_if_ne (tgt := 16) hx hb dX8_lowest_7 (by decide) (fun c3 => ?_) (fun c3 => ?_)
      · have hf := (if_neg c3).mp hf
        refine lv_iload_n hx hb dX8_lowest_16 rfl (lv_at hl 1 rfl) ?_
        exact q_retI X hH hr hlk hf (Nat.zero_le _) (Nat.zero_le _) dX8_lowest_17
      · have hf := (if_pos c3).mp hf
        refine lv_iinc (v := l1 + 1) (lv' := [(1, .int (l1 + 1)), (0, .int l0)]) hx hb dX8_lowest_10 hl (k := 1) rfl rfl (by decide) rfl (fun ls hl => ?_)
        refine lv_goto (tgt := 2) hx hb dX8_lowest_13 (by decide) ?_
        exact ih2 S1 l0 (l1 + 1) hf H locs ls hH (lv_sub hl [1, 0] rfl)
  refine lv_iconst (v := 0) hx hb dX8_lowest_0 (by decide) ?_
  refine lv_istore_n (lv' := [(1, .int 0), (0, .int a0)]) hx hb dX8_lowest_1 rfl hl (by decide) rfl (fun ls hl => ?_)
  exact hL2 4096 S a0 0 hf H locs ls hH (lv_sub hl [1, 0] rfl)
-- X8_joins
def f_X8_joins_J131 (post : PS → Prop) (S : PS) (l0 : Nat) (l1 : Int32) (l2 : Int32) : Prop :=
  gR S l0 12 11 fun v1 => (
  gR S l0 12 10 fun v2 => (
  aI S v2 0 ((((9 : Int32) * l1) + l2) - 1) fun v3 => (
  sI S v1 0 l1 v3 fun S4 => (
  post S4))))
def f_X8_joins_J82 (post : PS → Prop) (g5 : PS → Nat → Int32 → Int32 → Int32 → Int32 → Prop) (S : PS) (l0 : Nat) (l1 : Int32) (l2 : Int32) (l3 : Int32) (l4 : Int32) (l5 : Int32) (l6 : Int32) : Prop :=
  gR S l0 12 9 fun v1 => (
  gR S l0 12 12 fun v2 => (
  aI S v2 0 l5 fun v3 => (
  sI S v1 0 (((9 : Int32) * l1) + l4) v3 fun S4 => (
  gR S4 l0 12 10 fun v5 => (
  sI S4 v5 0 (((9 : Int32) * l1) + l4) l6 fun S6 => (
  gR S6 l0 12 12 fun v7 => (
  aI S6 v7 0 l5 fun v8 => (
  g5 S6 l0 l1 l2 (l3 ||| v8) (l4 + 1)))))))))
def f_X8_joins_J76 (post : PS → Prop) (g20 : PS → Nat → Int32 → Int32 → Int32 → Int32 → Int32 → Int32 → Int32 → Prop) (S : PS) (l0 : Nat) (l1 : Int32) (l2 : Int32) (l3 : Int32) (l4 : Int32) (l5 : Int32) (l6 : Int32) (l7 : Int32) : Prop :=
  g20 S l0 l1 l2 l3 l4 l5 l6 (l7 + 1)
def f_X8_joins_J68 (post : PS → Prop) (g20 : PS → Nat → Int32 → Int32 → Int32 → Int32 → Int32 → Int32 → Int32 → Prop) (S : PS) (l0 : Nat) (l1 : Int32) (l2 : Int32) (l3 : Int32) (l4 : Int32) (l7 : Int32) (l8 : Int32) : Prop :=
  f_X8_joins_J76 post g20 S l0 l1 l2 l3 l4 l7 l8 l7
def f_X8_joins_L20 (post : PS → Prop) (g5 : PS → Nat → Int32 → Int32 → Int32 → Int32 → Prop) : Nat → PS → Nat → Int32 → Int32 → Int32 → Int32 → Int32 → Int32 → Int32 → Prop
  | 0, _, _, _, _, _, _, _, _, _ => False
  | n + 1, S, l0, l1, l2, l3, l4, l5, l6, l7 =>
  if l2 ≤ l7 then
    f_X8_joins_J82 post g5 S l0 l1 l2 l3 l4 l5 l6
  else
    gR S l0 12 12 fun v2 => (
    aI S v2 0 l7 fun v3 => (
    if (v3 &&& l3) = 0 then
      gR S l0 12 12 fun v5 => (
      aI S v5 0 l7 fun v6 => (
      isO S l0 12 (
      f_X8_tie S l0 v6 l3 fun v8 S7 => (
      if l5 = (-1) then
        f_X8_joins_J68 post (f_X8_joins_L20 post g5 n) S7 l0 l1 l2 l3 l4 l7 v8
      else
        if v8 ≤ l6 then
          f_X8_joins_J76 post (f_X8_joins_L20 post g5 n) S7 l0 l1 l2 l3 l4 l5 l6 l7
        else
          f_X8_joins_J68 post (f_X8_joins_L20 post g5 n) S7 l0 l1 l2 l3 l4 l7 v8))))
    else
      f_X8_joins_J76 post (f_X8_joins_L20 post g5 n) S l0 l1 l2 l3 l4 l5 l6 l7))
def f_X8_joins_L5 (post : PS → Prop) : Nat → PS → Nat → Int32 → Int32 → Int32 → Int32 → Prop
  | 0, _, _, _, _, _, _ => False
  | n + 1, S, l0, l1, l2, l3, l4 =>
  if l2 ≤ l4 then
    f_X8_joins_J131 post S l0 l1 l2
  else
    f_X8_joins_L20 post (f_X8_joins_L5 post n) 4096 S l0 l1 l2 l3 l4 (-1) (-1) 0
def f_X8_joins (S : PS) (a0 : Nat) (a1 : Int32) (a2 : Int32) (post : PS → Prop) : Prop :=
  f_X8_joins_L5 post 4096 S a0 a1 a2 0 0
abbrev rm_X8_joins : Room := { frames := 2, cells := 0, slots := 0, locals := 47 }
set_option maxHeartbeats 4000000 in
set_option maxRecDepth 100000 in
theorem c_X8_joins (l : Launch) (D : va_G) (cy : Nat → ClassId) (G : p_GT) (hG : p_ok G) (S : PS) (a0 : Nat) (a1 : Int32) (a2 : Int32) (post : PS → Prop) (sz : Nat) (hf : f_X8_joins S a0 a1 a2 post) : p_Mv l D cy G S sz yX8_joins (Cond.code yX8_joins cX8_joins 9 none :: wG) rm_X8_joins [.ref a0, .int a1, .int a2] 0 0 post := by
  refine q_start hG (Qc := fun A => va_Qv post (p_Post D cy A) A) mf_X8_joins (Nat.le_of_ble_eq_true rfl) (own := RX8) rfl ?_
  intro p e s m below meth c A X hr hlk hnm ls hl hH
  have hx := X.1.1
  have hb := X.1.2.1
  replace hl : lv_has ls 9 [(0, .ref a0), (1, .int a1), (2, .int a2)] := hl
  obtain ⟨H, hHe⟩ : ∃ H, H = s.heap := ⟨_, rfl⟩
  obtain ⟨locs, hlo⟩ : ∃ locs : List Loc, locs = [] := ⟨_, rfl⟩
  rw [← hHe, ← hlo] at hH
  show W p l e rm_X8_joins s m [.ref a0, .int a1, .int a2].toArray below meth c s.heap [] 0 0 _ _
  rw [← hHe, ← hlo]
  have hL5 : ∀ (n5 : Nat) (S : PS) (l0 : Nat) (l1 : Int32) (l2 : Int32) (l3 : Int32) (l4 : Int32), f_X8_joins_L5 post n5 S l0 l1 l2 l3 l4 → ∀ (H : Heap) (locs : List Loc) (ls : Array Slot), p_H D cy S A s H locs → lv_has ls 9 [(0, .ref l0), (1, .int l1), (2, .int l2), (3, .int l3), (4, .int l4)] → W p l e rm_X8_joins s m [.ref a0, .int a1, .int a2].toArray below meth c H locs 0 0 (MQ below (va_Qv post (p_Post D cy A) A) [.ref a0, .int a1, .int a2].toArray s 0 0 A) (F0 m 5 ls []) := by
    intro n5
    induction n5 with
    | zero => intro S l0 l1 l2 l3 l4 hf; exact hf.elim
    | succ n5 ih5 =>
      intro S l0 l1 l2 l3 l4 hf H locs ls hH hl
      have hJ131 : ∀ (S : PS) (l0 : Nat) (l1 : Int32) (l2 : Int32), f_X8_joins_J131 post S l0 l1 l2 → ∀ (H : Heap) (locs : List Loc) (ls : Array Slot), p_H D cy S A s H locs → lv_has ls 9 [(0, .ref l0), (1, .int l1), (2, .int l2)] → W p l e rm_X8_joins s m [.ref a0, .int a1, .int a2].toArray below meth c H locs 0 0 (MQ below (va_Qv post (p_Post D cy A) A) [.ref a0, .int a1, .int a2].toArray s 0 0 A) (F0 m 131 ls []) := by
        intro S l0 l1 l2 hf H locs ls hH hl
        refine lv_aload_n hx hb dX8_joins_131 rfl (lv_at hl 0 rfl) ?_
        refine q_getR (T := TX8) (N := 25) X hH hf iw_X8 rfl (by decide) tw_1620 (fun _ h => h) dX8_joins_132 (fun v1 hf => ?_)
        refine lv_iload_n hx hb dX8_joins_135 rfl (lv_at hl 1 rfl) ?_
        refine lv_aload_n hx hb dX8_joins_136 rfl (lv_at hl 0 rfl) ?_
        refine q_getR (T := TX8) (N := 25) X hH hf iw_X8 rfl (by decide) tw_1619 (fun _ h => h) dX8_joins_137 (fun v2 hf => ?_)
        refine lv_bipush (v := 9) hx hb dX8_joins_140 (by decide) ?_
        refine lv_iload_n hx hb dX8_joins_142 rfl (lv_at hl 1 rfl) ?_
        refine lv_imul hx hb dX8_joins_143 ?_
        refine lv_iload_n hx hb dX8_joins_144 rfl (lv_at hl 2 rfl) ?_
        refine lv_iadd hx hb dX8_joins_145 ?_
        refine lv_iconst (v := 1) hx hb dX8_joins_146 (by decide) ?_
        refine lv_isub hx hb dX8_joins_147 ?_
        refine q_iald X hH hf dX8_joins_148 (fun v3 hf => ?_)
        refine q_iast X hH hf dX8_joins_149 (fun S4 hf H locs hH => ?_)
        exact q_retV X hH hr hlk hf (Nat.zero_le _) (Nat.zero_le _) dX8_joins_150
      have hL20 : ∀ (n20 : Nat) (S : PS) (l0 : Nat) (l1 : Int32) (l2 : Int32) (l3 : Int32) (l4 : Int32) (l5 : Int32) (l6 : Int32) (l7 : Int32), f_X8_joins_L20 post (f_X8_joins_L5 post n5) n20 S l0 l1 l2 l3 l4 l5 l6 l7 → ∀ (H : Heap) (locs : List Loc) (ls : Array Slot), p_H D cy S A s H locs → lv_has ls 9 [(0, .ref l0), (1, .int l1), (2, .int l2), (3, .int l3), (4, .int l4), (5, .int l5), (6, .int l6), (7, .int l7)] → W p l e rm_X8_joins s m [.ref a0, .int a1, .int a2].toArray below meth c H locs 0 0 (MQ below (va_Qv post (p_Post D cy A) A) [.ref a0, .int a1, .int a2].toArray s 0 0 A) (F0 m 20 ls []) := by
        intro n20
        induction n20 with
        | zero => intro S l0 l1 l2 l3 l4 l5 l6 l7 hf; exact hf.elim
        | succ n20 ih20 =>
          intro S l0 l1 l2 l3 l4 l5 l6 l7 hf H locs ls hH hl
          have hJ82 : ∀ (S : PS) (l0 : Nat) (l1 : Int32) (l2 : Int32) (l3 : Int32) (l4 : Int32) (l5 : Int32) (l6 : Int32), f_X8_joins_J82 post (f_X8_joins_L5 post n5) S l0 l1 l2 l3 l4 l5 l6 → ∀ (H : Heap) (locs : List Loc) (ls : Array Slot), p_H D cy S A s H locs → lv_has ls 9 [(0, .ref l0), (1, .int l1), (2, .int l2), (3, .int l3), (4, .int l4), (5, .int l5), (6, .int l6)] → W p l e rm_X8_joins s m [.ref a0, .int a1, .int a2].toArray below meth c H locs 0 0 (MQ below (va_Qv post (p_Post D cy A) A) [.ref a0, .int a1, .int a2].toArray s 0 0 A) (F0 m 82 ls []) := by
            intro S l0 l1 l2 l3 l4 l5 l6 hf H locs ls hH hl
            refine lv_aload_n hx hb dX8_joins_82 rfl (lv_at hl 0 rfl) ?_
            refine q_getR (T := TX8) (N := 25) X hH hf iw_X8 rfl (by decide) tw_1618 (fun _ h => h) dX8_joins_83 (fun v1 hf => ?_)
            refine lv_bipush (v := 9) hx hb dX8_joins_86 (by decide) ?_
            refine lv_iload_n hx hb dX8_joins_88 rfl (lv_at hl 1 rfl) ?_
            refine lv_imul hx hb dX8_joins_89 ?_
            refine lv_iload hx hb dX8_joins_90 (lv_at hl 4 rfl) ?_
            refine lv_iadd hx hb dX8_joins_92 ?_
            refine lv_aload_n hx hb dX8_joins_93 rfl (lv_at hl 0 rfl) ?_
            refine q_getR (T := TX8) (N := 25) X hH hf iw_X8 rfl (by decide) tw_1621 (fun _ h => h) dX8_joins_94 (fun v2 hf => ?_)
            refine lv_iload hx hb dX8_joins_97 (lv_at hl 5 rfl) ?_
            refine q_iald X hH hf dX8_joins_99 (fun v3 hf => ?_)
            refine q_iast X hH hf dX8_joins_100 (fun S4 hf H locs hH => ?_)
            refine lv_aload_n hx hb dX8_joins_101 rfl (lv_at hl 0 rfl) ?_
            refine q_getR (T := TX8) (N := 25) X hH hf iw_X8 rfl (by decide) tw_1619 (fun _ h => h) dX8_joins_102 (fun v5 hf => ?_)
            refine lv_bipush (v := 9) hx hb dX8_joins_105 (by decide) ?_
            refine lv_iload_n hx hb dX8_joins_107 rfl (lv_at hl 1 rfl) ?_
            refine lv_imul hx hb dX8_joins_108 ?_
            refine lv_iload hx hb dX8_joins_109 (lv_at hl 4 rfl) ?_
            refine lv_iadd hx hb dX8_joins_111 ?_
            refine lv_iload hx hb dX8_joins_112 (lv_at hl 6 rfl) ?_
            refine q_iast X hH hf dX8_joins_114 (fun S6 hf H locs hH => ?_)
            refine lv_iload_n hx hb dX8_joins_115 rfl (lv_at hl 3 rfl) ?_
            refine lv_aload_n hx hb dX8_joins_116 rfl (lv_at hl 0 rfl) ?_
            refine q_getR (T := TX8) (N := 25) X hH hf iw_X8 rfl (by decide) tw_1621 (fun _ h => h) dX8_joins_117 (fun v7 hf => ?_)
            refine lv_iload hx hb dX8_joins_120 (lv_at hl 5 rfl) ?_
            refine q_iald X hH hf dX8_joins_122 (fun v8 hf => ?_)
            refine lv_ior hx hb dX8_joins_123 ?_
            refine lv_istore_n (lv' := [(3, .int (l3 ||| v8)), (0, .ref l0), (1, .int l1), (2, .int l2), (4, .int l4), (5, .int l5), (6, .int l6)]) hx hb dX8_joins_124 rfl hl (by decide) rfl (fun ls hl => ?_)
            refine lv_iinc (v := l4 + 1) (lv' := [(4, .int (l4 + 1)), (3, .int (l3 ||| v8)), (0, .ref l0), (1, .int l1), (2, .int l2), (5, .int l5), (6, .int l6)]) hx hb dX8_joins_125 hl (k := 4) rfl rfl (by decide) rfl (fun ls hl => ?_)
            refine lv_goto (tgt := 5) hx hb dX8_joins_128 (by decide) ?_
            exact ih5 S6 l0 l1 l2 (l3 ||| v8) (l4 + 1) hf H locs ls hH (lv_sub hl [2, 3, 4, 1, 0] rfl)
          have hJ76 : ∀ (S : PS) (l0 : Nat) (l1 : Int32) (l2 : Int32) (l3 : Int32) (l4 : Int32) (l5 : Int32) (l6 : Int32) (l7 : Int32), f_X8_joins_J76 post (f_X8_joins_L20 post (f_X8_joins_L5 post n5) n20) S l0 l1 l2 l3 l4 l5 l6 l7 → ∀ (H : Heap) (locs : List Loc) (ls : Array Slot), p_H D cy S A s H locs → lv_has ls 9 [(0, .ref l0), (1, .int l1), (2, .int l2), (3, .int l3), (4, .int l4), (5, .int l5), (6, .int l6), (7, .int l7)] → W p l e rm_X8_joins s m [.ref a0, .int a1, .int a2].toArray below meth c H locs 0 0 (MQ below (va_Qv post (p_Post D cy A) A) [.ref a0, .int a1, .int a2].toArray s 0 0 A) (F0 m 76 ls []) := by
            intro S l0 l1 l2 l3 l4 l5 l6 l7 hf H locs ls hH hl
            refine lv_iinc (v := l7 + 1) (lv' := [(7, .int (l7 + 1)), (0, .ref l0), (1, .int l1), (2, .int l2), (3, .int l3), (4, .int l4), (5, .int l5), (6, .int l6)]) hx hb dX8_joins_76 hl (k := 7) rfl rfl (by decide) rfl (fun ls hl => ?_)
            refine lv_goto (tgt := 20) hx hb dX8_joins_79 (by decide) ?_
            exact ih20 S l0 l1 l2 l3 l4 l5 l6 (l7 + 1) hf H locs ls hH (lv_sub hl [1, 2, 3, 4, 5, 6, 7, 0] rfl)
          have hJ68 : ∀ (S : PS) (l0 : Nat) (l1 : Int32) (l2 : Int32) (l3 : Int32) (l4 : Int32) (l7 : Int32) (l8 : Int32), f_X8_joins_J68 post (f_X8_joins_L20 post (f_X8_joins_L5 post n5) n20) S l0 l1 l2 l3 l4 l7 l8 → ∀ (H : Heap) (locs : List Loc) (ls : Array Slot), p_H D cy S A s H locs → lv_has ls 9 [(0, .ref l0), (1, .int l1), (2, .int l2), (3, .int l3), (4, .int l4), (7, .int l7), (8, .int l8)] → W p l e rm_X8_joins s m [.ref a0, .int a1, .int a2].toArray below meth c H locs 0 0 (MQ below (va_Qv post (p_Post D cy A) A) [.ref a0, .int a1, .int a2].toArray s 0 0 A) (F0 m 68 ls []) := by
            intro S l0 l1 l2 l3 l4 l7 l8 hf H locs ls hH hl
            refine lv_iload hx hb dX8_joins_68 (lv_at hl 5 rfl) ?_
            refine lv_istore (lv' := [(5, .int l7), (0, .ref l0), (1, .int l1), (2, .int l2), (3, .int l3), (4, .int l4), (7, .int l7), (8, .int l8)]) hx hb dX8_joins_70 hl (by decide) rfl (fun ls hl => ?_)
            refine lv_iload hx hb dX8_joins_72 (lv_at hl 7 rfl) ?_
            refine lv_istore (lv' := [(6, .int l8), (5, .int l7), (0, .ref l0), (1, .int l1), (2, .int l2), (3, .int l3), (4, .int l4), (7, .int l7), (8, .int l8)]) hx hb dX8_joins_74 hl (by decide) rfl (fun ls hl => ?_)
            exact hJ76 S l0 l1 l2 l3 l4 l7 l8 l7 hf H locs ls hH (lv_sub hl [2, 3, 4, 5, 6, 1, 0, 7] rfl)
          refine lv_iload hx hb dX8_joins_20 (lv_at hl 7 rfl) ?_
          refine lv_iload_n hx hb dX8_joins_22 rfl (lv_at hl 2 rfl) ?_
          refine lv_icmp_ge (tgt := 82) hx hb dX8_joins_23 (by decide) (fun c1 => ?_) (fun c1 => ?_)
          · have hf := (if_pos c1).mp hf
            exact hJ82 S l0 l1 l2 l3 l4 l5 l6 hf H locs ls hH (lv_sub hl [0, 1, 2, 3, 4, 5, 6] rfl)
          · have hf := (if_neg c1).mp hf
            refine lv_aload_n hx hb dX8_joins_26 rfl (lv_at hl 0 rfl) ?_
            refine q_getR (T := TX8) (N := 25) X hH hf iw_X8 rfl (by decide) tw_1621 (fun _ h => h) dX8_joins_27 (fun v2 hf => ?_)
            refine lv_iload hx hb dX8_joins_30 (lv_at hl 7 rfl) ?_
            refine q_iald X hH hf dX8_joins_32 (fun v3 hf => ?_)
            refine lv_iload_n hx hb dX8_joins_33 rfl (lv_at hl 3 rfl) ?_
            refine lv_iand hx hb dX8_joins_34 ?_
            refine lv_if_eq (tgt := 41) hx hb dX8_joins_35 (by decide) (fun c4 => ?_) (fun c4 => ?_)
            · have hf := (if_pos c4).mp hf
              refine lv_aload_n hx hb dX8_joins_41 rfl (lv_at hl 0 rfl) ?_
              refine lv_aload_n hx hb dX8_joins_42 rfl (lv_at hl 0 rfl) ?_
              refine q_getR (T := TX8) (N := 25) X hH hf iw_X8 rfl (by decide) tw_1621 (fun _ h => h) dX8_joins_43 (fun v5 hf => ?_)
              refine lv_iload hx hb dX8_joins_46 (lv_at hl 7 rfl) ?_
              refine q_iald X hH hf dX8_joins_48 (fun v6 hf => ?_)
              refine lv_iload_n hx hb dX8_joins_49 rfl (lv_at hl 3 rfl) ?_
              obtain ⟨hb1, hb2, hf⟩ := hf
              refine q_backI0 X hH (q_runV [.int v6, .int l3] [] X hH hl (c_X8_tie l D cy G X.2.2.2.1 S l0 v6 l3 _ _ hf) mf_X8_tie mv_X8_tie tw_1805 ⟨Nat.le_of_ble_eq_true rfl, Nat.le_of_ble_eq_true rfl⟩ hb1 hb2 (T := TX8) (N := 25) rfl rfl (Nat.le_of_ble_eq_true rfl) dX8_joins_50 ⟨Nat.le_of_ble_eq_true rfl, Nat.le_of_ble_eq_true rfl⟩) (fun v8 S7 hf H locs hH => ?_)
              refine lv_istore (lv' := [(8, .int v8), (0, .ref l0), (1, .int l1), (2, .int l2), (3, .int l3), (4, .int l4), (5, .int l5), (6, .int l6), (7, .int l7)]) hx hb dX8_joins_53 hl (by decide) rfl (fun ls hl => ?_)
              refine lv_iload hx hb dX8_joins_55 (lv_at hl 6 rfl) ?_
              refine lv_iconst (v := (-1)) hx hb dX8_joins_57 (by decide) ?_
              refine lv_icmp_eq (tgt := 68) hx hb dX8_joins_58 (by decide) (fun c9 => ?_) (fun c9 => ?_)
              · have hf := (if_pos c9).mp hf
                exact hJ68 S7 l0 l1 l2 l3 l4 l7 v8 hf H locs ls hH (lv_sub hl [1, 2, 3, 4, 5, 8, 0] rfl)
              · have hf := (if_neg c9).mp hf
                refine lv_iload hx hb dX8_joins_61 (lv_at hl 0 rfl) ?_
                refine lv_iload hx hb dX8_joins_63 (lv_at hl 7 rfl) ?_
                refine lv_icmp_le (tgt := 76) hx hb dX8_joins_65 (by decide) (fun c10 => ?_) (fun c10 => ?_)
                · have hf := (if_pos c10).mp hf
                  exact hJ76 S7 l0 l1 l2 l3 l4 l5 l6 l7 hf H locs ls hH (lv_sub hl [1, 2, 3, 4, 5, 6, 7, 8] rfl)
                · have hf := (if_neg c10).mp hf
                  exact hJ68 S7 l0 l1 l2 l3 l4 l7 v8 hf H locs ls hH (lv_sub hl [1, 2, 3, 4, 5, 8, 0] rfl)
            · have hf := (if_neg c4).mp hf
              refine lv_goto (tgt := 76) hx hb dX8_joins_38 (by decide) ?_
              exact hJ76 S l0 l1 l2 l3 l4 l5 l6 l7 hf H locs ls hH hl
      refine lv_iload hx hb dX8_joins_5 (lv_at hl 4 rfl) ?_
      refine lv_iload_n hx hb dX8_joins_7 rfl (lv_at hl 2 rfl) ?_
      refine lv_icmp_ge (tgt := 131) hx hb dX8_joins_8 (by decide) (fun c1 => ?_) (fun c1 => ?_)
      · have hf := (if_pos c1).mp hf
        exact hJ131 S l0 l1 l2 hf H locs ls hH (lv_sub hl [0, 1, 2] rfl)
      · have hf := (if_neg c1).mp hf
        refine lv_iconst (v := (-1)) hx hb dX8_joins_11 (by decide) ?_
        refine lv_istore (lv' := [(5, .int ((-1))), (0, .ref l0), (1, .int l1), (2, .int l2), (3, .int l3), (4, .int l4)]) hx hb dX8_joins_12 hl (by decide) rfl (fun ls hl => ?_)
        refine lv_iconst (v := (-1)) hx hb dX8_joins_14 (by decide) ?_
        refine lv_istore (lv' := [(6, .int ((-1))), (5, .int ((-1))), (0, .ref l0), (1, .int l1), (2, .int l2), (3, .int l3), (4, .int l4)]) hx hb dX8_joins_15 hl (by decide) rfl (fun ls hl => ?_)
        refine lv_iconst (v := 0) hx hb dX8_joins_17 (by decide) ?_
        refine lv_istore (lv' := [(7, .int 0), (6, .int ((-1))), (5, .int ((-1))), (0, .ref l0), (1, .int l1), (2, .int l2), (3, .int l3), (4, .int l4)]) hx hb dX8_joins_18 hl (by decide) rfl (fun ls hl => ?_)
        exact hL20 4096 S l0 l1 l2 l3 l4 (-1) (-1) 0 hf H locs ls hH (lv_sub hl [3, 4, 5, 6, 7, 2, 1, 0] rfl)
  refine lv_iconst (v := 0) hx hb dX8_joins_0 (by decide) ?_
  refine lv_istore_n (lv' := [(3, .int 0), (0, .ref a0), (1, .int a1), (2, .int a2)]) hx hb dX8_joins_1 rfl hl (by decide) rfl (fun ls hl => ?_)
  refine lv_iconst (v := 0) hx hb dX8_joins_2 (by decide) ?_
  refine lv_istore (lv' := [(4, .int 0), (3, .int 0), (0, .ref a0), (1, .int a1), (2, .int a2)]) hx hb dX8_joins_3 hl (by decide) rfl (fun ls hl => ?_)
  exact hL5 4096 S a0 a1 a2 0 0 hf H locs ls hH (lv_sub hl [2, 3, 4, 1, 0] rfl)
