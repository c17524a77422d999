set_option maxHeartbeats 4000000 in
set_option maxRecDepth 100000 in
theorem jL_law_160 {p : Program} {e : Env} {s : State} {m : MethodId} {below : List Frame} {meth : Method} {c : Code} (l : Launch) (D : va_G) (cy : Nat → ClassId) (G : p_GT) (hGC : ∀ (A : Nat → Prop) (U : State) (H : Heap), G A U H → gC A U H) (hst : l.stackTraces = false) (hGE : ∀ (A : Nat → Prop) (U : State) (H : Heap), G A U H → p_Ex A U H) (hGF : ∀ (A : Nat → Prop) (U : State) (H : Heap), G A U H → gF A U H) (adK adV : Nat → Nat) (hGK : ∀ (A : Nat → Prop) (U : State) (H : Heap), G A U H → gK adK adV A U H) (hGO : ∀ (A : Nat → Prop) (U : State) (H : Heap), G A U H → va_AO "VillageFeud$Village" U) (hGQ : ∀ (A : Nat → Prop) (U : State) (H : Heap), G A U H → va_AOA .int U) (dT dO : Nat) (hGT : ∀ (A : Nat → Prop) (U : State) (H : Heap), G A U H → gT dT dO A U H) (hGU : ∀ (A : Nat → Prop) (U : State) (H : Heap), G A U H → gU A U H) (b L : Nat) (xs : Nat → Int32) (hGX : ∀ (A : Nat → Prop) (U : State) (H : Heap), G A U H → gX b L xs A U H) (A : Nat → Prop) (X : p_X p m c cL_law 30 s #[.ref b] RL D cy G A) (hr : meth.sig.returnType = ret) (hlk : meth.locks = false) (hfree : ∀ q, A q → s.heap.size ≤ q) (g138 : PS → Nat → Nat → Nat → Int32 → Nat → Int32 → Int32 → Int32 → Int32 → Int32 → Int32 → Int32 → Int32 → Int32 → Int32 → Int32 → Int32 → Int32 → Nat → Nat → Int32 → Prop) (ih138 : ∀ (S : PS) (bc bs : Nat) (l1 : Nat) (l2 : Int32) (l3 : Nat) (l4 : Int32) (l5 : Int32) (l6 : Int32) (l7 : Int32) (l8 : Int32) (l9 : Int32) (l10 : Int32) (l11 : Int32) (l12 : Int32) (l13 : Int32) (l14 : Int32) (l15 : Int32) (l16 : Int32) (l17 : Nat) (l18 : Nat) (l19 : Int32), g138 S bc bs l1 l2 l3 l4 l5 l6 l7 l8 l9 l10 l11 l12 l13 l14 l15 l16 l17 l18 l19 → ∀ (H : Heap) (locs : List Loc) (ls : Array Slot) (cells slots : Nat), p_H D cy S A s H locs → lv_has ls 30 [(0, .ref b), (1, .ref l1), (2, .int l2), (3, .ref l3), (4, .int l4), (5, .int l5), (6, .int l6), (7, .int l7), (8, .int l8), (9, .int l9), (10, .int l10), (11, .int l11), (12, .int l12), (13, .int l13), (14, .int l14), (15, .int l15), (16, .int l16), (17, .ref l17), (18, .ref l18), (19, .int l19)] → cells + bc ≤ room_1.cells ∧ slots + bs ≤ room_1.slots → W p l e room_1 s m #[Value.ref b] below meth c H locs cells slots (lw_Z below #[Value.ref b] s) (F0 m 138 ls [])) : ∀ (n160 : Nat) (S : PS) (bc bs : Nat) (l1 : Nat) (l2 : Int32) (l3 : Nat) (l4 : Int32) (l5 : Int32) (l6 : Int32) (l7 : Int32) (l8 : Int32) (l9 : Int32) (l10 : Int32) (l11 : Int32) (l12 : Int32) (l13 : Int32) (l14 : Int32) (l15 : Int32) (l16 : Int32) (l17 : Nat) (l18 : Nat) (l19 : Int32) (l20 : Int32) (l21 : Int32) (l22 : Int32) (l23 : Int32), f_L_law_L160 adK L xs g138 n160 S bc bs l1 l2 l3 l4 l5 l6 l7 l8 l9 l10 l11 l12 l13 l14 l15 l16 l17 l18 l19 l20 l21 l22 l23 → ∀ (H : Heap) (locs : List Loc) (ls : Array Slot) (cells slots : Nat), p_H D cy S A s H locs → lv_has ls 30 [(0, .ref b), (1, .ref l1), (2, .int l2), (3, .ref l3), (4, .int l4), (5, .int l5), (6, .int l6), (7, .int l7), (8, .int l8), (9, .int l9), (10, .int l10), (11, .int l11), (12, .int l12), (13, .int l13), (14, .int l14), (15, .int l15), (16, .int l16), (17, .ref l17), (18, .ref l18), (19, .int l19), (20, .int l20), (21, .int l21), (22, .int l22), (23, .int l23)] → cells + bc ≤ room_1.cells ∧ slots + bs ≤ room_1.slots → W p l e room_1 s m #[Value.ref b] below meth c H locs cells slots (lw_Z below #[Value.ref b] s) (F0 m 160 ls []) := by
  have hx := X.1.1
  have hb := X.1.2.1
  intro n160
  induction n160 with
  | zero => intro S bc bs l1 l2 l3 l4 l5 l6 l7 l8 l9 l10 l11 l12 l13 l14 l15 l16 l17 l18 l19 l20 l21 l22 l23 hf; exact hf.elim
  | succ n160 ih160 =>
    have hJ203 := jL_law_203 (e := e) (below := below) l D cy G hGC hst hGE hGF adK adV hGK hGO hGQ dT dO hGT hGU b L xs hGX A X hr hlk hfree (f_L_law_L160 adK L xs g138 n160) ih160
    have hJ439 := jL_law_439 (e := e) (below := below) l D cy G hGC hst hGE hGF adK adV hGK hGO hGQ dT dO hGT hGU b L xs hGX A X hr hlk hfree g138 ih138
    intro S bc bs l1 l2 l3 l4 l5 l6 l7 l8 l9 l10 l11 l12 l13 l14 l15 l16 l17 l18 l19 l20 l21 l22 l23 hf H locs ls cells slots hH hl hB
    refine lv_iload hx hb dL_law_160 (lv_at hl 23 rfl) ?_
    refine lv_iload hx hb dL_law_162 (lv_at hl 4 rfl) ?_
    refine lv_icmp_ge (tgt := 439) hx hb dL_law_164 (by decide) (fun c1 => ?_) (fun c1 => ?_)
    · have hf := (if_pos c1).mp hf
      exact hJ439 S bc bs l1 l2 l3 l4 l5 l6 l7 l8 l9 l10 l11 l12 l13 l14 l15 l16 l17 l18 l19 l20 l21 l22 hf H locs ls cells slots hH (lv_sub hl [0, 1, 2, 3, 4, 5, 6, 7, 8, 9, 10, 11, 12, 13, 14, 15, 16, 17, 18, 19, 20, 21, 22] rfl) hB
    · have hf := (if_neg c1).mp hf
      refine lv_aload_n hx hb dL_law_167 rfl (lv_at hl 3 rfl) ?_
      refine lv_iload hx hb dL_law_168 (lv_at hl 19 rfl) ?_
      refine q_aaldQ X hH hf dL_law_170 (fun v2 hf => ?_)
      refine lv_iload hx hb dL_law_171 (lv_at hl 23 rfl) ?_
      refine q_iald X hH hf dL_law_173 (fun v3 hf => ?_)
      refine lv_aload_n hx hb dL_law_174 rfl (lv_at hl 3 rfl) ?_
      refine lv_iload hx hb dL_law_175 (lv_at hl 23 rfl) ?_
      refine q_aaldQ X hH hf dL_law_177 (fun v4 hf => ?_)
      refine lv_iload hx hb dL_law_178 (lv_at hl 19 rfl) ?_
      refine q_iald X hH hf dL_law_180 (fun v5 hf => ?_)
      refine lv_icmp_ne (tgt := 201) hx hb dL_law_181 (by decide) (fun c6 => ?_) (fun c6 => ?_)
      · have hf := (if_neg c6).mp hf
        refine lv_iconst (v := 0) hx hb dL_law_201 (by decide) ?_
        exact hf.elim
      · have hf := (if_pos c6).mp hf
        refine lv_iload hx hb dL_law_184 (lv_at hl 19 rfl) ?_
        refine lv_iload hx hb dL_law_186 (lv_at hl 23 rfl) ?_
        refine lv_icmp_ne (tgt := 203) hx hb dL_law_188 (by decide) (fun c7 => ?_) (fun c7 => ?_)
        · have hf := (if_neg c7).mp hf
          exact hJ203 S bc bs l1 l2 l3 l4 l5 l6 l7 l8 l9 l10 l11 l12 l13 l14 l15 l16 l17 l18 l19 l20 l21 l22 l23 hf H locs ls cells slots hH hl hB
        · have hf := (if_pos c7).mp hf
          refine lv_aload_n hx hb dL_law_191 rfl (lv_at hl 3 rfl) ?_
          refine lv_iload hx hb dL_law_192 (lv_at hl 19 rfl) ?_
          refine q_aaldQ X hH hf dL_law_194 (fun v8 hf => ?_)
          refine lv_iload hx hb dL_law_195 (lv_at hl 23 rfl) ?_
          refine q_iald X hH hf dL_law_197 (fun v9 hf => ?_)
          refine lv_if_eq (tgt := 203) hx hb dL_law_198 (by decide) (fun c10 => ?_) (fun c10 => ?_)
          · have hf := (if_pos c10).mp hf
            exact hJ203 S bc bs l1 l2 l3 l4 l5 l6 l7 l8 l9 l10 l11 l12 l13 l14 l15 l16 l17 l18 l19 l20 l21 l22 l23 hf H locs ls cells slots hH hl hB
          · have hf := (if_neg c10).mp hf
            refine lv_iconst (v := 0) hx hb dL_law_201 (by decide) ?_
            exact hf.elim
set_option maxHeartbeats 4000000 in
set_option maxRecDepth 100000 in
theorem jL_law_138 {p : Program} {e : Env} {s : State} {m : MethodId} {below : List Frame} {meth : Method} {c : Code} (l : Launch) (D : va_G) (cy : Nat → ClassId) (G : p_GT) (hGC : ∀ (A : Nat → Prop) (U : State) (H : Heap), G A U H → gC A U H) (hst : l.stackTraces = false) (hGE : ∀ (A : Nat → Prop) (U : State) (H : Heap), G A U H → p_Ex A U H) (hGF : ∀ (A : Nat → Prop) (U : State) (H : Heap), G A U H → gF A U H) (adK adV : Nat → Nat) (hGK : ∀ (A : Nat → Prop) (U : State) (H : Heap), G A U H → gK adK adV A U H) (hGO : ∀ (A : Nat → Prop) (U : State) (H : Heap), G A U H → va_AO "VillageFeud$Village" U) (hGQ : ∀ (A : Nat → Prop) (U : State) (H : Heap), G A U H → va_AOA .int U) (dT dO : Nat) (hGT : ∀ (A : Nat → Prop) (U : State) (H : Heap), G A U H → gT dT dO A U H) (hGU : ∀ (A : Nat → Prop) (U : State) (H : Heap), G A U H → gU A U H) (b L : Nat) (xs : Nat → Int32) (hGX : ∀ (A : Nat → Prop) (U : State) (H : Heap), G A U H → gX b L xs A U H) (A : Nat → Prop) (X : p_X p m c cL_law 30 s #[.ref b] RL D cy G A) (hr : meth.sig.returnType = ret) (hlk : meth.locks = false) (hfree : ∀ q, A q → s.heap.size ≤ q) (g15 : PS → Nat → Nat → Nat → Int32 → Prop) (ih15 : ∀ (S : PS) (bc bs : Nat) (l1 : Nat) (l2 : Int32), g15 S bc bs l1 l2 → ∀ (H : Heap) (locs : List Loc) (ls : Array Slot) (cells slots : Nat), p_H D cy S A s H locs → lv_has ls 30 [(0, .ref b), (1, .ref l1), (2, .int l2)] → cells + bc ≤ room_1.cells ∧ slots + bs ≤ room_1.slots → W p l e room_1 s m #[Value.ref b] below meth c H locs cells slots (lw_Z below #[Value.ref b] s) (F0 m 15 ls [])) : ∀ (n138 : Nat) (S : PS) (bc bs : Nat) (l1 : Nat) (l2 : Int32) (l3 : Nat) (l4 : Int32) (l5 : Int32) (l6 : Int32) (l7 : Int32) (l8 : Int32) (l9 : Int32) (l10 : Int32) (l11 : Int32) (l12 : Int32) (l13 : Int32) (l14 : Int32) (l15 : Int32) (l16 : Int32) (l17 : Nat) (l18 : Nat) (l19 : Int32), f_L_law_L138 adK L xs g15 n138 S bc bs l1 l2 l3 l4 l5 l6 l7 l8 l9 l10 l11 l12 l13 l14 l15 l16 l17 l18 l19 → ∀ (H : Heap) (locs : List Loc) (ls : Array Slot) (cells slots : Nat), p_H D cy S A s H locs → lv_has ls 30 [(0, .ref b), (1, .ref l1), (2, .int l2), (3, .ref l3), (4, .int l4), (5, .int l5), (6, .int l6), (7, .int l7), (8, .int l8), (9, .int l9), (10, .int l10), (11, .int l11), (12, .int l12), (13, .int l13), (14, .int l14), (15, .int l15), (16, .int l16), (17, .ref l17), (18, .ref l18), (19, .int l19)] → cells + bc ≤ room_1.cells ∧ slots + bs ≤ room_1.slots → W p l e room_1 s m #[Value.ref b] below meth c H locs cells slots (lw_Z below #[Value.ref b] s) (F0 m 138 ls []) := by
  have hx := X.1.1
  have hb := X.1.2.1
  intro n138
  induction n138 with
  | zero => intro S bc bs l1 l2 l3 l4 l5 l6 l7 l8 l9 l10 l11 l12 l13 l14 l15 l16 l17 l18 l19 hf; exact hf.elim
  | succ n138 ih138 =>
    have hL160 := jL_law_160 (e := e) (below := below) l D cy G hGC hst hGE hGF adK adV hGK hGO hGQ dT dO hGT hGU b L xs hGX A X hr hlk hfree (f_L_law_L138 adK L xs g15 n138) ih138
    have hJ777 := jL_law_777 (e := e) (below := below) l D cy G hGC hst hGE hGF adK adV hGK hGO hGQ dT dO hGT hGU b L xs hGX A X hr hlk hfree g15 ih15
    intro S bc bs l1 l2 l3 l4 l5 l6 l7 l8 l9 l10 l11 l12 l13 l14 l15 l16 l17 l18 l19 hf H locs ls cells slots hH hl hB
    refine lv_iload hx hb dL_law_138 (lv_at hl 19 rfl) ?_
    refine lv_iload hx hb dL_law_140 (lv_at hl 4 rfl) ?_
    refine lv_icmp_ge (tgt := 777) hx hb dL_law_142 (by decide) (fun c1 => ?_) (fun c1 => ?_)
    · have hf := (if_pos c1).mp hf
      exact hJ777 S bc bs l1 l2 l3 l4 l5 l6 l7 l8 l9 l10 l11 l12 l13 l14 l15 l16 l17 l18 hf H locs ls cells slots hH (lv_sub hl [0, 1, 2, 3, 4, 5, 6, 7, 8, 9, 10, 11, 12, 13, 14, 15, 16, 17, 18] rfl) hB
    · have hf := (if_neg c1).mp hf
      refine lv_iconst (v := 0) hx hb dL_law_145 (by decide) ?_
      refine lv_istore (lv' := [(20, .int 0), (0, .ref b), (1, .ref l1), (2, .int l2), (3, .ref l3), (4, .int l4), (5, .int l5), (6, .int l6), (7, .int l7), (8, .int l8), (9, .int l9), (10, .int l10), (11, .int l11), (12, .int l12), (13, .int l13), (14, .int l14), (15, .int l15), (16, .int l16), (17, .ref l17), (18, .ref l18), (19, .int l19)]) hx hb dL_law_146 hl (by decide) rfl (fun ls hl => ?_)
      refine lv_iconst (v := (-1)) hx hb dL_law_148 (by decide) ?_
      refine lv_istore (lv' := [(21, .int ((-1))), (20, .int 0), (0, .ref b), (1, .ref l1), (2, .int l2), (3, .ref l3), (4, .int l4), (5, .int l5), (6, .int l6), (7, .int l7), (8, .int l8), (9, .int l9), (10, .int l10), (11, .int l11), (12, .int l12), (13, .int l13), (14, .int l14), (15, .int l15), (16, .int l16), (17, .ref l17), (18, .ref l18), (19, .int l19)]) hx hb dL_law_149 hl (by decide) rfl (fun ls hl => ?_)
      refine lv_iconst (v := 1) hx hb dL_law_151 (by decide) ?_
      refine lv_iload hx hb dL_law_152 (lv_at hl 21 rfl) ?_
      refine lv_ishl hx hb dL_law_154 ?_
      refine lv_istore (lv' := [(22, .int ((1 : Int32) <<< (l19 &&& 31))), (21, .int ((-1))), (20, .int 0), (0, .ref b), (1, .ref l1), (2, .int l2), (3, .ref l3), (4, .int l4), (5, .int l5), (6, .int l6), (7, .int l7), (8, .int l8), (9, .int l9), (10, .int l10), (11, .int l11), (12, .int l12), (13, .int l13), (14, .int l14), (15, .int l15), (16, .int l16), (17, .ref l17), (18, .ref l18), (19, .int l19)]) hx hb dL_law_155 hl (by decide) rfl (fun ls hl => ?_)
      refine lv_iconst (v := 0) hx hb dL_law_157 (by decide) ?_
      refine lv_istore (lv' := [(23, .int 0), (22, .int ((1 : Int32) <<< (l19 &&& 31))), (21, .int ((-1))), (20, .int 0), (0, .ref b), (1, .ref l1), (2, .int l2), (3, .ref l3), (4, .int l4), (5, .int l5), (6, .int l6), (7, .int l7), (8, .int l8), (9, .int l9), (10, .int l10), (11, .int l11), (12, .int l12), (13, .int l13), (14, .int l14), (15, .int l15), (16, .int l16), (17, .ref l17), (18, .ref l18), (19, .int l19)]) hx hb dL_law_158 hl (by decide) rfl (fun ls hl => ?_)
      exact hL160 4096 S bc bs l1 l2 l3 l4 l5 l6 l7 l8 l9 l10 l11 l12 l13 l14 l15 l16 l17 l18 l19 0 (-1) ((1 : Int32) <<< (l19 &&& 31)) 0 hf H locs ls cells slots hH (lv_sub hl [4, 5, 6, 7, 8, 9, 10, 11, 12, 13, 14, 15, 16, 17, 18, 19, 20, 21, 22, 23, 3, 2, 1, 0] rfl) hB
set_option maxHeartbeats 4000000 in
set_option maxRecDepth 100000 in
theorem jL_law_117 {p : Program} {e : Env} {s : State} {m : MethodId} {below : List Frame} {meth : Method} {c : Code} (l : Launch) (D : va_G) (cy : Nat → ClassId) (G : p_GT) (hGC : ∀ (A : Nat → Prop) (U : State) (H : Heap), G A U H → gC A U H) (hst : l.stackTraces = false) (hGE : ∀ (A : Nat → Prop) (U : State) (H : Heap), G A U H → p_Ex A U H) (hGF : ∀ (A : Nat → Prop) (U : State) (H : Heap), G A U H → gF A U H) (adK adV : Nat → Nat) (hGK : ∀ (A : Nat → Prop) (U : State) (H : Heap), G A U H → gK adK adV A U H) (hGO : ∀ (A : Nat → Prop) (U : State) (H : Heap), G A U H → va_AO "VillageFeud$Village" U) (hGQ : ∀ (A : Nat → Prop) (U : State) (H : Heap), G A U H → va_AOA .int U) (dT dO : Nat) (hGT : ∀ (A : Nat → Prop) (U : State) (H : Heap), G A U H → gT dT dO A U H) (hGU : ∀ (A : Nat → Prop) (U : State) (H : Heap), G A U H → gU A U H) (b L : Nat) (xs : Nat → Int32) (hGX : ∀ (A : Nat → Prop) (U : State) (H : Heap), G A U H → gX b L xs A U H) (A : Nat → Prop) (X : p_X p m c cL_law 30 s #[.ref b] RL D cy G A) (hr : meth.sig.returnType = ret) (hlk : meth.locks = false) (hfree : ∀ q, A q → s.heap.size ≤ q) (g15 : PS → Nat → Nat → Nat → Int32 → Prop) (ih15 : ∀ (S : PS) (bc bs : Nat) (l1 : Nat) (l2 : Int32), g15 S bc bs l1 l2 → ∀ (H : Heap) (locs : List Loc) (ls : Array Slot) (cells slots : Nat), p_H D cy S A s H locs → lv_has ls 30 [(0, .ref b), (1, .ref l1), (2, .int l2)] → cells + bc ≤ room_1.cells ∧ slots + bs ≤ room_1.slots → W p l e room_1 s m #[Value.ref b] below meth c H locs cells slots (lw_Z below #[Value.ref b] s) (F0 m 15 ls [])) : ∀ (S : PS) (bc bs : Nat) (l1 : Nat) (l2 : Int32) (l3 : Nat) (l4 : Int32) (l5 : Int32) (l6 : Int32) (l7 : Int32) (l8 : Int32) (l9 : Int32) (l10 : Int32) (l11 : Int32) (l12 : Int32) (l13 : Int32) (t0 : Int32), f_L_law_J117 adK L xs g15 S bc bs l1 l2 l3 l4 l5 l6 l7 l8 l9 l10 l11 l12 l13 t0 → ∀ (H : Heap) (locs : List Loc) (ls : Array Slot) (cells slots : Nat), p_H D cy S A s H locs → lv_has ls 30 [(0, .ref b), (1, .ref l1), (2, .int l2), (3, .ref l3), (4, .int l4), (5, .int l5), (6, .int l6), (7, .int l7), (8, .int l8), (9, .int l9), (10, .int l10), (11, .int l11), (12, .int l12), (13, .int l13)] → cells + bc ≤ room_1.cells ∧ slots + bs ≤ room_1.slots → W p l e room_1 s m #[Value.ref b] below meth c H locs cells slots (lw_Z below #[Value.ref b] s) (F0 m 117 ls [.int t0]) := by
  have hx := X.1.1
  have hb := X.1.2.1
  have hL138 := jL_law_138 (e := e) (below := below) l D cy G hGC hst hGE hGF adK adV hGK hGO hGQ dT dO hGT hGU b L xs hGX A X hr hlk hfree g15 ih15
  intro S bc bs l1 l2 l3 l4 l5 l6 l7 l8 l9 l10 l11 l12 l13 t0 hf H locs ls cells slots hH hl hB
  refine lv_istore (lv' := [(14, .int t0), (0, .ref b), (1, .ref l1), (2, .int l2), (3, .ref l3), (4, .int l4), (5, .int l5), (6, .int l6), (7, .int l7), (8, .int l8), (9, .int l9), (10, .int l10), (11, .int l11), (12, .int l12), (13, .int l13)]) hx hb dL_law_117 hl (by decide) rfl (fun ls hl => ?_)
  refine lv_iconst (v := 0) hx hb dL_law_119 (by decide) ?_
  refine lv_istore (lv' := [(15, .int 0), (14, .int t0), (0, .ref b), (1, .ref l1), (2, .int l2), (3, .ref l3), (4, .int l4), (5, .int l5), (6, .int l6), (7, .int l7), (8, .int l8), (9, .int l9), (10, .int l10), (11, .int l11), (12, .int l12), (13, .int l13)]) hx hb dL_law_120 hl (by decide) rfl (fun ls hl => ?_)
  refine lv_sipush (v := (-30000)) hx hb dL_law_122 (by decide) ?_
  refine lv_istore (lv' := [(16, .int ((-30000))), (15, .int 0), (14, .int t0), (0, .ref b), (1, .ref l1), (2, .int l2), (3, .ref l3), (4, .int l4), (5, .int l5), (6, .int l6), (7, .int l7), (8, .int l8), (9, .int l9), (10, .int l10), (11, .int l11), (12, .int l12), (13, .int l13)]) hx hb dL_law_125 hl (by decide) rfl (fun ls hl => ?_)
  refine q_ldcK (i := 0) X (hGK _ _ _ X.2.2.2.2) (by decide) rfl dL_law_127 ?_
  refine lv_astore (lv' := [(17, .ref (adK 0)), (16, .int ((-30000))), (15, .int 0), (14, .int t0), (0, .ref b), (1, .ref l1), (2, .int l2), (3, .ref l3), (4, .int l4), (5, .int l5), (6, .int l6), (7, .int l7), (8, .int l8), (9, .int l9), (10, .int l10), (11, .int l11), (12, .int l12), (13, .int l13)]) hx hb dL_law_129 hl (by decide) rfl (fun ls hl => ?_)
  refine q_ldcK (i := 0) X (hGK _ _ _ X.2.2.2.2) (by decide) rfl dL_law_131 ?_
  refine lv_astore (lv' := [(18, .ref (adK 0)), (17, .ref (adK 0)), (16, .int ((-30000))), (15, .int 0), (14, .int t0), (0, .ref b), (1, .ref l1), (2, .int l2), (3, .ref l3), (4, .int l4), (5, .int l5), (6, .int l6), (7, .int l7), (8, .int l8), (9, .int l9), (10, .int l10), (11, .int l11), (12, .int l12), (13, .int l13)]) hx hb dL_law_133 hl (by decide) rfl (fun ls hl => ?_)
  refine lv_iconst (v := 0) hx hb dL_law_135 (by decide) ?_
  refine lv_istore (lv' := [(19, .int 0), (18, .ref (adK 0)), (17, .ref (adK 0)), (16, .int ((-30000))), (15, .int 0), (14, .int t0), (0, .ref b), (1, .ref l1), (2, .int l2), (3, .ref l3), (4, .int l4), (5, .int l5), (6, .int l6), (7, .int l7), (8, .int l8), (9, .int l9), (10, .int l10), (11, .int l11), (12, .int l12), (13, .int l13)]) hx hb dL_law_136 hl (by decide) rfl (fun ls hl => ?_)
  exact hL138 4096 S bc bs l1 l2 l3 l4 l5 l6 l7 l8 l9 l10 l11 l12 l13 t0 0 (-30000) (adK 0) (adK 0) 0 hf H locs ls cells slots hH (lv_sub hl [6, 7, 8, 9, 10, 11, 12, 13, 14, 15, 16, 17, 18, 19, 5, 4, 3, 2, 1, 0] rfl) hB
set_option maxHeartbeats 4000000 in
set_option maxRecDepth 100000 in
theorem jL_law_91 {p : Program} {e : Env} {s : State} {m : MethodId} {below : List Frame} {meth : Method} {c : Code} (l : Launch) (D : va_G) (cy : Nat → ClassId) (G : p_GT) (hGC : ∀ (A : Nat → Prop) (U : State) (H : Heap), G A U H → gC A U H) (hst : l.stackTraces = false) (hGE : ∀ (A : Nat → Prop) (U : State) (H : Heap), G A U H → p_Ex A U H) (hGF : ∀ (A : Nat → Prop) (U : State) (H : Heap), G A U H → gF A U H) (adK adV : Nat → Nat) (hGK : ∀ (A : Nat → Prop) (U : State) (H : Heap), G A U H → gK adK adV A U H) (hGO : ∀ (A : Nat → Prop) (U : State) (H : Heap), G A U H → va_AO "VillageFeud$Village" U) (hGQ : ∀ (A : Nat → Prop) (U : State) (H : Heap), G A U H → va_AOA .int U) (dT dO : Nat) (hGT : ∀ (A : Nat → Prop) (U : State) (H : Heap), G A U H → gT dT dO A U H) (hGU : ∀ (A : Nat → Prop) (U : State) (H : Heap), G A U H → gU A U H) (b L : Nat) (xs : Nat → Int32) (hGX : ∀ (A : Nat → Prop) (U : State) (H : Heap), G A U H → gX b L xs A U H) (A : Nat → Prop) (X : p_X p m c cL_law 30 s #[.ref b] RL D cy G A) (hr : meth.sig.returnType = ret) (hlk : meth.locks = false) (hfree : ∀ q, A q → s.heap.size ≤ q) (g15 : PS → Nat → Nat → Nat → Int32 → Prop) (ih15 : ∀ (S : PS) (bc bs : Nat) (l1 : Nat) (l2 : Int32), g15 S bc bs l1 l2 → ∀ (H : Heap) (locs : List Loc) (ls : Array Slot) (cells slots : Nat), p_H D cy S A s H locs → lv_has ls 30 [(0, .ref b), (1, .ref l1), (2, .int l2)] → cells + bc ≤ room_1.cells ∧ slots + bs ≤ room_1.slots → W p l e room_1 s m #[Value.ref b] below meth c H locs cells slots (lw_Z below #[Value.ref b] s) (F0 m 15 ls [])) : ∀ (S : PS) (bc bs : Nat) (l1 : Nat) (l2 : Int32) (l3 : Nat) (l4 : Int32) (l5 : Int32) (l6 : Int32) (l7 : Int32) (l8 : Int32) (l9 : Int32) (l10 : Int32) (l11 : Int32) (l12 : Int32), f_L_law_J91 adK L xs g15 S bc bs l1 l2 l3 l4 l5 l6 l7 l8 l9 l10 l11 l12 → ∀ (H : Heap) (locs : List Loc) (ls : Array Slot) (cells slots : Nat), p_H D cy S A s H locs → lv_has ls 30 [(0, .ref b), (1, .ref l1), (2, .int l2), (3, .ref l3), (4, .int l4), (5, .int l5), (6, .int l6), (7, .int l7), (8, .int l8), (9, .int l9), (10, .int l10), (11, .int l11), (12, .int l12)] → cells + bc ≤ room_1.cells ∧ slots + bs ≤ room_1.slots → W p l e room_1 s m #[Value.ref b] below meth c H locs cells slots (lw_Z below #[Value.ref b] s) (F0 m 91 ls []) := by
  have hx := X.1.1
  have hb := X.1.2.1
  have hJ117 := jL_law_117 (e := e) (below := below) l D cy G hGC hst hGE hGF adK adV hGK hGO hGQ dT dO hGT hGU b L xs hGX A X hr hlk hfree g15 ih15
  intro S bc bs l1 l2 l3 l4 l5 l6 l7 l8 l9 l10 l11 l12 hf H locs ls cells slots hH hl hB
  refine lv_aload_n hx hb dL_law_91 rfl (lv_at hl 3 rfl) ?_
  refine lv_iload hx hb dL_law_92 (lv_at hl 6 rfl) ?_
  refine q_backI0 X hH (q_runS [.ref l3, .int l6] [] X hH hl (c_L_feud l D cy G X.2.2.2.1 S l3 l6 _ _ hf) mf_L_feud tw_1154 tw_1153 ⟨Nat.le_of_ble_eq_true rfl, Nat.le_of_ble_eq_true rfl⟩ rfl (Nat.le_of_ble_eq_true rfl) dL_law_94 ⟨Nat.le_trans (Nat.le_add_right _ _) hB.1, Nat.le_trans (Nat.le_add_right _ _) hB.2⟩) (fun v2 S1 hf H locs hH => ?_)
  refine lv_istore (lv' := [(13, .int v2), (0, .ref b), (1, .ref l1), (2, .int l2), (3, .ref l3), (4, .int l4), (5, .int l5), (6, .int l6), (7, .int l7), (8, .int l8), (9, .int l9), (10, .int l10), (11, .int l11), (12, .int l12)]) hx hb dL_law_97 hl (by decide) rfl (fun ls hl => ?_)
  refine lv_iload hx hb dL_law_99 (lv_at hl 5 rfl) ?_
  refine lv_iconst (v := 1) hx hb dL_law_101 (by decide) ?_
  refine lv_icmp_le (tgt := 114) hx hb dL_law_102 (by decide) (fun c3 => ?_) (fun c3 => ?_)
  · have hf := (if_pos c3).mp hf
    refine lv_sipush (v := (-30000)) hx hb dL_law_114 (by decide) ?_
    exact hJ117 S1 bc bs l1 l2 l3 l4 l5 l6 l7 l8 l9 l10 l11 l12 v2 (-30000) hf H locs ls cells slots hH (lv_sub hl [1, 2, 3, 4, 5, 6, 7, 8, 9, 10, 11, 12, 13, 0] rfl) hB
  · have hf := (if_neg c3).mp hf
    refine lv_aload_n hx hb dL_law_105 rfl (lv_at hl 4 rfl) ?_
    refine lv_iconst (v := (-1)) hx hb dL_law_106 (by decide) ?_
    refine lv_iconst (v := (-1)) hx hb dL_law_107 (by decide) ?_
    refine q_backI0 X hH (q_runS [.ref l3, .int ((-1)), .int ((-1))] [] X hH hl (c_L_least_ l D cy G X.2.2.2.1 S1 l3 (-1) (-1) _ _ hf) mf_L_least_ tw_1157 tw_1156 ⟨Nat.le_of_ble_eq_true rfl, Nat.le_of_ble_eq_true rfl⟩ rfl (Nat.le_of_ble_eq_true rfl) dL_law_108 ⟨Nat.le_trans (Nat.le_add_right _ _) hB.1, Nat.le_trans (Nat.le_add_right _ _) hB.2⟩) (fun v5 S4 hf H locs hH => ?_)
    refine lv_goto (tgt := 117) hx hb dL_law_111 (by decide) ?_
    exact hJ117 S4 bc bs l1 l2 l3 l4 l5 l6 l7 l8 l9 l10 l11 l12 v2 v5 hf H locs ls cells slots hH (lv_sub hl [1, 2, 3, 4, 5, 6, 7, 8, 9, 10, 11, 12, 13, 0] rfl) hB
set_option maxHeartbeats 4000000 in
set_option maxRecDepth 100000 in
theorem jL_law_63 {p : Program} {e : Env} {s : State} {m : MethodId} {below : List Frame} {meth : Method} {c : Code} (l : Launch) (D : va_G) (cy : Nat → ClassId) (G : p_GT) (hGC : ∀ (A : Nat → Prop) (U : State) (H : Heap), G A U H → gC A U H) (hst : l.stackTraces = false) (hGE : ∀ (A : Nat → Prop) (U : State) (H : Heap), G A U H → p_Ex A U H) (hGF : ∀ (A : Nat → Prop) (U : State) (H : Heap), G A U H → gF A U H) (adK adV : Nat → Nat) (hGK : ∀ (A : Nat → Prop) (U : State) (H : Heap), G A U H → gK adK adV A U H) (hGO : ∀ (A : Nat → Prop) (U : State) (H : Heap), G A U H → va_AO "VillageFeud$Village" U) (hGQ : ∀ (A : Nat → Prop) (U : State) (H : Heap), G A U H → va_AOA .int U) (dT dO : Nat) (hGT : ∀ (A : Nat → Prop) (U : State) (H : Heap), G A U H → gT dT dO A U H) (hGU : ∀ (A : Nat → Prop) (U : State) (H : Heap), G A U H → gU A U H) (b L : Nat) (xs : Nat → Int32) (hGX : ∀ (A : Nat → Prop) (U : State) (H : Heap), G A U H → gX b L xs A U H) (A : Nat → Prop) (X : p_X p m c cL_law 30 s #[.ref b] RL D cy G A) (hr : meth.sig.returnType = ret) (hlk : meth.locks = false) (hfree : ∀ q, A q → s.heap.size ≤ q) (g15 : PS → Nat → Nat → Nat → Int32 → Prop) (ih15 : ∀ (S : PS) (bc bs : Nat) (l1 : Nat) (l2 : Int32), g15 S bc bs l1 l2 → ∀ (H : Heap) (locs : List Loc) (ls : Array Slot) (cells slots : Nat), p_H D cy S A s H locs → lv_has ls 30 [(0, .ref b), (1, .ref l1), (2, .int l2)] → cells + bc ≤ room_1.cells ∧ slots + bs ≤ room_1.slots → W p l e room_1 s m #[Value.ref b] below meth c H locs cells slots (lw_Z below #[Value.ref b] s) (F0 m 15 ls [])) : ∀ (n63 : Nat) (S : PS) (bc bs : Nat) (l1 : Nat) (l2 : Int32) (l3 : Nat) (l4 : Int32) (l5 : Int32) (l6 : Int32) (l7 : Int32) (l8 : Int32) (l9 : Int32) (l10 : Int32) (l11 : Int32) (l12 : Int32) (l13 : Int32), f_L_law_L63 adK L xs g15 n63 S bc bs l1 l2 l3 l4 l5 l6 l7 l8 l9 l10 l11 l12 l13 → ∀ (H : Heap) (locs : List Loc) (ls : Array Slot) (cells slots : Nat), p_H D cy S A s H locs → lv_has ls 30 [(0, .ref b), (1, .ref l1), (2, .int l2), (3, .ref l3), (4, .int l4), (5, .int l5), (6, .int l6), (7, .int l7), (8, .int l8), (9, .int l9), (10, .int l10), (11, .int l11), (12, .int l12), (13, .int l13)] → cells + bc ≤ room_1.cells ∧ slots + bs ≤ room_1.slots → W p l e room_1 s m #[Value.ref b] below meth c H locs cells slots (lw_Z below #[Value.ref b] s) (F0 m 63 ls []) := by
  have hx := X.1.1
  have hb := X.1.2.1
  intro n63
  induction n63 with
  | zero => intro S bc bs l1 l2 l3 l4 l5 l6 l7 l8 l9 l10 l11 l12 l13 hf; exact hf.elim
  | succ n63 ih63 =>
    have hJ91 := jL_law_91 (e := e) (below := below) l D cy G hGC hst hGE hGF adK adV hGK hGO hGQ dT dO hGT hGU b L xs hGX A X hr hlk hfree g15 ih15
    intro S bc bs l1 l2 l3 l4 l5 l6 l7 l8 l9 l10 l11 l12 l13 hf H locs ls cells slots hH hl hB
    refine lv_iload hx hb dL_law_63 (lv_at hl 13 rfl) ?_
    refine lv_iload hx hb dL_law_65 (lv_at hl 4 rfl) ?_
    refine lv_icmp_ge (tgt := 91) hx hb dL_law_67 (by decide) (fun c1 => ?_) (fun c1 => ?_)
    · have hf := (if_pos c1).mp hf
      exact hJ91 S bc bs l1 l2 l3 l4 l5 l6 l7 l8 l9 l10 l11 l12 hf H locs ls cells slots hH (lv_sub hl [0, 1, 2, 3, 4, 5, 6, 7, 8, 9, 10, 11, 12] rfl) hB
    · have hf := (if_neg c1).mp hf
      refine lv_iload hx hb dL_law_70 (lv_at hl 6 rfl) ?_
      refine lv_aload_n hx hb dL_law_72 rfl (lv_at hl 1 rfl) ?_
      refine lv_iload hx hb dL_law_73 (lv_at hl 13 rfl) ?_
      refine lv_iconst (v := 0) hx hb dL_law_75 (by decide) ?_
      obtain ⟨hb1, hb2, mc3, ms3, hm1, hs1, hf⟩ := hf
      refine q_callXi X hH hB hm1 hs1 (q_runVx [.int l13, .int 0] [.int l6] X hH hl (c_X7_householdOf l D cy G X.2.2.2.1 hst hGE S l1 l13 0 mc3 ms3 _ _ _ hf) mf_X7_householdOf mv_X7_householdOf tw_290 ⟨Nat.le_of_ble_eq_true rfl, Nat.le_of_ble_eq_true rfl⟩ hb1 hb2 (T := TX7) (N := 12) rfl rfl (Nat.le_of_ble_eq_true rfl) dL_law_76 ⟨Nat.le_trans (Nat.add_le_add_left hm1 _) hB.1, Nat.le_trans (Nat.add_le_add_left hs1 _) hB.2⟩) (fun _ _ _ _ hf _ _ _ _ _ _ _ _ _ => hf.elim) (fun v4 S2 hf H locs cells slots hH hB => ?_)
      refine lv_iload hx hb dL_law_79 (lv_at hl 13 rfl) ?_
      refine lv_ishl hx hb dL_law_81 ?_
      refine lv_ior hx hb dL_law_82 ?_
      refine lv_istore (lv' := [(6, .int (l6 ||| (v4 <<< (l13 &&& 31)))), (0, .ref b), (1, .ref l1), (2, .int l2), (3, .ref l3), (4, .int l4), (5, .int l5), (7, .int l7), (8, .int l8), (9, .int l9), (10, .int l10), (11, .int l11), (12, .int l12), (13, .int l13)]) hx hb dL_law_83 hl (by decide) rfl (fun ls hl => ?_)
      refine lv_iinc (v := l13 + 1) (lv' := [(13, .int (l13 + 1)), (6, .int (l6 ||| (v4 <<< (l13 &&& 31)))), (0, .ref b), (1, .ref l1), (2, .int l2), (3, .ref l3), (4, .int l4), (5, .int l5), (7, .int l7), (8, .int l8), (9, .int l9), (10, .int l10), (11, .int l11), (12, .int l12)]) hx hb dL_law_85 hl (k := 13) rfl rfl (by decide) rfl (fun ls hl => ?_)
      refine lv_goto (tgt := 63) hx hb dL_law_88 (by decide) ?_
      exact ih63 S2 (bc - mc3) (bs - ms3) l1 l2 l3 l4 l5 (l6 ||| (v4 <<< (l13 &&& 31))) l7 l8 l9 l10 l11 l12 (l13 + 1) hf H locs ls cells slots hH (lv_sub hl [2, 3, 4, 5, 6, 7, 1, 8, 9, 10, 11, 12, 13, 0] rfl) hB
set_option maxHeartbeats 4000000 in
set_option maxRecDepth 100000 in
theorem jL_law_15 {p : Program} {e : Env} {s : State} {m : MethodId} {below : List Frame} {meth : Method} {c : Code} (l : Launch) (D : va_G) (cy : Nat → ClassId) (G : p_GT) (hGC : ∀ (A : Nat → Prop) (U : State) (H : Heap), G A U H → gC A U H) (hst : l.stackTraces = false) (hGE : ∀ (A : Nat → Prop) (U : State) (H : Heap), G A U H → p_Ex A U H) (hGF : ∀ (A : Nat → Prop) (U : State) (H : Heap), G A U H → gF A U H) (adK adV : Nat → Nat) (hGK : ∀ (A : Nat → Prop) (U : State) (H : Heap), G A U H → gK adK adV A U H) (hGO : ∀ (A : Nat → Prop) (U : State) (H : Heap), G A U H → va_AO "VillageFeud$Village" U) (hGQ : ∀ (A : Nat → Prop) (U : State) (H : Heap), G A U H → va_AOA .int U) (dT dO : Nat) (hGT : ∀ (A : Nat → Prop) (U : State) (H : Heap), G A U H → gT dT dO A U H) (hGU : ∀ (A : Nat → Prop) (U : State) (H : Heap), G A U H → gU A U H) (b L : Nat) (xs : Nat → Int32) (hGX : ∀ (A : Nat → Prop) (U : State) (H : Heap), G A U H → gX b L xs A U H) (A : Nat → Prop) (X : p_X p m c cL_law 30 s #[.ref b] RL D cy G A) (hr : meth.sig.returnType = ret) (hlk : meth.locks = false) (hfree : ∀ q, A q → s.heap.size ≤ q) : ∀ (n15 : Nat) (S : PS) (bc bs : Nat) (l1 : Nat) (l2 : Int32), f_L_law_L15 adK L xs n15 S bc bs l1 l2 → ∀ (H : Heap) (locs : List Loc) (ls : Array Slot) (cells slots : Nat), p_H D cy S A s H locs → lv_has ls 30 [(0, .ref b), (1, .ref l1), (2, .int l2)] → cells + bc ≤ room_1.cells ∧ slots + bs ≤ room_1.slots → W p l e room_1 s m #[Value.ref b] below meth c H locs cells slots (lw_Z below #[Value.ref b] s) (F0 m 15 ls []) := by
  have hx := X.1.1
  have hb := X.1.2.1
  intro n15
  induction n15 with
  | zero => intro S bc bs l1 l2 hf; exact hf.elim
  | succ n15 ih15 =>
    have hL63 := jL_law_63 (e := e) (below := below) l D cy G hGC hst hGE hGF adK adV hGK hGO hGQ dT dO hGT hGU b L xs hGX A X hr hlk hfree (f_L_law_L15 adK L xs n15) ih15
    intro S bc bs l1 l2 hf H locs ls cells slots hH hl hB
    refine lv_iload_n hx hb dL_law_15 rfl (lv_at hl 2 rfl) ?_
    refine lv_iconst (v := 3) hx hb dL_law_16 (by decide) ?_
    refine lv_icmp_ge (tgt := 1924) hx hb dL_law_17 (by decide) (fun c1 => ?_) (fun c1 => ?_)
    · have hf := (if_pos c1).mp hf
      refine lv_iconst (v := 1) hx hb dL_law_1924 (by decide) ?_
      exact va_forget (fun q hq => hfree _ (hH.2.2.2.2 q hq)) (W.widen (Nat.le_trans (Nat.le_add_right _ _) hB.1) (Nat.le_trans (Nat.le_add_right _ _) hB.2) (lw_ret (d0 := s.drawn) (Drawn.sameBut.refl s.drawn lw_cs) hx hb hr hlk dL_law_1925))
    · have hf := (if_neg c1).mp hf
      refine lv_aload_n hx hb dL_law_20 rfl (lv_at hl 1 rfl) ?_
      obtain ⟨mc3, ms3, hm1, hs1, hf⟩ := hf
      refine q_backRB X hH hB hm1 hs1 (q_runS [.ref l1] [] X hH hl (c_L_weights l D cy G X.2.2.2.1 hst hGE hGQ S l1 mc3 ms3 _ _ hf) mf_L_weights tw_1142 tw_1141 ⟨Nat.le_of_ble_eq_true rfl, Nat.le_of_ble_eq_true rfl⟩ rfl (Nat.le_of_ble_eq_true rfl) dL_law_21 ⟨Nat.le_trans (Nat.add_le_add_left hm1 _) hB.1, Nat.le_trans (Nat.add_le_add_left hs1 _) hB.2⟩) (fun v4 S2 hf H locs cells slots hH hB => ?_)
      refine lv_astore_n (lv' := [(3, .ref v4), (0, .ref b), (1, .ref l1), (2, .int l2)]) hx hb dL_law_24 rfl hl (by decide) rfl (fun ls hl => ?_)
      refine lv_aload_n hx hb dL_law_25 rfl (lv_at hl 0 rfl) ?_
      refine q_alenQ X hH hf dL_law_26 (fun v5 hf => ?_)
      refine lv_istore (lv' := [(4, .int v5), (3, .ref v4), (0, .ref b), (1, .ref l1), (2, .int l2)]) hx hb dL_law_27 hl (by decide) rfl (fun ls hl => ?_)
      refine lv_iconst (v := 1) hx hb dL_law_29 (by decide) ?_
      refine lv_iload hx hb dL_law_30 (lv_at hl 0 rfl) ?_
      refine lv_ishl hx hb dL_law_32 ?_
      refine lv_iconst (v := 1) hx hb dL_law_33 (by decide) ?_
      refine lv_isub hx hb dL_law_34 ?_
      refine lv_istore (lv' := [(5, .int (((1 : Int32) <<< (v5 &&& 31)) - 1)), (4, .int v5), (3, .ref v4), (0, .ref b), (1, .ref l1), (2, .int l2)]) hx hb dL_law_35 hl (by decide) rfl (fun ls hl => ?_)
      refine lv_iconst (v := 0) hx hb dL_law_37 (by decide) ?_
      refine lv_istore (lv' := [(6, .int 0), (5, .int (((1 : Int32) <<< (v5 &&& 31)) - 1)), (4, .int v5), (3, .ref v4), (0, .ref b), (1, .ref l1), (2, .int l2)]) hx hb dL_law_38 hl (by decide) rfl (fun ls hl => ?_)
      refine lv_iconst (v := 0) hx hb dL_law_40 (by decide) ?_
      refine lv_istore (lv' := [(7, .int 0), (6, .int 0), (5, .int (((1 : Int32) <<< (v5 &&& 31)) - 1)), (4, .int v5), (3, .ref v4), (0, .ref b), (1, .ref l1), (2, .int l2)]) hx hb dL_law_41 hl (by decide) rfl (fun ls hl => ?_)
      refine lv_iconst (v := 0) hx hb dL_law_43 (by decide) ?_
      refine lv_istore (lv' := [(8, .int 0), (7, .int 0), (6, .int 0), (5, .int (((1 : Int32) <<< (v5 &&& 31)) - 1)), (4, .int v5), (3, .ref v4), (0, .ref b), (1, .ref l1), (2, .int l2)]) hx hb dL_law_44 hl (by decide) rfl (fun ls hl => ?_)
      refine lv_iconst (v := 0) hx hb dL_law_46 (by decide) ?_
      refine lv_istore (lv' := [(9, .int 0), (8, .int 0), (7, .int 0), (6, .int 0), (5, .int (((1 : Int32) <<< (v5 &&& 31)) - 1)), (4, .int v5), (3, .ref v4), (0, .ref b), (1, .ref l1), (2, .int l2)]) hx hb dL_law_47 hl (by decide) rfl (fun ls hl => ?_)
      refine lv_iconst (v := 0) hx hb dL_law_49 (by decide) ?_
      refine lv_istore (lv' := [(10, .int 0), (9, .int 0), (8, .int 0), (7, .int 0), (6, .int 0), (5, .int (((1 : Int32) <<< (v5 &&& 31)) - 1)), (4, .int v5), (3, .ref v4), (0, .ref b), (1, .ref l1), (2, .int l2)]) hx hb dL_law_50 hl (by decide) rfl (fun ls hl => ?_)
      refine lv_sipush (v := (-30000)) hx hb dL_law_52 (by decide) ?_
      refine lv_istore (lv' := [(11, .int ((-30000))), (10, .int 0), (9, .int 0), (8, .int 0), (7, .int 0), (6, .int 0), (5, .int (((1 : Int32) <<< (v5 &&& 31)) - 1)), (4, .int v5), (3, .ref v4), (0, .ref b), (1, .ref l1), (2, .int l2)]) hx hb dL_law_55 hl (by decide) rfl (fun ls hl => ?_)
      refine lv_iconst (v := 0) hx hb dL_law_57 (by decide) ?_
      refine lv_istore (lv' := [(12, .int 0), (11, .int ((-30000))), (10, .int 0), (9, .int 0), (8, .int 0), (7, .int 0), (6, .int 0), (5, .int (((1 : Int32) <<< (v5 &&& 31)) - 1)), (4, .int v5), (3, .ref v4), (0, .ref b), (1, .ref l1), (2, .int l2)]) hx hb dL_law_58 hl (by decide) rfl (fun ls hl => ?_)
      refine lv_iconst (v := 0) hx hb dL_law_60 (by decide) ?_
      refine lv_istore (lv' := [(13, .int 0), (12, .int 0), (11, .int ((-30000))), (10, .int 0), (9, .int 0), (8, .int 0), (7, .int 0), (6, .int 0), (5, .int (((1 : Int32) <<< (v5 &&& 31)) - 1)), (4, .int v5), (3, .ref v4), (0, .ref b), (1, .ref l1), (2, .int l2)]) hx hb dL_law_61 hl (by decide) rfl (fun ls hl => ?_)
      exact hL63 4096 S2 (bc - mc3) (bs - ms3) l1 l2 v4 v5 (((1 : Int32) <<< (v5 &&& 31)) - 1) 0 0 0 0 0 (-30000) 0 0 hf H locs ls cells slots hH (lv_sub hl [11, 12, 13, 10, 9, 8, 7, 6, 5, 4, 3, 2, 1, 0] rfl) hB
set_option maxHeartbeats 4000000 in
set_option maxRecDepth 100000 in
theorem c_L_law {p : Program} {e : Env} {s : State} {m : MethodId} {below : List Frame} {meth : Method} {c : Code} (l : Launch) (D : va_G) (cy : Nat → ClassId) (G : p_GT) (hGC : ∀ (A : Nat → Prop) (U : State) (H : Heap), G A U H → gC A U H) (hst : l.stackTraces = false) (hGE : ∀ (A : Nat → Prop) (U : State) (H : Heap), G A U H → p_Ex A U H) (hGF : ∀ (A : Nat → Prop) (U : State) (H : Heap), G A U H → gF A U H) (adK adV : Nat → Nat) (hGK : ∀ (A : Nat → Prop) (U : State) (H : Heap), G A U H → gK adK adV A U H) (hGO : ∀ (A : Nat → Prop) (U : State) (H : Heap), G A U H → va_AO "VillageFeud$Village" U) (hGQ : ∀ (A : Nat → Prop) (U : State) (H : Heap), G A U H → va_AOA .int U) (dT dO : Nat) (hGT : ∀ (A : Nat → Prop) (U : State) (H : Heap), G A U H → gT dT dO A U H) (hGU : ∀ (A : Nat → Prop) (U : State) (H : Heap), G A U H → gU A U H) (b L : Nat) (xs : Nat → Int32) (hGX : ∀ (A : Nat → Prop) (U : State) (H : Heap), G A U H → gX b L xs A U H) (A : Nat → Prop) (X : p_X p m c cL_law 30 s #[.ref b] RL D cy G A) (hr : meth.sig.returnType = ret) (hlk : meth.locks = false) (hfree : ∀ q, A q → s.heap.size ≤ q) (S : PS) (bc bs : Nat) (hf : f_L_law adK L xs S bc bs) (ls : Array Slot) (hH : p_H D cy S A s s.heap []) (hl : lv_has ls 30 [(0, .ref b)]) (hB : 0 + bc ≤ room_1.cells ∧ 0 + bs ≤ room_1.slots) : W p l e room_1 s m #[Value.ref b] below meth c s.heap [] 0 0 (lw_Z below #[Value.ref b] s) (F0 m 0 ls []) := by
  have hx := X.1.1
  have hb := X.1.2.1
  obtain ⟨H, hHe⟩ : ∃ H, H = s.heap := ⟨_, rfl⟩
  obtain ⟨locs, hlo⟩ : ∃ locs : List Loc, locs = [] := ⟨_, rfl⟩
  obtain ⟨cells, hce⟩ : ∃ n : Nat, n = 0 := ⟨_, rfl⟩
  obtain ⟨slots, hsl⟩ : ∃ n : Nat, n = 0 := ⟨_, rfl⟩
  rw [← hHe, ← hlo] at hH
  rw [← hHe, ← hlo]
  have hB : cells + bc ≤ room_1.cells ∧ slots + bs ≤ room_1.slots := by rw [hce, hsl]; exact hB
  have main : W p l e room_1 s m #[Value.ref b] below meth c H locs cells slots (lw_Z below #[Value.ref b] s) (F0 m 0 ls []) := by
    clear hHe hlo hce hsl
    have hL15 := jL_law_15 (e := e) (below := below) l D cy G hGC hst hGE hGF adK adV hGK hGO hGQ dT dO hGT hGU b L xs hGX A X hr hlk hfree
    refine q_new (T := TX7) (N := 12) X hH hB hf iw_X7 tyX7 tyX7_ok rfl tw_58 tw_59 tw_30 (fun j hj => by rcases (show j = 0 ∨ j = 1 ∨ j = 2 ∨ j = 3 ∨ j = 4 ∨ j = 5 ∨ j = 6 ∨ j = 7 ∨ j = 8 ∨ j = 9 ∨ j = 10 ∨ j = 11 by omega) with rfl | rfl | rfl | rfl | rfl | rfl | rfl | rfl | rfl | rfl | rfl | rfl <;> rfl) dL_law_0 (fun q1 S2 bc3 bs4 hf H locs cells slots hH hB => ?_)
    refine lv_dup hx hb dL_law_3 rfl ?_
    obtain ⟨mc6, ms6, hm1, hs1, hf⟩ := hf
    refine q_backVB X hH hB hm1 hs1 (q_runI [] [.ref q1] X hH hl (c_X7_init l D cy G X.2.2.2.1 hGC hGO S2 q1 mc6 ms6 _ _ hf) mf_X7_init tw_61 tw_60 ⟨Nat.le_of_ble_eq_true rfl, Nat.le_of_ble_eq_true rfl⟩ rfl (Nat.le_of_ble_eq_true rfl) dL_law_4 ⟨Nat.le_trans (Nat.add_le_add_left hm1 _) hB.1, Nat.le_trans (Nat.add_le_add_left hs1 _) hB.2⟩) (fun S5 hf H locs cells slots hH hB => ?_)
    refine lv_astore_n (lv' := [(1, .ref q1), (0, .ref b)]) hx hb dL_law_7 rfl hl (by decide) rfl (fun ls hl => ?_)
    refine lv_aload_n hx hb dL_law_8 rfl (lv_at hl 0 rfl) ?_
    refine lv_aload_n hx hb dL_law_9 rfl (lv_at hl 1 rfl) ?_
    obtain ⟨mc9, ms9, hm1, hs1, hf⟩ := hf
    refine q_backVB X hH hB hm1 hs1 (q_runS [.ref q1, .ref b] [] X hH hl (c_L_build l D cy G X.2.2.2.1 hst hGE b L xs hGX S5 q1 mc9 ms9 _ _ hf) mf_L_build tw_973 tw_972 ⟨Nat.le_of_ble_eq_true rfl, Nat.le_of_ble_eq_true rfl⟩ rfl (Nat.le_of_ble_eq_true rfl) dL_law_10 ⟨Nat.le_trans (Nat.add_le_add_left hm1 _) hB.1, Nat.le_trans (Nat.add_le_add_left hs1 _) hB.2⟩) (fun S8 hf H locs cells slots hH hB => ?_)
    refine lv_iconst (v := 0) hx hb dL_law_13 (by decide) ?_
    refine lv_istore_n (lv' := [(2, .int 0), (1, .ref q1), (0, .ref b)]) hx hb dL_law_14 rfl hl (by decide) rfl (fun ls hl => ?_)
    exact hL15 4096 S8 ((bc3 - mc6) - mc9) ((bs4 - ms6) - ms9) q1 0 hf H locs ls cells slots hH (lv_sub hl [2, 1, 0] rfl) hB
  rw [hce, hsl] at main
  exact main
