set_option maxHeartbeats 4000000 in
set_option maxRecDepth 100000 in
theorem jL_law_1907 {p : Program} {e : Env} {s : State} {m : MethodId} {below : List Frame} {meth : Method} {c : Code} (l : Launch) (D : va_G) (cy : Nat → ClassId) (G : p_GT) (hGC : ∀ (A : Nat → Prop) (U : State) (H : Heap), G A U H → gC A U H) (hst : l.stackTraces = false) (hGE : ∀ (A : Nat → Prop) (U : State) (H : Heap), G A U H → p_Ex A U H) (hGF : ∀ (A : Nat → Prop) (U : State) (H : Heap), G A U H → gF A U H) (adK adV : Nat → Nat) (hGK : ∀ (A : Nat → Prop) (U : State) (H : Heap), G A U H → gK adK adV A U H) (hGO : ∀ (A : Nat → Prop) (U : State) (H : Heap), G A U H → va_AO "VillageFeud$Village" U) (hGQ : ∀ (A : Nat → Prop) (U : State) (H : Heap), G A U H → va_AOA .int U) (dT dO : Nat) (hGT : ∀ (A : Nat → Prop) (U : State) (H : Heap), G A U H → gT dT dO A U H) (hGU : ∀ (A : Nat → Prop) (U : State) (H : Heap), G A U H → gU A U H) (b L : Nat) (xs : Nat → Int32) (hGX : ∀ (A : Nat → Prop) (U : State) (H : Heap), G A U H → gX b L xs A U H) (A : Nat → Prop) (X : p_X p m c cL_law 30 s #[.ref b] RL D cy G A) (hr : meth.sig.returnType = ret) (hlk : meth.locks = false) (hfree : ∀ q, A q → s.heap.size ≤ q) (g15 : PS → Nat → Nat → Nat → Int32 → Prop) (ih15 : ∀ (S : PS) (bc bs : Nat) (l1 : Nat) (l2 : Int32), g15 S bc bs l1 l2 → ∀ (H : Heap) (locs : List Loc) (ls : Array Slot) (cells slots : Nat), p_H D cy S A s H locs → lv_has ls 30 [(0, .ref b), (1, .ref l1), (2, .int l2)] → cells + bc ≤ room_1.cells ∧ slots + bs ≤ room_1.slots → W p l e room_1 s m #[Value.ref b] below meth c H locs cells slots (lw_Z below #[Value.ref b] s) (F0 m 15 ls [])) : ∀ (S : PS) (bc bs : Nat) (l1 : Nat) (l2 : Int32), f_L_law_J1907 adK L xs g15 S bc bs l1 l2 → ∀ (H : Heap) (locs : List Loc) (ls : Array Slot) (cells slots : Nat), p_H D cy S A s H locs → lv_has ls 30 [(0, .ref b), (1, .ref l1), (2, .int l2)] → cells + bc ≤ room_1.cells ∧ slots + bs ≤ room_1.slots → W p l e room_1 s m #[Value.ref b] below meth c H locs cells slots (lw_Z below #[Value.ref b] s) (F0 m 1907 ls []) := by
  have hx := X.1.1
  have hb := X.1.2.1
  intro S bc bs l1 l2 hf H locs ls cells slots hH hl hB
  refine lv_aload_n hx hb dL_law_1907 rfl (lv_at hl 1 rfl) ?_
  refine lv_aload_n hx hb dL_law_1908 rfl (lv_at hl 0 rfl) ?_
  refine lv_bipush (v := 60) hx hb dL_law_1909 (by decide) ?_
  refine lv_iconst (v := 4) hx hb dL_law_1911 (by decide) ?_
  refine lv_iload_n hx hb dL_law_1912 rfl (lv_at hl 2 rfl) ?_
  refine lv_imul hx hb dL_law_1913 ?_
  refine lv_iadd hx hb dL_law_1914 ?_
  obtain ⟨mc2, ms2, hm1, hs1, hf⟩ := hf
  refine q_backVB X hH hB hm1 hs1 (q_runS [.ref l1, .ref b, .int ((60 : Int32) + ((4 : Int32) * l2))] [] X hH hl (c_L_acts l D cy G X.2.2.2.1 hst hGE b L xs hGX S l1 ((60 : Int32) + ((4 : Int32) * l2)) mc2 ms2 _ _ hf) mf_L_acts tw_1100 tw_1099 ⟨Nat.le_of_ble_eq_true rfl, Nat.le_of_ble_eq_true rfl⟩ rfl (Nat.le_of_ble_eq_true rfl) dL_law_1915 ⟨Nat.le_trans (Nat.add_le_add_left hm1 _) hB.1, Nat.le_trans (Nat.add_le_add_left hs1 _) hB.2⟩) (fun S1 hf H locs cells slots hH hB => ?_)
  refine lv_iinc (v := l2 + 1) (lv' := [(2, .int (l2 + 1)), (0, .ref b), (1, .ref l1)]) hx hb dL_law_1918 hl (k := 2) rfl rfl (by decide) rfl (fun ls hl => ?_)
  refine lv_goto (tgt := 15) hx hb dL_law_1921 (by decide) ?_
  exact ih15 S1 (bc - mc2) (bs - ms2) l1 (l2 + 1) hf H locs ls cells slots hH (lv_sub hl [1, 2, 0] rfl) hB
set_option maxHeartbeats 4000000 in
set_option maxRecDepth 100000 in
theorem jL_law_1901 {p : Program} {e : Env} {s : State} {m : MethodId} {below : List Frame} {meth : Method} {c : Code} (l : Launch) (D : va_G) (cy : Nat → ClassId) (G : p_GT) (hGC : ∀ (A : Nat → Prop) (U : State) (H : Heap), G A U H → gC A U H) (hst : l.stackTraces = false) (hGE : ∀ (A : Nat → Prop) (U : State) (H : Heap), G A U H → p_Ex A U H) (hGF : ∀ (A : Nat → Prop) (U : State) (H : Heap), G A U H → gF A U H) (adK adV : Nat → Nat) (hGK : ∀ (A : Nat → Prop) (U : State) (H : Heap), G A U H → gK adK adV A U H) (hGO : ∀ (A : Nat → Prop) (U : State) (H : Heap), G A U H → va_AO "VillageFeud$Village" U) (hGQ : ∀ (A : Nat → Prop) (U : State) (H : Heap), G A U H → va_AOA .int U) (dT dO : Nat) (hGT : ∀ (A : Nat → Prop) (U : State) (H : Heap), G A U H → gT dT dO A U H) (hGU : ∀ (A : Nat → Prop) (U : State) (H : Heap), G A U H → gU A U H) (b L : Nat) (xs : Nat → Int32) (hGX : ∀ (A : Nat → Prop) (U : State) (H : Heap), G A U H → gX b L xs A U H) (A : Nat → Prop) (X : p_X p m c cL_law 30 s #[.ref b] RL D cy G A) (hr : meth.sig.returnType = ret) (hlk : meth.locks = false) (hfree : ∀ q, A q → s.heap.size ≤ q) (g1723 : PS → Nat → Nat → Nat → Int32 → Int32 → Int32 → Prop) (ih1723 : ∀ (S : PS) (bc bs : Nat) (l1 : Nat) (l2 : Int32) (l4 : Int32) (l21 : Int32), g1723 S bc bs l1 l2 l4 l21 → ∀ (H : Heap) (locs : List Loc) (ls : Array Slot) (cells slots : Nat), p_H D cy S A s H locs → lv_has ls 30 [(0, .ref b), (1, .ref l1), (2, .int l2), (4, .int l4), (21, .int l21)] → cells + bc ≤ room_1.cells ∧ slots + bs ≤ room_1.slots → W p l e room_1 s m #[Value.ref b] below meth c H locs cells slots (lw_Z below #[Value.ref b] s) (F0 m 1723 ls [])) : ∀ (S : PS) (bc bs : Nat) (l1 : Nat) (l2 : Int32) (l4 : Int32) (l21 : Int32), f_L_law_J1901 adK L xs g1723 S bc bs l1 l2 l4 l21 → ∀ (H : Heap) (locs : List Loc) (ls : Array Slot) (cells slots : Nat), p_H D cy S A s H locs → lv_has ls 30 [(0, .ref b), (1, .ref l1), (2, .int l2), (4, .int l4), (21, .int l21)] → cells + bc ≤ room_1.cells ∧ slots + bs ≤ room_1.slots → W p l e room_1 s m #[Value.ref b] below meth c H locs cells slots (lw_Z below #[Value.ref b] s) (F0 m 1901 ls []) := by
  have hx := X.1.1
  have hb := X.1.2.1
  intro S bc bs l1 l2 l4 l21 hf H locs ls cells slots hH hl hB
  refine lv_iinc (v := l21 + 1) (lv' := [(21, .int (l21 + 1)), (0, .ref b), (1, .ref l1), (2, .int l2), (4, .int l4)]) hx hb dL_law_1901 hl (k := 4) rfl rfl (by decide) rfl (fun ls hl => ?_)
  refine lv_goto (tgt := 1723) hx hb dL_law_1904 (by decide) ?_
  exact ih1723 S bc bs l1 l2 l4 (l21 + 1) hf H locs ls cells slots hH (lv_sub hl [1, 2, 3, 4, 0] rfl) hB
set_option maxHeartbeats 4000000 in
set_option maxRecDepth 100000 in
theorem jL_law_1895 {p : Program} {e : Env} {s : State} {m : MethodId} {below : List Frame} {meth : Method} {c : Code} (l : Launch) (D : va_G) (cy : Nat → ClassId) (G : p_GT) (hGC : ∀ (A : Nat → Prop) (U : State) (H : Heap), G A U H → gC A U H) (hst : l.stackTraces = false) (hGE : ∀ (A : Nat → Prop) (U : State) (H : Heap), G A U H → p_Ex A U H) (hGF : ∀ (A : Nat → Prop) (U : State) (H : Heap), G A U H → gF A U H) (adK adV : Nat → Nat) (hGK : ∀ (A : Nat → Prop) (U : State) (H : Heap), G A U H → gK adK adV A U H) (hGO : ∀ (A : Nat → Prop) (U : State) (H : Heap), G A U H → va_AO "VillageFeud$Village" U) (hGQ : ∀ (A : Nat → Prop) (U : State) (H : Heap), G A U H → va_AOA .int U) (dT dO : Nat) (hGT : ∀ (A : Nat → Prop) (U : State) (H : Heap), G A U H → gT dT dO A U H) (hGU : ∀ (A : Nat → Prop) (U : State) (H : Heap), G A U H → gU A U H) (b L : Nat) (xs : Nat → Int32) (hGX : ∀ (A : Nat → Prop) (U : State) (H : Heap), G A U H → gX b L xs A U H) (A : Nat → Prop) (X : p_X p m c cL_law 30 s #[.ref b] RL D cy G A) (hr : meth.sig.returnType = ret) (hlk : meth.locks = false) (hfree : ∀ q, A q → s.heap.size ≤ q) (g1748 : PS → Nat → Nat → Nat → Int32 → Int32 → Int32 → Int32 → Prop) (ih1748 : ∀ (S : PS) (bc bs : Nat) (l1 : Nat) (l2 : Int32) (l4 : Int32) (l21 : Int32) (l22 : Int32), g1748 S bc bs l1 l2 l4 l21 l22 → ∀ (H : Heap) (locs : List Loc) (ls : Array Slot) (cells slots : Nat), p_H D cy S A s H locs → lv_has ls 30 [(0, .ref b), (1, .ref l1), (2, .int l2), (4, .int l4), (21, .int l21), (22, .int l22)] → cells + bc ≤ room_1.cells ∧ slots + bs ≤ room_1.slots → W p l e room_1 s m #[Value.ref b] below meth c H locs cells slots (lw_Z below #[Value.ref b] s) (F0 m 1748 ls [])) : ∀ (S : PS) (bc bs : Nat) (l1 : Nat) (l2 : Int32) (l4 : Int32) (l21 : Int32) (l22 : Int32), f_L_law_J1895 adK L xs g1748 S bc bs l1 l2 l4 l21 l22 → ∀ (H : Heap) (locs : List Loc) (ls : Array Slot) (cells slots : Nat), p_H D cy S A s H locs → lv_has ls 30 [(0, .ref b), (1, .ref l1), (2, .int l2), (4, .int l4), (21, .int l21), (22, .int l22)] → cells + bc ≤ room_1.cells ∧ slots + bs ≤ room_1.slots → W p l e room_1 s m #[Value.ref b] below meth c H locs cells slots (lw_Z below #[Value.ref b] s) (F0 m 1895 ls []) := by
  have hx := X.1.1
  have hb := X.1.2.1
  intro S bc bs l1 l2 l4 l21 l22 hf H locs ls cells slots hH hl hB
  refine lv_iinc (v := l22 + 1) (lv' := [(22, .int (l22 + 1)), (0, .ref b), (1, .ref l1), (2, .int l2), (4, .int l4), (21, .int l21)]) hx hb dL_law_1895 hl (k := 5) rfl rfl (by decide) rfl (fun ls hl => ?_)
  refine lv_goto (tgt := 1748) hx hb dL_law_1898 (by decide) ?_
  exact ih1748 S bc bs l1 l2 l4 l21 (l22 + 1) hf H locs ls cells slots hH (lv_sub hl [1, 2, 3, 4, 5, 0] rfl) hB
set_option maxHeartbeats 4000000 in
set_option maxRecDepth 100000 in
theorem jL_law_1874 {p : Program} {e : Env} {s : State} {m : MethodId} {below : List Frame} {meth : Method} {c : Code} (l : Launch) (D : va_G) (cy : Nat → ClassId) (G : p_GT) (hGC : ∀ (A : Nat → Prop) (U : State) (H : Heap), G A U H → gC A U H) (hst : l.stackTraces = false) (hGE : ∀ (A : Nat → Prop) (U : State) (H : Heap), G A U H → p_Ex A U H) (hGF : ∀ (A : Nat → Prop) (U : State) (H : Heap), G A U H → gF A U H) (adK adV : Nat → Nat) (hGK : ∀ (A : Nat → Prop) (U : State) (H : Heap), G A U H → gK adK adV A U H) (hGO : ∀ (A : Nat → Prop) (U : State) (H : Heap), G A U H → va_AO "VillageFeud$Village" U) (hGQ : ∀ (A : Nat → Prop) (U : State) (H : Heap), G A U H → va_AOA .int U) (dT dO : Nat) (hGT : ∀ (A : Nat → Prop) (U : State) (H : Heap), G A U H → gT dT dO A U H) (hGU : ∀ (A : Nat → Prop) (U : State) (H : Heap), G A U H → gU A U H) (b L : Nat) (xs : Nat → Int32) (hGX : ∀ (A : Nat → Prop) (U : State) (H : Heap), G A U H → gX b L xs A U H) (A : Nat → Prop) (X : p_X p m c cL_law 30 s #[.ref b] RL D cy G A) (hr : meth.sig.returnType = ret) (hlk : meth.locks = false) (hfree : ∀ q, A q → s.heap.size ≤ q) (g1748 : PS → Nat → Nat → Nat → Int32 → Int32 → Int32 → Int32 → Prop) (ih1748 : ∀ (S : PS) (bc bs : Nat) (l1 : Nat) (l2 : Int32) (l4 : Int32) (l21 : Int32) (l22 : Int32), g1748 S bc bs l1 l2 l4 l21 l22 → ∀ (H : Heap) (locs : List Loc) (ls : Array Slot) (cells slots : Nat), p_H D cy S A s H locs → lv_has ls 30 [(0, .ref b), (1, .ref l1), (2, .int l2), (4, .int l4), (21, .int l21), (22, .int l22)] → cells + bc ≤ room_1.cells ∧ slots + bs ≤ room_1.slots → W p l e room_1 s m #[Value.ref b] below meth c H locs cells slots (lw_Z below #[Value.ref b] s) (F0 m 1748 ls [])) : ∀ (S : PS) (bc bs : Nat) (l1 : Nat) (l2 : Int32) (l4 : Int32) (l21 : Int32) (l22 : Int32) (l23 : Int32) (l24 : Int32) (t0 : Int32), f_L_law_J1874 adK L xs g1748 S bc bs l1 l2 l4 l21 l22 l23 l24 t0 → ∀ (H : Heap) (locs : List Loc) (ls : Array Slot) (cells slots : Nat), p_H D cy S A s H locs → lv_has ls 30 [(0, .ref b), (1, .ref l1), (2, .int l2), (4, .int l4), (21, .int l21), (22, .int l22), (23, .int l23), (24, .int l24)] → cells + bc ≤ room_1.cells ∧ slots + bs ≤ room_1.slots → W p l e room_1 s m #[Value.ref b] below meth c H locs cells slots (lw_Z below #[Value.ref b] s) (F0 m 1874 ls [.int t0]) := by
  have hx := X.1.1
  have hb := X.1.2.1
  have hJ1895 := jL_law_1895 (e := e) (below := below) l D cy G hGC hst hGE hGF adK adV hGK hGO hGQ dT dO hGT hGU b L xs hGX A X hr hlk hfree g1748 ih1748
  intro S bc bs l1 l2 l4 l21 l22 l23 l24 t0 hf H locs ls cells slots hH hl hB
  refine lv_istore (lv' := [(25, .int t0), (0, .ref b), (1, .ref l1), (2, .int l2), (4, .int l4), (21, .int l21), (22, .int l22), (23, .int l23), (24, .int l24)]) hx hb dL_law_1874 hl (by decide) rfl (fun ls hl => ?_)
  refine lv_iload hx hb dL_law_1876 (lv_at hl 0 rfl) ?_
  refine lv_if_lt (tgt := 1893) hx hb dL_law_1878 (by decide) (fun c1 => ?_) (fun c1 => ?_)
  · have hf := (if_pos c1).mp hf
    refine lv_iconst (v := 0) hx hb dL_law_1893 (by decide) ?_
    exact hf.elim
  · have hf := (if_neg c1).mp hf
    refine lv_iload hx hb dL_law_1881 (lv_at hl 0 rfl) ?_
    refine lv_if_ne (tgt := 1895) hx hb dL_law_1883 (by decide) (fun c2 => ?_) (fun c2 => ?_)
    · have hf := (if_neg c2).mp hf
      exact hJ1895 S bc bs l1 l2 l4 l21 l22 hf H locs ls cells slots hH (lv_sub hl [1, 2, 3, 4, 5, 6] rfl) hB
    · have hf := (if_pos c2).mp hf
      refine lv_iload hx hb dL_law_1886 (lv_at hl 7 rfl) ?_
      refine lv_iload hx hb dL_law_1888 (lv_at hl 8 rfl) ?_
      refine lv_icmp_le (tgt := 1895) hx hb dL_law_1890 (by decide) (fun c3 => ?_) (fun c3 => ?_)
      · have hf := (if_pos c3).mp hf
        exact hJ1895 S bc bs l1 l2 l4 l21 l22 hf H locs ls cells slots hH (lv_sub hl [1, 2, 3, 4, 5, 6] rfl) hB
      · have hf := (if_neg c3).mp hf
        refine lv_iconst (v := 0) hx hb dL_law_1893 (by decide) ?_
        exact hf.elim
set_option maxHeartbeats 4000000 in
set_option maxRecDepth 100000 in
theorem jL_law_1873 {p : Program} {e : Env} {s : State} {m : MethodId} {below : List Frame} {meth : Method} {c : Code} (l : Launch) (D : va_G) (cy : Nat → ClassId) (G : p_GT) (hGC : ∀ (A : Nat → Prop) (U : State) (H : Heap), G A U H → gC A U H) (hst : l.stackTraces = false) (hGE : ∀ (A : Nat → Prop) (U : State) (H : Heap), G A U H → p_Ex A U H) (hGF : ∀ (A : Nat → Prop) (U : State) (H : Heap), G A U H → gF A U H) (adK adV : Nat → Nat) (hGK : ∀ (A : Nat → Prop) (U : State) (H : Heap), G A U H → gK adK adV A U H) (hGO : ∀ (A : Nat → Prop) (U : State) (H : Heap), G A U H → va_AO "VillageFeud$Village" U) (hGQ : ∀ (A : Nat → Prop) (U : State) (H : Heap), G A U H → va_AOA .int U) (dT dO : Nat) (hGT : ∀ (A : Nat → Prop) (U : State) (H : Heap), G A U H → gT dT dO A U H) (hGU : ∀ (A : Nat → Prop) (U : State) (H : Heap), G A U H → gU A U H) (b L : Nat) (xs : Nat → Int32) (hGX : ∀ (A : Nat → Prop) (U : State) (H : Heap), G A U H → gX b L xs A U H) (A : Nat → Prop) (X : p_X p m c cL_law 30 s #[.ref b] RL D cy G A) (hr : meth.sig.returnType = ret) (hlk : meth.locks = false) (hfree : ∀ q, A q → s.heap.size ≤ q) (g1748 : PS → Nat → Nat → Nat → Int32 → Int32 → Int32 → Int32 → Prop) (ih1748 : ∀ (S : PS) (bc bs : Nat) (l1 : Nat) (l2 : Int32) (l4 : Int32) (l21 : Int32) (l22 : Int32), g1748 S bc bs l1 l2 l4 l21 l22 → ∀ (H : Heap) (locs : List Loc) (ls : Array Slot) (cells slots : Nat), p_H D cy S A s H locs → lv_has ls 30 [(0, .ref b), (1, .ref l1), (2, .int l2), (4, .int l4), (21, .int l21), (22, .int l22)] → cells + bc ≤ room_1.cells ∧ slots + bs ≤ room_1.slots → W p l e room_1 s m #[Value.ref b] below meth c H locs cells slots (lw_Z below #[Value.ref b] s) (F0 m 1748 ls [])) : ∀ (S : PS) (bc bs : Nat) (l1 : Nat) (l2 : Int32) (l4 : Int32) (l21 : Int32) (l22 : Int32) (l23 : Int32) (l24 : Int32) (t0 : Int32) (t1 : Int32), f_L_law_J1873 adK L xs g1748 S bc bs l1 l2 l4 l21 l22 l23 l24 t0 t1 → ∀ (H : Heap) (locs : List Loc) (ls : Array Slot) (cells slots : Nat), p_H D cy S A s H locs → lv_has ls 30 [(0, .ref b), (1, .ref l1), (2, .int l2), (4, .int l4), (21, .int l21), (22, .int l22), (23, .int l23), (24, .int l24)] → cells + bc ≤ room_1.cells ∧ slots + bs ≤ room_1.slots → W p l e room_1 s m #[Value.ref b] below meth c H locs cells slots (lw_Z below #[Value.ref b] s) (F0 m 1873 ls [.int t0, .int t1]) := by
  have hx := X.1.1
  have hb := X.1.2.1
  have hJ1874 := jL_law_1874 (e := e) (below := below) l D cy G hGC hst hGE hGF adK adV hGK hGO hGQ dT dO hGT hGU b L xs hGX A X hr hlk hfree g1748 ih1748
  intro S bc bs l1 l2 l4 l21 l22 l23 l24 t0 t1 hf H locs ls cells slots hH hl hB
  refine lv_isub hx hb dL_law_1873 ?_
  exact hJ1874 S bc bs l1 l2 l4 l21 l22 l23 l24 (t1 - t0) hf H locs ls cells slots hH hl hB
set_option maxHeartbeats 4000000 in
set_option maxRecDepth 100000 in
theorem jL_law_1856 {p : Program} {e : Env} {s : State} {m : MethodId} {below : List Frame} {meth : Method} {c : Code} (l : Launch) (D : va_G) (cy : Nat → ClassId) (G : p_GT) (hGC : ∀ (A : Nat → Prop) (U : State) (H : Heap), G A U H → gC A U H) (hst : l.stackTraces = false) (hGE : ∀ (A : Nat → Prop) (U : State) (H : Heap), G A U H → p_Ex A U H) (hGF : ∀ (A : Nat → Prop) (U : State) (H : Heap), G A U H → gF A U H) (adK adV : Nat → Nat) (hGK : ∀ (A : Nat → Prop) (U : State) (H : Heap), G A U H → gK adK adV A U H) (hGO : ∀ (A : Nat → Prop) (U : State) (H : Heap), G A U H → va_AO "VillageFeud$Village" U) (hGQ : ∀ (A : Nat → Prop) (U : State) (H : Heap), G A U H → va_AOA .int U) (dT dO : Nat) (hGT : ∀ (A : Nat → Prop) (U : State) (H : Heap), G A U H → gT dT dO A U H) (hGU : ∀ (A : Nat → Prop) (U : State) (H : Heap), G A U H → gU A U H) (b L : Nat) (xs : Nat → Int32) (hGX : ∀ (A : Nat → Prop) (U : State) (H : Heap), G A U H → gX b L xs A U H) (A : Nat → Prop) (X : p_X p m c cL_law 30 s #[.ref b] RL D cy G A) (hr : meth.sig.returnType = ret) (hlk : meth.locks = false) (hfree : ∀ q, A q → s.heap.size ≤ q) (g1748 : PS → Nat → Nat → Nat → Int32 → Int32 → Int32 → Int32 → Prop) (ih1748 : ∀ (S : PS) (bc bs : Nat) (l1 : Nat) (l2 : Int32) (l4 : Int32) (l21 : Int32) (l22 : Int32), g1748 S bc bs l1 l2 l4 l21 l22 → ∀ (H : Heap) (locs : List Loc) (ls : Array Slot) (cells slots : Nat), p_H D cy S A s H locs → lv_has ls 30 [(0, .ref b), (1, .ref l1), (2, .int l2), (4, .int l4), (21, .int l21), (22, .int l22)] → cells + bc ≤ room_1.cells ∧ slots + bs ≤ room_1.slots → W p l e room_1 s m #[Value.ref b] below meth c H locs cells slots (lw_Z below #[Value.ref b] s) (F0 m 1748 ls [])) : ∀ (S : PS) (bc bs : Nat) (l1 : Nat) (l2 : Int32) (l4 : Int32) (l21 : Int32) (l22 : Int32) (l23 : Int32) (l24 : Int32) (t0 : Int32), f_L_law_J1856 adK L xs g1748 S bc bs l1 l2 l4 l21 l22 l23 l24 t0 → ∀ (H : Heap) (locs : List Loc) (ls : Array Slot) (cells slots : Nat), p_H D cy S A s H locs → lv_has ls 30 [(0, .ref b), (1, .ref l1), (2, .int l2), (4, .int l4), (21, .int l21), (22, .int l22), (23, .int l23), (24, .int l24)] → cells + bc ≤ room_1.cells ∧ slots + bs ≤ room_1.slots → W p l e room_1 s m #[Value.ref b] below meth c H locs cells slots (lw_Z below #[Value.ref b] s) (F0 m 1856 ls [.int t0]) := by
  have hx := X.1.1
  have hb := X.1.2.1
  have hJ1873 := jL_law_1873 (e := e) (below := below) l D cy G hGC hst hGE hGF adK adV hGK hGO hGQ dT dO hGT hGU b L xs hGX A X hr hlk hfree g1748 ih1748
  intro S bc bs l1 l2 l4 l21 l22 l23 l24 t0 hf H locs ls cells slots hH hl hB
  refine lv_iload hx hb dL_law_1856 (lv_at hl 6 rfl) ?_
  refine lv_if_ne (tgt := 1866) hx hb dL_law_1858 (by decide) (fun c1 => ?_) (fun c1 => ?_)
  · have hf := (if_neg c1).mp hf
    refine lv_aload_n hx hb dL_law_1866 rfl (lv_at hl 1 rfl) ?_
    refine lv_iconst (v := 0) hx hb dL_law_1867 (by decide) ?_
    refine lv_iload hx hb dL_law_1868 (lv_at hl 6 rfl) ?_
    obtain ⟨hb1, hb2, mc3, ms3, hm1, hs1, hf⟩ := hf
    refine q_callXi X hH hB hm1 hs1 (q_runVx [.int 0, .int l23] [.int t0] X hH hl (c_X7_between l D cy G X.2.2.2.1 hst hGE S l1 0 l23 mc3 ms3 _ _ _ hf) mf_X7_between mv_X7_between tw_535 ⟨Nat.le_of_ble_eq_true rfl, Nat.le_of_ble_eq_true rfl⟩ hb1 hb2 (T := TX7) (N := 12) rfl rfl (Nat.le_of_ble_eq_true rfl) dL_law_1870 ⟨Nat.le_trans (Nat.add_le_add_left hm1 _) hB.1, Nat.le_trans (Nat.add_le_add_left hs1 _) hB.2⟩) (fun _ _ _ _ hf _ _ _ _ _ _ _ _ _ => hf.elim) (fun v4 S2 hf H locs cells slots hH hB => ?_)
    exact hJ1873 S2 (bc - mc3) (bs - ms3) l1 l2 l4 l21 l22 l23 l24 v4 t0 hf H locs ls cells slots hH hl hB
  · have hf := (if_pos c1).mp hf
    refine lv_ldc (v := 100000000) hx hb X.1.2.2.2.1 (X.1.2.2.2.2 _ tw_1159) dL_law_1861 ?_
    refine lv_goto (tgt := 1873) hx hb dL_law_1863 (by decide) ?_
    exact hJ1873 S bc bs l1 l2 l4 l21 l22 l23 l24 100000000 t0 hf H locs ls cells slots hH hl hB
set_option maxHeartbeats 4000000 in
set_option maxRecDepth 100000 in
theorem jL_law_1832 {p : Program} {e : Env} {s : State} {m : MethodId} {below : List Frame} {meth : Method} {c : Code} (l : Launch) (D : va_G) (cy : Nat → ClassId) (G : p_GT) (hGC : ∀ (A : Nat → Prop) (U : State) (H : Heap), G A U H → gC A U H) (hst : l.stackTraces = false) (hGE : ∀ (A : Nat → Prop) (U : State) (H : Heap), G A U H → p_Ex A U H) (hGF : ∀ (A : Nat → Prop) (U : State) (H : Heap), G A U H → gF A U H) (adK adV : Nat → Nat) (hGK : ∀ (A : Nat → Prop) (U : State) (H : Heap), G A U H → gK adK adV A U H) (hGO : ∀ (A : Nat → Prop) (U : State) (H : Heap), G A U H → va_AO "VillageFeud$Village" U) (hGQ : ∀ (A : Nat → Prop) (U : State) (H : Heap), G A U H → va_AOA .int U) (dT dO : Nat) (hGT : ∀ (A : Nat → Prop) (U : State) (H : Heap), G A U H → gT dT dO A U H) (hGU : ∀ (A : Nat → Prop) (U : State) (H : Heap), G A U H → gU A U H) (b L : Nat) (xs : Nat → Int32) (hGX : ∀ (A : Nat → Prop) (U : State) (H : Heap), G A U H → gX b L xs A U H) (A : Nat → Prop) (X : p_X p m c cL_law 30 s #[.ref b] RL D cy G A) (hr : meth.sig.returnType = ret) (hlk : meth.locks = false) (hfree : ∀ q, A q → s.heap.size ≤ q) (g1748 : PS → Nat → Nat → Nat → Int32 → Int32 → Int32 → Int32 → Prop) (ih1748 : ∀ (S : PS) (bc bs : Nat) (l1 : Nat) (l2 : Int32) (l4 : Int32) (l21 : Int32) (l22 : Int32), g1748 S bc bs l1 l2 l4 l21 l22 → ∀ (H : Heap) (locs : List Loc) (ls : Array Slot) (cells slots : Nat), p_H D cy S A s H locs → lv_has ls 30 [(0, .ref b), (1, .ref l1), (2, .int l2), (4, .int l4), (21, .int l21), (22, .int l22)] → cells + bc ≤ room_1.cells ∧ slots + bs ≤ room_1.slots → W p l e room_1 s m #[Value.ref b] below meth c H locs cells slots (lw_Z below #[Value.ref b] s) (F0 m 1748 ls [])) : ∀ (S : PS) (bc bs : Nat) (l1 : Nat) (l2 : Int32) (l4 : Int32) (l21 : Int32) (l22 : Int32) (l23 : Int32) (l24 : Int32) (t0 : Int32) (t1 : Int32) (t2 : Nat) (t3 : Int32), f_L_law_J1832 adK L xs g1748 S bc bs l1 l2 l4 l21 l22 l23 l24 t0 t1 t2 t3 → ∀ (H : Heap) (locs : List Loc) (ls : Array Slot) (cells slots : Nat), p_H D cy S A s H locs → lv_has ls 30 [(0, .ref b), (1, .ref l1), (2, .int l2), (4, .int l4), (21, .int l21), (22, .int l22), (23, .int l23), (24, .int l24)] → cells + bc ≤ room_1.cells ∧ slots + bs ≤ room_1.slots → W p l e room_1 s m #[Value.ref b] below meth c H locs cells slots (lw_Z below #[Value.ref b] s) (F0 m 1832 ls [.int t0, .int t1, .ref t2, .int t3]) := by
  have hx := X.1.1
  have hb := X.1.2.1
  have hJ1874 := jL_law_1874 (e := e) (below := below) l D cy G hGC hst hGE hGF adK adV hGK hGO hGQ dT dO hGT hGU b L xs hGX A X hr hlk hfree g1748 ih1748
  intro S bc bs l1 l2 l4 l21 l22 l23 l24 t0 t1 t2 t3 hf H locs ls cells slots hH hl hB
  obtain ⟨hb1, hb2, mc2, ms2, hm1, hs1, hf⟩ := hf
  refine q_callXi X hH hB hm1 hs1 (q_runVx [.int t1, .int t0] [.int t3] X hH hl (c_X7_householdOf l D cy G X.2.2.2.1 hst hGE S t2 t1 t0 mc2 ms2 _ _ _ hf) mf_X7_householdOf mv_X7_householdOf tw_290 ⟨Nat.le_of_ble_eq_true rfl, Nat.le_of_ble_eq_true rfl⟩ hb1 hb2 (T := TX7) (N := 12) rfl rfl (Nat.le_of_ble_eq_true rfl) dL_law_1832 ⟨Nat.le_trans (Nat.add_le_add_left hm1 _) hB.1, Nat.le_trans (Nat.add_le_add_left hs1 _) hB.2⟩) (fun _ _ _ _ hf _ _ _ _ _ _ _ _ _ => hf.elim) (fun v3 S1 hf H locs cells slots hH hB => ?_)
  refine lv_isub hx hb dL_law_1835 ?_
  refine lv_goto (tgt := 1874) hx hb dL_law_1836 (by decide) ?_
  exact hJ1874 S1 (bc - mc2) (bs - ms2) l1 l2 l4 l21 l22 l23 l24 (t3 - v3) hf H locs ls cells slots hH hl hB
set_option maxHeartbeats 4000000 in
set_option maxRecDepth 100000 in
theorem jL_law_1806 {p : Program} {e : Env} {s : State} {m : MethodId} {below : List Frame} {meth : Method} {c : Code} (l : Launch) (D : va_G) (cy : Nat → ClassId) (G : p_GT) (hGC : ∀ (A : Nat → Prop) (U : State) (H : Heap), G A U H → gC A U H) (hst : l.stackTraces = false) (hGE : ∀ (A : Nat → Prop) (U : State) (H : Heap), G A U H → p_Ex A U H) (hGF : ∀ (A : Nat → Prop) (U : State) (H : Heap), G A U H → gF A U H) (adK adV : Nat → Nat) (hGK : ∀ (A : Nat → Prop) (U : State) (H : Heap), G A U H → gK adK adV A U H) (hGO : ∀ (A : Nat → Prop) (U : State) (H : Heap), G A U H → va_AO "VillageFeud$Village" U) (hGQ : ∀ (A : Nat → Prop) (U : State) (H : Heap), G A U H → va_AOA .int U) (dT dO : Nat) (hGT : ∀ (A : Nat → Prop) (U : State) (H : Heap), G A U H → gT dT dO A U H) (hGU : ∀ (A : Nat → Prop) (U : State) (H : Heap), G A U H → gU A U H) (b L : Nat) (xs : Nat → Int32) (hGX : ∀ (A : Nat → Prop) (U : State) (H : Heap), G A U H → gX b L xs A U H) (A : Nat → Prop) (X : p_X p m c cL_law 30 s #[.ref b] RL D cy G A) (hr : meth.sig.returnType = ret) (hlk : meth.locks = false) (hfree : ∀ q, A q → s.heap.size ≤ q) (g1748 : PS → Nat → Nat → Nat → Int32 → Int32 → Int32 → Int32 → Prop) (ih1748 : ∀ (S : PS) (bc bs : Nat) (l1 : Nat) (l2 : Int32) (l4 : Int32) (l21 : Int32) (l22 : Int32), g1748 S bc bs l1 l2 l4 l21 l22 → ∀ (H : Heap) (locs : List Loc) (ls : Array Slot) (cells slots : Nat), p_H D cy S A s H locs → lv_has ls 30 [(0, .ref b), (1, .ref l1), (2, .int l2), (4, .int l4), (21, .int l21), (22, .int l22)] → cells + bc ≤ room_1.cells ∧ slots + bs ≤ room_1.slots → W p l e room_1 s m #[Value.ref b] below meth c H locs cells slots (lw_Z below #[Value.ref b] s) (F0 m 1748 ls [])) : ∀ (S : PS) (bc bs : Nat) (l1 : Nat) (l2 : Int32) (l4 : Int32) (l21 : Int32) (l22 : Int32) (l23 : Int32) (l24 : Int32) (t0 : Int32) (t1 : Int32) (t2 : Nat), f_L_law_J1806 adK L xs g1748 S bc bs l1 l2 l4 l21 l22 l23 l24 t0 t1 t2 → ∀ (H : Heap) (locs : List Loc) (ls : Array Slot) (cells slots : Nat), p_H D cy S A s H locs → lv_has ls 30 [(0, .ref b), (1, .ref l1), (2, .int l2), (4, .int l4), (21, .int l21), (22, .int l22), (23, .int l23), (24, .int l24)] → cells + bc ≤ room_1.cells ∧ slots + bs ≤ room_1.slots → W p l e room_1 s m #[Value.ref b] below meth c H locs cells slots (lw_Z below #[Value.ref b] s) (F0 m 1806 ls [.int t0, .int t1, .ref t2]) := by
  have hx := X.1.1
  have hb := X.1.2.1
  have hJ1832 := jL_law_1832 (e := e) (below := below) l D cy G hGC hst hGE hGF adK adV hGK hGO hGQ dT dO hGT hGU b L xs hGX A X hr hlk hfree g1748 ih1748
  intro S bc bs l1 l2 l4 l21 l22 l23 l24 t0 t1 t2 hf H locs ls cells slots hH hl hB
  obtain ⟨hb1, hb2, mc2, ms2, hm1, hs1, hf⟩ := hf
  refine q_callXi X hH hB hm1 hs1 (q_runVx [.int t1, .int t0] [] X hH hl (c_X7_householdOf l D cy G X.2.2.2.1 hst hGE S t2 t1 t0 mc2 ms2 _ _ _ hf) mf_X7_householdOf mv_X7_householdOf tw_290 ⟨Nat.le_of_ble_eq_true rfl, Nat.le_of_ble_eq_true rfl⟩ hb1 hb2 (T := TX7) (N := 12) rfl rfl (Nat.le_of_ble_eq_true rfl) dL_law_1806 ⟨Nat.le_trans (Nat.add_le_add_left hm1 _) hB.1, Nat.le_trans (Nat.add_le_add_left hs1 _) hB.2⟩) (fun _ _ _ _ hf _ _ _ _ _ _ _ _ _ => hf.elim) (fun v3 S1 hf H locs cells slots hH hB => ?_)
  refine lv_aload_n hx hb dL_law_1809 rfl (lv_at hl 1 rfl) ?_
  refine lv_iload hx hb dL_law_1810 (lv_at hl 7 rfl) ?_
  refine lv_iload hx hb dL_law_1812 (lv_at hl 4 rfl) ?_
  refine lv_if_ne (tgt := 1821) hx hb dL_law_1814 (by decide) (fun c4 => ?_) (fun c4 => ?_)
  · have hf := (if_neg c4).mp hf
    refine lv_iload hx hb dL_law_1821 (lv_at hl 4 rfl) ?_
    refine lv_iconst (v := 1) hx hb dL_law_1823 (by decide) ?_
    refine lv_icmp_ne (tgt := 1831) hx hb dL_law_1824 (by decide) (fun c5 => ?_) (fun c5 => ?_)
    · have hf := (if_neg c5).mp hf
      refine lv_iconst (v := 4) hx hb dL_law_1831 (by decide) ?_
      exact hJ1832 S1 (bc - mc2) (bs - ms2) l1 l2 l4 l21 l22 l23 l24 4 l24 l1 v3 hf H locs ls cells slots hH hl hB
    · have hf := (if_pos c5).mp hf
      refine lv_iconst (v := 1) hx hb dL_law_1827 (by decide) ?_
      refine lv_goto (tgt := 1832) hx hb dL_law_1828 (by decide) ?_
      exact hJ1832 S1 (bc - mc2) (bs - ms2) l1 l2 l4 l21 l22 l23 l24 1 l24 l1 v3 hf H locs ls cells slots hH hl hB
  · have hf := (if_pos c4).mp hf
    refine lv_iconst (v := 2) hx hb dL_law_1817 (by decide) ?_
    refine lv_goto (tgt := 1832) hx hb dL_law_1818 (by decide) ?_
    exact hJ1832 S1 (bc - mc2) (bs - ms2) l1 l2 l4 l21 l22 l23 l24 2 l24 l1 v3 hf H locs ls cells slots hH hl hB
set_option maxHeartbeats 4000000 in
set_option maxRecDepth 100000 in
theorem jL_law_1748 {p : Program} {e : Env} {s : State} {m : MethodId} {below : List Frame} {meth : Method} {c : Code} (l : Launch) (D : va_G) (cy : Nat → ClassId) (G : p_GT) (hGC : ∀ (A : Nat → Prop) (U : State) (H : Heap), G A U H → gC A U H) (hst : l.stackTraces = false) (hGE : ∀ (A : Nat → Prop) (U : State) (H : Heap), G A U H → p_Ex A U H) (hGF : ∀ (A : Nat → Prop) (U : State) (H : Heap), G A U H → gF A U H) (adK adV : Nat → Nat) (hGK : ∀ (A : Nat → Prop) (U : State) (H : Heap), G A U H → gK adK adV A U H) (hGO : ∀ (A : Nat → Prop) (U : State) (H : Heap), G A U H → va_AO "VillageFeud$Village" U) (hGQ : ∀ (A : Nat → Prop) (U : State) (H : Heap), G A U H → va_AOA .int U) (dT dO : Nat) (hGT : ∀ (A : Nat → Prop) (U : State) (H : Heap), G A U H → gT dT dO A U H) (hGU : ∀ (A : Nat → Prop) (U : State) (H : Heap), G A U H → gU A U H) (b L : Nat) (xs : Nat → Int32) (hGX : ∀ (A : Nat → Prop) (U : State) (H : Heap), G A U H → gX b L xs A U H) (A : Nat → Prop) (X : p_X p m c cL_law 30 s #[.ref b] RL D cy G A) (hr : meth.sig.returnType = ret) (hlk : meth.locks = false) (hfree : ∀ q, A q → s.heap.size ≤ q) (g1723 : PS → Nat → Nat → Nat → Int32 → Int32 → Int32 → Prop) (ih1723 : ∀ (S : PS) (bc bs : Nat) (l1 : Nat) (l2 : Int32) (l4 : Int32) (l21 : Int32), g1723 S bc bs l1 l2 l4 l21 → ∀ (H : Heap) (locs : List Loc) (ls : Array Slot) (cells slots : Nat), p_H D cy S A s H locs → lv_has ls 30 [(0, .ref b), (1, .ref l1), (2, .int l2), (4, .int l4), (21, .int l21)] → cells + bc ≤ room_1.cells ∧ slots + bs ≤ room_1.slots → W p l e room_1 s m #[Value.ref b] below meth c H locs cells slots (lw_Z below #[Value.ref b] s) (F0 m 1723 ls [])) : ∀ (n1748 : Nat) (S : PS) (bc bs : Nat) (l1 : Nat) (l2 : Int32) (l4 : Int32) (l21 : Int32) (l22 : Int32), f_L_law_L1748 adK L xs g1723 n1748 S bc bs l1 l2 l4 l21 l22 → ∀ (H : Heap) (locs : List Loc) (ls : Array Slot) (cells slots : Nat), p_H D cy S A s H locs → lv_has ls 30 [(0, .ref b), (1, .ref l1), (2, .int l2), (4, .int l4), (21, .int l21), (22, .int l22)] → cells + bc ≤ room_1.cells ∧ slots + bs ≤ room_1.slots → W p l e room_1 s m #[Value.ref b] below meth c H locs cells slots (lw_Z below #[Value.ref b] s) (F0 m 1748 ls []) := by
  have hx := X.1.1
  have hb := X.1.2.1
  intro n1748
  induction n1748 with
  | zero => intro S bc bs l1 l2 l4 l21 l22 hf; exact hf.elim
  | succ n1748 ih1748 =>
    have hJ1806 := jL_law_1806 (e := e) (below := below) l D cy G hGC hst hGE hGF adK adV hGK hGO hGQ dT dO hGT hGU b L xs hGX A X hr hlk hfree (f_L_law_L1748 adK L xs g1723 n1748) ih1748
    have hJ1856 := jL_law_1856 (e := e) (below := below) l D cy G hGC hst hGE hGF adK adV hGK hGO hGQ dT dO hGT hGU b L xs hGX A X hr hlk hfree (f_L_law_L1748 adK L xs g1723 n1748) ih1748
    have hJ1901 := jL_law_1901 (e := e) (below := below) l D cy G hGC hst hGE hGF adK adV hGK hGO hGQ dT dO hGT hGU b L xs hGX A X hr hlk hfree g1723 ih1723
    intro S bc bs l1 l2 l4 l21 l22 hf H locs ls cells slots hH hl hB
    refine lv_iload hx hb dL_law_1748 (lv_at hl 5 rfl) ?_
    refine lv_iload hx hb dL_law_1750 (lv_at hl 3 rfl) ?_
    refine lv_icmp_ge (tgt := 1901) hx hb dL_law_1752 (by decide) (fun c1 => ?_) (fun c1 => ?_)
    · have hf := (if_pos c1).mp hf
      exact hJ1901 S bc bs l1 l2 l4 l21 hf H locs ls cells slots hH (lv_sub hl [0, 1, 2, 3, 4] rfl) hB
    · have hf := (if_neg c1).mp hf
      refine lv_aload_n hx hb dL_law_1755 rfl (lv_at hl 1 rfl) ?_
      refine lv_iload hx hb dL_law_1756 (lv_at hl 4 rfl) ?_
      refine lv_iload hx hb dL_law_1758 (lv_at hl 5 rfl) ?_
      refine lv_iconst (v := 1) hx hb dL_law_1760 (by decide) ?_
      refine lv_isub hx hb dL_law_1761 ?_
      obtain ⟨hb1, hb2, mc3, ms3, hm1, hs1, hf⟩ := hf
      refine q_callXi X hH hB hm1 hs1 (q_runVx [.int l21, .int (l22 - 1)] [] X hH hl (c_X7_ranked l D cy G X.2.2.2.1 hst hGE S l1 l21 (l22 - 1) mc3 ms3 _ _ _ hf) mf_X7_ranked mv_X7_ranked tw_615 ⟨Nat.le_of_ble_eq_true rfl, Nat.le_of_ble_eq_true rfl⟩ hb1 hb2 (T := TX7) (N := 12) rfl rfl (Nat.le_of_ble_eq_true rfl) dL_law_1762 ⟨Nat.le_trans (Nat.add_le_add_left hm1 _) hB.1, Nat.le_trans (Nat.add_le_add_left hs1 _) hB.2⟩) (fun _ _ _ _ hf _ _ _ _ _ _ _ _ _ => hf.elim) (fun v4 S2 hf H locs cells slots hH hB => ?_)
      refine lv_istore (lv' := [(23, .int v4), (0, .ref b), (1, .ref l1), (2, .int l2), (4, .int l4), (21, .int l21), (22, .int l22)]) hx hb dL_law_1765 hl (by decide) rfl (fun ls hl => ?_)
      refine lv_aload_n hx hb dL_law_1767 rfl (lv_at hl 2 rfl) ?_
      refine lv_iload hx hb dL_law_1768 (lv_at hl 5 rfl) ?_
      refine lv_iload hx hb dL_law_1770 (lv_at hl 6 rfl) ?_
      obtain ⟨hb1, hb2, mc6, ms6, hm1, hs1, hf⟩ := hf
      refine q_callXi X hH hB hm1 hs1 (q_runVx [.int l21, .int l22] [] X hH hl (c_X7_ranked l D cy G X.2.2.2.1 hst hGE S2 l1 l21 l22 mc6 ms6 _ _ _ hf) mf_X7_ranked mv_X7_ranked tw_615 ⟨Nat.le_of_ble_eq_true rfl, Nat.le_of_ble_eq_true rfl⟩ hb1 hb2 (T := TX7) (N := 12) rfl rfl (Nat.le_of_ble_eq_true rfl) dL_law_1772 ⟨Nat.le_trans (Nat.add_le_add_left hm1 _) hB.1, Nat.le_trans (Nat.add_le_add_left hs1 _) hB.2⟩) (fun _ _ _ _ hf _ _ _ _ _ _ _ _ _ => hf.elim) (fun v7 S5 hf H locs cells slots hH hB => ?_)
      refine lv_istore (lv' := [(24, .int v7), (23, .int v4), (0, .ref b), (1, .ref l1), (2, .int l2), (4, .int l4), (21, .int l21), (22, .int l22)]) hx hb dL_law_1775 hl (by decide) rfl (fun ls hl => ?_)
      refine lv_iload hx hb dL_law_1777 (lv_at hl 6 rfl) ?_
      refine lv_iconst (v := 3) hx hb dL_law_1779 (by decide) ?_
      refine lv_icmp_ge (tgt := 1839) hx hb dL_law_1780 (by decide) (fun c8 => ?_) (fun c8 => ?_)
      · have hf := (if_pos c8).mp hf
        refine lv_iload hx hb dL_law_1839 (lv_at hl 0 rfl) ?_
        refine lv_if_ne (tgt := 1849) hx hb dL_law_1841 (by decide) (fun c9 => ?_) (fun c9 => ?_)
        · have hf := (if_neg c9).mp hf
          refine lv_aload_n hx hb dL_law_1849 rfl (lv_at hl 3 rfl) ?_
          refine lv_iconst (v := 0) hx hb dL_law_1850 (by decide) ?_
          refine lv_iload hx hb dL_law_1851 (lv_at hl 0 rfl) ?_
          obtain ⟨hb1, hb2, mc11, ms11, hm1, hs1, hf⟩ := hf
          refine q_callXi X hH hB hm1 hs1 (q_runVx [.int 0, .int v7] [] X hH hl (c_X7_between l D cy G X.2.2.2.1 hst hGE S5 l1 0 v7 mc11 ms11 _ _ _ hf) mf_X7_between mv_X7_between tw_535 ⟨Nat.le_of_ble_eq_true rfl, Nat.le_of_ble_eq_true rfl⟩ hb1 hb2 (T := TX7) (N := 12) rfl rfl (Nat.le_of_ble_eq_true rfl) dL_law_1853 ⟨Nat.le_trans (Nat.add_le_add_left hm1 _) hB.1, Nat.le_trans (Nat.add_le_add_left hs1 _) hB.2⟩) (fun _ _ _ _ hf _ _ _ _ _ _ _ _ _ => hf.elim) (fun v12 S10 hf H locs cells slots hH hB => ?_)
          exact hJ1856 S10 (((bc - mc3) - mc6) - mc11) (((bs - ms3) - ms6) - ms11) l1 l2 l4 l21 l22 v4 v7 v12 hf H locs ls cells slots hH (lv_sub hl [2, 3, 4, 5, 6, 7, 1, 0] rfl) hB
        · have hf := (if_pos c9).mp hf
          refine lv_ldc (v := 100000000) hx hb X.1.2.2.2.1 (X.1.2.2.2.2 _ tw_1159) dL_law_1844 ?_
          refine lv_goto (tgt := 1856) hx hb dL_law_1846 (by decide) ?_
          exact hJ1856 S5 ((bc - mc3) - mc6) ((bs - ms3) - ms6) l1 l2 l4 l21 l22 v4 v7 100000000 hf H locs ls cells slots hH (lv_sub hl [2, 3, 4, 5, 6, 7, 1, 0] rfl) hB
      · have hf := (if_neg c8).mp hf
        refine lv_aload_n hx hb dL_law_1783 rfl (lv_at hl 3 rfl) ?_
        refine lv_iload hx hb dL_law_1784 (lv_at hl 1 rfl) ?_
        refine lv_iload hx hb dL_law_1786 (lv_at hl 6 rfl) ?_
        refine lv_if_ne (tgt := 1795) hx hb dL_law_1788 (by decide) (fun c13 => ?_) (fun c13 => ?_)
        · have hf := (if_neg c13).mp hf
          refine lv_iload hx hb dL_law_1795 (lv_at hl 6 rfl) ?_
          refine lv_iconst (v := 1) hx hb dL_law_1797 (by decide) ?_
          refine lv_icmp_ne (tgt := 1805) hx hb dL_law_1798 (by decide) (fun c14 => ?_) (fun c14 => ?_)
          · have hf := (if_neg c14).mp hf
            refine lv_iconst (v := 4) hx hb dL_law_1805 (by decide) ?_
            exact hJ1806 S5 ((bc - mc3) - mc6) ((bs - ms3) - ms6) l1 l2 l4 l21 l22 v4 v7 4 v4 l1 hf H locs ls cells slots hH (lv_sub hl [2, 3, 4, 5, 6, 7, 1, 0] rfl) hB
          · have hf := (if_pos c14).mp hf
            refine lv_iconst (v := 1) hx hb dL_law_1801 (by decide) ?_
            refine lv_goto (tgt := 1806) hx hb dL_law_1802 (by decide) ?_
            exact hJ1806 S5 ((bc - mc3) - mc6) ((bs - ms3) - ms6) l1 l2 l4 l21 l22 v4 v7 1 v4 l1 hf H locs ls cells slots hH (lv_sub hl [2, 3, 4, 5, 6, 7, 1, 0] rfl) hB
        · have hf := (if_pos c13).mp hf
          refine lv_iconst (v := 2) hx hb dL_law_1791 (by decide) ?_
          refine lv_goto (tgt := 1806) hx hb dL_law_1792 (by decide) ?_
          exact hJ1806 S5 ((bc - mc3) - mc6) ((bs - ms3) - ms6) l1 l2 l4 l21 l22 v4 v7 2 v4 l1 hf H locs ls cells slots hH (lv_sub hl [2, 3, 4, 5, 6, 7, 1, 0] rfl) hB
set_option maxHeartbeats 4000000 in
set_option maxRecDepth 100000 in
theorem jL_law_1723 {p : Program} {e : Env} {s : State} {m : MethodId} {below : List Frame} {meth : Method} {c : Code} (l : Launch) (D : va_G) (cy : Nat → ClassId) (G : p_GT) (hGC : ∀ (A : Nat → Prop) (U : State) (H : Heap), G A U H → gC A U H) (hst : l.stackTraces = false) (hGE : ∀ (A : Nat → Prop) (U : State) (H : Heap), G A U H → p_Ex A U H) (hGF : ∀ (A : Nat → Prop) (U : State) (H : Heap), G A U H → gF A U H) (adK adV : Nat → Nat) (hGK : ∀ (A : Nat → Prop) (U : State) (H : Heap), G A U H → gK adK adV A U H) (hGO : ∀ (A : Nat → Prop) (U : State) (H : Heap), G A U H → va_AO "VillageFeud$Village" U) (hGQ : ∀ (A : Nat → Prop) (U : State) (H : Heap), G A U H → va_AOA .int U) (dT dO : Nat) (hGT : ∀ (A : Nat → Prop) (U : State) (H : Heap), G A U H → gT dT dO A U H) (hGU : ∀ (A : Nat → Prop) (U : State) (H : Heap), G A U H → gU A U H) (b L : Nat) (xs : Nat → Int32) (hGX : ∀ (A : Nat → Prop) (U : State) (H : Heap), G A U H → gX b L xs A U H) (A : Nat → Prop) (X : p_X p m c cL_law 30 s #[.ref b] RL D cy G A) (hr : meth.sig.returnType = ret) (hlk : meth.locks = false) (hfree : ∀ q, A q → s.heap.size ≤ q) (g15 : PS → Nat → Nat → Nat → Int32 → Prop) (ih15 : ∀ (S : PS) (bc bs : Nat) (l1 : Nat) (l2 : Int32), g15 S bc bs l1 l2 → ∀ (H : Heap) (locs : List Loc) (ls : Array Slot) (cells slots : Nat), p_H D cy S A s H locs → lv_has ls 30 [(0, .ref b), (1, .ref l1), (2, .int l2)] → cells + bc ≤ room_1.cells ∧ slots + bs ≤ room_1.slots → W p l e room_1 s m #[Value.ref b] below meth c H locs cells slots (lw_Z below #[Value.ref b] s) (F0 m 15 ls [])) : ∀ (n1723 : Nat) (S : PS) (bc bs : Nat) (l1 : Nat) (l2 : Int32) (l4 : Int32) (l21 : Int32), f_L_law_L1723 adK L xs g15 n1723 S bc bs l1 l2 l4 l21 → ∀ (H : Heap) (locs : List Loc) (ls : Array Slot) (cells slots : Nat), p_H D cy S A s H locs → lv_has ls 30 [(0, .ref b), (1, .ref l1), (2, .int l2), (4, .int l4), (21, .int l21)] → cells + bc ≤ room_1.cells ∧ slots + bs ≤ room_1.slots → W p l e room_1 s m #[Value.ref b] below meth c H locs cells slots (lw_Z below #[Value.ref b] s) (F0 m 1723 ls []) := by
  have hx := X.1.1
  have hb := X.1.2.1
  intro n1723
  induction n1723 with
  | zero => intro S bc bs l1 l2 l4 l21 hf; exact hf.elim
  | succ n1723 ih1723 =>
    have hL1748 := jL_law_1748 (e := e) (below := below) l D cy G hGC hst hGE hGF adK adV hGK hGO hGQ dT dO hGT hGU b L xs hGX A X hr hlk hfree (f_L_law_L1723 adK L xs g15 n1723) ih1723
    have hJ1907 := jL_law_1907 (e := e) (below := below) l D cy G hGC hst hGE hGF adK adV hGK hGO hGQ dT dO hGT hGU b L xs hGX A X hr hlk hfree g15 ih15
    intro S bc bs l1 l2 l4 l21 hf H locs ls cells slots hH hl hB
    refine lv_iload hx hb dL_law_1723 (lv_at hl 4 rfl) ?_
    refine lv_iconst (v := 4) hx hb dL_law_1725 (by decide) ?_
    refine lv_icmp_ge (tgt := 1907) hx hb dL_law_1726 (by decide) (fun c1 => ?_) (fun c1 => ?_)
    · have hf := (if_pos c1).mp hf
      exact hJ1907 S bc bs l1 l2 hf H locs ls cells slots hH (lv_sub hl [0, 1, 2] rfl) hB
    · have hf := (if_neg c1).mp hf
      refine lv_aload_n hx hb dL_law_1729 rfl (lv_at hl 1 rfl) ?_
      refine lv_iload hx hb dL_law_1730 (lv_at hl 4 rfl) ?_
      refine lv_iload hx hb dL_law_1732 (lv_at hl 3 rfl) ?_
      obtain ⟨mc3, ms3, hm1, hs1, hf⟩ := hf
      refine q_callXi X hH hB hm1 hs1 (q_runSx [.ref l1, .int l21, .int l4] [] X hH hl (c_L_ranked l D cy G X.2.2.2.1 hst hGE S l1 l21 l4 mc3 ms3 _ _ hf) mw_L_ranked tw_970 tw_969 ⟨Nat.le_of_ble_eq_true rfl, Nat.le_of_ble_eq_true rfl⟩ rfl (Nat.le_of_ble_eq_true rfl) dL_law_1734 ⟨Nat.le_trans (Nat.add_le_add_left hm1 _) hB.1, Nat.le_trans (Nat.add_le_add_left hs1 _) hB.2⟩) (fun _ _ _ _ hf _ _ _ _ _ _ _ _ _ => hf.elim) (fun v4 S2 hf H locs cells slots hH hB => ?_)
      refine lv_sipush (v := (-30000)) hx hb dL_law_1737 (by decide) ?_
      refine lv_icmp_eq (tgt := 1745) hx hb dL_law_1740 (by decide) (fun c5 => ?_) (fun c5 => ?_)
      · have hf := (if_pos c5).mp hf
        refine lv_iconst (v := 1) hx hb dL_law_1745 (by decide) ?_
        refine lv_istore (lv' := [(22, .int 1), (0, .ref b), (1, .ref l1), (2, .int l2), (4, .int l4), (21, .int l21)]) hx hb dL_law_1746 hl (by decide) rfl (fun ls hl => ?_)
        exact hL1748 4096 S2 (bc - mc3) (bs - ms3) l1 l2 l4 l21 1 hf H locs ls cells slots hH (lv_sub hl [1, 2, 3, 4, 5, 0] rfl) hB
      · have hf := (if_neg c5).mp hf
        refine lv_iconst (v := 0) hx hb dL_law_1743 (by decide) ?_
        exact hf.elim
set_option maxHeartbeats 4000000 in
set_option maxRecDepth 100000 in
theorem jL_law_1709 {p : Program} {e : Env} {s : State} {m : MethodId} {below : List Frame} {meth : Method} {c : Code} (l : Launch) (D : va_G) (cy : Nat → ClassId) (G : p_GT) (hGC : ∀ (A : Nat → Prop) (U : State) (H : Heap), G A U H → gC A U H) (hst : l.stackTraces = false) (hGE : ∀ (A : Nat → Prop) (U : State) (H : Heap), G A U H → p_Ex A U H) (hGF : ∀ (A : Nat → Prop) (U : State) (H : Heap), G A U H → gF A U H) (adK adV : Nat → Nat) (hGK : ∀ (A : Nat → Prop) (U : State) (H : Heap), G A U H → gK adK adV A U H) (hGO : ∀ (A : Nat → Prop) (U : State) (H : Heap), G A U H → va_AO "VillageFeud$Village" U) (hGQ : ∀ (A : Nat → Prop) (U : State) (H : Heap), G A U H → va_AOA .int U) (dT dO : Nat) (hGT : ∀ (A : Nat → Prop) (U : State) (H : Heap), G A U H → gT dT dO A U H) (hGU : ∀ (A : Nat → Prop) (U : State) (H : Heap), G A U H → gU A U H) (b L : Nat) (xs : Nat → Int32) (hGX : ∀ (A : Nat → Prop) (U : State) (H : Heap), G A U H → gX b L xs A U H) (A : Nat → Prop) (X : p_X p m c cL_law 30 s #[.ref b] RL D cy G A) (hr : meth.sig.returnType = ret) (hlk : meth.locks = false) (hfree : ∀ q, A q → s.heap.size ≤ q) (g15 : PS → Nat → Nat → Nat → Int32 → Prop) (ih15 : ∀ (S : PS) (bc bs : Nat) (l1 : Nat) (l2 : Int32), g15 S bc bs l1 l2 → ∀ (H : Heap) (locs : List Loc) (ls : Array Slot) (cells slots : Nat), p_H D cy S A s H locs → lv_has ls 30 [(0, .ref b), (1, .ref l1), (2, .int l2)] → cells + bc ≤ room_1.cells ∧ slots + bs ≤ room_1.slots → W p l e room_1 s m #[Value.ref b] below meth c H locs cells slots (lw_Z below #[Value.ref b] s) (F0 m 15 ls [])) : ∀ (S : PS) (bc bs : Nat) (l1 : Nat) (l2 : Int32) (l4 : Int32) (l20 : Int32), f_L_law_J1709 adK L xs g15 S bc bs l1 l2 l4 l20 → ∀ (H : Heap) (locs : List Loc) (ls : Array Slot) (cells slots : Nat), p_H D cy S A s H locs → lv_has ls 30 [(0, .ref b), (1, .ref l1), (2, .int l2), (4, .int l4), (20, .int l20)] → cells + bc ≤ room_1.cells ∧ slots + bs ≤ room_1.slots → W p l e room_1 s m #[Value.ref b] below meth c H locs cells slots (lw_Z below #[Value.ref b] s) (F0 m 1709 ls []) := by
  have hx := X.1.1
  have hb := X.1.2.1
  have hL1723 := jL_law_1723 (e := e) (below := below) l D cy G hGC hst hGE hGF adK adV hGK hGO hGQ dT dO hGT hGU b L xs hGX A X hr hlk hfree g15 ih15
  intro S bc bs l1 l2 l4 l20 hf H locs ls cells slots hH hl hB
  refine lv_aload_n hx hb dL_law_1709 rfl (lv_at hl 1 rfl) ?_
  obtain ⟨mc2, ms2, hm1, hs1, hf⟩ := hf
  refine q_callXi X hH hB hm1 hs1 (q_runSx [.ref l1] [] X hH hl (c_L_met l D cy G X.2.2.2.1 hst hGE S l1 mc2 ms2 _ _ hf) mw_L_met tw_920 tw_919 ⟨Nat.le_of_ble_eq_true rfl, Nat.le_of_ble_eq_true rfl⟩ rfl (Nat.le_of_ble_eq_true rfl) dL_law_1710 ⟨Nat.le_trans (Nat.add_le_add_left hm1 _) hB.1, Nat.le_trans (Nat.add_le_add_left hs1 _) hB.2⟩) (fun _ _ _ _ hf _ _ _ _ _ _ _ _ _ => hf.elim) (fun v3 S1 hf H locs cells slots hH hB => ?_)
  refine lv_iload hx hb dL_law_1713 (lv_at hl 4 rfl) ?_
  refine lv_icmp_eq (tgt := 1720) hx hb dL_law_1715 (by decide) (fun c4 => ?_) (fun c4 => ?_)
  · have hf := (if_pos c4).mp hf
    refine lv_iconst (v := 0) hx hb dL_law_1720 (by decide) ?_
    refine lv_istore (lv' := [(21, .int 0), (0, .ref b), (1, .ref l1), (2, .int l2), (4, .int l4), (20, .int l20)]) hx hb dL_law_1721 hl (by decide) rfl (fun ls hl => ?_)
    exact hL1723 4096 S1 (bc - mc2) (bs - ms2) l1 l2 l4 0 hf H locs ls cells slots hH (lv_sub hl [1, 2, 3, 4, 0] rfl) hB
  · have hf := (if_neg c4).mp hf
    refine lv_iconst (v := 0) hx hb dL_law_1718 (by decide) ?_
    exact hf.elim
set_option maxHeartbeats 4000000 in
set_option maxRecDepth 100000 in
theorem jL_law_1667 {p : Program} {e : Env} {s : State} {m : MethodId} {below : List Frame} {meth : Method} {c : Code} (l : Launch) (D : va_G) (cy : Nat → ClassId) (G : p_GT) (hGC : ∀ (A : Nat → Prop) (U : State) (H : Heap), G A U H → gC A U H) (hst : l.stackTraces = false) (hGE : ∀ (A : Nat → Prop) (U : State) (H : Heap), G A U H → p_Ex A U H) (hGF : ∀ (A : Nat → Prop) (U : State) (H : Heap), G A U H → gF A U H) (adK adV : Nat → Nat) (hGK : ∀ (A : Nat → Prop) (U : State) (H : Heap), G A U H → gK adK adV A U H) (hGO : ∀ (A : Nat → Prop) (U : State) (H : Heap), G A U H → va_AO "VillageFeud$Village" U) (hGQ : ∀ (A : Nat → Prop) (U : State) (H : Heap), G A U H → va_AOA .int U) (dT dO : Nat) (hGT : ∀ (A : Nat → Prop) (U : State) (H : Heap), G A U H → gT dT dO A U H) (hGU : ∀ (A : Nat → Prop) (U : State) (H : Heap), G A U H → gU A U H) (b L : Nat) (xs : Nat → Int32) (hGX : ∀ (A : Nat → Prop) (U : State) (H : Heap), G A U H → gX b L xs A U H) (A : Nat → Prop) (X : p_X p m c cL_law 30 s #[.ref b] RL D cy G A) (hr : meth.sig.returnType = ret) (hlk : meth.locks = false) (hfree : ∀ q, A q → s.heap.size ≤ q) (g1242 : PS → Nat → Nat → Nat → Int32 → Nat → Int32 → Int32 → Nat → Int32 → Int32 → Prop) (ih1242 : ∀ (S : PS) (bc bs : Nat) (l1 : Nat) (l2 : Int32) (l3 : Nat) (l4 : Int32) (l14 : Int32) (l19 : Nat) (l20 : Int32) (l21 : Int32), g1242 S bc bs l1 l2 l3 l4 l14 l19 l20 l21 → ∀ (H : Heap) (locs : List Loc) (ls : Array Slot) (cells slots : Nat), p_H D cy S A s H locs → lv_has ls 30 [(0, .ref b), (1, .ref l1), (2, .int l2), (3, .ref l3), (4, .int l4), (14, .int l14), (19, .ref l19), (20, .int l20), (21, .int l21)] → cells + bc ≤ room_1.cells ∧ slots + bs ≤ room_1.slots → W p l e room_1 s m #[Value.ref b] below meth c H locs cells slots (lw_Z below #[Value.ref b] s) (F0 m 1242 ls [])) : ∀ (S : PS) (bc bs : Nat) (l1 : Nat) (l2 : Int32) (l3 : Nat) (l4 : Int32) (l14 : Int32) (l19 : Nat) (l21 : Int32) (l23 : Int32) (l24 : Int32) (t0 : Int32), f_L_law_J1667 adK L xs g1242 S bc bs l1 l2 l3 l4 l14 l19 l21 l23 l24 t0 → ∀ (H : Heap) (locs : List Loc) (ls : Array Slot) (cells slots : Nat), p_H D cy S A s H locs → lv_has ls 30 [(0, .ref b), (1, .ref l1), (2, .int l2), (3, .ref l3), (4, .int l4), (14, .int l14), (19, .ref l19), (21, .int l21), (23, .int l23), (24, .int l24)] → cells + bc ≤ room_1.cells ∧ slots + bs ≤ room_1.slots → W p l e room_1 s m #[Value.ref b] below meth c H locs cells slots (lw_Z below #[Value.ref b] s) (F0 m 1667 ls [.int t0]) := by
  have hx := X.1.1
  have hb := X.1.2.1
  intro S bc bs l1 l2 l3 l4 l14 l19 l21 l23 l24 t0 hf H locs ls cells slots hH hl hB
  refine lv_istore (lv' := [(20, .int t0), (0, .ref b), (1, .ref l1), (2, .int l2), (3, .ref l3), (4, .int l4), (14, .int l14), (19, .ref l19), (21, .int l21), (23, .int l23), (24, .int l24)]) hx hb dL_law_1667 hl (by decide) rfl (fun ls hl => ?_)
  refine lv_aload hx hb dL_law_1669 (lv_at hl 7 rfl) ?_
  refine lv_iload hx hb dL_law_1671 (lv_at hl 9 rfl) ?_
  refine q_backI0 X hH (q_runS [.int l23] [.ref l19] X hH hl (c_J6_numberOfTrailingZeros_0f7a4 l D cy G X.2.2.2.1 S l23 _ _ hf) mf_J6_numberOfTrailingZeros_0f7a4 tw_1207 tw_1206 ⟨Nat.le_of_ble_eq_true rfl, Nat.le_of_ble_eq_true rfl⟩ rfl (Nat.le_of_ble_eq_true rfl) dL_law_1673 ⟨Nat.le_trans (Nat.le_add_right _ _) hB.1, Nat.le_trans (Nat.le_add_right _ _) hB.2⟩) (fun v2 S1 hf H locs hH => ?_)
  refine lv_iconst (v := 0) hx hb dL_law_1676 (by decide) ?_
  refine q_iast X hH hf dL_law_1677 (fun S3 hf H locs hH => ?_)
  refine lv_aload hx hb dL_law_1678 (lv_at hl 7 rfl) ?_
  refine lv_iload hx hb dL_law_1680 (lv_at hl 10 rfl) ?_
  refine q_backI0 X hH (q_runS [.int l24] [.ref l19] X hH hl (c_J6_numberOfTrailingZeros_0f7a4 l D cy G X.2.2.2.1 S3 l24 _ _ hf) mf_J6_numberOfTrailingZeros_0f7a4 tw_1207 tw_1206 ⟨Nat.le_of_ble_eq_true rfl, Nat.le_of_ble_eq_true rfl⟩ rfl (Nat.le_of_ble_eq_true rfl) dL_law_1682 ⟨Nat.le_trans (Nat.le_add_right _ _) hB.1, Nat.le_trans (Nat.le_add_right _ _) hB.2⟩) (fun v5 S4 hf H locs hH => ?_)
  refine lv_iconst (v := 0) hx hb dL_law_1685 (by decide) ?_
  refine q_iast X hH hf dL_law_1686 (fun S6 hf H locs hH => ?_)
  refine lv_aload hx hb dL_law_1687 (lv_at hl 7 rfl) ?_
  refine lv_iload hx hb dL_law_1689 (lv_at hl 9 rfl) ?_
  refine lv_iload hx hb dL_law_1691 (lv_at hl 10 rfl) ?_
  refine lv_ior hx hb dL_law_1693 ?_
  refine q_backI0 X hH (q_runS [.int (l23 ||| l24)] [.ref l19] X hH hl (c_J6_numberOfTrailingZeros_0f7a4 l D cy G X.2.2.2.1 S6 (l23 ||| l24) _ _ hf) mf_J6_numberOfTrailingZeros_0f7a4 tw_1207 tw_1206 ⟨Nat.le_of_ble_eq_true rfl, Nat.le_of_ble_eq_true rfl⟩ rfl (Nat.le_of_ble_eq_true rfl) dL_law_1694 ⟨Nat.le_trans (Nat.le_add_right _ _) hB.1, Nat.le_trans (Nat.le_add_right _ _) hB.2⟩) (fun v8 S7 hf H locs hH => ?_)
  refine lv_iload hx hb dL_law_1697 (lv_at hl 9 rfl) ?_
  refine lv_iload hx hb dL_law_1699 (lv_at hl 10 rfl) ?_
  refine lv_ior hx hb dL_law_1701 ?_
  refine q_iast X hH hf dL_law_1702 (fun S9 hf H locs hH => ?_)
  refine lv_iinc (v := l21 + 1) (lv' := [(21, .int (l21 + 1)), (20, .int t0), (0, .ref b), (1, .ref l1), (2, .int l2), (3, .ref l3), (4, .int l4), (14, .int l14), (19, .ref l19), (23, .int l23), (24, .int l24)]) hx hb dL_law_1703 hl (k := 8) rfl rfl (by decide) rfl (fun ls hl => ?_)
  refine lv_goto (tgt := 1242) hx hb dL_law_1706 (by decide) ?_
  exact ih1242 S9 bc bs l1 l2 l3 l4 l14 l19 t0 (l21 + 1) hf H locs ls cells slots hH (lv_sub hl [2, 3, 4, 5, 6, 7, 8, 1, 0] rfl) hB
set_option maxHeartbeats 4000000 in
set_option maxRecDepth 100000 in
theorem jL_law_1665 {p : Program} {e : Env} {s : State} {m : MethodId} {below : List Frame} {meth : Method} {c : Code} (l : Launch) (D : va_G) (cy : Nat → ClassId) (G : p_GT) (hGC : ∀ (A : Nat → Prop) (U : State) (H : Heap), G A U H → gC A U H) (hst : l.stackTraces = false) (hGE : ∀ (A : Nat → Prop) (U : State) (H : Heap), G A U H → p_Ex A U H) (hGF : ∀ (A : Nat → Prop) (U : State) (H : Heap), G A U H → gF A U H) (adK adV : Nat → Nat) (hGK : ∀ (A : Nat → Prop) (U : State) (H : Heap), G A U H → gK adK adV A U H) (hGO : ∀ (A : Nat → Prop) (U : State) (H : Heap), G A U H → va_AO "VillageFeud$Village" U) (hGQ : ∀ (A : Nat → Prop) (U : State) (H : Heap), G A U H → va_AOA .int U) (dT dO : Nat) (hGT : ∀ (A : Nat → Prop) (U : State) (H : Heap), G A U H → gT dT dO A U H) (hGU : ∀ (A : Nat → Prop) (U : State) (H : Heap), G A U H → gU A U H) (b L : Nat) (xs : Nat → Int32) (hGX : ∀ (A : Nat → Prop) (U : State) (H : Heap), G A U H → gX b L xs A U H) (A : Nat → Prop) (X : p_X p m c cL_law 30 s #[.ref b] RL D cy G A) (hr : meth.sig.returnType = ret) (hlk : meth.locks = false) (hfree : ∀ q, A q → s.heap.size ≤ q) (g1242 : PS → Nat → Nat → Nat → Int32 → Nat → Int32 → Int32 → Nat → Int32 → Int32 → Prop) (ih1242 : ∀ (S : PS) (bc bs : Nat) (l1 : Nat) (l2 : Int32) (l3 : Nat) (l4 : Int32) (l14 : Int32) (l19 : Nat) (l20 : Int32) (l21 : Int32), g1242 S bc bs l1 l2 l3 l4 l14 l19 l20 l21 → ∀ (H : Heap) (locs : List Loc) (ls : Array Slot) (cells slots : Nat), p_H D cy S A s H locs → lv_has ls 30 [(0, .ref b), (1, .ref l1), (2, .int l2), (3, .ref l3), (4, .int l4), (14, .int l14), (19, .ref l19), (20, .int l20), (21, .int l21)] → cells + bc ≤ room_1.cells ∧ slots + bs ≤ room_1.slots → W p l e room_1 s m #[Value.ref b] below meth c H locs cells slots (lw_Z below #[Value.ref b] s) (F0 m 1242 ls [])) : ∀ (S : PS) (bc bs : Nat) (l1 : Nat) (l2 : Int32) (l3 : Nat) (l4 : Int32) (l14 : Int32) (l19 : Nat) (l20 : Int32) (l21 : Int32) (l23 : Int32) (l24 : Int32), f_L_law_J1665 adK L xs g1242 S bc bs l1 l2 l3 l4 l14 l19 l20 l21 l23 l24 → ∀ (H : Heap) (locs : List Loc) (ls : Array Slot) (cells slots : Nat), p_H D cy S A s H locs → lv_has ls 30 [(0, .ref b), (1, .ref l1), (2, .int l2), (3, .ref l3), (4, .int l4), (14, .int l14), (19, .ref l19), (20, .int l20), (21, .int l21), (23, .int l23), (24, .int l24)] → cells + bc ≤ room_1.cells ∧ slots + bs ≤ room_1.slots → W p l e room_1 s m #[Value.ref b] below meth c H locs cells slots (lw_Z below #[Value.ref b] s) (F0 m 1665 ls []) := by
  have hx := X.1.1
  have hb := X.1.2.1
  have hJ1667 := jL_law_1667 (e := e) (below := below) l D cy G hGC hst hGE hGF adK adV hGK hGO hGQ dT dO hGT hGU b L xs hGX A X hr hlk hfree g1242 ih1242
  intro S bc bs l1 l2 l3 l4 l14 l19 l20 l21 l23 l24 hf H locs ls cells slots hH hl hB
  refine lv_iload hx hb dL_law_1665 (lv_at hl 7 rfl) ?_
  exact hJ1667 S bc bs l1 l2 l3 l4 l14 l19 l21 l23 l24 l20 hf H locs ls cells slots hH (lv_sub hl [0, 1, 2, 3, 4, 5, 6, 8, 9, 10] rfl) hB
set_option maxHeartbeats 4000000 in
set_option maxRecDepth 100000 in
theorem jL_law_1519 {p : Program} {e : Env} {s : State} {m : MethodId} {below : List Frame} {meth : Method} {c : Code} (l : Launch) (D : va_G) (cy : Nat → ClassId) (G : p_GT) (hGC : ∀ (A : Nat → Prop) (U : State) (H : Heap), G A U H → gC A U H) (hst : l.stackTraces = false) (hGE : ∀ (A : Nat → Prop) (U : State) (H : Heap), G A U H → p_Ex A U H) (hGF : ∀ (A : Nat → Prop) (U : State) (H : Heap), G A U H → gF A U H) (adK adV : Nat → Nat) (hGK : ∀ (A : Nat → Prop) (U : State) (H : Heap), G A U H → gK adK adV A U H) (hGO : ∀ (A : Nat → Prop) (U : State) (H : Heap), G A U H → va_AO "VillageFeud$Village" U) (hGQ : ∀ (A : Nat → Prop) (U : State) (H : Heap), G A U H → va_AOA .int U) (dT dO : Nat) (hGT : ∀ (A : Nat → Prop) (U : State) (H : Heap), G A U H → gT dT dO A U H) (hGU : ∀ (A : Nat → Prop) (U : State) (H : Heap), G A U H → gU A U H) (b L : Nat) (xs : Nat → Int32) (hGX : ∀ (A : Nat → Prop) (U : State) (H : Heap), G A U H → gX b L xs A U H) (A : Nat → Prop) (X : p_X p m c cL_law 30 s #[.ref b] RL D cy G A) (hr : meth.sig.returnType = ret) (hlk : meth.locks = false) (hfree : ∀ q, A q → s.heap.size ≤ q) (g1242 : PS → Nat → Nat → Nat → Int32 → Nat → Int32 → Int32 → Nat → Int32 → Int32 → Prop) (ih1242 : ∀ (S : PS) (bc bs : Nat) (l1 : Nat) (l2 : Int32) (l3 : Nat) (l4 : Int32) (l14 : Int32) (l19 : Nat) (l20 : Int32) (l21 : Int32), g1242 S bc bs l1 l2 l3 l4 l14 l19 l20 l21 → ∀ (H : Heap) (locs : List Loc) (ls : Array Slot) (cells slots : Nat), p_H D cy S A s H locs → lv_has ls 30 [(0, .ref b), (1, .ref l1), (2, .int l2), (3, .ref l3), (4, .int l4), (14, .int l14), (19, .ref l19), (20, .int l20), (21, .int l21)] → cells + bc ≤ room_1.cells ∧ slots + bs ≤ room_1.slots → W p l e room_1 s m #[Value.ref b] below meth c H locs cells slots (lw_Z below #[Value.ref b] s) (F0 m 1242 ls [])) : ∀ (S : PS) (bc bs : Nat) (l1 : Nat) (l2 : Int32) (l3 : Nat) (l4 : Int32) (l14 : Int32) (l19 : Nat) (l20 : Int32) (l21 : Int32) (l23 : Int32) (l24 : Int32) (l25 : Int32) (l26 : Nat), f_L_law_J1519 adK L xs g1242 S bc bs l1 l2 l3 l4 l14 l19 l20 l21 l23 l24 l25 l26 → ∀ (H : Heap) (locs : List Loc) (ls : Array Slot) (cells slots : Nat), p_H D cy S A s H locs → lv_has ls 30 [(0, .ref b), (1, .ref l1), (2, .int l2), (3, .ref l3), (4, .int l4), (14, .int l14), (19, .ref l19), (20, .int l20), (21, .int l21), (23, .int l23), (24, .int l24), (25, .int l25), (26, .ref l26)] → cells + bc ≤ room_1.cells ∧ slots + bs ≤ room_1.slots → W p l e room_1 s m #[Value.ref b] below meth c H locs cells slots (lw_Z below #[Value.ref b] s) (F0 m 1519 ls []) := by
  have hx := X.1.1
  have hb := X.1.2.1
  have hJ1665 := jL_law_1665 (e := e) (below := below) l D cy G hGC hst hGE hGF adK adV hGK hGO hGQ dT dO hGT hGU b L xs hGX A X hr hlk hfree g1242 ih1242
  have hJ1667 := jL_law_1667 (e := e) (below := below) l D cy G hGC hst hGE hGF adK adV hGK hGO hGQ dT dO hGT hGU b L xs hGX A X hr hlk hfree g1242 ih1242
  intro S bc bs l1 l2 l3 l4 l14 l19 l20 l21 l23 l24 l25 l26 hf H locs ls cells slots hH hl hB
  refine lv_aload_n hx hb dL_law_1519 rfl (lv_at hl 1 rfl) ?_
  refine lv_iload hx hb dL_law_1520 (lv_at hl 8 rfl) ?_
  refine lv_iconst (v := 0) hx hb dL_law_1522 (by decide) ?_
  obtain ⟨hb1, hb2, mc2, ms2, hm1, hs1, hf⟩ := hf
  refine q_callXi X hH hB hm1 hs1 (q_runVx [.int l21, .int 0] [] X hH hl (c_X7_phaseOf l D cy G X.2.2.2.1 hst hGE S l1 l21 0 mc2 ms2 _ _ _ hf) mf_X7_phaseOf mv_X7_phaseOf tw_448 ⟨Nat.le_of_ble_eq_true rfl, Nat.le_of_ble_eq_true rfl⟩ hb1 hb2 (T := TX7) (N := 12) rfl rfl (Nat.le_of_ble_eq_true rfl) dL_law_1523 ⟨Nat.le_trans (Nat.add_le_add_left hm1 _) hB.1, Nat.le_trans (Nat.add_le_add_left hs1 _) hB.2⟩) (fun _ _ _ _ hf _ _ _ _ _ _ _ _ _ => hf.elim) (fun v3 S1 hf H locs cells slots hH hB => ?_)
  refine lv_iload hx hb dL_law_1526 (lv_at hl 11 rfl) ?_
  refine lv_icmp_ne (tgt := 1643) hx hb dL_law_1528 (by decide) (fun c4 => ?_) (fun c4 => ?_)
  · have hf := (if_neg c4).mp hf
    refine lv_iconst (v := 0) hx hb dL_law_1643 (by decide) ?_
    exact hf.elim
  · have hf := (if_pos c4).mp hf
    refine lv_aload_n hx hb dL_law_1531 rfl (lv_at hl 1 rfl) ?_
    refine lv_iload hx hb dL_law_1532 (lv_at hl 8 rfl) ?_
    refine lv_iconst (v := 1) hx hb dL_law_1534 (by decide) ?_
    obtain ⟨hb1, hb2, mc6, ms6, hm1, hs1, hf⟩ := hf
    refine q_callXi X hH hB hm1 hs1 (q_runVx [.int l21, .int 1] [] X hH hl (c_X7_phaseOf l D cy G X.2.2.2.1 hst hGE S1 l1 l21 1 mc6 ms6 _ _ _ hf) mf_X7_phaseOf mv_X7_phaseOf tw_448 ⟨Nat.le_of_ble_eq_true rfl, Nat.le_of_ble_eq_true rfl⟩ hb1 hb2 (T := TX7) (N := 12) rfl rfl (Nat.le_of_ble_eq_true rfl) dL_law_1535 ⟨Nat.le_trans (Nat.add_le_add_left hm1 _) hB.1, Nat.le_trans (Nat.add_le_add_left hs1 _) hB.2⟩) (fun _ _ _ _ hf _ _ _ _ _ _ _ _ _ => hf.elim) (fun v7 S5 hf H locs cells slots hH hB => ?_)
    refine lv_iload hx hb dL_law_1538 (lv_at hl 4 rfl) ?_
    refine lv_iload hx hb dL_law_1540 (lv_at hl 8 rfl) ?_
    refine lv_isub hx hb dL_law_1542 ?_
    refine lv_icmp_ne (tgt := 1643) hx hb dL_law_1543 (by decide) (fun c8 => ?_) (fun c8 => ?_)
    · have hf := (if_neg c8).mp hf
      refine lv_iconst (v := 0) hx hb dL_law_1643 (by decide) ?_
      exact hf.elim
    · have hf := (if_pos c8).mp hf
      refine lv_aload_n hx hb dL_law_1546 rfl (lv_at hl 1 rfl) ?_
      refine lv_iload hx hb dL_law_1547 (lv_at hl 8 rfl) ?_
      refine lv_iconst (v := 2) hx hb dL_law_1549 (by decide) ?_
      obtain ⟨hb1, hb2, mc10, ms10, hm1, hs1, hf⟩ := hf
      refine q_callXi X hH hB hm1 hs1 (q_runVx [.int l21, .int 2] [] X hH hl (c_X7_phaseOf l D cy G X.2.2.2.1 hst hGE S5 l1 l21 2 mc10 ms10 _ _ _ hf) mf_X7_phaseOf mv_X7_phaseOf tw_448 ⟨Nat.le_of_ble_eq_true rfl, Nat.le_of_ble_eq_true rfl⟩ hb1 hb2 (T := TX7) (N := 12) rfl rfl (Nat.le_of_ble_eq_true rfl) dL_law_1550 ⟨Nat.le_trans (Nat.add_le_add_left hm1 _) hB.1, Nat.le_trans (Nat.add_le_add_left hs1 _) hB.2⟩) (fun _ _ _ _ hf _ _ _ _ _ _ _ _ _ => hf.elim) (fun v11 S9 hf H locs cells slots hH hB => ?_)
      refine lv_iload hx hb dL_law_1553 (lv_at hl 9 rfl) ?_
      refine q_backI0 X hH (q_runS [.int l23] [.int v11] X hH hl (c_J6_numberOfTrailingZeros_0f7a4 l D cy G X.2.2.2.1 S9 l23 _ _ hf) mf_J6_numberOfTrailingZeros_0f7a4 tw_1207 tw_1206 ⟨Nat.le_of_ble_eq_true rfl, Nat.le_of_ble_eq_true rfl⟩ rfl (Nat.le_of_ble_eq_true rfl) dL_law_1555 ⟨Nat.le_trans (Nat.le_add_right _ _) hB.1, Nat.le_trans (Nat.le_add_right _ _) hB.2⟩) (fun v13 S12 hf H locs hH => ?_)
      refine lv_icmp_ne (tgt := 1643) hx hb dL_law_1558 (by decide) (fun c14 => ?_) (fun c14 => ?_)
      · have hf := (if_neg c14).mp hf
        refine lv_iconst (v := 0) hx hb dL_law_1643 (by decide) ?_
        exact hf.elim
      · have hf := (if_pos c14).mp hf
        refine lv_aload_n hx hb dL_law_1561 rfl (lv_at hl 1 rfl) ?_
        refine lv_iload hx hb dL_law_1562 (lv_at hl 8 rfl) ?_
        refine lv_iconst (v := 3) hx hb dL_law_1564 (by decide) ?_
        obtain ⟨hb1, hb2, mc16, ms16, hm1, hs1, hf⟩ := hf
        refine q_callXi X hH hB hm1 hs1 (q_runVx [.int l21, .int 3] [] X hH hl (c_X7_phaseOf l D cy G X.2.2.2.1 hst hGE S12 l1 l21 3 mc16 ms16 _ _ _ hf) mf_X7_phaseOf mv_X7_phaseOf tw_448 ⟨Nat.le_of_ble_eq_true rfl, Nat.le_of_ble_eq_true rfl⟩ hb1 hb2 (T := TX7) (N := 12) rfl rfl (Nat.le_of_ble_eq_true rfl) dL_law_1565 ⟨Nat.le_trans (Nat.add_le_add_left hm1 _) hB.1, Nat.le_trans (Nat.add_le_add_left hs1 _) hB.2⟩) (fun _ _ _ _ hf _ _ _ _ _ _ _ _ _ => hf.elim) (fun v17 S15 hf H locs cells slots hH hB => ?_)
        refine lv_iload hx hb dL_law_1568 (lv_at hl 10 rfl) ?_
        refine q_backI0 X hH (q_runS [.int l24] [.int v17] X hH hl (c_J6_numberOfTrailingZeros_0f7a4 l D cy G X.2.2.2.1 S15 l24 _ _ hf) mf_J6_numberOfTrailingZeros_0f7a4 tw_1207 tw_1206 ⟨Nat.le_of_ble_eq_true rfl, Nat.le_of_ble_eq_true rfl⟩ rfl (Nat.le_of_ble_eq_true rfl) dL_law_1570 ⟨Nat.le_trans (Nat.le_add_right _ _) hB.1, Nat.le_trans (Nat.le_add_right _ _) hB.2⟩) (fun v19 S18 hf H locs hH => ?_)
        refine lv_icmp_ne (tgt := 1643) hx hb dL_law_1573 (by decide) (fun c20 => ?_) (fun c20 => ?_)
        · have hf := (if_neg c20).mp hf
          refine lv_iconst (v := 0) hx hb dL_law_1643 (by decide) ?_
          exact hf.elim
        · have hf := (if_pos c20).mp hf
          refine lv_aload_n hx hb dL_law_1576 rfl (lv_at hl 1 rfl) ?_
          refine lv_iload hx hb dL_law_1577 (lv_at hl 8 rfl) ?_
          refine lv_iconst (v := 4) hx hb dL_law_1579 (by decide) ?_
          obtain ⟨hb1, hb2, mc22, ms22, hm1, hs1, hf⟩ := hf
          refine q_callXi X hH hB hm1 hs1 (q_runVx [.int l21, .int 4] [] X hH hl (c_X7_phaseOf l D cy G X.2.2.2.1 hst hGE S18 l1 l21 4 mc22 ms22 _ _ _ hf) mf_X7_phaseOf mv_X7_phaseOf tw_448 ⟨Nat.le_of_ble_eq_true rfl, Nat.le_of_ble_eq_true rfl⟩ hb1 hb2 (T := TX7) (N := 12) rfl rfl (Nat.le_of_ble_eq_true rfl) dL_law_1580 ⟨Nat.le_trans (Nat.add_le_add_left hm1 _) hB.1, Nat.le_trans (Nat.add_le_add_left hs1 _) hB.2⟩) (fun _ _ _ _ hf _ _ _ _ _ _ _ _ _ => hf.elim) (fun v23 S21 hf H locs cells slots hH hB => ?_)
          refine lv_iload hx hb dL_law_1583 (lv_at hl 9 rfl) ?_
          refine lv_icmp_ne (tgt := 1643) hx hb dL_law_1585 (by decide) (fun c24 => ?_) (fun c24 => ?_)
          · have hf := (if_neg c24).mp hf
            refine lv_iconst (v := 0) hx hb dL_law_1643 (by decide) ?_
            exact hf.elim
          · have hf := (if_pos c24).mp hf
            refine lv_aload_n hx hb dL_law_1588 rfl (lv_at hl 1 rfl) ?_
            refine lv_iload hx hb dL_law_1589 (lv_at hl 8 rfl) ?_
            refine lv_iload hx hb dL_law_1591 (lv_at hl 4 rfl) ?_
            refine lv_iload hx hb dL_law_1593 (lv_at hl 8 rfl) ?_
            refine lv_isub hx hb dL_law_1595 ?_
            obtain ⟨mc26, ms26, hm1, hs1, hf⟩ := hf
            refine q_callXi X hH hB hm1 hs1 (q_runSx [.ref l1, .int l21, .int (l4 - l21)] [] X hH hl (c_L_joined l D cy G X.2.2.2.1 hst hGE S21 l1 l21 (l4 - l21) mc26 ms26 _ _ hf) mw_L_joined tw_897 tw_896 ⟨Nat.le_of_ble_eq_true rfl, Nat.le_of_ble_eq_true rfl⟩ rfl (Nat.le_of_ble_eq_true rfl) dL_law_1596 ⟨Nat.le_trans (Nat.add_le_add_left hm1 _) hB.1, Nat.le_trans (Nat.add_le_add_left hs1 _) hB.2⟩) (fun _ _ _ _ hf _ _ _ _ _ _ _ _ _ => hf.elim) (fun v27 S25 hf H locs cells slots hH hB => ?_)
            refine lv_sipush (v := (-30000)) hx hb dL_law_1599 (by decide) ?_
            refine lv_icmp_ne (tgt := 1643) hx hb dL_law_1602 (by decide) (fun c28 => ?_) (fun c28 => ?_)
            · have hf := (if_neg c28).mp hf
              refine lv_iconst (v := 0) hx hb dL_law_1643 (by decide) ?_
              exact hf.elim
            · have hf := (if_pos c28).mp hf
              refine lv_aload_n hx hb dL_law_1605 rfl (lv_at hl 1 rfl) ?_
              refine lv_aload_n hx hb dL_law_1606 rfl (lv_at hl 1 rfl) ?_
              refine lv_iload hx hb dL_law_1607 (lv_at hl 8 rfl) ?_
              obtain ⟨hb1, hb2, mc30, ms30, hm1, hs1, hf⟩ := hf
              refine q_callXi X hH hB hm1 hs1 (q_runVx [.int l21] [.ref l1] X hH hl (c_X7_tellPhase l D cy G X.2.2.2.1 hGC hst hGE dT dO hGT hGU S25 l1 l21 mc30 ms30 _ _ _ hf) mf_X7_tellPhase mv_X7_tellPhase tw_823 ⟨Nat.le_of_ble_eq_true rfl, Nat.le_of_ble_eq_true rfl⟩ hb1 hb2 (T := TX7) (N := 12) rfl rfl (Nat.le_of_ble_eq_true rfl) dL_law_1609 ⟨Nat.le_trans (Nat.add_le_add_left hm1 _) hB.1, Nat.le_trans (Nat.add_le_add_left hs1 _) hB.2⟩) (fun _ _ _ _ hf _ _ _ _ _ _ _ _ _ => hf.elim) (fun v31 S29 hf H locs cells slots hH hB => ?_)
              refine q_new (T := TJ4) (N := 4) X hH hB hf iw_J4 tyJ4 tyJ4_ok rfl tw_1211 tw_178 tw_38 (fun j hj => by rcases (show j = 0 ∨ j = 1 ∨ j = 2 ∨ j = 3 by omega) with rfl | rfl | rfl | rfl <;> rfl) dL_law_1612 (fun q32 S33 bc34 bs35 hf H locs cells slots hH hB => ?_)
              refine lv_dup hx hb dL_law_1615 rfl ?_
              obtain ⟨mc37, ms37, hm1, hs1, hf⟩ := hf
              refine q_backVB X hH hB hm1 hs1 (q_runI [] [.ref q32, .int v31, .ref l1] X hH hl (c_J4_init_da8c8 l D cy G X.2.2.2.1 hGC S33 q32 mc37 ms37 _ _ hf) mf_J4_init_da8c8 tw_180 tw_1212 ⟨Nat.le_of_ble_eq_true rfl, Nat.le_of_ble_eq_true rfl⟩ rfl (Nat.le_of_ble_eq_true rfl) dL_law_1616 ⟨Nat.le_trans (Nat.add_le_add_left hm1 _) hB.1, Nat.le_trans (Nat.add_le_add_left hs1 _) hB.2⟩) (fun S36 hf H locs cells slots hH hB => ?_)
              refine lv_aload hx hb dL_law_1619 (lv_at hl 12 rfl) ?_
              obtain ⟨hb1, hb2, hf⟩ := hf
              obtain ⟨mc40, ms40, hm1, hs1, hf⟩ := hf
              refine q_backRB X hH hB hm1 hs1 (q_runV [.ref l26] [.int v31, .ref l1] X hH hl (c_J4_append_15ec4_u l D cy G X.2.2.2.1 hGC adK adV hGK hGU S36 q32 l26 mc40 ms40 _ _ hf) mf_J4_append_15ec4 mv_J4_append_15ec4 tw_1213 ⟨Nat.le_of_ble_eq_true rfl, Nat.le_of_ble_eq_true rfl⟩ hb1 hb2 (T := TJ4) (N := 4) rfl rfl (Nat.le_of_ble_eq_true rfl) dL_law_1621 ⟨Nat.le_trans (Nat.add_le_add_left hm1 _) hB.1, Nat.le_trans (Nat.add_le_add_left hs1 _) hB.2⟩) (fun v41 S39 hf H locs cells slots hH hB => ?_)
              refine q_ldcK (i := 2) X (hGK _ _ _ X.2.2.2.2) (by decide) rfl dL_law_1624 ?_
              obtain ⟨hb1, hb2, hf⟩ := hf
              obtain ⟨mc43, ms43, hm1, hs1, hf⟩ := hf
              refine q_backRB X hH hB hm1 hs1 (q_runV [.ref (adK 2)] [.int v31, .ref l1] X hH hl (c_J4_append_15ec4_u l D cy G X.2.2.2.1 hGC adK adV hGK hGU S39 v41 (adK 2) mc43 ms43 _ _ hf) mf_J4_append_15ec4 mv_J4_append_15ec4 tw_1213 ⟨Nat.le_of_ble_eq_true rfl, Nat.le_of_ble_eq_true rfl⟩ hb1 hb2 (T := TJ4) (N := 4) rfl rfl (Nat.le_of_ble_eq_true rfl) dL_law_1626 ⟨Nat.le_trans (Nat.add_le_add_left hm1 _) hB.1, Nat.le_trans (Nat.add_le_add_left hs1 _) hB.2⟩) (fun v44 S42 hf H locs cells slots hH hB => ?_)
              refine lv_iload hx hb dL_law_1629 (lv_at hl 11 rfl) ?_
              obtain ⟨hb1, hb2, hf⟩ := hf
              obtain ⟨mc46, ms46, hm1, hs1, hf⟩ := hf
              refine q_backRB X hH hB hm1 hs1 (q_runV [.int l25] [.int v31, .ref l1] X hH hl (c_J4_append_bf812 l D cy G X.2.2.2.1 hGC dT dO hGT hGU S42 v44 l25 mc46 ms46 _ _ hf) mf_J4_append_bf812 mv_J4_append_bf812 tw_1243 ⟨Nat.le_of_ble_eq_true rfl, Nat.le_of_ble_eq_true rfl⟩ hb1 hb2 (T := TJ4) (N := 4) rfl rfl (Nat.le_of_ble_eq_true rfl) dL_law_1631 ⟨Nat.le_trans (Nat.add_le_add_left hm1 _) hB.1, Nat.le_trans (Nat.add_le_add_left hs1 _) hB.2⟩) (fun v47 S45 hf H locs cells slots hH hB => ?_)
              obtain ⟨hb1, hb2, hf⟩ := hf
              obtain ⟨mc49, ms49, hm1, hs1, hf⟩ := hf
              refine q_backRB X hH hB hm1 hs1 (q_runV [] [.int v31, .ref l1] X hH hl (c_J4_toString_0e30d l D cy G X.2.2.2.1 hGC hst hGE S45 v47 mc49 ms49 _ _ hf) mf_J4_toString_0e30d mv_J4_toString_0e30d tw_1244 ⟨Nat.le_of_ble_eq_true rfl, Nat.le_of_ble_eq_true rfl⟩ hb1 hb2 (T := TJ4) (N := 4) rfl rfl (Nat.le_of_ble_eq_true rfl) dL_law_1634 ⟨Nat.le_trans (Nat.add_le_add_left hm1 _) hB.1, Nat.le_trans (Nat.add_le_add_left hs1 _) hB.2⟩) (fun v50 S48 hf H locs cells slots hH hB => ?_)
              obtain ⟨mc52, ms52, hm1, hs1, hf⟩ := hf
              refine q_backIB X hH hB hm1 hs1 (q_runS [.ref l1, .int v31, .ref v50] [] X hH hl (c_L_isLine l D cy G X.2.2.2.1 hGC hst hGE hGF adK adV hGK S48 l1 v31 v50 mc52 ms52 _ _ hf) mf_L_isLine tw_1162 tw_1161 ⟨Nat.le_of_ble_eq_true rfl, Nat.le_of_ble_eq_true rfl⟩ rfl (Nat.le_of_ble_eq_true rfl) dL_law_1637 ⟨Nat.le_trans (Nat.add_le_add_left hm1 _) hB.1, Nat.le_trans (Nat.add_le_add_left hs1 _) hB.2⟩) (fun v53 S51 hf H locs cells slots hH hB => ?_)
              refine lv_if_ne (tgt := 1645) hx hb dL_law_1640 (by decide) (fun c54 => ?_) (fun c54 => ?_)
              · have hf := (if_neg c54).mp hf
                refine lv_iload hx hb dL_law_1645 (lv_at hl 7 rfl) ?_
                refine lv_sipush (v := (-30000)) hx hb dL_law_1647 (by decide) ?_
                refine lv_icmp_ne (tgt := 1665) hx hb dL_law_1650 (by decide) (fun c55 => ?_) (fun c55 => ?_)
                · have hf := (if_neg c55).mp hf
                  exact hJ1665 S51 ((((((bc34 - mc37) - mc40) - mc43) - mc46) - mc49) - mc52) ((((((bs35 - ms37) - ms40) - ms43) - ms46) - ms49) - ms52) l1 l2 l3 l4 l14 l19 l20 l21 l23 l24 hf H locs ls cells slots hH (lv_sub hl [0, 1, 2, 3, 4, 5, 6, 7, 8, 9, 10] rfl) hB
                · have hf := (if_pos c55).mp hf
                  refine lv_iload hx hb dL_law_1653 (lv_at hl 11 rfl) ?_
                  refine lv_iload hx hb dL_law_1655 (lv_at hl 5 rfl) ?_
                  refine lv_icmp_ne (tgt := 1665) hx hb dL_law_1657 (by decide) (fun c56 => ?_) (fun c56 => ?_)
                  · have hf := (if_neg c56).mp hf
                    exact hJ1665 S51 ((((((bc34 - mc37) - mc40) - mc43) - mc46) - mc49) - mc52) ((((((bs35 - ms37) - ms40) - ms43) - ms46) - ms49) - ms52) l1 l2 l3 l4 l14 l19 l20 l21 l23 l24 hf H locs ls cells slots hH (lv_sub hl [0, 1, 2, 3, 4, 5, 6, 7, 8, 9, 10] rfl) hB
                  · have hf := (if_pos c56).mp hf
                    refine lv_iload hx hb dL_law_1660 (lv_at hl 8 rfl) ?_
                    refine lv_goto (tgt := 1667) hx hb dL_law_1662 (by decide) ?_
                    exact hJ1667 S51 ((((((bc34 - mc37) - mc40) - mc43) - mc46) - mc49) - mc52) ((((((bs35 - ms37) - ms40) - ms43) - ms46) - ms49) - ms52) l1 l2 l3 l4 l14 l19 l21 l23 l24 l21 hf H locs ls cells slots hH (lv_sub hl [0, 1, 2, 3, 4, 5, 6, 8, 9, 10] rfl) hB
              · have hf := (if_pos c54).mp hf
                refine lv_iconst (v := 0) hx hb dL_law_1643 (by decide) ?_
                exact hf.elim
set_option maxHeartbeats 4000000 in
set_option maxRecDepth 100000 in
theorem jL_law_1498 {p : Program} {e : Env} {s : State} {m : MethodId} {below : List Frame} {meth : Method} {c : Code} (l : Launch) (D : va_G) (cy : Nat → ClassId) (G : p_GT) (hGC : ∀ (A : Nat → Prop) (U : State) (H : Heap), G A U H → gC A U H) (hst : l.stackTraces = false) (hGE : ∀ (A : Nat → Prop) (U : State) (H : Heap), G A U H → p_Ex A U H) (hGF : ∀ (A : Nat → Prop) (U : State) (H : Heap), G A U H → gF A U H) (adK adV : Nat → Nat) (hGK : ∀ (A : Nat → Prop) (U : State) (H : Heap), G A U H → gK adK adV A U H) (hGO : ∀ (A : Nat → Prop) (U : State) (H : Heap), G A U H → va_AO "VillageFeud$Village" U) (hGQ : ∀ (A : Nat → Prop) (U : State) (H : Heap), G A U H → va_AOA .int U) (dT dO : Nat) (hGT : ∀ (A : Nat → Prop) (U : State) (H : Heap), G A U H → gT dT dO A U H) (hGU : ∀ (A : Nat → Prop) (U : State) (H : Heap), G A U H → gU A U H) (b L : Nat) (xs : Nat → Int32) (hGX : ∀ (A : Nat → Prop) (U : State) (H : Heap), G A U H → gX b L xs A U H) (A : Nat → Prop) (X : p_X p m c cL_law 30 s #[.ref b] RL D cy G A) (hr : meth.sig.returnType = ret) (hlk : meth.locks = false) (hfree : ∀ q, A q → s.heap.size ≤ q) (g1270 : PS → Nat → Nat → Nat → Int32 → Nat → Int32 → Int32 → Nat → Int32 → Int32 → Int32 → Int32 → Int32 → Int32 → Nat → Int32 → Prop) (ih1270 : ∀ (S : PS) (bc bs : Nat) (l1 : Nat) (l2 : Int32) (l3 : Nat) (l4 : Int32) (l14 : Int32) (l19 : Nat) (l20 : Int32) (l21 : Int32) (l22 : Int32) (l23 : Int32) (l24 : Int32) (l25 : Int32) (l26 : Nat) (l27 : Int32), g1270 S bc bs l1 l2 l3 l4 l14 l19 l20 l21 l22 l23 l24 l25 l26 l27 → ∀ (H : Heap) (locs : List Loc) (ls : Array Slot) (cells slots : Nat), p_H D cy S A s H locs → lv_has ls 30 [(0, .ref b), (1, .ref l1), (2, .int l2), (3, .ref l3), (4, .int l4), (14, .int l14), (19, .ref l19), (20, .int l20), (21, .int l21), (22, .int l22), (23, .int l23), (24, .int l24), (25, .int l25), (26, .ref l26), (27, .int l27)] → cells + bc ≤ room_1.cells ∧ slots + bs ≤ room_1.slots → W p l e room_1 s m #[Value.ref b] below meth c H locs cells slots (lw_Z below #[Value.ref b] s) (F0 m 1270 ls [])) : ∀ (S : PS) (bc bs : Nat) (l1 : Nat) (l2 : Int32) (l3 : Nat) (l4 : Int32) (l14 : Int32) (l19 : Nat) (l20 : Int32) (l21 : Int32) (l22 : Int32) (l23 : Int32) (l25 : Int32) (l26 : Nat) (l27 : Int32) (l28 : Int32), f_L_law_J1498 adK L xs g1270 S bc bs l1 l2 l3 l4 l14 l19 l20 l21 l22 l23 l25 l26 l27 l28 → ∀ (H : Heap) (locs : List Loc) (ls : Array Slot) (cells slots : Nat), p_H D cy S A s H locs → lv_has ls 30 [(0, .ref b), (1, .ref l1), (2, .int l2), (3, .ref l3), (4, .int l4), (14, .int l14), (19, .ref l19), (20, .int l20), (21, .int l21), (22, .int l22), (23, .int l23), (25, .int l25), (26, .ref l26), (27, .int l27), (28, .int l28)] → cells + bc ≤ room_1.cells ∧ slots + bs ≤ room_1.slots → W p l e room_1 s m #[Value.ref b] below meth c H locs cells slots (lw_Z below #[Value.ref b] s) (F0 m 1498 ls []) := by
  have hx := X.1.1
  have hb := X.1.2.1
  intro S bc bs l1 l2 l3 l4 l14 l19 l20 l21 l22 l23 l25 l26 l27 l28 hf H locs ls cells slots hH hl hB
  refine lv_iload hx hb dL_law_1498 (lv_at hl 9 rfl) ?_
  refine lv_iload hx hb dL_law_1500 (lv_at hl 14 rfl) ?_
  refine lv_ior hx hb dL_law_1502 ?_
  refine lv_istore (lv' := [(22, .int (l22 ||| l28)), (0, .ref b), (1, .ref l1), (2, .int l2), (3, .ref l3), (4, .int l4), (14, .int l14), (19, .ref l19), (20, .int l20), (21, .int l21), (23, .int l23), (25, .int l25), (26, .ref l26), (27, .int l27), (28, .int l28)]) hx hb dL_law_1503 hl (by decide) rfl (fun ls hl => ?_)
  refine lv_iload hx hb dL_law_1505 (lv_at hl 10 rfl) ?_
  refine lv_istore (lv' := [(24, .int l23), (22, .int (l22 ||| l28)), (0, .ref b), (1, .ref l1), (2, .int l2), (3, .ref l3), (4, .int l4), (14, .int l14), (19, .ref l19), (20, .int l20), (21, .int l21), (23, .int l23), (25, .int l25), (26, .ref l26), (27, .int l27), (28, .int l28)]) hx hb dL_law_1507 hl (by decide) rfl (fun ls hl => ?_)
  refine lv_iload hx hb dL_law_1509 (lv_at hl 15 rfl) ?_
  refine lv_istore (lv' := [(23, .int l28), (24, .int l23), (22, .int (l22 ||| l28)), (0, .ref b), (1, .ref l1), (2, .int l2), (3, .ref l3), (4, .int l4), (14, .int l14), (19, .ref l19), (20, .int l20), (21, .int l21), (25, .int l25), (26, .ref l26), (27, .int l27), (28, .int l28)]) hx hb dL_law_1511 hl (by decide) rfl (fun ls hl => ?_)
  refine lv_iinc (v := l27 + 1) (lv' := [(27, .int (l27 + 1)), (23, .int l28), (24, .int l23), (22, .int (l22 ||| l28)), (0, .ref b), (1, .ref l1), (2, .int l2), (3, .ref l3), (4, .int l4), (14, .int l14), (19, .ref l19), (20, .int l20), (21, .int l21), (25, .int l25), (26, .ref l26), (28, .int l28)]) hx hb dL_law_1513 hl (k := 14) rfl rfl (by decide) rfl (fun ls hl => ?_)
  refine lv_goto (tgt := 1270) hx hb dL_law_1516 (by decide) ?_
  exact ih1270 S bc bs l1 l2 l3 l4 l14 l19 l20 l21 (l22 ||| l28) l28 l23 l25 l26 (l27 + 1) hf H locs ls cells slots hH (lv_sub hl [4, 5, 6, 7, 8, 9, 10, 11, 12, 3, 1, 2, 13, 14, 0] rfl) hB
set_option maxHeartbeats 4000000 in
set_option maxRecDepth 100000 in
theorem jL_law_1484 {p : Program} {e : Env} {s : State} {m : MethodId} {below : List Frame} {meth : Method} {c : Code} (l : Launch) (D : va_G) (cy : Nat → ClassId) (G : p_GT) (hGC : ∀ (A : Nat → Prop) (U : State) (H : Heap), G A U H → gC A U H) (hst : l.stackTraces = false) (hGE : ∀ (A : Nat → Prop) (U : State) (H : Heap), G A U H → p_Ex A U H) (hGF : ∀ (A : Nat → Prop) (U : State) (H : Heap), G A U H → gF A U H) (adK adV : Nat → Nat) (hGK : ∀ (A : Nat → Prop) (U : State) (H : Heap), G A U H → gK adK adV A U H) (hGO : ∀ (A : Nat → Prop) (U : State) (H : Heap), G A U H → va_AO "VillageFeud$Village" U) (hGQ : ∀ (A : Nat → Prop) (U : State) (H : Heap), G A U H → va_AOA .int U) (dT dO : Nat) (hGT : ∀ (A : Nat → Prop) (U : State) (H : Heap), G A U H → gT dT dO A U H) (hGU : ∀ (A : Nat → Prop) (U : State) (H : Heap), G A U H → gU A U H) (b L : Nat) (xs : Nat → Int32) (hGX : ∀ (A : Nat → Prop) (U : State) (H : Heap), G A U H → gX b L xs A U H) (A : Nat → Prop) (X : p_X p m c cL_law 30 s #[.ref b] RL D cy G A) (hr : meth.sig.returnType = ret) (hlk : meth.locks = false) (hfree : ∀ q, A q → s.heap.size ≤ q) (g1429 : PS → Nat → Nat → Nat → Int32 → Nat → Int32 → Int32 → Nat → Int32 → Int32 → Int32 → Int32 → Int32 → Nat → Int32 → Int32 → Int32 → Prop) (ih1429 : ∀ (S : PS) (bc bs : Nat) (l1 : Nat) (l2 : Int32) (l3 : Nat) (l4 : Int32) (l14 : Int32) (l19 : Nat) (l20 : Int32) (l21 : Int32) (l22 : Int32) (l23 : Int32) (l25 : Int32) (l26 : Nat) (l27 : Int32) (l28 : Int32) (l29 : Int32), g1429 S bc bs l1 l2 l3 l4 l14 l19 l20 l21 l22 l23 l25 l26 l27 l28 l29 → ∀ (H : Heap) (locs : List Loc) (ls : Array Slot) (cells slots : Nat), p_H D cy S A s H locs → lv_has ls 30 [(0, .ref b), (1, .ref l1), (2, .int l2), (3, .ref l3), (4, .int l4), (14, .int l14), (19, .ref l19), (20, .int l20), (21, .int l21), (22, .int l22), (23, .int l23), (25, .int l25), (26, .ref l26), (27, .int l27), (28, .int l28), (29, .int l29)] → cells + bc ≤ room_1.cells ∧ slots + bs ≤ room_1.slots → W p l e room_1 s m #[Value.ref b] below meth c H locs cells slots (lw_Z below #[Value.ref b] s) (F0 m 1429 ls [])) : ∀ (S : PS) (bc bs : Nat) (l1 : Nat) (l2 : Int32) (l3 : Nat) (l4 : Int32) (l14 : Int32) (l19 : Nat) (l20 : Int32) (l21 : Int32) (l22 : Int32) (l23 : Int32) (l25 : Int32) (l27 : Int32) (l28 : Int32) (l29 : Int32) (t0 : Nat) (t1 : Nat), f_L_law_J1484 adK L xs g1429 S bc bs l1 l2 l3 l4 l14 l19 l20 l21 l22 l23 l25 l27 l28 l29 t0 t1 → ∀ (H : Heap) (locs : List Loc) (ls : Array Slot) (cells slots : Nat), p_H D cy S A s H locs → lv_has ls 30 [(0, .ref b), (1, .ref l1), (2, .int l2), (3, .ref l3), (4, .int l4), (14, .int l14), (19, .ref l19), (20, .int l20), (21, .int l21), (22, .int l22), (23, .int l23), (25, .int l25), (27, .int l27), (28, .int l28), (29, .int l29)] → cells + bc ≤ room_1.cells ∧ slots + bs ≤ room_1.slots → W p l e room_1 s m #[Value.ref b] below meth c H locs cells slots (lw_Z below #[Value.ref b] s) (F0 m 1484 ls [.ref t0, .ref t1]) := by
  have hx := X.1.1
  have hb := X.1.2.1
  intro S bc bs l1 l2 l3 l4 l14 l19 l20 l21 l22 l23 l25 l27 l28 l29 t0 t1 hf H locs ls cells slots hH hl hB
  obtain ⟨hb1, hb2, hf⟩ := hf
  obtain ⟨mc2, ms2, hm1, hs1, hf⟩ := hf
  refine q_backRB X hH hB hm1 hs1 (q_runV [.ref t0] [] X hH hl (c_J4_append_15ec4_u l D cy G X.2.2.2.1 hGC adK adV hGK hGU S t1 t0 mc2 ms2 _ _ hf) mf_J4_append_15ec4 mv_J4_append_15ec4 tw_1213 ⟨Nat.le_of_ble_eq_true rfl, Nat.le_of_ble_eq_true rfl⟩ hb1 hb2 (T := TJ4) (N := 4) rfl rfl (Nat.le_of_ble_eq_true rfl) dL_law_1484 ⟨Nat.le_trans (Nat.add_le_add_left hm1 _) hB.1, Nat.le_trans (Nat.add_le_add_left hs1 _) hB.2⟩) (fun v3 S1 hf H locs cells slots hH hB => ?_)
  obtain ⟨hb1, hb2, hf⟩ := hf
  obtain ⟨mc5, ms5, hm1, hs1, hf⟩ := hf
  refine q_backRB X hH hB hm1 hs1 (q_runV [] [] X hH hl (c_J4_toString_0e30d l D cy G X.2.2.2.1 hGC hst hGE S1 v3 mc5 ms5 _ _ hf) mf_J4_toString_0e30d mv_J4_toString_0e30d tw_1244 ⟨Nat.le_of_ble_eq_true rfl, Nat.le_of_ble_eq_true rfl⟩ hb1 hb2 (T := TJ4) (N := 4) rfl rfl (Nat.le_of_ble_eq_true rfl) dL_law_1487 ⟨Nat.le_trans (Nat.add_le_add_left hm1 _) hB.1, Nat.le_trans (Nat.add_le_add_left hs1 _) hB.2⟩) (fun v6 S4 hf H locs cells slots hH hB => ?_)
  refine lv_astore (lv' := [(26, .ref v6), (0, .ref b), (1, .ref l1), (2, .int l2), (3, .ref l3), (4, .int l4), (14, .int l14), (19, .ref l19), (20, .int l20), (21, .int l21), (22, .int l22), (23, .int l23), (25, .int l25), (27, .int l27), (28, .int l28), (29, .int l29)]) hx hb dL_law_1490 hl (by decide) rfl (fun ls hl => ?_)
  refine lv_iinc (v := l29 + 1) (lv' := [(29, .int (l29 + 1)), (26, .ref v6), (0, .ref b), (1, .ref l1), (2, .int l2), (3, .ref l3), (4, .int l4), (14, .int l14), (19, .ref l19), (20, .int l20), (21, .int l21), (22, .int l22), (23, .int l23), (25, .int l25), (27, .int l27), (28, .int l28)]) hx hb dL_law_1492 hl (k := 15) rfl rfl (by decide) rfl (fun ls hl => ?_)
  refine lv_goto (tgt := 1429) hx hb dL_law_1495 (by decide) ?_
  exact ih1429 S4 ((bc - mc2) - mc5) ((bs - ms2) - ms5) l1 l2 l3 l4 l14 l19 l20 l21 l22 l23 l25 v6 l27 l28 (l29 + 1) hf H locs ls cells slots hH (lv_sub hl [2, 3, 4, 5, 6, 7, 8, 9, 10, 11, 12, 13, 1, 14, 15, 0] rfl) hB
set_option maxHeartbeats 4000000 in
set_option maxRecDepth 100000 in
theorem jL_law_1429 {p : Program} {e : Env} {s : State} {m : MethodId} {below : List Frame} {meth : Method} {c : Code} (l : Launch) (D : va_G) (cy : Nat → ClassId) (G : p_GT) (hGC : ∀ (A : Nat → Prop) (U : State) (H : Heap), G A U H → gC A U H) (hst : l.stackTraces = false) (hGE : ∀ (A : Nat → Prop) (U : State) (H : Heap), G A U H → p_Ex A U H) (hGF : ∀ (A : Nat → Prop) (U : State) (H : Heap), G A U H → gF A U H) (adK adV : Nat → Nat) (hGK : ∀ (A : Nat → Prop) (U : State) (H : Heap), G A U H → gK adK adV A U H) (hGO : ∀ (A : Nat → Prop) (U : State) (H : Heap), G A U H → va_AO "VillageFeud$Village" U) (hGQ : ∀ (A : Nat → Prop) (U : State) (H : Heap), G A U H → va_AOA .int U) (dT dO : Nat) (hGT : ∀ (A : Nat → Prop) (U : State) (H : Heap), G A U H → gT dT dO A U H) (hGU : ∀ (A : Nat → Prop) (U : State) (H : Heap), G A U H → gU A U H) (b L : Nat) (xs : Nat → Int32) (hGX : ∀ (A : Nat → Prop) (U : State) (H : Heap), G A U H → gX b L xs A U H) (A : Nat → Prop) (X : p_X p m c cL_law 30 s #[.ref b] RL D cy G A) (hr : meth.sig.returnType = ret) (hlk : meth.locks = false) (hfree : ∀ q, A q → s.heap.size ≤ q) (g1270 : PS → Nat → Nat → Nat → Int32 → Nat → Int32 → Int32 → Nat → Int32 → Int32 → Int32 → Int32 → Int32 → Int32 → Nat → Int32 → Prop) (ih1270 : ∀ (S : PS) (bc bs : Nat) (l1 : Nat) (l2 : Int32) (l3 : Nat) (l4 : Int32) (l14 : Int32) (l19 : Nat) (l20 : Int32) (l21 : Int32) (l22 : Int32) (l23 : Int32) (l24 : Int32) (l25 : Int32) (l26 : Nat) (l27 : Int32), g1270 S bc bs l1 l2 l3 l4 l14 l19 l20 l21 l22 l23 l24 l25 l26 l27 → ∀ (H : Heap) (locs : List Loc) (ls : Array Slot) (cells slots : Nat), p_H D cy S A s H locs → lv_has ls 30 [(0, .ref b), (1, .ref l1), (2, .int l2), (3, .ref l3), (4, .int l4), (14, .int l14), (19, .ref l19), (20, .int l20), (21, .int l21), (22, .int l22), (23, .int l23), (24, .int l24), (25, .int l25), (26, .ref l26), (27, .int l27)] → cells + bc ≤ room_1.cells ∧ slots + bs ≤ room_1.slots → W p l e room_1 s m #[Value.ref b] below meth c H locs cells slots (lw_Z below #[Value.ref b] s) (F0 m 1270 ls [])) : ∀ (n1429 : Nat) (S : PS) (bc bs : Nat) (l1 : Nat) (l2 : Int32) (l3 : Nat) (l4 : Int32) (l14 : Int32) (l19 : Nat) (l20 : Int32) (l21 : Int32) (l22 : Int32) (l23 : Int32) (l25 : Int32) (l26 : Nat) (l27 : Int32) (l28 : Int32) (l29 : Int32), f_L_law_L1429 adK L xs g1270 n1429 S bc bs l1 l2 l3 l4 l14 l19 l20 l21 l22 l23 l25 l26 l27 l28 l29 → ∀ (H : Heap) (locs : List Loc) (ls : Array Slot) (cells slots : Nat), p_H D cy S A s H locs → lv_has ls 30 [(0, .ref b), (1, .ref l1), (2, .int l2), (3, .ref l3), (4, .int l4), (14, .int l14), (19, .ref l19), (20, .int l20), (21, .int l21), (22, .int l22), (23, .int l23), (25, .int l25), (26, .ref l26), (27, .int l27), (28, .int l28), (29, .int l29)] → cells + bc ≤ room_1.cells ∧ slots + bs ≤ room_1.slots → W p l e room_1 s m #[Value.ref b] below meth c H locs cells slots (lw_Z below #[Value.ref b] s) (F0 m 1429 ls []) := by
  have hx := X.1.1
  have hb := X.1.2.1
  intro n1429
  induction n1429 with
  | zero => intro S bc bs l1 l2 l3 l4 l14 l19 l20 l21 l22 l23 l25 l26 l27 l28 l29 hf; exact hf.elim
  | succ n1429 ih1429 =>
    have hJ1484 := jL_law_1484 (e := e) (below := below) l D cy G hGC hst hGE hGF adK adV hGK hGO hGQ dT dO hGT hGU b L xs hGX A X hr hlk hfree (f_L_law_L1429 adK L xs g1270 n1429) ih1429
    have hJ1498 := jL_law_1498 (e := e) (below := below) l D cy G hGC hst hGE hGF adK adV hGK hGO hGQ dT dO hGT hGU b L xs hGX A X hr hlk hfree g1270 ih1270
    intro S bc bs l1 l2 l3 l4 l14 l19 l20 l21 l22 l23 l25 l26 l27 l28 l29 hf H locs ls cells slots hH hl hB
    refine lv_iload hx hb dL_law_1429 (lv_at hl 15 rfl) ?_
    refine lv_iload hx hb dL_law_1431 (lv_at hl 4 rfl) ?_
    refine lv_icmp_ge (tgt := 1498) hx hb dL_law_1433 (by decide) (fun c1 => ?_) (fun c1 => ?_)
    · have hf := (if_pos c1).mp hf
      exact hJ1498 S bc bs l1 l2 l3 l4 l14 l19 l20 l21 l22 l23 l25 l26 l27 l28 hf H locs ls cells slots hH (lv_sub hl [0, 1, 2, 3, 4, 5, 6, 7, 8, 9, 10, 11, 12, 13, 14] rfl) hB
    · have hf := (if_neg c1).mp hf
      refine q_new (T := TJ4) (N := 4) X hH hB hf iw_J4 tyJ4 tyJ4_ok rfl tw_1211 tw_178 tw_38 (fun j hj => by rcases (show j = 0 ∨ j = 1 ∨ j = 2 ∨ j = 3 by omega) with rfl | rfl | rfl | rfl <;> rfl) dL_law_1436 (fun q2 S3 bc4 bs5 hf H locs cells slots hH hB => ?_)
      refine lv_dup hx hb dL_law_1439 rfl ?_
      obtain ⟨mc7, ms7, hm1, hs1, hf⟩ := hf
      refine q_backVB X hH hB hm1 hs1 (q_runI [] [.ref q2] X hH hl (c_J4_init_da8c8 l D cy G X.2.2.2.1 hGC S3 q2 mc7 ms7 _ _ hf) mf_J4_init_da8c8 tw_180 tw_1212 ⟨Nat.le_of_ble_eq_true rfl, Nat.le_of_ble_eq_true rfl⟩ rfl (Nat.le_of_ble_eq_true rfl) dL_law_1440 ⟨Nat.le_trans (Nat.add_le_add_left hm1 _) hB.1, Nat.le_trans (Nat.add_le_add_left hs1 _) hB.2⟩) (fun S6 hf H locs cells slots hH hB => ?_)
      refine lv_aload hx hb dL_law_1443 (lv_at hl 12 rfl) ?_
      obtain ⟨hb1, hb2, hf⟩ := hf
      obtain ⟨mc10, ms10, hm1, hs1, hf⟩ := hf
      refine q_backRB X hH hB hm1 hs1 (q_runV [.ref l26] [] X hH hl (c_J4_append_15ec4_u l D cy G X.2.2.2.1 hGC adK adV hGK hGU S6 q2 l26 mc10 ms10 _ _ hf) mf_J4_append_15ec4 mv_J4_append_15ec4 tw_1213 ⟨Nat.le_of_ble_eq_true rfl, Nat.le_of_ble_eq_true rfl⟩ hb1 hb2 (T := TJ4) (N := 4) rfl rfl (Nat.le_of_ble_eq_true rfl) dL_law_1445 ⟨Nat.le_trans (Nat.add_le_add_left hm1 _) hB.1, Nat.le_trans (Nat.add_le_add_left hs1 _) hB.2⟩) (fun v11 S9 hf H locs cells slots hH hB => ?_)
      refine lv_iload hx hb dL_law_1448 (lv_at hl 14 rfl) ?_
      refine lv_iload hx hb dL_law_1450 (lv_at hl 15 rfl) ?_
      refine lv_ishr hx hb dL_law_1452 ?_
      refine lv_iconst (v := 1) hx hb dL_law_1453 (by decide) ?_
      refine lv_iand hx hb dL_law_1454 ?_
      refine lv_iconst (v := 1) hx hb dL_law_1455 (by decide) ?_
      refine lv_icmp_ne (tgt := 1482) hx hb dL_law_1456 (by decide) (fun c12 => ?_) (fun c12 => ?_)
      · have hf := (if_neg c12).mp hf
        refine q_ldcK (i := 0) X (hGK _ _ _ X.2.2.2.2) (by decide) rfl dL_law_1482 ?_
        exact hJ1484 S9 ((bc4 - mc7) - mc10) ((bs5 - ms7) - ms10) l1 l2 l3 l4 l14 l19 l20 l21 l22 l23 l25 l27 l28 l29 (adK 0) v11 hf H locs ls cells slots hH (lv_sub hl [0, 1, 2, 3, 4, 5, 6, 7, 8, 9, 10, 11, 13, 14, 15] rfl) hB
      · have hf := (if_pos c12).mp hf
        refine q_new (T := TJ4) (N := 4) X hH hB hf iw_J4 tyJ4 tyJ4_ok rfl tw_1211 tw_178 tw_38 (fun j hj => by rcases (show j = 0 ∨ j = 1 ∨ j = 2 ∨ j = 3 by omega) with rfl | rfl | rfl | rfl <;> rfl) dL_law_1459 (fun q13 S14 bc15 bs16 hf H locs cells slots hH hB => ?_)
        refine lv_dup hx hb dL_law_1462 rfl ?_
        obtain ⟨mc18, ms18, hm1, hs1, hf⟩ := hf
        refine q_backVB X hH hB hm1 hs1 (q_runI [] [.ref q13, .ref v11] X hH hl (c_J4_init_da8c8 l D cy G X.2.2.2.1 hGC S14 q13 mc18 ms18 _ _ hf) mf_J4_init_da8c8 tw_180 tw_1212 ⟨Nat.le_of_ble_eq_true rfl, Nat.le_of_ble_eq_true rfl⟩ rfl (Nat.le_of_ble_eq_true rfl) dL_law_1463 ⟨Nat.le_trans (Nat.add_le_add_left hm1 _) hB.1, Nat.le_trans (Nat.add_le_add_left hs1 _) hB.2⟩) (fun S17 hf H locs cells slots hH hB => ?_)
        refine q_ldcK (i := 0) X (hGK _ _ _ X.2.2.2.2) (by decide) rfl dL_law_1466 ?_
        obtain ⟨hb1, hb2, hf⟩ := hf
        obtain ⟨mc21, ms21, hm1, hs1, hf⟩ := hf
        refine q_backRB X hH hB hm1 hs1 (q_runV [.ref (adK 0)] [.ref v11] X hH hl (c_J4_append_15ec4_u l D cy G X.2.2.2.1 hGC adK adV hGK hGU S17 q13 (adK 0) mc21 ms21 _ _ hf) mf_J4_append_15ec4 mv_J4_append_15ec4 tw_1213 ⟨Nat.le_of_ble_eq_true rfl, Nat.le_of_ble_eq_true rfl⟩ hb1 hb2 (T := TJ4) (N := 4) rfl rfl (Nat.le_of_ble_eq_true rfl) dL_law_1468 ⟨Nat.le_trans (Nat.add_le_add_left hm1 _) hB.1, Nat.le_trans (Nat.add_le_add_left hs1 _) hB.2⟩) (fun v22 S20 hf H locs cells slots hH hB => ?_)
        refine lv_iload hx hb dL_law_1471 (lv_at hl 15 rfl) ?_
        obtain ⟨hb1, hb2, hf⟩ := hf
        obtain ⟨mc24, ms24, hm1, hs1, hf⟩ := hf
        refine q_backRB X hH hB hm1 hs1 (q_runV [.int l29] [.ref v11] X hH hl (c_J4_append_bf812 l D cy G X.2.2.2.1 hGC dT dO hGT hGU S20 v22 l29 mc24 ms24 _ _ hf) mf_J4_append_bf812 mv_J4_append_bf812 tw_1243 ⟨Nat.le_of_ble_eq_true rfl, Nat.le_of_ble_eq_true rfl⟩ hb1 hb2 (T := TJ4) (N := 4) rfl rfl (Nat.le_of_ble_eq_true rfl) dL_law_1473 ⟨Nat.le_trans (Nat.add_le_add_left hm1 _) hB.1, Nat.le_trans (Nat.add_le_add_left hs1 _) hB.2⟩) (fun v25 S23 hf H locs cells slots hH hB => ?_)
        obtain ⟨hb1, hb2, hf⟩ := hf
        obtain ⟨mc27, ms27, hm1, hs1, hf⟩ := hf
        refine q_backRB X hH hB hm1 hs1 (q_runV [] [.ref v11] X hH hl (c_J4_toString_0e30d l D cy G X.2.2.2.1 hGC hst hGE S23 v25 mc27 ms27 _ _ hf) mf_J4_toString_0e30d mv_J4_toString_0e30d tw_1244 ⟨Nat.le_of_ble_eq_true rfl, Nat.le_of_ble_eq_true rfl⟩ hb1 hb2 (T := TJ4) (N := 4) rfl rfl (Nat.le_of_ble_eq_true rfl) dL_law_1476 ⟨Nat.le_trans (Nat.add_le_add_left hm1 _) hB.1, Nat.le_trans (Nat.add_le_add_left hs1 _) hB.2⟩) (fun v28 S26 hf H locs cells slots hH hB => ?_)
        refine lv_goto (tgt := 1484) hx hb dL_law_1479 (by decide) ?_
        exact hJ1484 S26 ((((bc15 - mc18) - mc21) - mc24) - mc27) ((((bs16 - ms18) - ms21) - ms24) - ms27) l1 l2 l3 l4 l14 l19 l20 l21 l22 l23 l25 l27 l28 l29 v28 v11 hf H locs ls cells slots hH (lv_sub hl [0, 1, 2, 3, 4, 5, 6, 7, 8, 9, 10, 11, 13, 14, 15] rfl) hB
