/-! G as a whole, its closure, what the Statement gives at the law's entry, and the start *out of the pure claim* -/
def p_G (dT dO : Nat) (adK adV : Nat → Nat) (b L : Nat) (xs : Nat → Int32) (A : Nat → Prop) (U : State) (H : Heap) : Prop :=
  p_N U ∧ p_Ex A U H ∧ gX b L xs A U H ∧ va_AO "VillageFeud$Village" U ∧ va_AOA .int U ∧ gC A U H ∧ gF A U H ∧ gU A U H ∧ gT dT dO A U H ∧ gK adK adV A U H
theorem va_AOA.moved {ty : FieldType} {u U : State} (hvm : u.vm.Alike U.vm) (h : va_AOA ty u) : va_AOA ty U := arrayOver_alikeB hvm h
theorem pw_selects {C : String} {y : MethodName} (hy : y.cls ≠ "java/lang/invoke/MethodHandle" ∧ y.cls ≠ "java/lang/invoke/VarHandle") {s U : State} (hW : s.WarmedH U.vm) (hZ : va_Nw (.selects C y y) s) : va_Nw (.selects C y y) U := va_tabs rfl (rfl : (s.setVm U.vm).vm = U.vm) (by
  obtain ⟨c, r, m1, hc, hr, hn1, hs1, mk1, hmk1, hni⟩ := Cond.selects_spec hZ
  rw [Cond.selects_setVm hW.alike hn1 hy]
  exact hZ)
theorem p_N.warm {s U : State} (hW : s.WarmedH U.vm) (h : p_N s) : p_N U := by
  intro w hw
  have hz := h w hw
  simp only [nwL, List.mem_cons, List.not_mem_nil, or_false] at hw
  rcases hw with rfl | rfl | rfl | rfl | rfl | rfl | rfl | rfl | rfl | rfl | rfl | rfl | rfl | rfl | rfl | rfl | rfl | rfl | rfl | rfl | rfl <;> first | exact va_Nw.warmF hW hz | exact va_Nw.warmM hW hz
theorem exW_warm {s U : State} (hW : s.WarmedH U.vm) (h : ∀ w ∈ exW, va_Nw w s) : ∀ w ∈ exW, va_Nw w U := by
  intro w hw
  have hz := h w hw
  simp only [exW, List.mem_cons, List.not_mem_nil, or_false] at hw
  rcases hw with rfl | rfl | rfl | rfl | rfl | rfl | rfl | rfl | rfl <;> first | exact va_Nw.warmC hW hz | exact va_Nw.warmD hW hz
theorem p_G_ok (dT dO : Nat) (adK adV : Nat → Nat) (b L : Nat) (xs : Nat → Int32) : p_ok (p_G dT dO adK adV b L xs) := by
  refine ⟨fun A u U H hW h => ?_, fun A U H H1 hk h => ?_, fun A B U H hAB h => ?_, fun A U H h => h.1⟩
  · obtain ⟨h1, ⟨h2, h3, h4, h5⟩, ⟨x1, x2, x3⟩, h7, h7a, h8, h9, ⟨h10, h11, h11a, h11b⟩, ⟨⟨h12, h13⟩, h14, h15⟩, h16, h17⟩ := h
    exact ⟨h1.warm hW, ⟨exW_warm hW h2, vx_Zq.moved hW.alike h3, vx_Zq.moved hW.alike h4, fun q hq => (h5 q hq).elim fun sa hs => ⟨sa, vk_R.warm hW hs⟩⟩, ⟨va_X.moved hW.alike x1, x2, x3⟩, va_AO.moved hW.alike h7, va_AOA.moved hW.alike h7a, va_Z.moved hW.alike h8, va_Zq.moved hW.alike h9, ⟨pw_selects (by decide) hW h10, pw_selects (by decide) hW h11, pw_selects (by decide) hW h11a, pw_selects (by decide) hW h11b⟩, ⟨⟨va_Z.moved hW.alike h12, va_T.moved hW.alike h13⟩, va_Z.moved hW.alike h14, va_T.moved hW.alike h15⟩, vk_S.moved hW.alike h16, fun i hi q hq => vk_R.warm hW (h17 i hi q hq)⟩
  · obtain ⟨h1, ⟨h2, h3, h4, h5⟩, ⟨x1, x2, x3⟩, h7, h7a, h8, h9, ⟨h10, h11, h11a, h11b⟩, ⟨⟨h12, h13⟩, h14, h15⟩, h16, h17⟩ := h
    have hb1 : H1[b]? = H[b]? := hk b x2 x3
    have hb2 : b < H1.size := by
      obtain ⟨scr, e1, -⟩ := x1
      rw [e1] at hb1
      exact (Array.getElem?_eq_some_iff.mp hb1).1
    exact ⟨h1, ⟨h2, h3.kept hk, h4.kept hk, h5⟩, ⟨x1.kept hb1, hb2, x3⟩, h7, h7a, va_Z.kept h8 hk, va_Zq.kept h9 hk, ⟨h10, h11, h11a, h11b⟩, ⟨⟨h12.kept hk, h13.kept hk⟩, h14.kept hk, h15.kept hk⟩, h16.kept hk, h17⟩
  · obtain ⟨h1, ⟨h2, h3, h4, h5⟩, ⟨x1, x2, x3⟩, h7, h7a, h8, h9, ⟨h10, h11, h11a, h11b⟩, ⟨⟨h12, h13⟩, h14, h15⟩, h16, h17⟩ := h
    exact ⟨h1, ⟨h2, h3.narrow hAB, h4.narrow hAB, h5⟩, ⟨x1, x2, fun z => x3 (hAB b z)⟩, h7, h7a, va_Z.narrow h8 hAB, va_Zq.narrow h9 hAB, ⟨h10, h11, h11a, h11b⟩, ⟨⟨h12.narrow hAB, h13.narrow hAB⟩, h14.narrow hAB, h15.narrow hAB⟩, h16.narrow hAB, h17⟩
def nwC : List Cond := flatC (Jvm.Cond.and given_1 narrow_1)
theorem st_nw : ∀ w ∈ nwL, w ∈ lw_tbl := by decide +kernel
theorem st_ex : ∀ w ∈ exW, w ∈ lw_tbl := by decide +kernel
theorem st_tx : ∀ q ∈ exT, Cond.stringRef "VillageFeud" q.1 q.2 ∈ lw_tbl ∧ Cond.exactly (.string "VillageFeud" q.1) "java/lang/String" ∈ nwC := by decide +kernel
theorem st_tt : ∀ i : Nat, i < 5 → ∀ q ∈ txT[i]?, Cond.stringRef "VillageFeudLaw" q.1 q.2 ∈ lw_tbl := by decide +kernel
def txM (i : Nat) : Term := .string "VillageFeudLaw" (txT.getD i (0, "")).1
theorem st_k1 : ∀ i : Nat, i < 5 → Cond.exactly (txM i) "java/lang/String" ∈ nwC := by decide +kernel
theorem st_k2 : ∀ i : Nat, i < 5 → Cond.eq (.field (txM i) "java/lang/String" "coder" "B") (.int 0) ∈ nwC := by decide +kernel
theorem st_k3 : ∀ i : Nat, i < 5 → Cond.arrayOf (.field (txM i) "java/lang/String" "value" "[B") .byte ∈ nwC := by decide +kernel
theorem st_k4 : ∀ i : Nat, i < 5 → Cond.eq (.length (.field (txM i) "java/lang/String" "value" "[B")) (.int (Int32.ofNat (txL.getD i 0))) ∈ nwC := by decide +kernel
theorem st_mem {w : Cond} {f : Nat → Cond} {p n : Nat} (h : (nwC.drop p).take n = (List.range n).map f) (j : Nat) (hj : j < n) (hw : w = f j) : w ∈ nwC := by
  have h1 : w ∈ (nwC.drop p).take n := by rw [h, hw]; exact List.mem_map.mpr ⟨j, List.mem_range.mpr hj, rfl⟩
  exact List.mem_of_mem_drop (List.mem_of_mem_take h1)
theorem st_k5_1 : (nwC.drop 983).take (txL.getD 1 0) = (List.range (txL.getD 1 0)).map (fun j => Cond.eq (.elem (.field (txM 1) "java/lang/String" "value" "[B") (.int (Int32.ofNat j))) (.int ((txB.getD 1 []).getD j 0))) := by decide +kernel
theorem st_k5_2 : (nwC.drop 1009).take (txL.getD 2 0) = (List.range (txL.getD 2 0)).map (fun j => Cond.eq (.elem (.field (txM 2) "java/lang/String" "value" "[B") (.int (Int32.ofNat j))) (.int ((txB.getD 2 []).getD j 0))) := by decide +kernel
theorem st_k5_3 : (nwC.drop 1036).take (txL.getD 3 0) = (List.range (txL.getD 3 0)).map (fun j => Cond.eq (.elem (.field (txM 3) "java/lang/String" "value" "[B") (.int (Int32.ofNat j))) (.int ((txB.getD 3 []).getD j 0))) := by decide +kernel
theorem st_k5_4 : (nwC.drop 1064).take (txL.getD 4 0) = (List.range (txL.getD 4 0)).map (fun j => Cond.eq (.elem (.field (txM 4) "java/lang/String" "value" "[B") (.int (Int32.ofNat j))) (.int ((txB.getD 4 []).getD j 0))) := by decide +kernel
theorem st_k5 : ∀ i : Nat, i < 5 → ∀ j : Nat, j < txL.getD i 0 → Cond.eq (.elem (.field (txM i) "java/lang/String" "value" "[B") (.int (Int32.ofNat j))) (.int ((txB.getD i []).getD j 0)) ∈ nwC := by
  intro i hi j hj
  rcases (show i = 0 ∨ i = 1 ∨ i = 2 ∨ i = 3 ∨ i = 4 by omega) with rfl | rfl | rfl | rfl | rfl
  · exact absurd hj (Nat.not_lt_zero j)
  · exact st_mem st_k5_1 j hj rfl
  · exact st_mem st_k5_2 j hj rfl
  · exact st_mem st_k5_3 j hj rfl
  · exact st_mem st_k5_4 j hj rfl
theorem st_d1L : (nwC.drop 117).take 100 = (List.range 100).map (fun j => Cond.eq (.elem (.static "java/lang/Integer" "DigitTens" "[B") (.int (Int32.ofNat j))) (.int (dgT j))) := by decide +kernel
theorem st_d1 : ∀ j : Nat, j < 100 → Cond.eq (.elem (.static "java/lang/Integer" "DigitTens" "[B") (.int (Int32.ofNat j))) (.int (dgT j)) ∈ nwC := fun j hj => st_mem st_d1L j hj rfl
theorem st_d2L : (nwC.drop 14).take 100 = (List.range 100).map (fun j => Cond.eq (.elem (.static "java/lang/Integer" "DigitOnes" "[B") (.int (Int32.ofNat j))) (.int (dgO j))) := by decide +kernel
theorem st_d2 : ∀ j : Nat, j < 100 → Cond.eq (.elem (.static "java/lang/Integer" "DigitOnes" "[B") (.int (Int32.ofNat j))) (.int (dgO j)) ∈ nwC := fun j hj => st_mem st_d2L j hj rfl
theorem st_d3 : Cond.arrayOf (.static "java/lang/Integer" "DigitTens" "[B") .byte ∈ nwC ∧ Cond.eq (.length (.static "java/lang/Integer" "DigitTens" "[B")) (.int (Int32.ofNat 100)) ∈ nwC ∧ Cond.arrayOf (.static "java/lang/Integer" "DigitOnes" "[B") .byte ∈ nwC ∧ Cond.eq (.length (.static "java/lang/Integer" "DigitOnes" "[B")) (.int (Int32.ofNat 100)) ∈ nwC ∧ Cond.eq (.static "java/lang/String" "COMPACT_STRINGS" "Z") (.int 1) ∈ nwC ∧ Cond.isRef (.static "jdk/internal/util/Preconditions" "SIOOBE_FORMATTER" "Ljava/util/function/BiFunction;") ∈ nwC ∧ Cond.isRef (.static Bundle.tN "UNASSIGNED_STACK" Bundle.steD) ∈ nwC ∧ Cond.isRef (.static Bundle.tN "SUPPRESSED_SENTINEL" Bundle.listD) ∈ nwC := by decide +kernel
theorem st_l : (Cond.laysStatic "java/lang/Integer" "DigitTens" "[B" ∈ lw_tbl ∧ Cond.laysStatic "java/lang/Integer" "DigitOnes" "[B" ∈ lw_tbl ∧ Cond.initialized "java/lang/Integer" ∈ lw_tbl) ∧ (Cond.laysStatic "java/lang/String" "COMPACT_STRINGS" "Z" ∈ lw_tbl ∧ Cond.initialized "java/lang/String" ∈ lw_tbl) ∧ (Cond.laysStatic "jdk/internal/util/Preconditions" "SIOOBE_FORMATTER" "Ljava/util/function/BiFunction;" ∈ lw_tbl ∧ Cond.initialized "jdk/internal/util/Preconditions" ∈ lw_tbl) ∧ Cond.laysStatic Bundle.tN "UNASSIGNED_STACK" Bundle.steD ∈ lw_tbl ∧ Cond.laysStatic Bundle.tN "SUPPRESSED_SENTINEL" Bundle.listD ∈ lw_tbl ∧ Cond.initialized Bundle.tN ∈ lw_tbl := by decide +kernel
theorem st_a : Cond.arrayClass .int ∈ lw_tbl ∧ Cond.arrayClass .byte ∈ lw_tbl ∧ Cond.arrayOver (.object "VillageFeud$Village") ∈ lw_tbl ∧ Cond.arrayOver (.array .int) ∈ lw_tbl := by decide +kernel
theorem st_u : Cond.selects RJ4 yJ5_isLatin1_aae02 yJ5_isLatin1_aae02 ∈ lw_tbl ∧ Cond.privateMethod yJ5_ensureCapacityInternal_d00df ∈ lw_tbl ∧ Cond.instanceMethod yJ5_ensureCapacityInternal_d00df ∈ lw_tbl ∧ Cond.privateMethod yJ5_newCapacity_0f7a4 ∈ lw_tbl ∧ Cond.instanceMethod yJ5_newCapacity_0f7a4 ∈ lw_tbl ∧ Cond.privateMethod yJ5_inflateIfNeededFor_a7421 ∈ lw_tbl ∧ Cond.instanceMethod yJ5_inflateIfNeededFor_a7421 ∈ lw_tbl ∧ Cond.privateMethod yJ5_putStringAt_47b60 ∈ lw_tbl ∧ Cond.instanceMethod yJ5_putStringAt_47b60 ∈ lw_tbl := by decide +kernel
theorem st_c : ∀ q ∈ vwCl, Cond.instantiable q.1 q.2.2 ∈ lw_tbl := by decide +kernel
theorem st_w : ∀ q ∈ vwCl, ∀ w ∈ u_ws q.1 q.2.1 q.2.2, w ∈ lw_tbl := by decide +kernel
theorem st_arr {s : State} {args : Array Value} {ty : FieldType} (h : (Cond.arrayClass ty).before args s = true) : ∃ cA : ClassId, ArrOfT s cA ty ∧ s.vm.findClass ("[" ++ ty.toString) = some cA := by
  obtain ⟨c, k, comp, h1, h2, h3⟩ := Cond.arrayClass_spec h
  exact ⟨c, fun n z => ⟨fun k h => (by cases h), k, h2, comp, h3⟩, h1⟩
theorem st_arq {s : State} {args : Array Value} {C : String} (h : (Cond.arrayOver (.object C)).before args s = true) : ∃ cA : ClassId, ArrOfT s cA (.object C) ∧ va_RA s cA (.object C) := by
  obtain ⟨comp, c, k, h1, h2, h3, h4, h5⟩ := Cond.arrayOver_spec h
  exact ⟨c, fun n z => ⟨fun k h => (by cases h), k, h3, comp, h4⟩, k, comp, h3, h4, h1, h5⟩
theorem st_arA {s : State} {args : Array Value} (h : (Cond.arrayOver (.array .int)).before args s = true) : ∃ cA : ClassId, ArrOfT s cA (.array .int) ∧ va_RA s cA (.array .int) := by
  obtain ⟨comp, c, k, h1, h2, h3, h4⟩ := Cond.arrayOver_specA h
  exact ⟨c, fun n z => ⟨fun k h => (by cases h), k, h2, comp, h3⟩, h4⟩
theorem st_K {s : State} {args : Array Value} (hts : ∀ w ∈ lw_tbl, w.before args s = true) : ∃ (D : va_G) (cy : Nat → ClassId), va_K D vwCl (p_T cy) s := by
  have h0 : ∀ k : Nat, ∃ d : ClassId × (Nat → Nat), ∀ q : vw_C, vwCl[k]? = some q → u_Kn s q.1 q.2.1 q.2.2 d.1 d.2 := by
    intro k
    cases hq : vwCl[k]? with
    | none => exact ⟨(0, fun _ => 0), fun q h => by cases h⟩
    | some q =>
      obtain ⟨c, i, h⟩ := u_known (C := q.1) (T := q.2.1) (N := q.2.2) hts (st_w q (List.mem_of_getElem? hq)) (hts _ (st_c q (List.mem_of_getElem? hq)))
      exact ⟨(c, i), fun q' h' => by cases h'; exact h⟩
  obtain ⟨d, hd⟩ := Classical.axiomOfChoice h0
  obtain ⟨a0, a1, a3, a4⟩ := st_a
  obtain ⟨c0, x0, y0⟩ := st_arr (hts _ a0)
  obtain ⟨c1, x1, y1⟩ := st_arr (hts _ a1)
  obtain ⟨c3, x3, y3⟩ := st_arq (hts _ a3)
  obtain ⟨c4, x4, y4⟩ := st_arA (hts _ a4)
  refine ⟨(fun k => (d k).1, fun k => (d k).2), fun k => if k = 0 then c0 else if k = 1 then c1 else if k = 2 then c1 else if k = 3 then c3 else if k = 4 then c4 else c0, fun c q h => hd c q h, fun k q hq => ?_⟩
  match k, hq with
  | 0, hq => cases hq; exact ⟨x0, y0⟩
  | 1, hq => cases hq; exact ⟨x1, y1⟩
  | 2, hq => cases hq; exact ⟨x1, y1⟩
  | 3, hq => cases hq; exact ⟨x3, y3⟩
  | 4, hq => cases hq; exact ⟨x4, y4⟩
  | 5, hq => cases hq; exact ⟨x0, y0⟩
  | k + 6, hq => simp at hq
theorem st_R {s : State} {args : Array Value} {own tx : String} {k : Nat} (h1 : (Cond.stringRef own k tx).before args s = true) (h2 : (Cond.exactly (.string own k) "java/lang/String").before args s = true) : ∃ sa : Nat, vk_R own k tx sa s := by
  obtain ⟨a, c, cell, kk, q1, -⟩ := Cond.exactly_spec h2
  exact ⟨a, vk_R.of h1 q1⟩
theorem st_inj : ∀ i : Nat, i < 5 → ∀ j : Nat, j < 5 → txL.getD i 0 = txL.getD j 0 → (0 < txL.getD i 0 → (txB.getD i []).getD 0 0 = (txB.getD j []).getD 0 0) → i = j := by decide
theorem st_OF {o n d : String} {v w : Value} {a : Nat} {A : Nat → Prop} {U : State} {H : Heap} (h1 : va_OF o n d v a A U H) (h2 : va_OF o n d w a A U H) : v = w := by
  obtain ⟨cf, k, i, f, cell, a1, a2, a3, a4, a5, a6⟩ := h1
  obtain ⟨cf', k', i', f', cell', b1, b2, b3, b4, b5, b6⟩ := h2
  cases a1.symm.trans b1
  cases a3.symm.trans b3
  exact Option.some.inj (a5.symm.trans b5)
theorem st_Sof {args : Array Value} {s : State} {A : Nat → Prop} (hw : ∀ w ∈ nwC, w.before args s = true) (hA : ∀ a : Nat, a < s.heap.size → ¬ A a) : ∃ adK adV : Nat → Nat, vk_S 5 txL txB adK adV A s s.heap ∧ ∀ i : Nat, i < 5 → (txM i).eval args s none [] s = some (.ref (adK i)) := by
  have h0 : ∀ i : Nat, ∃ q : Nat × Nat, i < 5 → (vk_S 1 [txL.getD i 0] [txB.getD i []] (fun _ => q.1) (fun _ => q.2) A s s.heap ∧ (txM i).eval args s none [] s = some (.ref q.1)) := by
    intro i
    by_cases hi : i < 5
    · obtain ⟨adK, adV, h1, h2⟩ := vk_Sof (args := args) (s := s) (N := 1) (tm := fun _ => txM i) (len := [txL.getD i 0]) (byt := [txB.getD i []]) (A := A) (fun k hk => by rw [show k = 0 by omega]; exact (show ∀ i : Nat, i < 5 → [txL.getD i 0].getD 0 0 < 2 ^ 31 by decide) i hi) (fun k hk => hw _ (st_k1 i hi)) (fun k hk => hw _ (st_k2 i hi)) (fun k hk => hw _ (st_k3 i hi)) (fun k hk => by rw [show k = 0 by omega]; exact hw _ (st_k4 i hi)) (fun k hk j hj => by rw [show k = 0 by omega] at hj ⊢; exact hw _ (st_k5 i hi j hj)) (fun k j hk hj hne => absurd (show k = j by omega) hne) hA
      refine ⟨(adK 0, adV 0), fun _ => ⟨⟨fun k hk => ?_, fun k j hk hj _ => by omega⟩, h2 0 (by omega)⟩⟩
      have h3 := h1.1 k hk
      rw [show k = 0 by omega] at h3 ⊢
      exact h3
    · exact ⟨(0, 0), fun h => absurd h hi⟩
  obtain ⟨ad, had⟩ := Classical.axiomOfChoice h0
  have hS : ∀ i : Nat, i < 5 → va_O "java/lang/String" (ad i).1 A s s.heap ∧ va_OF "java/lang/String" "coder" "B" (.int 0) (ad i).1 A s s.heap ∧ va_OF "java/lang/String" "value" "[B" (.ref (ad i).2) (ad i).1 A s s.heap ∧ va_T .byte (ad i).2 (txL.getD i 0) (fun j => .int ((txB.getD i []).getD j 0)) A s s.heap := fun i hi => (had i hi).1.1 0 (by omega)
  refine ⟨fun i => (ad i).1, fun i => (ad i).2, ⟨hS, fun i j hi hj e => ?_⟩, fun i hi => (had i hi).2⟩
  obtain ⟨-, -, v1, t1⟩ := hS i hi
  obtain ⟨-, -, v2, t2⟩ := hS j hj
  replace e : (ad i).1 = (ad j).1 := e
  rw [e] at v1
  have e2 : (ad i).2 = (ad j).2 := by have := st_OF v1 v2; injection this
  rw [e2] at t1
  obtain ⟨c1, p1, p2, p3, p4, p5, p6, p7⟩ := t1
  obtain ⟨c2, r1, r2, r3, r4, r5, r6, r7⟩ := t2
  cases p1.symm.trans r1
  have hp : ∀ i : Nat, i < 5 → txL.getD i 0 < 100 := by decide
  have e3 : txL.getD i 0 = txL.getD j 0 := by
    have h1 := congrArg Int32.toNatClampNeg (p5.symm.trans r5)
    have h2 : ∀ n : Nat, n < 100 → (Int32.ofNat n).toNatClampNeg = n := by decide
    rw [h2 _ (hp i hi), h2 _ (hp j hj)] at h1
    exact h1
  refine st_inj i hi j hj e3 (fun hpos => ?_)
  have e4 := (p6 0 hpos).symm.trans (r6 0 (by rw [← e3]; exact hpos))
  injection e4 with e4; injection e4
theorem st_G {s : State} {b L : Nat} {xs : Nat → Int32} (hts : ∀ w ∈ lw_tbl, w.before #[Value.ref b] s = true) (hgv : (Jvm.Cond.and given_1 narrow_1).before #[Value.ref b] s = true) (hX : va_X b L xs s s.heap) (hbl : b < s.heap.size) {A : Nat → Prop} (hA : ∀ a : Nat, a < s.heap.size → ¬ A a) : ∃ (dT dO : Nat) (adK adV : Nat → Nat), p_G dT dO adK adV b L xs A s s.heap := by
  have hw : ∀ w ∈ nwC, w.before #[Value.ref b] s = true := flat_of_before _ hgv
  obtain ⟨⟨l1, l2, l3⟩, ⟨l4, l5⟩, ⟨l6, l7⟩, l8, l9, l10⟩ := st_l
  obtain ⟨d1, d2, d3, d4, d5, d6, d7, d8⟩ := st_d3
  obtain ⟨u1, u2, u3, u4, u5, u6, u7, u8, u9⟩ := st_u
  obtain ⟨adK, adV, k1, k2⟩ := st_Sof hw hA
  obtain ⟨dT, t1, t2⟩ := va_Tof (f := fun j => .int (dgT j)) (N := 100) (by decide) (hw _ d1) (va_eqt (hw _ d2)) (fun j hj => va_eqt (hw _ (st_d1 j hj))) hA
  obtain ⟨dO, o1, o2⟩ := va_Tof (f := fun j => .int (dgO j)) (N := 100) (by decide) (hw _ d3) (va_eqt (hw _ d4)) (fun j hj => va_eqt (hw _ (st_d2 j hj))) hA
  refine ⟨dT, dO, adK, adV, fun w hw => va_Nw.of ?_ (hts w (st_nw w hw)), ⟨fun w hw => va_Nw.of (exW_on w hw) (hts w (st_ex w hw)), vx_Zqof (hts _ l8) (hts _ l10) (hw _ d7) hA, vx_Zqof (hts _ l9) (hts _ l10) (hw _ d8) hA, fun q hq => st_R (hts _ (st_tx q hq).1) (hw _ (st_tx q hq).2)⟩, ⟨hX, hbl, hA b hbl⟩, va_AO.of (hts _ st_a.2.2.1), va_AOA.of (hts _ st_a.2.2.2), va_Zof (hts _ l4) (hts _ l5) (va_eqt (hw _ d5)) hA, va_Zqof (hts _ l6) (hts _ l7) (hw _ d6) hA, ⟨va_Nw.of rfl (sel_J5 (by decide) rfl (hts _ u1) (hts _ u2) (hts _ u3)), va_Nw.of rfl (sel_J5 (by decide) rfl (hts _ u1) (hts _ u4) (hts _ u5)), va_Nw.of rfl (sel_J5 (by decide) rfl (hts _ u1) (hts _ u6) (hts _ u7)), va_Nw.of rfl (sel_J5 (by decide) rfl (hts _ u1) (hts _ u8) (hts _ u9))⟩, ⟨⟨va_Zof (hts _ l1) (hts _ l3) t1 hA, t2⟩, va_Zof (hts _ l2) (hts _ l3) o1 hA, o2⟩, k1, fun i hi q hq => ?_⟩
  · have : ∀ w ∈ nwL, w.onTables = true := by decide +kernel
    exact this w hw
  · have h2 := k2 i hi
    have h3 : txM i = .string "VillageFeudLaw" q.1 := by unfold txM; rw [List.getD_eq_getElem?_getD, hq]; rfl
    rw [h3] at h2
    exact vk_R.of (hts _ (st_tt i hi q hq)) h2
def S_0 : PS := ([], fun _ => .inr (0, []))
theorem whole_of (hpure : ∀ (adK : Nat → Nat) (L : Nat) (xs : Nat → Int32), L ≤ 260 → f_L_law adK L xs S_0 room_1.cells room_1.slots) {p : Program} {e : Env} {s : State} {m : MethodId} {below : List Frame} {meth : Method} {c : Code} (l : Launch) (hflags : l.flags = flags0) {b L : Nat} {xs : Nat → Int32} (hL : L ≤ 260) (C0 : lw_At p s m meth c b L xs) : W p l e room_1 s m #[Value.ref b] below meth c s.heap [] 0 0 (lw_Z below #[Value.ref b] s) (entryFrame m ([Value.ref b] : List Value).toArray 30) := by
  obtain ⟨hx, hb, hr, hml, hown, hts, hX, hbl, hlocks, hgv⟩ := id C0
  have hA : ∀ a : Nat, a < s.heap.size → ¬ (fun q : Nat => s.heap.size ≤ q) a := fun a h => Nat.not_le.mpr h
  have hst : l.stackTraces = false := by unfold Launch.stackTraces; rw [hflags]; decide
  obtain ⟨dT, dO, adK, adV, hG⟩ := st_G hts hgv hX hbl hA
  obtain ⟨D, cy, hK⟩ := st_K hts
  have X : p_X p m c cL_law 30 s #[Value.ref b] RL D cy (p_G dT dO adK adV b L xs) (fun q => s.heap.size ≤ q) := ⟨⟨hx, hb, hml, hown, fun w hw => hts w (List.mem_filter.mp hw).1⟩, hK, fun q h => h, p_G_ok dT dO adK adV b L xs, hG⟩
  have hH : p_H D cy S_0 (fun q => s.heap.size ≤ q) s s.heap [] := ⟨fun k q h => (by cases h), ⟨fun i j p q h => (by cases h), fun k q h => (by cases h)⟩, va_S.rf⟩
  have hl := lv_entry ([.ref b]) (n := 30) (Nat.le_of_ble_eq_true rfl)
  rw [lg_entry_eq]
  generalize (lg_sl ([.ref b]) ++ List.replicate (30 - (lg_sl ([.ref b])).length) Slot.unset).toArray = ls at hl ⊢
  have hl : lv_has ls 30 [(0, .ref b)] := hl
  exact c_L_law l D cy (p_G dT dO adK adV b L xs) (fun A U H h => h.2.2.2.2.2.1) hst (fun A U H h => h.2.1) (fun A U H h => h.2.2.2.2.2.2.1) adK adV (fun A U H h => h.2.2.2.2.2.2.2.2.2) (fun A U H h => h.2.2.2.1) (fun A U H h => h.2.2.2.2.1) dT dO (fun A U H h => h.2.2.2.2.2.2.2.2.1) (fun A U H h => h.2.2.2.2.2.2.2.1) b L xs (fun A U H h => h.2.2.1) (fun q => s.heap.size ≤ q) X hr hlocks (fun q h => h) S_0 room_1.cells room_1.slots (hpure adK L xs hL) ls hH hl ⟨Nat.le_of_ble_eq_true rfl, Nat.le_of_ble_eq_true rfl⟩
