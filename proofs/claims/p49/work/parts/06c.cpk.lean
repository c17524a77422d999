/-! bytes of a constant text copied into the pool *after the kit's row for a copy out of the script* -/
def cpK (S : PS) (k : Nat) (sp : Int32) (b : Nat) (dp n : Int32) (kk : PS → Prop) : Prop := k < 5 ∧ b ∈ S.1 ∧ ¬ sp < 0 ∧ ¬ dp < 0 ∧ ¬ n < 0 ∧ ∃ (n1 : Nat) (g : Nat → Int32), S.2 b = .inl (1, n1, .inl g) ∧ sp.toNatClampNeg + n.toNatClampNeg ≤ txL.getD k 0 ∧ dp.toNatClampNeg + n.toNatClampNeg ≤ n1 ∧ kk (p_set S b (.inl (1, n1, .inl (va_cpy (fun j => (txB.getD k []).getD j 0) g sp.toNatClampNeg dp.toNatClampNeg n.toNatClampNeg))))
theorem tx_fits : ∀ k : Nat, k < 5 → ∀ j : Nat, j < txL.getD k 0 → fits .byte (.int ((txB.getD k []).getD j 0)) = true := by
  intro k hk j hj
  rcases (show k = 0 ∨ k = 1 ∨ k = 2 ∨ k = 3 ∨ k = 4 by omega) with rfl | rfl | rfl | rfl | rfl
  · exact absurd hj (Nat.not_lt_zero j)
  all_goals
    have h0 : j = 0 := Nat.lt_one_iff.mp hj
    subst h0
    decide
section PCK
variable {p : Program} {l : Launch} {e : Env} {R : Room} {s : State} {m : MethodId} {args : Array Value} {below : List Frame} {meth : Method} {c : Code} {H : Heap} {locs : List Loc} {cells slots : Nat} {Q : State → Prop}
variable {cc : ByteArray} {pc nL : Nat} {ls : Array Slot} {st0 rest : List Value} {D : va_G} {cy : Nat → ClassId} {G : p_GT} {A : Nat → Prop} {S : PS} {own : String} {a index : Nat} {cl : List vw_C} {tys : List (ClassId × FieldType)} {ws : va_W} {adK adV : Nat → Nat}
theorem va_copyT (hexec : p.tables.exec = Jvm.exec) (hb : c.code = cc) (hml : c.maxLocals = ls.size) (hown : s.vm.findClass own = some m.cls) (hlink : (Cond.methodLink own index arraycopyName).before args s = true) (hnat : (Cond.native arraycopyName).before args s = true) (hstat : (Cond.static arraycopyName).before args s = true) (hini : (Cond.initialized "java/lang/System").before args s = true)
    (hK : va_K D cl tys s) (hP : va_P D cl ws H) (hD : va_D A ws) (hS : va_S A s.heap H locs) {b0 n0 : Nat} {f : Nat → Int32} (hX : va_T .byte b0 n0 (fun j => .int (f j)) A s s.heap) (q1 t1 : Nat) {c1 : ClassId} {n1 : Nat} {g : Nat → Int32} (ha1 : ws[q1]? = some (a, .inl (c1, n1, .inl g))) (ht1 : tys[t1]? = some (c1, .byte))
    {sp dp n : Int32} (h1 : ¬ sp < 0) (h2 : ¬ dp < 0) (h3 : ¬ n < 0) (h4 : sp.toNatClampNeg + n.toNatClampNeg ≤ n0) (h5 : dp.toNatClampNeg + n.toNatClampNeg ≤ n1) (hfit : ∀ j, j < n0 → fits .byte (.int (f j)) = true)
    (hframes : 1 ≤ R.frames) (hlocals : (rest.map fun v => v.category).sum + (nativeFrameWords "java/lang/System" "arraycopy" 5 + 11) ≤ R.locals) (hdg : decode cc pc = .ok (.invokestatic index, 3))
    (kk : ∀ (H1 : Heap) (locs1 : List Loc), va_P D cl (ws.set q1 (a, .inl (c1, n1, .inl (va_cpy f g sp.toNatClampNeg dp.toNatClampNeg n.toNatClampNeg)))) H1 → va_D A (ws.set q1 (a, .inl (c1, n1, .inl (va_cpy f g sp.toNatClampNeg dp.toNatClampNeg n.toNatClampNeg)))) → va_S A s.heap H1 locs1 → W p l e R s m args below meth c H1 locs1 cells slots Q (F0 m (pc + 3) ls rest)) : W p l e R s m args below meth c H locs cells slots Q (F0 m pc ls (.int n :: .int dp :: .ref a :: .int sp :: .ref b0 :: rest)) := by
  have nn : ∀ z : Int32, ¬ z < 0 → z.toInt = (z.toNatClampNeg : Int) := by
    intro z hz
    have hz0 : (0 : Int) ≤ z.toInt := by
      have := Int32.not_lt.mp hz
      simpa using Int32.le_iff_toInt_le.mp this
    show z.toInt = ((z.toInt.toNat : Nat) : Int)
    omega
  intro T hT X
  obtain ⟨scr, hs1, hs2, hs3, hs4, -, hs5, hbA⟩ := hX
  have hbl : b0 < s.heap.size := (Array.getElem?_eq_some_iff.mp hs1).1
  have hc0 : H[b0]? = some scr := by rw [hS.2.1 b0 hbl hbA]; exact hs1
  have hc1 : H[a]? = some (vp_cell c1 (n1, .inl g)) := hP q1 _ ha1
  obtain ⟨hs6, k0, hk0, cm0, hkk0⟩ := hs2
  obtain ⟨-, k1, hk1, cm1, hkk1⟩ := (hK.2 t1 _ ht1).1 n1 (fun j => .int (g j))
  obtain ⟨vm', X', step⟩ := X.arraycopy hexec hown hlink hnat hstat hini (src := b0) (dst := a) (cs := scr) (cd := vp_cell c1 (n1, .inl g)) (srcPos := sp) (destPos := dp) (n := n) (by rw [hT]; exact hc0) (by rw [hT]; exact hc1)
    hs6 (fun _ h => by cases h) hs3 (fun h => by cases h) hk0 hk1 hkk0 hkk1 (by simp [refKind]) h1 h2 h3
    (by rw [nn sp h1, nn n h3]; omega)
    (by rw [nn dp h2, nn n h3]; show ¬ _ > ((arrV c1 n1 (fun j => .int (g j))).slots.size : Int); rw [arrV_size]; omega)
    (fun vm₁ _ i hi => by
      have e : scr.slots.getD (sp.toNatClampNeg + i) .null = .int (f (sp.toNatClampNeg + i)) := by
        rw [Array.getD_eq_getD_getElem?, hs5 _ (by omega)]
        rfl
      refine ⟨?_, ?_⟩
      · rw [e]
        exact hfit _ (by omega)
      · rw [e]
        exact trivial)
    (g := F0 m pc ls (.int n :: .int dp :: .ref a :: .int sp :: .ref b0 :: rest)) rfl (by rw [hml]) (rest := rest) rfl (by rw [hb]; exact hdg) hframes (by show 2 * 0 + _ + _ ≤ _; omega)
  have e1 : copied scr (vp_cell c1 (n1, .inl g)) sp dp n = vp_cell c1 (n1, .inl (va_cpy f g sp.toNatClampNeg dp.toNatClampNeg n.toNatClampNeg)) := va_copiedX (fun z => .int z) scr c1 f g hs5 h4
  rw [e1] at X' step
  have hl : a < H.size := (Array.getElem?_eq_some_iff.mp hc1).1
  have hheap : ((T.setVm vm').setCell a (vp_cell c1 (n1, .inl (va_cpy f g sp.toNatClampNeg dp.toNatClampNeg n.toNatClampNeg)))).heap = H.setIfInBounds a (vp_cell c1 (n1, .inl (va_cpy f g sp.toNatClampNeg dp.toNatClampNeg n.toNatClampNeg))) := by rw [← hT]; rfl
  have oq : ∀ q : Nat, q ≠ a → (H.setIfInBounds a (vp_cell c1 (n1, .inl (va_cpy f g sp.toNatClampNeg dp.toNatClampNeg n.toNatClampNeg))))[q]? = H[q]? := fun q hq => by simp [Array.getElem?_setIfInBounds, Ne.symm hq]
  obtain ⟨t, a1, b1⟩ := kk _ _ (hP.set hD ha1 (show (H.setIfInBounds a _)[a]? = some _ by simp [Array.getElem?_setIfInBounds, hl]) oq) (hD.set ha1) ⟨by simp; exact hS.1, fun q g1 g2 => by
      rw [oq q (fun e => g2 (by rw [e]; exact hD.2 q1 _ ha1))]
      exact hS.2.1 q g1 g2, fun q hq => by
      rcases List.mem_append.mp hq with h | h
      · exact hS.2.2 q h
      · obtain ⟨z, -, hz⟩ := List.mem_map.mp h
        rw [← hz]
        exact hD.2 q1 _ ha1⟩ _ hheap X'
  exact ⟨t, step t a1, b1⟩
theorem q_copyk {k : Nat} {lv : List (Nat × Value)} {sp dp n : Int32} (X : p_X p m c cc nL s args own D cy G A) (hH : p_H D cy S A s H locs) (hl : lv_has ls nL lv) (hGK : gK adK adV A s s.heap) {kk : PS → Prop} (hf : cpK S k sp a dp n kk) (hlk : Cond.methodLink own index arraycopyName ∈ wG) (hna : Cond.native arraycopyName ∈ wG) (hst : Cond.static arraycopyName ∈ wG) (hini : Cond.initialized "java/lang/System" ∈ wG)
    (hR : 1 ≤ R.frames ∧ 8 + (nativeFrameWords "java/lang/System" "arraycopy" 5 + 11) ≤ R.locals) (hW : (rest.map fun v => v.category).sum ≤ 8) (hdg : decode cc pc = .ok (.invokestatic index, 3))
    (next : ∀ (S1 : PS), kk S1 → ∀ (H1 : Heap) (locs1 : List Loc), p_H D cy S1 A s H1 locs1 → W p l e R s m args below meth c H1 locs1 cells slots Q (F0 m (pc + 3) ls rest)) : W p l e R s m args below meth c H locs cells slots Q (F0 m pc ls (.int n :: .int dp :: .ref a :: .int sp :: .ref (adV k) :: rest)) := by
  obtain ⟨⟨hx, hb, hml, hown, hts⟩, hK, hA, hG, hGs⟩ := X
  obtain ⟨hP, hD, hS⟩ := hH
  obtain ⟨hk5, hLb, h1, h2, h3, n1, g, heb, h4, h5, hkv⟩ := hf
  obtain ⟨jb, hjb⟩ := p_get (cy := cy) hLb
  have hjb2 := hjb
  rw [heb] at hjb2
  refine va_copyT hx hb (hml.trans hl.1.symm) hown (hts _ hlk) (hts _ hna) (hts _ hst) (hts _ hini) hK hP hD hS (hGK.1.1 k hk5).2.2.2 jb 1 hjb2 rfl h1 h2 h3 h4 h5 (tx_fits k hk5) hR.1 (Nat.le_trans (Nat.add_le_add_right hW _) hR.2) hdg (fun H1 locs1 e1 e2 e3 => ?_)
  have he1 := p_set_eq (cy := cy) (.inl (1, n1, .inl (va_cpy (fun j => (txB.getD k []).getD j 0) g sp.toNatClampNeg dp.toNatClampNeg n.toNatClampNeg))) hD hLb hjb
  rw [show p_c cy (.inl (1, n1, .inl (va_cpy (fun j => (txB.getD k []).getD j 0) g sp.toNatClampNeg dp.toNatClampNeg n.toNatClampNeg))) = .inl (cy 1, n1, .inl (va_cpy (fun j => (txB.getD k []).getD j 0) g sp.toNatClampNeg dp.toNatClampNeg n.toNatClampNeg)) from rfl] at he1
  rw [he1] at e1 e2
  exact next _ hkv H1 locs1 ⟨e1, e2, e3⟩
end PCK
