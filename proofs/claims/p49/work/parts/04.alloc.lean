/-! making: what a method makes is paid out of two numbers, bc cells and bs slots -/
def nO (S : PS) (ci : Nat) (fs : List Value) (N bc bs : Nat) (kk : Nat → PS → Nat → Nat → Prop) : Prop := 1 ≤ bc ∧ N ≤ bs ∧ ∀ q : Nat, q ∉ S.1 → kk q (p_add S q (.inr (ci, fs))) (bc - 1) (bs - N)
def nA (S : PS) (t : Nat) (n : Int32) (bc bs : Nat) (kk : Nat → PS → Nat → Nat → Prop) : Prop := ¬ n < 0 ∧ n.toNatClampNeg ≤ 1000000 ∧ 1 ≤ bc ∧ n.toNatClampNeg ≤ bs ∧ ∀ q : Nat, q ∉ S.1 → kk q (p_add S q (.inl (t, n.toNatClampNeg, .inl (fun _ => 0)))) (bc - 1) (bs - n.toNatClampNeg)
def nQ (S : PS) (n : Int32) (bc bs : Nat) (kk : Nat → PS → Nat → Nat → Prop) : Prop := ¬ n < 0 ∧ n.toNatClampNeg ≤ 1000000 ∧ 1 ≤ bc ∧ n.toNatClampNeg ≤ bs ∧ ∀ q : Nat, q ∉ S.1 → kk q (p_add S q (.inl (3, n.toNatClampNeg, .inr (.inr (.inr (.inr (fun _ => none))))))) (bc - 1) (bs - n.toNatClampNeg)
def cpI (S : PS) (a : Nat) (sp : Int32) (b : Nat) (dp n : Int32) (kk : PS → Prop) : Prop := a ∈ S.1 ∧ b ∈ S.1 ∧ ¬ sp < 0 ∧ ¬ dp < 0 ∧ ¬ n < 0 ∧ ∃ (n0 n1 : Nat) (f g : Nat → Int32), S.2 a = .inl (0, n0, .inl f) ∧ S.2 b = .inl (0, n1, .inl g) ∧ sp.toNatClampNeg + n.toNatClampNeg ≤ n0 ∧ dp.toNatClampNeg + n.toNatClampNeg ≤ n1 ∧ kk (p_set S b (.inl (0, n1, .inl (va_cpy f g sp.toNatClampNeg dp.toNatClampNeg n.toNatClampNeg))))
section P4
variable {p : Program} {l : Launch} {e : Env} {R : Room} {s : State} {m : MethodId} {args : Array Value} {below : List Frame} {meth : Method} {c : Code} {H : Heap} {locs : List Loc} {cells slots : Nat} {Q : State → Prop}
variable {cc : ByteArray} {pc nL : Nat} {ls : Array Slot} {st0 rest : List Value} {D : va_G} {cy : Nat → ClassId} {G : p_GT} {A : Nat → Prop} {S : PS} {own : String}
variable {C : String} {T : u_T} {N ci a b index bc bs mc ms : Nat} {av : Array Value}
theorem p_new (hH : p_H D cy S A s H locs) {q : Nat} {e9 : pE} {H1 : Heap} (hP1 : va_P D vwCl (p_W cy S ++ [(q, p_c cy e9)]) H1) (hD1 : va_D A (p_W cy S ++ [(q, p_c cy e9)])) (hS1 : va_S A s.heap H1 locs) : q ∉ S.1 ∧ p_H D cy (p_add S q e9) A s H1 locs := by
  have hq : q ∉ S.1 := by
    intro hm
    obtain ⟨j, hj⟩ := p_get (cy := cy) hm
    have hl := (List.getElem?_eq_some_iff.mp hj).1
    have h1 : (p_W cy S ++ [(q, p_c cy e9)])[j]? = some (q, p_c cy (S.2 q)) := by rw [List.getElem?_append_left hl]; exact hj
    have h2 : (p_W cy S ++ [(q, p_c cy e9)])[(p_W cy S).length]? = some (q, p_c cy e9) := by simp
    have h3 := hD1.1 j (p_W cy S).length _ _ h1 h2 rfl
    omega
  rw [p_add_eq e9 hq] at hP1 hD1
  exact ⟨hq, hP1, hD1, hS1⟩
theorem q_new {fs : List Value} (X : p_X p m c cc nL s args own D cy G A) (hH : p_H D cy S A s H locs) (hB : cells + bc ≤ R.cells ∧ slots + bs ≤ R.slots) {kk : Nat → PS → Nat → Nat → Prop} (hf : nO S ci fs N bc bs kk) (hin : ∀ w ∈ u_ws C T N, w ∈ wG) (ty : Nat → FieldType) (hty : ∀ k, k < N → parseFieldDescriptor (T k).2.2.1 = some (ty k)) (hc : vwCl[ci]? = some (C, T, N)) (hcl : Cond.classLink own index C ∈ wG) (hinst : Cond.instantiable C N ∈ wG) (hini : Cond.initialized C ∈ wG) (hfs : ∀ j, j < N → defaultValue (ty j) = vp_V fs j) (hdg : decode cc pc = .ok (.new index, 3))
    (next : ∀ (q : Nat) (S1 : PS) (bc1 bs1 : Nat), kk q S1 bc1 bs1 → ∀ (H1 : Heap) (locs1 : List Loc) (cells1 slots1 : Nat), p_H D cy S1 A s H1 locs1 → cells1 + bc1 ≤ R.cells ∧ slots1 + bs1 ≤ R.slots → W p l e R s m args below meth c H1 locs1 cells1 slots1 Q (F0 m (pc + 3) ls (.ref q :: rest))) : W p l e R s m args below meth c H locs cells slots Q (F0 m pc ls rest) := by
  obtain ⟨⟨hx, hb, hml, hown, hts⟩, hK, hA, hG, hGs⟩ := X
  obtain ⟨h1, h2, hf⟩ := hf
  refine va_new (fs := fs) hx hb hts hin ty hty hown (hts _ hcl) (hts _ hinst) (hts _ hini) hK hH.1 hH.2.1 hH.2.2 hA hc hfs (by omega) (by omega) hdg (fun q H1 hP1 hD1 hS1 => ?_)
  obtain ⟨hq, hH1⟩ := p_new (e9 := .inr (ci, fs)) hH hP1 hD1 hS1
  exact next q _ _ _ (hf q hq) H1 locs _ _ hH1 ⟨by omega, by omega⟩
theorem p_ty (hK : va_K D vwCl (p_T cy) s) {cA : ClassId} {ty : FieldType} {k : Nat} (hk : (p_T cy)[k]? = some (cy k, ty)) (hp : ∀ C, ty ≠ .object C) (h : va_K D vwCl (p_T cy ++ [(cA, ty)]) s) : cA = cy k := by
  have h1 := (hK.2 k _ hk).2
  have h2 := (h.2 (p_T cy).length (cA, ty) (by simp)).2
  cases ty <;> first | exact absurd rfl (hp _) | exact Option.some.inj (h2.symm.trans h1)
theorem q_newa {t : Nat} {atype : ArrayType} {ty : FieldType} {n : Int32} (X : p_X p m c cc nL s args own D cy G A) (hH : p_H D cy S A s H locs) (hB : cells + bc ≤ R.cells ∧ slots + bs ≤ R.slots) {kk : Nat → PS → Nat → Nat → Prop} (hf : nA S t n bc bs kk) (harr : Cond.arrayClass (newarray.typeOf atype) ∈ wG) (hty : newarray.typeOf atype = ty) (hk : (p_T cy)[t]? = some (cy t, ty)) (hp : ∀ C, ty ≠ .object C) (hd : ∀ (N : Nat) (cA : ClassId), vp_cell cA (N, .inl (fun _ => 0)) = arrV cA N (fun _ => defaultValue ty)) (hcb : componentBytes ty ≤ 8) (hdg : decode cc pc = .ok (.newarray atype, 2))
    (next : ∀ (q : Nat) (S1 : PS) (bc1 bs1 : Nat), kk q S1 bc1 bs1 → ∀ (H1 : Heap) (locs1 : List Loc) (cells1 slots1 : Nat), p_H D cy S1 A s H1 locs1 → cells1 + bc1 ≤ R.cells ∧ slots1 + bs1 ≤ R.slots → W p l e R s m args below meth c H1 locs1 cells1 slots1 Q (F0 m (pc + 2) ls (.ref q :: rest))) : W p l e R s m args below meth c H locs cells slots Q (F0 m pc ls (.int n :: rest)) := by
  obtain ⟨⟨hx, hb, hml, hown, hts⟩, hK, hA, hG, hGs⟩ := X
  obtain ⟨h0, h3, h1, h2, hf⟩ := hf
  refine va_newa (a0 := (n.toNatClampNeg, .inl (fun _ => 0))) hx hb (hts _ harr) hty hK hH.1 hH.2.1 hH.2.2 hA (hd _) h0 rfl (by have := Nat.mul_le_mul h3 hcb; omega) (by omega) (by omega) hdg (fun q cA H1 hK1 hP1 hD1 hS1 => ?_)
  have hcA := p_ty hK hk hp hK1
  subst hcA
  obtain ⟨hq, hH1⟩ := p_new (e9 := .inl (t, n.toNatClampNeg, .inl (fun _ => 0))) hH hP1 hD1 hS1
  exact next q _ _ _ (hf q hq) H1 locs _ _ hH1 ⟨by omega, by omega⟩
theorem q_newq {n : Int32} (X : p_X p m c cc nL s args own D cy G A) (hH : p_H D cy S A s H locs) (hB : cells + bc ≤ R.cells ∧ slots + bs ≤ R.slots) {kk : Nat → PS → Nat → Nat → Prop} (hf : nQ S n bc bs kk) (hcl : Cond.classLink own index "VillageFeud$Village" ∈ wG) (hao : va_AO "VillageFeud$Village" s) (hdg : decode cc pc = .ok (.anewarray index, 3))
    (next : ∀ (q : Nat) (S1 : PS) (bc1 bs1 : Nat), kk q S1 bc1 bs1 → ∀ (H1 : Heap) (locs1 : List Loc) (cells1 slots1 : Nat), p_H D cy S1 A s H1 locs1 → cells1 + bc1 ≤ R.cells ∧ slots1 + bs1 ≤ R.slots → W p l e R s m args below meth c H1 locs1 cells1 slots1 Q (F0 m (pc + 3) ls (.ref q :: rest))) : W p l e R s m args below meth c H locs cells slots Q (F0 m pc ls (.int n :: rest)) := by
  obtain ⟨⟨hx, hb, hml, hown, hts⟩, hK, hA, hG, hGs⟩ := X
  obtain ⟨h0, h3, h1, h2, hf⟩ := hf
  refine va_newq hx hb hown (hts _ hcl) hao hK hH.1 hH.2.1 hH.2.2 hA h0 rfl (by omega) (by omega) (by omega) hdg (fun q cA H1 hK1 hP1 hD1 hS1 => ?_)
  have hcA : cA = cy 3 := by
    obtain ⟨kA, comp, h5, h6, h7, h8⟩ := (hK.2 3 _ rfl).2
    obtain ⟨kB, comp2, h9, h10, h11, h12⟩ := (hK1.2 (p_T cy).length (cA, .object "VillageFeud$Village") (by simp)).2
    exact Option.some.inj (h12.symm.trans h8)
  subst hcA
  obtain ⟨hq, hH1⟩ := p_new (e9 := .inl (3, n.toNatClampNeg, .inr (.inr (.inr (.inr (fun _ => none)))))) hH hP1 hD1 hS1
  exact next q _ _ _ (hf q hq) H1 locs _ _ hH1 ⟨by omega, by omega⟩
theorem q_copyi {lv : List (Nat × Value)} {sp dp n : Int32} (X : p_X p m c cc nL s args own D cy G A) (hH : p_H D cy S A s H locs) (hl : lv_has ls nL lv) {kk : PS → Prop} (hf : cpI S a sp b dp n kk) (hlk : Cond.methodLink own index arraycopyName ∈ wG) (hna : Cond.native arraycopyName ∈ wG) (hst : Cond.static arraycopyName ∈ wG) (hini : Cond.initialized "java/lang/System" ∈ wG)
    (hR : 1 ≤ R.frames ∧ 8 + (nativeFrameWords "java/lang/System" "arraycopy" 5 + 11) ≤ R.locals) (hW : (rest.map fun v => v.category).sum ≤ 8) (hdg : decode cc pc = .ok (.invokestatic index, 3))
    (next : ∀ (S1 : PS), kk S1 → ∀ (H1 : Heap) (locs1 : List Loc), p_H D cy S1 A s H1 locs1 → W p l e R s m args below meth c H1 locs1 cells slots Q (F0 m (pc + 3) ls rest)) : W p l e R s m args below meth c H locs cells slots Q (F0 m pc ls (.int n :: .int dp :: .ref b :: .int sp :: .ref a :: rest)) := by
  obtain ⟨⟨hx, hb, hml, hown, hts⟩, hK, hA, hG, hGs⟩ := X
  obtain ⟨hP, hD, hS⟩ := hH
  obtain ⟨hLa, hLb, h1, h2, h3, n0, n1, f, g, hea, heb, h4, h5, hkv⟩ := hf
  obtain ⟨ja, hja⟩ := p_get (cy := cy) hLa
  obtain ⟨jb, hjb⟩ := p_get (cy := cy) hLb
  have hjb2 := hjb
  rw [hea] at hja
  rw [heb] at hjb2
  refine va_copyi hx hb (hml.trans hl.1.symm) hown (hts _ hlk) (hts _ hna) (hts _ hst) (hts _ hini) hK hP hD hS ja jb 0 0 hja hjb2 rfl rfl rfl h1 h2 h3 h4 h5 (fun i hi => rfl) hR.1 (Nat.le_trans (Nat.add_le_add_right hW _) hR.2) hdg (fun H1 locs1 e1 e2 e3 => ?_)
  have he1 := p_set_eq (cy := cy) (.inl (0, n1, .inl (va_cpy f g sp.toNatClampNeg dp.toNatClampNeg n.toNatClampNeg))) hD hLb hjb
  rw [show p_c cy (.inl (0, n1, .inl (va_cpy f g sp.toNatClampNeg dp.toNatClampNeg n.toNatClampNeg))) = .inl (cy 0, n1, .inl (va_cpy f g sp.toNatClampNeg dp.toNatClampNeg n.toNatClampNeg)) from rfl] at he1
  rw [he1] at e1 e2
  exact next _ hkv H1 locs1 ⟨e1, e2, e3⟩
theorem q_backIB {post : Int32 → PS → Prop} (X : p_X p m c cc nL s args own D cy G A) (hH : p_H D cy S A s H locs) (hB : cells + bc ≤ R.cells ∧ slots + bs ≤ R.slots) (hm : mc ≤ bc) (hs : ms ≤ bs) (hr : va_Run p l e R s m args below meth c H locs cells slots mc ms (F0 m pc ls st0) rest (va_Qi post (p_Post D cy (p_A cy S H.size)) (p_A cy S H.size) av) (p_A cy S H.size))
    (next : ∀ (r : Int32) (S1 : PS), post r S1 → ∀ (H1 : Heap) (locs1 : List Loc) (cells1 slots1 : Nat), p_H D cy S1 A s H1 locs1 → cells1 + (bc - mc) ≤ R.cells ∧ slots1 + (bs - ms) ≤ R.slots → W p l e R s m args below meth c H1 locs1 cells1 slots1 Q (F0 m (pc + 3) ls (.int r :: rest))) : W p l e R s m args below meth c H locs cells slots Q (F0 m pc ls st0) :=
  q_backI X hH hr (fun r S1 hp H1 locs1 hH1 => next r S1 hp H1 locs1 _ _ hH1 ⟨by omega, by omega⟩)
theorem q_backVB {post : PS → Prop} (X : p_X p m c cc nL s args own D cy G A) (hH : p_H D cy S A s H locs) (hB : cells + bc ≤ R.cells ∧ slots + bs ≤ R.slots) (hm : mc ≤ bc) (hs : ms ≤ bs) (hr : va_Run p l e R s m args below meth c H locs cells slots mc ms (F0 m pc ls st0) rest (va_Qv post (p_Post D cy (p_A cy S H.size)) (p_A cy S H.size) av) (p_A cy S H.size))
    (next : ∀ (S1 : PS), post S1 → ∀ (H1 : Heap) (locs1 : List Loc) (cells1 slots1 : Nat), p_H D cy S1 A s H1 locs1 → cells1 + (bc - mc) ≤ R.cells ∧ slots1 + (bs - ms) ≤ R.slots → W p l e R s m args below meth c H1 locs1 cells1 slots1 Q (F0 m (pc + 3) ls rest)) : W p l e R s m args below meth c H locs cells slots Q (F0 m pc ls st0) :=
  q_backV X hH hr (fun S1 hp H1 locs1 hH1 => next S1 hp H1 locs1 _ _ hH1 ⟨by omega, by omega⟩)
theorem q_objInit {lv : List (Nat × Value)} (X : p_X p m c cc nL s args own D cy G A) (hl : lv_has ls nL lv) (hlk : Cond.methodLink own index Lib.objectInit ∈ wG) (hin : Cond.instanceMethod Lib.objectInit ∈ wG) (hco : Cond.code Lib.objectInit ⟨#[0xb1]⟩ 1 none ∈ wG) (hR : 1 ≤ R.frames ∧ 20 ≤ R.locals) (hW : (rest.map fun v => v.category).sum ≤ 8) (hdg : decode cc pc = .ok (.invokespecial index, 3))
    (next : W p l e R s m args below meth c H locs cells slots Q (F0 m (pc + 3) ls rest)) : W p l e R s m args below meth c H locs cells slots Q (F0 m pc ls (.ref a :: rest)) :=
  W.objInit X.1.1 X.1.2.1 X.1.2.2.2.1 (X.1.2.2.2.2 _ hlk) (X.1.2.2.2.2 _ hin) (X.1.2.2.2.2 _ hco) rfl (hl.1.trans X.1.2.2.1.symm) rfl hdg hR.1 (by show 2 * 0 + _ + 12 ≤ _; omega) next
end P4
