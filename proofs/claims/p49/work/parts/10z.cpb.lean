/-! bytes copied: as numbers are (part 04), but that each must fit *a byte* -/
def cpB (S : PS) (a : Nat) (sp : Int32) (b : Nat) (dp n : Int32) (kk : PS → Prop) : Prop := a ∈ S.1 ∧ b ∈ S.1 ∧ ¬ sp < 0 ∧ ¬ dp < 0 ∧ ¬ n < 0 ∧ ∃ (n0 n1 : Nat) (f g : Nat → Int32), S.2 a = .inl (1, n0, .inl f) ∧ S.2 b = .inl (1, n1, .inl g) ∧ sp.toNatClampNeg + n.toNatClampNeg ≤ n0 ∧ dp.toNatClampNeg + n.toNatClampNeg ≤ n1 ∧ (∀ i, i < n.toNatClampNeg → fits .byte (.int (f (sp.toNatClampNeg + i))) = true) ∧ kk (p_set S b (.inl (1, n1, .inl (va_cpy f g sp.toNatClampNeg dp.toNatClampNeg n.toNatClampNeg))))
section P4B
variable {p : Program} {l : Launch} {e : Env} {R : Room} {s : State} {m : MethodId} {args : Array Value} {below : List Frame} {meth : Method} {c : Code} {H : Heap} {locs : List Loc} {cells slots : Nat} {Q : State → Prop}
variable {cc : ByteArray} {pc nL : Nat} {ls : Array Slot} {st0 rest : List Value} {D : va_G} {cy : Nat → ClassId} {G : p_GT} {A : Nat → Prop} {S : PS} {own : String}
variable {C : String} {T : u_T} {N ci a b index bc bs mc ms : Nat} {av : Array Value}
theorem q_copyb {lv : List (Nat × Value)} {sp dp n : Int32} (X : p_X p m c cc nL s args own D cy G A) (hH : p_H D cy S A s H locs) (hl : lv_has ls nL lv) {kk : PS → Prop} (hf : cpB S a sp b dp n kk) (hlk : Cond.methodLink own index arraycopyName ∈ wG) (hna : Cond.native arraycopyName ∈ wG) (hst : Cond.static arraycopyName ∈ wG) (hini : Cond.initialized "java/lang/System" ∈ wG)
    (hR : 1 ≤ R.frames ∧ 8 + (nativeFrameWords "java/lang/System" "arraycopy" 5 + 11) ≤ R.locals) (hW : (rest.map fun v => v.category).sum ≤ 8) (hdg : decode cc pc = .ok (.invokestatic index, 3))
    (next : ∀ (S1 : PS), kk S1 → ∀ (H1 : Heap) (locs1 : List Loc), p_H D cy S1 A s H1 locs1 → W p l e R s m args below meth c H1 locs1 cells slots Q (F0 m (pc + 3) ls rest)) : W p l e R s m args below meth c H locs cells slots Q (F0 m pc ls (.int n :: .int dp :: .ref b :: .int sp :: .ref a :: rest)) := by
  obtain ⟨⟨hx, hb, hml, hown, hts⟩, hK, hA, hG, hGs⟩ := X
  obtain ⟨hP, hD, hS⟩ := hH
  obtain ⟨hLa, hLb, h1, h2, h3, n0, n1, f, g, hea, heb, h4, h5, hfit, hkv⟩ := hf
  obtain ⟨ja, hja⟩ := p_get (cy := cy) hLa
  obtain ⟨jb, hjb⟩ := p_get (cy := cy) hLb
  have hjb2 := hjb
  rw [hea] at hja
  rw [heb] at hjb2
  refine va_copyi hx hb (hml.trans hl.1.symm) hown (hts _ hlk) (hts _ hna) (hts _ hst) (hts _ hini) hK hP hD hS ja jb 1 1 hja hjb2 rfl rfl rfl h1 h2 h3 h4 h5 hfit hR.1 (Nat.le_trans (Nat.add_le_add_right hW _) hR.2) hdg (fun H1 locs1 e1 e2 e3 => ?_)
  have he1 := p_set_eq (cy := cy) (.inl (1, n1, .inl (va_cpy f g sp.toNatClampNeg dp.toNatClampNeg n.toNatClampNeg))) hD hLb hjb
  rw [show p_c cy (.inl (1, n1, .inl (va_cpy f g sp.toNatClampNeg dp.toNatClampNeg n.toNatClampNeg))) = .inl (cy 1, n1, .inl (va_cpy f g sp.toNatClampNeg dp.toNatClampNeg n.toNatClampNeg)) from rfl] at he1
  rw [he1] at e1 e2
  exact next _ hkv H1 locs1 ⟨e1, e2, e3⟩
end P4B
