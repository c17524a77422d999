/-! a byte array cloned, and cast *where all of it is copied* -/
theorem tw_cln : Cond.selects "[B" ⟨"[B", "clone", "()Ljava/lang/Object;"⟩ ⟨"java/lang/Object", "clone", "()Ljava/lang/Object;"⟩ ∈ wG := wQ_3 188 (by decide +kernel) rfl
def clB (S : PS) (a bc bs : Nat) (kk : Nat → PS → Nat → Nat → Prop) : Prop := a ∈ S.1 ∧ ∃ (n : Nat) (f : Nat → Int32), S.2 a = .inl (1, n, .inl f) ∧ (∀ i, i < n → fits .byte (.int (f i)) = true) ∧ 1 ≤ bc ∧ n ≤ bs ∧ ∀ q : Nat, q ∉ S.1 → kk q (p_add S q (.inl (1, n, .inl f))) (bc - 1) (bs - n)
def isB (S : PS) (a : Nat) (P : Prop) : Prop := a ∈ S.1 ∧ (∃ (n : Nat) (f : Nat → Int32), S.2 a = .inl (1, n, .inl f)) ∧ P
section PCL
variable {p : Program} {l : Launch} {e : Env} {R : Room} {s : State} {m : MethodId} {args : Array Value} {below : List Frame} {meth : Method} {c : Code} {H : Heap} {locs : List Loc} {cells slots : Nat} {Q : State → Prop}
variable {cc : ByteArray} {pc nL : Nat} {ls : Array Slot} {rest : List Value} {D : va_G} {cy : Nat → ClassId} {G : p_GT} {A : Nat → Prop} {S : PS} {own : String} {a index bc bs : Nat}
theorem q_cloneB {lv : List (Nat × Value)} (X : p_X p m c cc nL s args own D cy G A) (hH : p_H D cy S A s H locs) (hl : lv_has ls nL lv) (hB : cells + bc ≤ R.cells ∧ slots + bs ≤ R.slots) {kk : Nat → PS → Nat → Nat → Prop} (hf : clB S a bc bs kk) (hlk : Cond.methodLink own index ⟨"[B", "clone", "()Ljava/lang/Object;"⟩ ∈ wG) (hsm : Cond.sameMethod "[B" "java/lang/Object" "clone" "()Ljava/lang/Object;" ∈ wG) (hna : Cond.native ⟨"java/lang/Object", "clone", "()Ljava/lang/Object;"⟩ ∈ wG) (hin : Cond.instanceMethod ⟨"java/lang/Object", "clone", "()Ljava/lang/Object;"⟩ ∈ wG) (hcl : va_Nw (.castable "[B" "java/lang/Cloneable") s)
    (hR : 1 ≤ R.frames ∧ 22 ≤ R.locals) (hW : (rest.map fun v => v.category).sum ≤ 8) (hdg : decode cc pc = .ok (.invokevirtual index, 3))
    (next : ∀ (q : Nat) (S1 : PS) (bc1 bs1 : Nat), kk q S1 bc1 bs1 → ∀ (H1 : Heap) (locs1 : List Loc) (cells1 slots1 : Nat), p_H D cy S1 A s H1 locs1 → cells1 + bc1 ≤ R.cells ∧ slots1 + bs1 ≤ R.slots → W p l e R s m args below meth c H1 locs1 cells1 slots1 Q (F0 m (pc + 3) ls (.ref q :: rest))) : W p l e R s m args below meth c H locs cells slots Q (F0 m pc ls (.ref a :: rest)) := by
  obtain ⟨⟨hx, hb, hml, hown, hts⟩, hK, hA, hG, hGs⟩ := X
  obtain ⟨hL, n, f, he, hfit, h1, h2, hf⟩ := hf
  obtain ⟨j, hj⟩ := p_get (cy := cy) hL
  rw [he] at hj
  have hj2 : (p_W cy S)[j]? = some (a, .inl (cy 1, n, .inl f)) := hj
  refine va_clone hx hb (hml.trans hl.1.symm) hown (hts _ hlk) (hts _ hsm) (hts _ hna) (hts _ hin) (hts _ tw_cln) hcl hK hH.1 hH.2.1 hH.2.2 hA j 1 (x := (n, .inl f)) (ty := .byte) hj2 rfl (hK.2 1 (cy 1, .byte) rfl).2 (fun i v hv => ?_) hR.1 (by omega) (by omega) (by show slots + n ≤ _; omega) hdg (fun q H1 hK1 hP1 hD1 hS1 => ?_)
  · have hlt : i < n := by
      have h9 := (Array.getElem?_eq_some_iff.mp hv).1
      have h8 : (vp_cell (cy 1) (n, .inl f)).slots.size = n := arrV_size _ _ _
      omega
    have h7 : (vp_cell (cy 1) (n, .inl f)).slots[i]? = some (.int (f i)) := arrV_read _ _ hlt
    rw [h7] at hv
    cases hv
    exact hfit i hlt
  · obtain ⟨hq, hH1⟩ := p_new (e9 := .inl (1, n, .inl f)) hH hP1 hD1 hS1
    exact next q _ _ _ (hf q hq) H1 locs _ _ hH1 ⟨by omega, by show slots + n + (bs - n) ≤ _; omega⟩
theorem q_castB (X : p_X p m c cc nL s args own D cy G A) (hH : p_H D cy S A s H locs) {P : Prop} (hf : isB S a P) (hlk : Cond.classLink own index "[B" ∈ wG) (hdg : decode cc pc = .ok (.checkcast index, 3))
    (next : P → W p l e R s m args below meth c H locs cells slots Q (F0 m (pc + 3) ls (.ref a :: rest))) : W p l e R s m args below meth c H locs cells slots Q (F0 m pc ls (.ref a :: rest)) := by
  obtain ⟨⟨hx, hb, hml, hown, hts⟩, hK, hA, hG, hGs⟩ := X
  obtain ⟨hL, ⟨n, f, he⟩, hP⟩ := hf
  obtain ⟨j, hj⟩ := p_get (cy := cy) hL
  rw [he] at hj
  have hj2 : (p_W cy S)[j]? = some (a, .inl (cy 1, n, .inl f)) := hj
  exact va_castA hx hb hown (hts _ hlk) hH.1 j (x := (n, .inl f)) hj2 (hK.2 1 (cy 1, .byte) rfl).2 hdg (next hP)
end PCL
