/-! a method of StringBuilder's superclass is named, StringBuilder's own is run -/
section POV
variable {p : Program} {l : Launch} {e : Env} {R : Room} {s : State} {m : MethodId} {args : Array Value} {below : List Frame} {meth : Method} {c : Code} {H : Heap} {locs : List Loc} {cells slots : Nat} {Q : State → Prop}
variable {cc bytes bytes0 : ByteArray} {pc nL : Nat} {ls : Array Slot} {st0 rest As : List Value} {D : va_G} {cy : Nat → ClassId} {G : p_GT} {A : Nat → Prop} {S : PS} {own : String} {lv : List (Nat × Value)}
variable {a b index maxL maxL0 mc ms n : Nat} {x y : MethodName} {ret ret0 : Option FieldType} {rm : Room} {Qc : Array Value → State → Outcome → State → Prop} {free : Addr → Prop}
theorem q_runO (As rest : List Value) (X : p_X p m c cc nL s args own D cy G A) (hH : p_H D cy S A s H locs) (hl : lv_has ls nL lv) (hM : Met l y (Cond.code y bytes maxL ret :: wG) rm (va_Pc (.ref b :: As) (p_Pre D cy G S H.size)) Qc mc ms free) (hF : mF y bytes maxL ret n) (hFx : mF x bytes0 maxL0 ret0 n) (hV : mU x) (hin : Cond.instanceMethod y ∈ wG) (hsel : Cond.selects RJ4 x y ∈ wG) (hlk : Cond.methodLink own index x ∈ wG) (hR : rm.frames + 1 ≤ R.frames ∧ 8 + (maxL + 11) + rm.locals ≤ R.locals) (hL : b ∈ S.1) (he : ∃ fs : List Value, S.2 b = .inr (1, fs)) (hst : st0 = As.reverse ++ .ref b :: rest) (hW : (rest.map fun v => v.category).sum ≤ 8) (hdg : decode cc pc = .ok (.invokevirtual index, 3)) (hf : cells + mc ≤ R.cells ∧ slots + ms ≤ R.slots)
    (hn : As.length = n := by rfl) (hrc : rm.cells = mc := by rfl) (hrs : rm.slots = ms := by rfl) :
    va_Run p l e R s m args below meth c H locs cells slots mc ms (F0 m pc ls st0) rest (Qc (Value.ref b :: As).toArray) free := by
  have hts := X.1.2.2.2.2
  obtain ⟨h1, h2, -, -⟩ := hF
  obtain ⟨k1, -, ⟨k3, k4, k5⟩, -⟩ := hFx
  have hcw : va_CU R s args own RJ4 x.cls index x y bytes maxL ret (Cond.code y bytes maxL ret :: wG) rm mc ms n := by
    refine ⟨⟨hrc, hrs, hR.1, hR.2, q_pay hts h1, List.mem_cons_self⟩, hts _ h1, hts _ h2, ⟨k3, k4⟩, fun sig h => ?_, hts _ hlk, hts _ hV.2, va_Decl.of (hts _ hV.1) (hts _ k1), hts _ hsel, hts _ hin⟩
    rw [h] at k5
    exact (Option.some.inj k5).symm
  exact va_runU X.1 hM hcw ⟨p_blind X.2.2.2.1, p_recv (C := RJ4) (T := TJ4) (N := 4) X hH hL he rfl, p_pre X hH _⟩ rfl hn hl.1 hst (lv_room (pc := pc) (ls := ls) (rest := st0) hW) hdg hf
end POV
