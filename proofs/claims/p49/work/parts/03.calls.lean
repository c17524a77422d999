/-! calls, starts and ends over the pool -/
theorem p_back {D : va_G} {cy : Nat → ClassId} {A : Nat → Prop} {S : PS} {s : State} {H : Heap} {locs : List Loc} (hA : ∀ q, s.heap.size ≤ q → A q) (hH : p_H D cy S A s H locs) : ∀ q, p_A cy S H.size q → A q := by
  intro q h
  rcases h with ⟨k, e, h⟩ | h
  · exact hH.2.1.2 k (q, e) h
  · exact hA q (Nat.le_trans hH.2.2.1 h)
theorem p_again {D : va_G} {cy : Nat → ClassId} {A : Nat → Prop} {S u : PS} {s t : State} {H H1 : Heap} {locs locs1 : List Loc} (hA : ∀ q, s.heap.size ≤ q → A q) (hH : p_H D cy S A s H locs) (ht : t.heap = H1) (hB : p_Post D cy (p_A cy S H.size) u t) (hS : va_S A s.heap H1 locs1) : p_H D cy u A s H1 locs1 := by
  obtain ⟨hP1, hK1, hD1⟩ := hB
  rw [ht] at hP1
  exact ⟨hP1, ⟨hD1.1, fun k q h => p_back hA hH _ (hD1.2 k q h)⟩, hS⟩
section P3
variable {p : Program} {l : Launch} {e : Env} {R : Room} {s : State} {m : MethodId} {args : Array Value} {below : List Frame} {meth : Method} {c : Code} {H : Heap} {locs : List Loc} {cells slots : Nat} {Q : State → Prop}
variable {cc bytes : ByteArray} {pc nL : Nat} {ls : Array Slot} {st0 rest As : List Value} {D : va_G} {cy : Nat → ClassId} {G : p_GT} {A : Nat → Prop} {S : PS} {own host C : String} {ws : List Cond} {lv : List (Nat × Value)}
variable {T : u_T} {N ci a b index maxL mc ms n : Nat} {y : MethodName} {ret : Option FieldType} {rm : Room} {Qc : Array Value → State → Outcome → State → Prop} {free : Addr → Prop} {av : Array Value}
theorem p_pre (X : p_X p m c cc nL s args own D cy G A) (hH : p_H D cy S A s H locs) (vs : List Value) : ∀ U : State, U.heap = H → s.WarmedH U.vm → va_Pc vs (p_Pre D cy G S H.size) vs.toArray U := fun U hU hW =>
  ⟨rfl, by rw [hU], by rw [hU]; exact hH.1, va_K.moved hW.alike X.2.1, hH.2.1.weaken (fun _ _ _ _ => trivial), by rw [hU]; exact X.2.2.2.1.2.2.1 _ _ _ _ (p_back X.2.2.1 hH) (X.2.2.2.1.1 _ s U _ hW (X.2.2.2.1.2.1 _ s _ _ hH.2.2.2.1 X.2.2.2.2))⟩
theorem p_recv (X : p_X p m c cc nL s args own D cy G A) (hH : p_H D cy S A s H locs) (hL : b ∈ S.1) (he : ∃ fs : List Value, S.2 b = .inr (ci, fs)) (hc : vwCl[ci]? = some (C, T, N)) : ∃ cell : Cell, H[b]? = some cell ∧ cell.vm.isStatics = false ∧ s.vm.findClass C = some cell.cls := by
  obtain ⟨fs, he⟩ := he
  obtain ⟨j, hj⟩ := p_get (cy := cy) hL
  rw [he] at hj
  exact va_recv X.2.1 hH.1 hc hj
theorem q_pay (hts : ∀ w ∈ wG, w.before args s = true) (hc : Cond.code y bytes maxL ret ∈ wG) : ∀ w ∈ (Cond.code y bytes maxL ret :: wG), ∀ (a' : Array Value) (U : State), s.WarmedH U.vm → w.before a' U = true :=
  pay_in (big := wG) hts (fun w h => by rcases List.mem_cons.mp h with rfl | h <;> first | exact ⟨hc, wG_good hc⟩ | exact ⟨h, wG_good h⟩)
theorem q_cB (hts : ∀ w ∈ wG, w.before args s = true) (hF : mF y bytes maxL ret n) (hlk : Cond.methodLink own index y ∈ wG) (hR : rm.frames + 1 ≤ R.frames ∧ 8 + (maxL + 11) + rm.locals ≤ R.locals) (hrc : rm.cells = mc) (hrs : rm.slots = ms) : CallB R s args own index y bytes maxL ret (Cond.code y bytes maxL ret :: wG) rm mc ms n := by
  obtain ⟨h1, h2, ⟨h3, h4, h5⟩, h6⟩ := hF
  refine ⟨hrc, hrs, hR.1, hR.2, q_pay hts h1, List.mem_cons_self, hts _ h1, hts _ h2, ⟨h3, h4⟩, fun sig h => ?_, hts _ hlk⟩
  rw [h] at h5
  exact (Option.some.inj h5).symm
theorem q_cN (hts : ∀ w ∈ wG, w.before args s = true) (hF : mF y bytes maxL ret n) (hlk : va_Nw (.methodLinkNest own index y host) s) (hR : rm.frames + 1 ≤ R.frames ∧ 8 + (maxL + 11) + rm.locals ≤ R.locals) (hrc : rm.cells = mc) (hrs : rm.slots = ms) : va_CN R s args own index y host bytes maxL ret (Cond.code y bytes maxL ret :: wG) rm mc ms n := by
  obtain ⟨h1, h2, ⟨h3, h4, h5⟩, h6⟩ := hF
  refine ⟨⟨hrc, hrs, hR.1, hR.2, q_pay hts h1, List.mem_cons_self⟩, hts _ h1, hts _ h2, ⟨h3, h4⟩, fun sig h => ?_, va_Nw.use rfl hlk⟩
  rw [h] at h5
  exact (Option.some.inj h5).symm
theorem q_runV (As rest : List Value) (X : p_X p m c cc nL s args own D cy G A) (hH : p_H D cy S A s H locs) (hl : lv_has ls nL lv) (hM : Met l y (Cond.code y bytes maxL ret :: wG) rm (va_Pc (.ref b :: As) (p_Pre D cy G S H.size)) Qc mc ms free) (hF : mF y bytes maxL ret n) (hV : mV y) (hlk : Cond.methodLink own index y ∈ wG) (hR : rm.frames + 1 ≤ R.frames ∧ 8 + (maxL + 11) + rm.locals ≤ R.locals) (hL : b ∈ S.1) (he : ∃ fs : List Value, S.2 b = .inr (ci, fs)) (hc : vwCl[ci]? = some (y.cls, T, N)) (hst : st0 = As.reverse ++ .ref b :: rest) (hW : (rest.map fun v => v.category).sum ≤ 8) (hdg : decode cc pc = .ok (.invokevirtual index, 3)) (hf : cells + mc ≤ R.cells ∧ slots + ms ≤ R.slots)
    (hn : As.length = n := by rfl) (hrc : rm.cells = mc := by rfl) (hrs : rm.slots = ms := by rfl) :
    va_Run p l e R s m args below meth c H locs cells slots mc ms (F0 m pc ls st0) rest (Qc (Value.ref b :: As).toArray) free :=
  va_runV X.1 hM ⟨q_cB X.1.2.2.2.2 hF hlk hR hrc hrs, X.1.2.2.2.2 _ hV.1, X.1.2.2.2.2 _ hV.2⟩ ⟨p_blind X.2.2.2.1, p_recv X hH hL he hc, p_pre X hH _⟩ rfl hn hl.1 hst (lv_room (pc := pc) (ls := ls) (rest := st0) hW) hdg hf
theorem q_runI (As rest : List Value) (X : p_X p m c cc nL s args own D cy G A) (hH : p_H D cy S A s H locs) (hl : lv_has ls nL lv) (hM : Met l y (Cond.code y bytes maxL none :: wG) rm (va_Pc (.ref b :: As) (p_Pre D cy G S H.size)) Qc mc ms free) (hF : mF y bytes maxL none n) (hV : Cond.instanceMethod y ∈ wG) (hlk : Cond.methodLink own index y ∈ wG) (hR : rm.frames + 1 ≤ R.frames ∧ 8 + (maxL + 11) + rm.locals ≤ R.locals) (hst : st0 = As.reverse ++ .ref b :: rest) (hW : (rest.map fun v => v.category).sum ≤ 8) (hdg : decode cc pc = .ok (.invokespecial index, 3)) (hf : cells + mc ≤ R.cells ∧ slots + ms ≤ R.slots)
    (hy1 : y.name = "<init>" := by rfl) (hn : As.length = n := by rfl) (hrc : rm.cells = mc := by rfl) (hrs : rm.slots = ms := by rfl) :
    va_Run p l e R s m args below meth c H locs cells slots mc ms (F0 m pc ls st0) rest (Qc (Value.ref b :: As).toArray) free :=
  va_runI X.1 hM ⟨q_cB X.1.2.2.2.2 hF hlk hR hrc hrs, hy1, X.1.2.2.2.2 _ hV⟩ ⟨p_blind X.2.2.2.1, p_pre X hH _⟩ rfl hn hl.1 hst (lv_room (pc := pc) (ls := ls) (rest := st0) hW) hdg hf
theorem q_runIN (As rest : List Value) (X : p_X p m c cc nL s args own D cy G A) (hH : p_H D cy S A s H locs) (hl : lv_has ls nL lv) (hM : Met l y (Cond.code y bytes maxL none :: wG) rm (va_Pc (.ref b :: As) (p_Pre D cy G S H.size)) Qc mc ms free) (hF : mF y bytes maxL none n) (hV : Cond.instanceMethod y ∈ wG) (hlk : Cond.methodLinkNest own index y host ∈ nwL) (hR : rm.frames + 1 ≤ R.frames ∧ 8 + (maxL + 11) + rm.locals ≤ R.locals) (hst : st0 = As.reverse ++ .ref b :: rest) (hW : (rest.map fun v => v.category).sum ≤ 8) (hdg : decode cc pc = .ok (.invokespecial index, 3)) (hf : cells + mc ≤ R.cells ∧ slots + ms ≤ R.slots)
    (hy1 : y.name = "<init>" := by rfl) (hn : As.length = n := by rfl) (hrc : rm.cells = mc := by rfl) (hrs : rm.slots = ms := by rfl) :
    va_Run p l e R s m args below meth c H locs cells slots mc ms (F0 m pc ls st0) rest (Qc (Value.ref b :: As).toArray) free :=
  va_runIN X.1 hM ⟨q_cN X.1.2.2.2.2 hF (X.2.2.2.1.2.2.2 _ _ _ X.2.2.2.2 _ hlk) hR hrc hrs, hy1, X.1.2.2.2.2 _ hV⟩ ⟨p_blind X.2.2.2.1, p_pre X hH _⟩ rfl hn hl.1 hst (lv_room (pc := pc) (ls := ls) (rest := st0) hW) hdg hf
theorem q_runS (As rest : List Value) (X : p_X p m c cc nL s args own D cy G A) (hH : p_H D cy S A s H locs) (hl : lv_has ls nL lv) (hM : Met l y (Cond.code y bytes maxL ret :: wG) rm (va_Pc As (p_Pre D cy G S H.size)) Qc mc ms free) (hF : mF y bytes maxL ret n) (hV : Cond.static y ∈ wG) (hlk : Cond.methodLink own index y ∈ wG) (hR : rm.frames + 1 ≤ R.frames ∧ 8 + (maxL + 11) + rm.locals ≤ R.locals) (hst : st0 = As.reverse ++ rest) (hW : (rest.map fun v => v.category).sum ≤ 8) (hdg : decode cc pc = .ok (.invokestatic index, 3)) (hf : cells + mc ≤ R.cells ∧ slots + ms ≤ R.slots)
    (hn : As.length = n := by rfl) (hrc : rm.cells = mc := by rfl) (hrs : rm.slots = ms := by rfl) :
    va_Run p l e R s m args below meth c H locs cells slots mc ms (F0 m pc ls st0) rest (Qc As.toArray) free :=
  va_runS X.1 hM ⟨q_cB X.1.2.2.2.2 hF hlk hR hrc hrs, X.1.2.2.2.2 _ hV⟩ ⟨p_blind X.2.2.2.1, p_pre X hH _⟩ rfl hn hl.1 hst (lv_room (pc := pc) (ls := ls) (rest := st0) hW) hdg hf
theorem q_runSN (As rest : List Value) (X : p_X p m c cc nL s args own D cy G A) (hH : p_H D cy S A s H locs) (hl : lv_has ls nL lv) (hM : Met l y (Cond.code y bytes maxL ret :: wG) rm (va_Pc As (p_Pre D cy G S H.size)) Qc mc ms free) (hF : mF y bytes maxL ret n) (hV : Cond.static y ∈ wG) (hlk : Cond.methodLinkNest own index y host ∈ nwL) (hR : rm.frames + 1 ≤ R.frames ∧ 8 + (maxL + 11) + rm.locals ≤ R.locals) (hst : st0 = As.reverse ++ rest) (hW : (rest.map fun v => v.category).sum ≤ 8) (hdg : decode cc pc = .ok (.invokestatic index, 3)) (hf : cells + mc ≤ R.cells ∧ slots + ms ≤ R.slots)
    (hn : As.length = n := by rfl) (hrc : rm.cells = mc := by rfl) (hrs : rm.slots = ms := by rfl) :
    va_Run p l e R s m args below meth c H locs cells slots mc ms (F0 m pc ls st0) rest (Qc As.toArray) free :=
  va_runSN X.1 hM ⟨q_cN X.1.2.2.2.2 hF (X.2.2.2.1.2.2.2 _ _ _ X.2.2.2.2 _ hlk) hR hrc hrs, X.1.2.2.2.2 _ hV, trivial⟩ ⟨p_blind X.2.2.2.1, p_pre X hH _⟩ rfl hn hl.1 hst (lv_room (pc := pc) (ls := ls) (rest := st0) hW) hdg hf
theorem q_backI {post : Int32 → PS → Prop} (X : p_X p m c cc nL s args own D cy G A) (hH : p_H D cy S A s H locs) (hr : va_Run p l e R s m args below meth c H locs cells slots mc ms (F0 m pc ls st0) rest (va_Qi post (p_Post D cy (p_A cy S H.size)) (p_A cy S H.size) av) (p_A cy S H.size))
    (next : ∀ (r : Int32) (S1 : PS), post r S1 → ∀ (H1 : Heap) (locs1 : List Loc), p_H D cy S1 A s H1 locs1 → W p l e R s m args below meth c H1 locs1 (cells + mc) (slots + ms) Q (F0 m (pc + 3) ls (.int r :: rest))) : W p l e R s m args below meth c H locs cells slots Q (F0 m pc ls st0) :=
  va_calli hr hH.2.2 (fun q _ h => p_back X.2.2.1 hH q h) (p_back X.2.2.1 hH) (fun r u t H1 locs1 ht hvm hw hB hz1 hk1 hS1 => next r u hw H1 locs1 (p_again X.2.2.1 hH ht hB hS1))
theorem q_backV {post : PS → Prop} (X : p_X p m c cc nL s args own D cy G A) (hH : p_H D cy S A s H locs) (hr : va_Run p l e R s m args below meth c H locs cells slots mc ms (F0 m pc ls st0) rest (va_Qv post (p_Post D cy (p_A cy S H.size)) (p_A cy S H.size) av) (p_A cy S H.size))
    (next : ∀ (S1 : PS), post S1 → ∀ (H1 : Heap) (locs1 : List Loc), p_H D cy S1 A s H1 locs1 → W p l e R s m args below meth c H1 locs1 (cells + mc) (slots + ms) Q (F0 m (pc + 3) ls rest)) : W p l e R s m args below meth c H locs cells slots Q (F0 m pc ls st0) :=
  va_callv hr hH.2.2 (fun q _ h => p_back X.2.2.1 hH q h) (p_back X.2.2.1 hH) (fun u t H1 locs1 ht hvm hw hB hz1 hk1 hS1 => next u hw H1 locs1 (p_again X.2.2.1 hH ht hB hS1))
theorem q_backI0 {post : Int32 → PS → Prop} (X : p_X p m c cc nL s args own D cy G A) (hH : p_H D cy S A s H locs) (hr : va_Run p l e R s m args below meth c H locs cells slots 0 0 (F0 m pc ls st0) rest (va_Qi post (p_Post D cy (p_A cy S H.size)) (p_A cy S H.size) av) (p_A cy S H.size))
    (next : ∀ (r : Int32) (S1 : PS), post r S1 → ∀ (H1 : Heap) (locs1 : List Loc), p_H D cy S1 A s H1 locs1 → W p l e R s m args below meth c H1 locs1 cells slots Q (F0 m (pc + 3) ls (.int r :: rest))) : W p l e R s m args below meth c H locs cells slots Q (F0 m pc ls st0) :=
  q_backI X hH hr next
theorem q_backV0 {post : PS → Prop} (X : p_X p m c cc nL s args own D cy G A) (hH : p_H D cy S A s H locs) (hr : va_Run p l e R s m args below meth c H locs cells slots 0 0 (F0 m pc ls st0) rest (va_Qv post (p_Post D cy (p_A cy S H.size)) (p_A cy S H.size) av) (p_A cy S H.size))
    (next : ∀ (S1 : PS), post S1 → ∀ (H1 : Heap) (locs1 : List Loc), p_H D cy S1 A s H1 locs1 → W p l e R s m args below meth c H1 locs1 cells slots Q (F0 m (pc + 3) ls rest)) : W p l e R s m args below meth c H locs cells slots Q (F0 m pc ls st0) :=
  q_backV X hH hr next
theorem q_retI {post : Int32 → PS → Prop} {r : Int32} (X : p_X p m c cc nL s args own D cy G A) (hH : p_H D cy S A s H locs) (hr : meth.sig.returnType = some .int) (hlk : meth.locks = false) (hp : post r S) (h1 : cells ≤ mc) (h2 : slots ≤ ms) (hdg : decode cc pc = .ok (.ireturn, 1)) : W p l e R s m args below meth c H locs cells slots (MQ below (va_Qi post (p_Post D cy A) A) args s mc ms A) (F0 m pc ls [.int r]) :=
  W.widen h1 h2 (W.iret X.1.1 X.1.2.1 hr (fun t ht hW => ⟨⟨r, S, rfl, hp, by rw [ht]; exact hH.1, va_K.moved hW.alike X.2.1, hH.2.1⟩, hH.2.2.F ht⟩) hH.2.2.2.2 hdg hlk)
theorem q_retZ {post : Int32 → PS → Prop} {r : Int32} {ty : FieldType} (X : p_X p m c cc nL s args own D cy G A) (hH : p_H D cy S A s H locs) (hr : meth.sig.returnType = some ty) (hlk : meth.locks = false) (hp : nZ ty r (post r S)) (h1 : cells ≤ mc) (h2 : slots ≤ ms) (hdg : decode cc pc = .ok (.ireturn, 1)) : W p l e R s m args below meth c H locs cells slots (MQ below (va_Qi post (p_Post D cy A) A) args s mc ms A) (F0 m pc ls [.int r]) :=
  W.widen h1 h2 (W.zret X.1.1 X.1.2.1 hr hp.1 (fun t ht hW => ⟨⟨r, S, rfl, hp.2, by rw [ht]; exact hH.1, va_K.moved hW.alike X.2.1, hH.2.1⟩, hH.2.2.F ht⟩) hH.2.2.2.2 hdg hlk)
theorem q_retV {post : PS → Prop} (X : p_X p m c cc nL s args own D cy G A) (hH : p_H D cy S A s H locs) (hr : meth.sig.returnType = none) (hlk : meth.locks = false) (hp : post S) (h1 : cells ≤ mc) (h2 : slots ≤ ms) (hdg : decode cc pc = .ok (.return_, 1)) : W p l e R s m args below meth c H locs cells slots (MQ below (va_Qv post (p_Post D cy A) A) args s mc ms A) (F0 m pc ls []) :=
  W.widen h1 h2 (W.vret X.1.1 X.1.2.1 hr (fun t ht hW => ⟨⟨S, rfl, hp, by rw [ht]; exact hH.1, va_K.moved hW.alike X.2.1, hH.2.1⟩, hH.2.2.F ht⟩) hH.2.2.2.2 hdg hlk)
theorem q_mmin {lv : List (Nat × Value)} {x y : Int32} (X : p_X p m c cc nL s args own D cy G A) (hl : lv_has ls nL lv) (hlk : Cond.methodLink own index Lib.Math.min.name ∈ wG) (hs : Cond.static Lib.Math.min.name ∈ wG) (hi : Cond.initialized "java/lang/Math" ∈ wG) (hco : Cond.code Lib.Math.min.name Lib.Math.min.code 2 (some .int) ∈ wG) (hR : 1 ≤ R.frames ∧ 8 + 13 ≤ R.locals) (hW : (rest.map fun v => v.category).sum ≤ 8) (h1 : cells ≤ R.cells) (h2 : slots ≤ R.slots) (hdg : decode cc pc = .ok (.invokestatic index, 3))
    (kk : W p l e R s m args below meth c H locs cells slots Q (F0 m (pc + 3) ls (.int (if y < x then y else x) :: rest))) : W p l e R s m args below meth c H locs cells slots Q (F0 m pc ls (.int y :: .int x :: rest)) :=
  va_mmin X.1.1 X.1.2.1 (X.1.2.2.1.trans hl.1.symm) X.1.2.2.2.1 (X.1.2.2.2.2 _ hlk) (X.1.2.2.2.2 _ hs) (X.1.2.2.2.2 _ hi) (X.1.2.2.2.2 _ hco) hR.1 (Nat.le_trans (Nat.add_le_add_right hW 13) hR.2) h1 h2 hdg kk
theorem q_mmax {lv : List (Nat × Value)} {x y : Int32} (X : p_X p m c cc nL s args own D cy G A) (hl : lv_has ls nL lv) (hlk : Cond.methodLink own index Lib.Math.max.name ∈ wG) (hs : Cond.static Lib.Math.max.name ∈ wG) (hi : Cond.initialized "java/lang/Math" ∈ wG) (hco : Cond.code Lib.Math.max.name Lib.Math.max.code 2 (some .int) ∈ wG) (hR : 1 ≤ R.frames ∧ 8 + 13 ≤ R.locals) (hW : (rest.map fun v => v.category).sum ≤ 8) (h1 : cells ≤ R.cells) (h2 : slots ≤ R.slots) (hdg : decode cc pc = .ok (.invokestatic index, 3))
    (kk : W p l e R s m args below meth c H locs cells slots Q (F0 m (pc + 3) ls (.int (if x < y then y else x) :: rest))) : W p l e R s m args below meth c H locs cells slots Q (F0 m pc ls (.int y :: .int x :: rest)) :=
  va_mmax X.1.1 X.1.2.1 (X.1.2.2.1.trans hl.1.symm) X.1.2.2.2.1 (X.1.2.2.2.2 _ hlk) (X.1.2.2.2.2 _ hs) (X.1.2.2.2.2 _ hi) (X.1.2.2.2.2 _ hco) hR.1 (Nat.le_trans (Nat.add_le_add_right hW 13) hR.2) h1 h2 hdg kk
end P3
theorem q_start {l : Launch} {D : va_G} {cy : Nat → ClassId} {G : p_GT} (hG : p_ok G) {S : PS} {sz mc ms maxL : Nat} {y : MethodName} {rm : Room} {argsV : List Value} {cc : ByteArray} {ret : Option FieldType} {own : String} {Qc : (Nat → Prop) → Array Value → State → Outcome → State → Prop}
    {n : Nat} (hF : mF y cc maxL ret n) (hlen : (lg_sl argsV).length ≤ maxL) (ho : y.cls = own)
    (body : ∀ (p : Program) (e : Env) (s : State) (m : MethodId) (below : List Frame) (meth : Method) (c : Code) (A : Nat → Prop), p_X p m c cc maxL s argsV.toArray own D cy G A → meth.sig.returnType = ret → meth.locks = false → meth.name = y.name → ∀ ls : Array Slot, lv_has ls maxL (lv_args 0 argsV) → p_H D cy S A s s.heap [] →
      W p l e rm s m argsV.toArray below meth c s.heap [] 0 0 (MQ below (Qc A) argsV.toArray s mc ms A) (F0 m 0 ls [])) :
    Met l y (Cond.code y cc maxL ret :: wG) rm (va_Pc argsV (p_Pre D cy G S sz)) (Qc (p_A cy S sz)) mc ms (p_A cy S sz) := by
  refine Met.ofW (cc := cc) (maxL := maxL) (ret := ret) hF.2.2.2 rfl ?_
  intro p e s m args below meth c s₁ B hml hv
  obtain ⟨rfl, hsz, hP, hK, hD0, hGs⟩ := hv
  subst hsz
  have hD := hD0.self (sz := s.heap.size)
  have hown : s.vm.findClass own = some m.cls := by rw [← ho]; exact findClass_of_methodNamed B.named
  have hl := lv_entry argsV (n := maxL) hlen
  rw [lg_entry_eq]
  exact body p e s m below meth c (p_A cy S s.heap.size) ⟨⟨B.exec, B.bytes, hml, hown, fun w h => atoms_spec (ws := Cond.code y cc maxL ret :: wG) B.pre w (List.mem_cons_of_mem _ h)⟩, hK, fun q h => Or.inr h, hG, hGs⟩ B.returns B.notSynchronized (name_of_methodNamed B.named B.method).1 _ hl ⟨hP, hD, va_S.rf⟩
