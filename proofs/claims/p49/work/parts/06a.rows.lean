/-! rows for the law and its helpers: longs, doubles, floats, calls that throw, catching -/
def aL (S : PS) (a : Nat) (i : Int32) (kk : Int64 → Prop) : Prop := a ∈ S.1 ∧ ∃ (n : Nat) (f : Nat → Int64), S.2 a = .inl (4, n, .inr (.inl f)) ∧ vp_in i n ∧ kk (f i.toNatClampNeg)
def sL (S : PS) (a : Nat) (i : Int32) (x : Int64) (kk : PS → Prop) : Prop := a ∈ S.1 ∧ ∃ (n : Nat) (f : Nat → Int64), S.2 a = .inl (4, n, .inr (.inl f)) ∧ vp_in i n ∧ kk (p_set S a (.inl (4, n, .inr (.inl (vp_updL f i.toNatClampNeg x)))))
def aD (S : PS) (a : Nat) (i : Int32) (kk : UInt64 → Prop) : Prop := a ∈ S.1 ∧ ∃ (n : Nat) (f : Nat → UInt64), S.2 a = .inl (5, n, .inr (.inr (.inr (.inl f)))) ∧ vp_in i n ∧ kk (f i.toNatClampNeg)
def sD (S : PS) (a : Nat) (i : Int32) (x : UInt64) (kk : PS → Prop) : Prop := a ∈ S.1 ∧ ∃ (n : Nat) (f : Nat → UInt64), S.2 a = .inl (5, n, .inr (.inr (.inr (.inl f)))) ∧ vp_in i n ∧ kk (p_set S a (.inl (5, n, .inr (.inr (.inr (.inl (vf_upd f i.toNatClampNeg x)))))))
def nLo (S : PS) (n : Int32) (bc bs : Nat) (kk : Nat → PS → Nat → Nat → Prop) : Prop := ¬ n < 0 ∧ n.toNatClampNeg ≤ 1000000 ∧ 1 ≤ bc ∧ n.toNatClampNeg ≤ bs ∧ ∀ q : Nat, q ∉ S.1 → kk q (p_add S q (.inl (4, n.toNatClampNeg, .inr (.inl (fun _ => 0))))) (bc - 1) (bs - n.toNatClampNeg)
def nD (S : PS) (n : Int32) (bc bs : Nat) (kk : Nat → PS → Nat → Nat → Prop) : Prop := ¬ n < 0 ∧ n.toNatClampNeg ≤ 1000000 ∧ 1 ≤ bc ∧ n.toNatClampNeg ≤ bs ∧ ∀ q : Nat, q ∉ S.1 → kk q (p_add S q (.inl (5, n.toNatClampNeg, .inr (.inr (.inr (.inl (fun _ => 0))))))) (bc - 1) (bs - n.toNatClampNeg)
def mFW (y : MethodName) (bytes : ByteArray) (maxL : Nat) (ret : Option FieldType) (hh : List (Nat × Nat × Nat × Nat)) (n : Nat) : Prop := Cond.codeWith y bytes maxL ret hh ∈ wG ∧ Cond.initialized y.cls ∈ wG ∧ (y.cls ≠ "java/lang/invoke/MethodHandle" ∧ y.cls ≠ "java/lang/invoke/VarHandle" ∧ (parseMethodDescriptor y.desc).map (fun d => d.parameters.length) = some n) ∧ plainName y.cls = true
abbrev p_Md (l : Launch) (D : va_G) (cy : Nat → ClassId) (G : p_GT) (S : PS) (sz : Nat) (y : MethodName) (ws : List Cond) (rm : Room) (args : List Value) (mc ms : Nat) (post : UInt64 → PS → Prop) : Prop :=
  Met l y ws rm (va_Pc args (p_Pre D cy G S sz)) (va_Qd post (p_Post D cy (p_A cy S sz)) (p_A cy S sz)) mc ms (p_A cy S sz)
abbrev p_Mf (l : Launch) (D : va_G) (cy : Nat → ClassId) (G : p_GT) (S : PS) (sz : Nat) (y : MethodName) (ws : List Cond) (rm : Room) (args : List Value) (mc ms : Nat) (post : UInt32 → PS → Prop) : Prop :=
  Met l y ws rm (va_Pc args (p_Pre D cy G S sz)) (va_Qf post (p_Post D cy (p_A cy S sz)) (p_A cy S sz)) mc ms (p_A cy S sz)
abbrev p_Xd (l : Launch) (D : va_G) (cy : Nat → ClassId) (G : p_GT) (S : PS) (sz : Nat) (y : MethodName) (ws : List Cond) (rm : Room) (args : List Value) (mc ms : Nat) (post : UInt64 → PS → Prop) (postX : String → PS → Prop) : Prop :=
  vx_Met l y ws rm (va_Pc args (p_Pre D cy G S sz)) (va_Qd post (p_Post D cy (p_A cy S sz)) (p_A cy S sz)) (p_XC D cy (p_A cy S sz) postX) mc ms (p_A cy S sz)
abbrev p_Xf (l : Launch) (D : va_G) (cy : Nat → ClassId) (G : p_GT) (S : PS) (sz : Nat) (y : MethodName) (ws : List Cond) (rm : Room) (args : List Value) (mc ms : Nat) (post : UInt32 → PS → Prop) (postX : String → PS → Prop) : Prop :=
  vx_Met l y ws rm (va_Pc args (p_Pre D cy G S sz)) (va_Qf post (p_Post D cy (p_A cy S sz)) (p_A cy S sz)) (p_XC D cy (p_A cy S sz) postX) mc ms (p_A cy S sz)
/-- pairs of exception classes of which the first is not one of the second -/
def ncL : List (String × String) := []
def gN (_ : Nat → Prop) (U : State) (_ : Heap) : Prop := ∀ q ∈ ncL, va_Nc q.1 q.2 U
section P8
variable {p : Program} {l : Launch} {e : Env} {R : Room} {s : State} {m : MethodId} {args : Array Value} {below : List Frame} {meth : Method} {c : Code} {H : Heap} {locs : List Loc} {cells slots : Nat} {Q : State → Prop}
variable {cc bytes : ByteArray} {pc nL : Nat} {ls : Array Slot} {st0 rest As : List Value} {D : va_G} {cy : Nat → ClassId} {G : p_GT} {A : Nat → Prop} {S : PS} {own C : String} {ws : List Cond} {lv : List (Nat × Value)}
variable {T : u_T} {N ci a b index maxL mc ms n bc bs : Nat} {y : MethodName} {ret : Option FieldType} {rm : Room} {Qc : Array Value → State → Outcome → State → Prop} {XC : String → State → State → Prop} {free : Addr → Prop} {av : Array Value} {postX : String → PS → Prop}
theorem q_retD {post : UInt64 → PS → Prop} {r : UInt64} (X : p_X p m c cc nL s args own D cy G A) (hH : p_H D cy S A s H locs) (hr : meth.sig.returnType = some .double) (hlk : meth.locks = false) (hp : post r S) (h1 : cells ≤ mc) (h2 : slots ≤ ms) (hdg : decode cc pc = .ok (.dreturn, 1)) : W p l e R s m args below meth c H locs cells slots (MQ below (va_Qd post (p_Post D cy A) A) args s mc ms A) (F0 m pc ls [.double r]) :=
  W.widen h1 h2 (W.dret X.1.1 X.1.2.1 hr (fun t ht hW => ⟨⟨r, S, rfl, hp, by rw [ht]; exact hH.1, va_K.moved hW.alike X.2.1, hH.2.1⟩, hH.2.2.F ht⟩) hH.2.2.2.2 hdg hlk)
theorem q_retF {post : UInt32 → PS → Prop} {r : UInt32} (X : p_X p m c cc nL s args own D cy G A) (hH : p_H D cy S A s H locs) (hr : meth.sig.returnType = some .float) (hlk : meth.locks = false) (hp : post r S) (h1 : cells ≤ mc) (h2 : slots ≤ ms) (hdg : decode cc pc = .ok (.freturn, 1)) : W p l e R s m args below meth c H locs cells slots (MQ below (va_Qf post (p_Post D cy A) A) args s mc ms A) (F0 m pc ls [.float r]) :=
  W.widen h1 h2 (W.fret X.1.1 X.1.2.1 hr (fun t ht hW => ⟨⟨r, S, rfl, hp, by rw [ht]; exact hH.1, va_K.moved hW.alike X.2.1, hH.2.1⟩, hH.2.2.F ht⟩) hH.2.2.2.2 hdg hlk)
theorem q_backD0 {post : UInt64 → PS → Prop} (X : p_X p m c cc nL s args own D cy G A) (hH : p_H D cy S A s H locs) (hr : va_Run p l e R s m args below meth c H locs cells slots 0 0 (F0 m pc ls st0) rest (va_Qd post (p_Post D cy (p_A cy S H.size)) (p_A cy S H.size) av) (p_A cy S H.size))
    (next : ∀ (r : UInt64) (S1 : PS), post r S1 → ∀ (H1 : Heap) (locs1 : List Loc), p_H D cy S1 A s H1 locs1 → W p l e R s m args below meth c H1 locs1 cells slots Q (F0 m (pc + 3) ls (.double r :: rest))) : W p l e R s m args below meth c H locs cells slots Q (F0 m pc ls st0) :=
  va_calld hr hH.2.2 (fun q _ h => p_back X.2.2.1 hH q h) (p_back X.2.2.1 hH) (fun r u t H1 locs1 ht hvm hw hB hz1 hk1 hS1 => next r u hw H1 locs1 (p_again X.2.2.1 hH ht hB hS1))
theorem q_backF0 {post : UInt32 → PS → Prop} (X : p_X p m c cc nL s args own D cy G A) (hH : p_H D cy S A s H locs) (hr : va_Run p l e R s m args below meth c H locs cells slots 0 0 (F0 m pc ls st0) rest (va_Qf post (p_Post D cy (p_A cy S H.size)) (p_A cy S H.size) av) (p_A cy S H.size))
    (next : ∀ (r : UInt32) (S1 : PS), post r S1 → ∀ (H1 : Heap) (locs1 : List Loc), p_H D cy S1 A s H1 locs1 → W p l e R s m args below meth c H1 locs1 cells slots Q (F0 m (pc + 3) ls (.float r :: rest))) : W p l e R s m args below meth c H locs cells slots Q (F0 m pc ls st0) :=
  va_callf hr hH.2.2 (fun q _ h => p_back X.2.2.1 hH q h) (p_back X.2.2.1 hH) (fun r u t H1 locs1 ht hvm hw hB hz1 hk1 hS1 => next r u hw H1 locs1 (p_again X.2.2.1 hH ht hB hS1))
theorem q_runVx (As rest : List Value) (X : p_X p m c cc nL s args own D cy G A) (hH : p_H D cy S A s H locs) (hl : lv_has ls nL lv) (hM : vx_Met l y (Cond.code y bytes maxL ret :: wG) rm (va_Pc (.ref b :: As) (p_Pre D cy G S H.size)) Qc XC mc ms free) (hF : mF y bytes maxL ret n) (hV : mV y) (hlk : Cond.methodLink own index y ∈ wG) (hR : rm.frames + 1 ≤ R.frames ∧ 8 + (maxL + 11) + rm.locals ≤ R.locals) (hL : b ∈ S.1) (he : ∃ fs : List Value, S.2 b = .inr (ci, fs)) (hc : vwCl[ci]? = some (y.cls, T, N)) (hst : st0 = As.reverse ++ .ref b :: rest) (hW : (rest.map fun v => v.category).sum ≤ 8) (hdg : decode cc pc = .ok (.invokevirtual index, 3)) (hf : cells + mc ≤ R.cells ∧ slots + ms ≤ R.slots)
    (hn : As.length = n := by rfl) (hrc : rm.cells = mc := by rfl) (hrs : rm.slots = ms := by rfl) :
    vx_Run p l e R s m args below meth c H locs cells slots mc ms (F0 m pc ls st0) rest (Qc (Value.ref b :: As).toArray) XC free :=
  vx_runV X.1 hM ⟨q_cB X.1.2.2.2.2 hF hlk hR hrc hrs, X.1.2.2.2.2 _ hV.1, X.1.2.2.2.2 _ hV.2⟩ ⟨p_blind X.2.2.2.1, p_recv X hH hL he hc, p_pre X hH _⟩ rfl hn hl.1 hst (lv_room (pc := pc) (ls := ls) (rest := st0) hW) hdg hf
theorem q_runSx {hh : List (Nat × Nat × Nat × Nat)} (As rest : List Value) (X : p_X p m c cc nL s args own D cy G A) (hH : p_H D cy S A s H locs) (hl : lv_has ls nL lv) (hM : vx_Met l y (Cond.codeWith y bytes maxL ret hh :: wG) rm (va_Pc As (p_Pre D cy G S H.size)) Qc XC mc ms free) (hF : mFW y bytes maxL ret hh n) (hV : Cond.static y ∈ wG) (hlk : Cond.methodLink own index y ∈ wG) (hR : rm.frames + 1 ≤ R.frames ∧ 8 + (maxL + 11) + rm.locals ≤ R.locals) (hst : st0 = As.reverse ++ rest) (hW : (rest.map fun v => v.category).sum ≤ 8) (hdg : decode cc pc = .ok (.invokestatic index, 3)) (hf : cells + mc ≤ R.cells ∧ slots + ms ≤ R.slots)
    (hn : As.length = n := by rfl) (hrc : rm.cells = mc := by rfl) (hrs : rm.slots = ms := by rfl) :
    vx_Run p l e R s m args below meth c H locs cells slots mc ms (F0 m pc ls st0) rest (Qc As.toArray) XC free := by
  have hts := X.1.2.2.2.2
  obtain ⟨h1, h2, ⟨h3, h4, h5⟩, h6⟩ := hF
  have hpay : ∀ w ∈ (Cond.codeWith y bytes maxL ret hh :: wG), ∀ (a' : Array Value) (U : State), s.WarmedH U.vm → w.before a' U = true :=
    pay_in (big := wG) hts (fun w h => by rcases List.mem_cons.mp h with rfl | h <;> first | exact ⟨h1, wG_good h1⟩ | exact ⟨h, wG_good h⟩)
  exact vx_runSX X.1 hM ⟨⟨hrc, hrs, hR.1, hR.2, hpay, List.mem_cons_self⟩, hts _ h1, hts _ h2, ⟨h3, h4⟩, (fun sig h => by rw [h] at h5; exact (Option.some.inj h5).symm), hts _ hlk, hts _ hV⟩ ⟨p_blind X.2.2.2.1, p_pre X hH _⟩ rfl hn hl.1 hst (lv_room (pc := pc) (ls := ls) (rest := st0) hW) hdg hf
theorem q_callXi {post : Int32 → PS → Prop} (X : p_X p m c cc nL s args own D cy G A) (hH : p_H D cy S A s H locs) (hB : cells + bc ≤ R.cells ∧ slots + bs ≤ R.slots) (hm : mc ≤ bc) (hs : ms ≤ bs) (hr : vx_Run p l e R s m args below meth c H locs cells slots mc ms (F0 m pc ls st0) rest (va_Qi post (p_Post D cy (p_A cy S H.size)) (p_A cy S H.size) av) (p_XC D cy (p_A cy S H.size) postX) (p_A cy S H.size))
    (kx : ∀ (E : String) (ce : Cell) (q9 : Addr) (S1 : PS), postX E S1 → ∀ (H1 : Heap) (locs1 : List Loc) (cells1 slots1 : Nat), p_H D cy S1 A s H1 locs1 → cells1 + (bc - mc) ≤ R.cells ∧ slots1 + (bs - ms) ≤ R.slots → H1[q9]? = some ce → ce.vm = .none → s.vm.findClass E = some ce.cls → vx_W p l e R s m args below meth c H1 locs1 cells1 slots1 Q (F0 m pc ls rest) q9)
    (next : ∀ (r : Int32) (S1 : PS), post r S1 → ∀ (H1 : Heap) (locs1 : List Loc) (cells1 slots1 : Nat), p_H D cy S1 A s H1 locs1 → cells1 + (bc - mc) ≤ R.cells ∧ slots1 + (bs - ms) ≤ R.slots → W p l e R s m args below meth c H1 locs1 cells1 slots1 Q (F0 m (pc + 3) ls (.int r :: rest))) : W p l e R s m args below meth c H locs cells slots Q (F0 m pc ls st0) :=
  vx_calli hr hH.2.2 (fun q _ h => p_back X.2.2.1 hH q h) (p_back X.2.2.1 hH) (fun q _ h => p_back X.2.2.1 hH q h)
    (fun E ce q9 u t H1 locs1 ht hvm hw hBx hz1 hk1 hS1 h1 h2 h3 => kx E ce q9 u hBx.1 H1 locs1 _ _ (p_again X.2.2.1 hH ht hBx.2 hS1) ⟨by omega, by omega⟩ h1 h2 h3)
    (fun r u t H1 locs1 ht hvm hw hBx hz1 hk1 hS1 => next r u hw H1 locs1 _ _ (p_again X.2.2.1 hH ht hBx hS1) ⟨by omega, by omega⟩)
theorem q_callXd {post : UInt64 → PS → Prop} (X : p_X p m c cc nL s args own D cy G A) (hH : p_H D cy S A s H locs) (hB : cells + bc ≤ R.cells ∧ slots + bs ≤ R.slots) (hm : mc ≤ bc) (hs : ms ≤ bs) (hr : vx_Run p l e R s m args below meth c H locs cells slots mc ms (F0 m pc ls st0) rest (va_Qd post (p_Post D cy (p_A cy S H.size)) (p_A cy S H.size) av) (p_XC D cy (p_A cy S H.size) postX) (p_A cy S H.size))
    (kx : ∀ (E : String) (ce : Cell) (q9 : Addr) (S1 : PS), postX E S1 → ∀ (H1 : Heap) (locs1 : List Loc) (cells1 slots1 : Nat), p_H D cy S1 A s H1 locs1 → cells1 + (bc - mc) ≤ R.cells ∧ slots1 + (bs - ms) ≤ R.slots → H1[q9]? = some ce → ce.vm = .none → s.vm.findClass E = some ce.cls → vx_W p l e R s m args below meth c H1 locs1 cells1 slots1 Q (F0 m pc ls rest) q9)
    (next : ∀ (r : UInt64) (S1 : PS), post r S1 → ∀ (H1 : Heap) (locs1 : List Loc) (cells1 slots1 : Nat), p_H D cy S1 A s H1 locs1 → cells1 + (bc - mc) ≤ R.cells ∧ slots1 + (bs - ms) ≤ R.slots → W p l e R s m args below meth c H1 locs1 cells1 slots1 Q (F0 m (pc + 3) ls (.double r :: rest))) : W p l e R s m args below meth c H locs cells slots Q (F0 m pc ls st0) :=
  vx_calld hr hH.2.2 (fun q _ h => p_back X.2.2.1 hH q h) (p_back X.2.2.1 hH) (fun q _ h => p_back X.2.2.1 hH q h)
    (fun E ce q9 u t H1 locs1 ht hvm hw hBx hz1 hk1 hS1 h1 h2 h3 => kx E ce q9 u hBx.1 H1 locs1 _ _ (p_again X.2.2.1 hH ht hBx.2 hS1) ⟨by omega, by omega⟩ h1 h2 h3)
    (fun r u t H1 locs1 ht hvm hw hBx hz1 hk1 hS1 => next r u hw H1 locs1 _ _ (p_again X.2.2.1 hH ht hBx hS1) ⟨by omega, by omega⟩)
theorem q_callXf {post : UInt32 → PS → Prop} (X : p_X p m c cc nL s args own D cy G A) (hH : p_H D cy S A s H locs) (hB : cells + bc ≤ R.cells ∧ slots + bs ≤ R.slots) (hm : mc ≤ bc) (hs : ms ≤ bs) (hr : vx_Run p l e R s m args below meth c H locs cells slots mc ms (F0 m pc ls st0) rest (va_Qf post (p_Post D cy (p_A cy S H.size)) (p_A cy S H.size) av) (p_XC D cy (p_A cy S H.size) postX) (p_A cy S H.size))
    (kx : ∀ (E : String) (ce : Cell) (q9 : Addr) (S1 : PS), postX E S1 → ∀ (H1 : Heap) (locs1 : List Loc) (cells1 slots1 : Nat), p_H D cy S1 A s H1 locs1 → cells1 + (bc - mc) ≤ R.cells ∧ slots1 + (bs - ms) ≤ R.slots → H1[q9]? = some ce → ce.vm = .none → s.vm.findClass E = some ce.cls → vx_W p l e R s m args below meth c H1 locs1 cells1 slots1 Q (F0 m pc ls rest) q9)
    (next : ∀ (r : UInt32) (S1 : PS), post r S1 → ∀ (H1 : Heap) (locs1 : List Loc) (cells1 slots1 : Nat), p_H D cy S1 A s H1 locs1 → cells1 + (bc - mc) ≤ R.cells ∧ slots1 + (bs - ms) ≤ R.slots → W p l e R s m args below meth c H1 locs1 cells1 slots1 Q (F0 m (pc + 3) ls (.float r :: rest))) : W p l e R s m args below meth c H locs cells slots Q (F0 m pc ls st0) :=
  vx_callf hr hH.2.2 (fun q _ h => p_back X.2.2.1 hH q h) (p_back X.2.2.1 hH) (fun q _ h => p_back X.2.2.1 hH q h)
    (fun E ce q9 u t H1 locs1 ht hvm hw hBx hz1 hk1 hS1 h1 h2 h3 => kx E ce q9 u hBx.1 H1 locs1 _ _ (p_again X.2.2.1 hH ht hBx.2 hS1) ⟨by omega, by omega⟩ h1 h2 h3)
    (fun r u t H1 locs1 ht hvm hw hBx hz1 hk1 hS1 => next r u hw H1 locs1 _ _ (p_again X.2.2.1 hH ht hBx hS1) ⟨by omega, by omega⟩)
end P8
theorem q_startH {l : Launch} {D : va_G} {cy : Nat → ClassId} {G : p_GT} (hG : p_ok G) {S : PS} {sz mc ms maxL : Nat} {y : MethodName} {rm : Room} {argsV : List Value} {cc : ByteArray} {ret : Option FieldType} {own : String} {hh : List (Nat × Nat × Nat × Nat)} {Qc : (Nat → Prop) → Array Value → State → Outcome → State → Prop} {XC : (Nat → Prop) → String → State → State → Prop}
    {n : Nat} (hF : mFW y cc maxL ret hh n) (hlen : (lg_sl argsV).length ≤ maxL) (ho : y.cls = own)
    (body : ∀ (p : Program) (e : Env) (s : State) (m : MethodId) (below : List Frame) (meth : Method) (c : Code) (A : Nat → Prop), p_X p m c cc maxL s argsV.toArray own D cy G A → meth.sig.returnType = ret → meth.locks = false → meth.name = y.name → c.exceptionTable.toList = tableOf hh → ∀ ls : Array Slot, lv_has ls maxL (lv_args 0 argsV) → p_H D cy S A s s.heap [] →
      W p l e rm s m argsV.toArray below meth c s.heap [] 0 0 (vx_MQ below (Qc A) (XC A) argsV.toArray s mc ms A) (F0 m 0 ls [])) :
    vx_Met l y (Cond.codeWith y cc maxL ret hh :: wG) rm (va_Pc argsV (p_Pre D cy G S sz)) (Qc (p_A cy S sz)) (XC (p_A cy S sz)) mc ms (p_A cy S sz) := by
  refine vx_ofWH (cc := cc) (maxL := maxL) (ret := ret) (hh := hh) hF.2.2.2 rfl ?_
  intro p e s m args below meth c s₁ B hml hv
  obtain ⟨rfl, hsz, hP, hK, hD0, hGs⟩ := hv
  subst hsz
  have hD := hD0.self (sz := s.heap.size)
  have hown : s.vm.findClass own = some m.cls := by rw [← ho]; exact findClass_of_methodNamed B.named
  have hl := lv_entry argsV (n := maxL) hlen
  have hall := atoms_spec (ws := Cond.codeWith y cc maxL ret hh :: wG) B.pre
  rw [lg_entry_eq]
  exact body p e s m below meth c (p_A cy S s.heap.size) ⟨⟨B.exec, B.bytes, hml, hown, fun w h => hall w (List.mem_cons_of_mem _ h)⟩, hK, fun q h => Or.inr h, hG, hGs⟩ B.returns B.notSynchronized (name_of_methodNamed B.named B.method).1 (vx_table (x := y) B (hall _ List.mem_cons_self)) _ hl ⟨hP, hD, va_S.rf⟩
theorem mw_L_joined : mFW yL_joined cL_joined 4 (some .int) [(0, 6, 7, 53)] 3 := ⟨tw_898, tw_29, by decide +kernel, by decide +kernel⟩
theorem mw_L_least : mFW yL_least cL_least 2 (some .int) [(0, 4, 5, 53)] 1 := ⟨tw_906, tw_29, by decide +kernel, by decide +kernel⟩
theorem mw_L_leastAgain : mFW yL_leastAgain cL_leastAgain 2 (some .int) [(0, 4, 5, 53)] 1 := ⟨tw_914, tw_29, by decide +kernel, by decide +kernel⟩
theorem mw_L_met : mFW yL_met cL_met 2 (some .int) [(0, 4, 5, 53)] 1 := ⟨tw_921, tw_29, by decide +kernel, by decide +kernel⟩
theorem mw_L_leastSides : mFW yL_leastSides cL_leastSides 2 (some .int) [(0, 4, 5, 53)] 1 := ⟨tw_928, tw_29, by decide +kernel, by decide +kernel⟩
theorem mw_L_bestMove : mFW yL_bestMove cL_bestMove 2 (some .int) [(0, 4, 5, 53)] 1 := ⟨tw_940, tw_29, by decide +kernel, by decide +kernel⟩
theorem mw_L_bondAt : mFW yL_bondAt cL_bondAt 3 (some .int) [(0, 5, 6, 53)] 2 := ⟨tw_948, tw_29, by decide +kernel, by decide +kernel⟩
theorem mw_L_heaviest : mFW yL_heaviest cL_heaviest 2 (some .int) [(0, 4, 5, 53)] 1 := ⟨tw_960, tw_29, by decide +kernel, by decide +kernel⟩
theorem mw_L_ranked : mFW yL_ranked cL_ranked 4 (some .int) [(0, 6, 7, 53)] 3 := ⟨tw_971, tw_29, by decide +kernel, by decide +kernel⟩
theorem mw_L_household : mFW yL_household cL_household 2 (some .int) [(0, 4, 5, 23)] 1 := ⟨tw_983, tw_29, by decide +kernel, by decide +kernel⟩
theorem mw_L_bond : mFW yL_bond cL_bond 5 (some .int) [(0, 7, 8, 23)] 4 := ⟨tw_1093, tw_29, by decide +kernel, by decide +kernel⟩
theorem mw_L_leave : mFW yL_leave cL_leave 3 (some .int) [(0, 5, 6, 23)] 2 := ⟨tw_1105, tw_29, by decide +kernel, by decide +kernel⟩
theorem mw_L_marry : mFW yL_marry cL_marry 4 (some .int) [(0, 6, 7, 23)] 3 := ⟨tw_1112, tw_29, by decide +kernel, by decide +kernel⟩
theorem mw_L_loosen : mFW yL_loosen cL_loosen 4 (some .int) [(0, 6, 7, 23)] 3 := ⟨tw_1120, tw_29, by decide +kernel, by decide +kernel⟩
theorem mw_L_stand : mFW yL_stand cL_stand 4 (some .int) [(0, 6, 7, 23)] 3 := ⟨tw_1128, tw_29, by decide +kernel, by decide +kernel⟩
theorem mw_L_part : mFW yL_part cL_part 2 (some .int) [(0, 4, 5, 23)] 1 := ⟨tw_1136, tw_29, by decide +kernel, by decide +kernel⟩
