theorem xs_throwS {p : Program} {l : Launch} {e : Env} {R : Room} {s : State} {m : MethodId} {args : Array Value} {below : List Frame} {meth : Method} {c : Code} {H : Heap} {locs : List Loc} {cells slots : Nat} {ls : Array Slot} {rest : List Value} {Qc : Array Value → State → Outcome → State → Prop} {XC : String → State → State → Prop} {free : Addr → Prop} {cc : ByteArray} {pc : Nat} (hexec : p.tables.exec = Jvm.exec) (hb : c.code = cc) (hl : l.stackTraces = false) {own cls text : String} {names : List String} {ik is ic ix mc ms sa : Nat} {rx : ByteArray} (x0 : decode rx 0 = .ok (.aload_n 0, 1)) (x1 : decode rx 1 = .ok (.aload_n 1, 1)) (x2 : decode rx 2 = .ok (.invokespecial ix, 3)) (x5 : decode rx 5 = .ok (.return_, 1)) {A : Nat → Prop}
    (hown : s.vm.findClass own = some m.cls) (hcls : Bundle.fit cls = true) (hnames : ∀ n ∈ names, Bundle.fit n = true)
    (hk : (Cond.classLink own ik cls).before args s = true) (hini : (Cond.initialized cls).before args s = true) (hstr : vk_R own is text sa s) (hat : ∀ w ∈ (xs_at own ic cls ix rx names).filter vx_no, w.before args s = true)
    (hgood : ∀ w ∈ Cond.classLink own ik cls :: Cond.initialized cls :: (xs_at own ic cls ix rx names).filter vx_no, vx_ot w = true)
    (hU : vx_Zq Bundle.tN "UNASSIGNED_STACK" Bundle.steD A s s.heap) (hN : vx_Zq Bundle.tN "SUPPRESSED_SENTINEL" Bundle.listD A s s.heap) (hS : va_S A s.heap H locs) (hsize : ls.size = c.maxLocals)
    (d0 : decode cc pc = .ok (.new ik, 3)) (d3 : decode cc (pc + 3) = .ok (.dup, 1)) (d4 : decode cc (pc + 4) = .ok (.ldc is, 2)) (d6 : decode cc (pc + 6) = .ok (.invokespecial ic, 3)) (d9 : decode cc (pc + 9) = .ok (.athrow, 1))
    (hout : ∀ x ∈ c.exceptionTable.toList, covers x (pc + 9) = false)
    (hRframes : names.length + 3 < R.frames) (hRlocals : (rest.map fun v => v.category).sum + (13 * (names.length + 1) + 43) ≤ R.locals) (hRcells : cells + 1 ≤ R.cells) (hRslots : slots + 6 ≤ R.slots) (hlocks : meth.locks = false)
    (hx : ∀ t : State, s.vm.Alike t.vm → H.size ≤ t.heap.size → (∀ q : Nat, q < H.size → t.heap[q]? = H[q]?) → XC cls s t)
    (hf : ∀ z ∈ locs, free z.base) (hc : cells + 1 ≤ mc) (hs : slots + 6 ≤ ms) :
    W p l e R s m args below meth c H locs cells slots (vx_MQ below Qc XC args s mc ms free) (F0 m pc ls rest) := by
  intro T hT X
  have htr : e.platform.stackTraces = false := (show e.platform.stackTraces = l.stackTraces by rw [X.admits.platform]).trans hl
  have Y := vx_rebase X (R' := { frames := R.frames, locals := R.locals, cells := 1, slots := 6 }) (Nat.le_refl _) (Nat.le_refl _) hRcells hRslots
  obtain ⟨s', hA⟩ : ∃ z, z = (T.setVm s.vm).setFrames (.invoking m args :: below) := ⟨_, rfl⟩
  rw [← hA] at Y
  have hvm : s'.vm = s.vm := by rw [hA]; rfl
  have hhp : s'.heap = H := by rw [hA]; exact hT
  have hW0 : s.WarmedH s'.vm := by rw [hvm]; exact State.WarmedH.refl s
  have hat' : ∀ w ∈ (xs_at own ic cls ix rx names).filter vx_no, w.before args s' = true := fun w hw => vx_ot_at hW0 hvm.symm (hgood w (List.mem_cons_of_mem _ (List.mem_cons_of_mem _ hw))) (hat w hw)
  have hk' : (Cond.classLink own ik cls).before args s' = true := vx_ot_at hW0 hvm.symm (hgood _ List.mem_cons_self) hk
  have hini' : (Cond.initialized cls).before args s' = true := vx_ot_at hW0 hvm.symm (hgood _ (List.mem_cons_of_mem _ List.mem_cons_self)) hini
  have hU' : vx_Zq Bundle.tN "UNASSIGNED_STACK" Bundle.steD A s' s'.heap := by rw [hhp]; exact vx_Zq.moved hW0.alike (hU.kept hS.2.1)
  have hN' : vx_Zq Bundle.tN "SUPPRESSED_SENTINEL" Bundle.listD A s' s'.heap := by rw [hhp]; exact vx_Zq.moved hW0.alike (hN.kept hS.2.1)
  have h : ∀ w ∈ xs_at own ic cls ix rx names, w.before args s' = true := vx_own hat' (vx_isRefq hU'.1) (vx_isRefq hN'.1) hU'.2.word hN'.2.word
  have hown' : s'.vm.findClass own = some m.cls := by rw [hvm]; exact hown
  have hins : (Cond.instantiable cls 6).before args s' = true := h _ (by simp [xs_at])
  obtain ⟨vm₁, cX, kX, hfX, hkX, -, -, X₁, st1⟩ := Y.newCold hexec (own := own) (C := cls) (index := ik) (n := 6) hown' hk' hins hini'
    (g := F0 m pc ls rest) rfl (by rw [hb]; exact d0) (Nat.le_refl _) (Nat.le_refl _)
  generalize hT1 : (T.setVm vm₁).pushCell { cls := cX, slots := kX.instanceTypes.map defaultValue, vm := .none } = T1 at X₁ st1
  have hcat : (Value.ref T.heap.size).category = 1 := rfl
  have hcellA : T1.heap[T.heap.size]? = some (freshCell cX kX) := by rw [← hT1]; exact State.heap_pushCell_size _ _
  have d3' : decode c.code (pc + 3) = .ok (.dup, 1) := by rw [hb]; exact d3
  have d4' : decode c.code (pc + 4) = .ok (.ldc is, 2) := by rw [hb]; exact d4
  have hstr' : vk_R own is text sa s' := vk_R.warm hW0 hstr
  obtain ⟨U, hsteps, hrun, hend, hW, hsame, ce, hce, hO1, hO2⟩ := xs_ctor X₁ hexec htr (own := own) (cls := cls) (names := names) (ic := ic) x0 x1 x2 x5 hown' hcls hnames h (fun x hx => nomatch hx) hfX hkX hcellA (by rw [hhp, hT]; exact Nat.le_refl _) (msg := .ref sa) rfl
    (g := { method := m, pc := pc + 6, locals := ls, stack := .ref sa :: .ref T.heap.size :: .ref T.heap.size :: rest, locked := none }) rfl hsize rfl rfl (rest := rest) rfl
    (by rw [hb]; exact d6) (by rw [hb]; exact d9) hout hRframes (by simp only [List.map_cons, List.sum_cons, hcat]; omega) hlocks
  obtain ⟨f1, f2⟩ := vx_frame hsame
  rw [hhp] at f1 f2
  have hWs : s.WarmedH U.vm := State.WarmedH.trans hW0 hW
  have hcl : s.vm.findClass cls = some ce.cls := by
    rw [hO1, ← hvm]
    exact hfX
  have hall : s.sameButNew ({ U with vm := s.vm } : State) locs mc ms := by
    subst hA
    obtain ⟨e1, e2⟩ := hsame
    rw [State.setFrames_setFrames] at e1
    have h2 : (T.setVm s.vm).sameButNew ({ U with vm := s.vm } : State) [] (0 + 1) (0 + 6) := ⟨e1, e2⟩
    have h3 := X.same.trans h2
    rw [List.append_nil] at h3
    exact h3.mono hc hs
  refine ⟨U, ?_, .threw T.heap.size, hrun, hend, Or.inr ⟨T.heap.size, rfl, cls, ce, locs, hx U hWs.alike f1 (fun q hq => f2 q hq (fun z hz => nomatch hz)), hce, hO2, hcl, hWs, hall, hf⟩⟩
  refine st1 _ ?_
  show Steps p.tables e below (T1.setTop { method := m, pc := pc + 3, locals := ls, stack := .ref T.heap.size :: rest, locked := none }) _
  jvm_step X₁.here [X₁.here.top, hexec, d3', Value.category]
  exact X₁.ldcString hexec (own := own) (text := text) (index := is) (a := sa) hown' hstr'.1 hstr'.2
    (g := { method := m, pc := pc + 4, locals := ls, stack := .ref T.heap.size :: .ref T.heap.size :: rest, locked := none }) rfl d4' _ hsteps

theorem xs_throwSW {p : Program} {l : Launch} {e : Env} {R : Room} {s : State} {m : MethodId} {args : Array Value} {below : List Frame} {meth : Method} {c : Code} {H : Heap} {locs : List Loc} {cells slots : Nat} {ls : Array Slot} {rest : List Value} {Qc : Array Value → State → Outcome → State → Prop} {XC : String → State → State → Prop} {free : Addr → Prop} {cc : ByteArray} {pc : Nat} (hexec : p.tables.exec = Jvm.exec) (hb : c.code = cc) (hl : l.stackTraces = false) {own cls text : String} {names : List String} {ik is ic ix mc ms sa : Nat} {rx : ByteArray} (x0 : decode rx 0 = .ok (.aload_n 0, 1)) (x1 : decode rx 1 = .ok (.aload_n 1, 1)) (x2 : decode rx 2 = .ok (.invokespecial ix, 3)) (x5 : decode rx 5 = .ok (.return_, 1)) {A : Nat → Prop}
    (hown : s.vm.findClass own = some m.cls) (hcls : Bundle.fit cls = true) (hnames : ∀ n ∈ names, Bundle.fit n = true)
    (hk : (Cond.classLink own ik cls).before args s = true) (hini : (Cond.initialized cls).before args s = true) (hstr : vk_R own is text sa s) (hat : ∀ w ∈ (xs_at own ic cls ix rx names).filter vx_no, w.before args s = true)
    (hgood : ∀ w ∈ Cond.classLink own ik cls :: Cond.initialized cls :: (xs_at own ic cls ix rx names).filter vx_no, vx_ot w = true)
    (hU : vx_Zq Bundle.tN "UNASSIGNED_STACK" Bundle.steD A s s.heap) (hN : vx_Zq Bundle.tN "SUPPRESSED_SENTINEL" Bundle.listD A s s.heap) (hS : va_S A s.heap H locs) (hsize : ls.size = c.maxLocals)
    (d0 : decode cc pc = .ok (.new ik, 3)) (d3 : decode cc (pc + 3) = .ok (.dup, 1)) (d4 : decode cc (pc + 4) = .ok (.ldc_w is, 3)) (d7 : decode cc (pc + 7) = .ok (.invokespecial ic, 3)) (d10 : decode cc (pc + 10) = .ok (.athrow, 1))
    (hout : ∀ x ∈ c.exceptionTable.toList, covers x (pc + 10) = false)
    (hRframes : names.length + 3 < R.frames) (hRlocals : (rest.map fun v => v.category).sum + (13 * (names.length + 1) + 43) ≤ R.locals) (hRcells : cells + 1 ≤ R.cells) (hRslots : slots + 6 ≤ R.slots) (hlocks : meth.locks = false)
    (hx : ∀ t : State, s.vm.Alike t.vm → H.size ≤ t.heap.size → (∀ q : Nat, q < H.size → t.heap[q]? = H[q]?) → XC cls s t)
    (hf : ∀ z ∈ locs, free z.base) (hc : cells + 1 ≤ mc) (hs : slots + 6 ≤ ms) :
    W p l e R s m args below meth c H locs cells slots (vx_MQ below Qc XC args s mc ms free) (F0 m pc ls rest) := by
  intro T hT X
  have htr : e.platform.stackTraces = false := (show e.platform.stackTraces = l.stackTraces by rw [X.admits.platform]).trans hl
  have Y := vx_rebase X (R' := { frames := R.frames, locals := R.locals, cells := 1, slots := 6 }) (Nat.le_refl _) (Nat.le_refl _) hRcells hRslots
  obtain ⟨s', hA⟩ : ∃ z, z = (T.setVm s.vm).setFrames (.invoking m args :: below) := ⟨_, rfl⟩
  rw [← hA] at Y
  have hvm : s'.vm = s.vm := by rw [hA]; rfl
  have hhp : s'.heap = H := by rw [hA]; exact hT
  have hW0 : s.WarmedH s'.vm := by rw [hvm]; exact State.WarmedH.refl s
  have hat' : ∀ w ∈ (xs_at own ic cls ix rx names).filter vx_no, w.before args s' = true := fun w hw => vx_ot_at hW0 hvm.symm (hgood w (List.mem_cons_of_mem _ (List.mem_cons_of_mem _ hw))) (hat w hw)
  have hk' : (Cond.classLink own ik cls).before args s' = true := vx_ot_at hW0 hvm.symm (hgood _ List.mem_cons_self) hk
  have hini' : (Cond.initialized cls).before args s' = true := vx_ot_at hW0 hvm.symm (hgood _ (List.mem_cons_of_mem _ List.mem_cons_self)) hini
  have hU' : vx_Zq Bundle.tN "UNASSIGNED_STACK" Bundle.steD A s' s'.heap := by rw [hhp]; exact vx_Zq.moved hW0.alike (hU.kept hS.2.1)
  have hN' : vx_Zq Bundle.tN "SUPPRESSED_SENTINEL" Bundle.listD A s' s'.heap := by rw [hhp]; exact vx_Zq.moved hW0.alike (hN.kept hS.2.1)
  have h : ∀ w ∈ xs_at own ic cls ix rx names, w.before args s' = true := vx_own hat' (vx_isRefq hU'.1) (vx_isRefq hN'.1) hU'.2.word hN'.2.word
  have hown' : s'.vm.findClass own = some m.cls := by rw [hvm]; exact hown
  have hins : (Cond.instantiable cls 6).before args s' = true := h _ (by simp [xs_at])
  obtain ⟨vm₁, cX, kX, hfX, hkX, -, -, X₁, st1⟩ := Y.newCold hexec (own := own) (C := cls) (index := ik) (n := 6) hown' hk' hins hini'
    (g := F0 m pc ls rest) rfl (by rw [hb]; exact d0) (Nat.le_refl _) (Nat.le_refl _)
  generalize hT1 : (T.setVm vm₁).pushCell { cls := cX, slots := kX.instanceTypes.map defaultValue, vm := .none } = T1 at X₁ st1
  have hcat : (Value.ref T.heap.size).category = 1 := rfl
  have hcellA : T1.heap[T.heap.size]? = some (freshCell cX kX) := by rw [← hT1]; exact State.heap_pushCell_size _ _
  have d3' : decode c.code (pc + 3) = .ok (.dup, 1) := by rw [hb]; exact d3
  have d4' : decode c.code (pc + 4) = .ok (.ldc_w is, 3) := by rw [hb]; exact d4
  have hstr' : vk_R own is text sa s' := vk_R.warm hW0 hstr
  obtain ⟨U, hsteps, hrun, hend, hW, hsame, ce, hce, hO1, hO2⟩ := xs_ctor X₁ hexec htr (own := own) (cls := cls) (names := names) (ic := ic) x0 x1 x2 x5 hown' hcls hnames h (fun x hx => nomatch hx) hfX hkX hcellA (by rw [hhp, hT]; exact Nat.le_refl _) (msg := .ref sa) rfl
    (g := { method := m, pc := pc + 7, locals := ls, stack := .ref sa :: .ref T.heap.size :: .ref T.heap.size :: rest, locked := none }) rfl hsize rfl rfl (rest := rest) rfl
    (by rw [hb]; exact d7) (by rw [hb]; exact d10) hout hRframes (by simp only [List.map_cons, List.sum_cons, hcat]; omega) hlocks
  obtain ⟨f1, f2⟩ := vx_frame hsame
  rw [hhp] at f1 f2
  have hWs : s.WarmedH U.vm := State.WarmedH.trans hW0 hW
  have hcl : s.vm.findClass cls = some ce.cls := by
    rw [hO1, ← hvm]
    exact hfX
  have hall : s.sameButNew ({ U with vm := s.vm } : State) locs mc ms := by
    subst hA
    obtain ⟨e1, e2⟩ := hsame
    rw [State.setFrames_setFrames] at e1
    have h2 : (T.setVm s.vm).sameButNew ({ U with vm := s.vm } : State) [] (0 + 1) (0 + 6) := ⟨e1, e2⟩
    have h3 := X.same.trans h2
    rw [List.append_nil] at h3
    exact h3.mono hc hs
  refine ⟨U, ?_, .threw T.heap.size, hrun, hend, Or.inr ⟨T.heap.size, rfl, cls, ce, locs, hx U hWs.alike f1 (fun q hq => f2 q hq (fun z hz => nomatch hz)), hce, hO2, hcl, hWs, hall, hf⟩⟩
  refine st1 _ ?_
  show Steps p.tables e below (T1.setTop { method := m, pc := pc + 3, locals := ls, stack := .ref T.heap.size :: rest, locked := none }) _
  jvm_step X₁.here [X₁.here.top, hexec, d3', Value.category]
  exact X₁.ldcStringW hexec (own := own) (text := text) (index := is) (a := sa) hown' hstr'.1 hstr'.2
    (g := { method := m, pc := pc + 4, locals := ls, stack := .ref T.heap.size :: .ref T.heap.size :: rest, locked := none }) rfl d4' _ hsteps

/-! what a throw needs beside the words: facts that G keeps -/
def exT : List (Nat × String) := [(84, "the village is full"), (93, "there is no such household"), (95, "the bond is refused"), (97, "the bond cannot be loosened"), (99, "the marriage is refused"), (101, "the side is refused"), (103, "there are fewer than two households"), (141, "what is not 0 to 5"), (164, "there is no such phase"), (182, "what is not 0 to 4"), (190, "there is no such place"), (214, "both are one household"), (227, "there are no households"), (249, "there is no such bond"), (254, "there are no bonds"), (256, "there is no such kind"), (298, "the depth is not 0 or 1"), (303, "there is no such reason"), (330, "there is no such index"), (365, "what is not 0 to 10")]
def exW : List Cond := [.declares ⟨"java/lang/RuntimeException", "<init>", "(Ljava/lang/String;)V"⟩, .declares ⟨"java/lang/Exception", "<init>", "(Ljava/lang/String;)V"⟩, .declares ⟨"java/lang/Throwable", "<init>", "(Ljava/lang/String;)V"⟩, .castable "java/lang/UnsupportedOperationException" "java/lang/UnsupportedOperationException", .castable "java/lang/IndexOutOfBoundsException" "java/lang/IndexOutOfBoundsException", .castable "java/lang/IllegalArgumentException" "java/lang/IllegalArgumentException", .castable "java/util/NoSuchElementException" "java/util/NoSuchElementException", .castable "java/lang/ArithmeticException" "java/lang/ArithmeticException", .castable "[B" "java/lang/Cloneable"]
theorem exW_on : ∀ w ∈ exW, w.onTables = true := by decide +kernel
def p_Ex (A : Nat → Prop) (U : State) (H : Heap) : Prop := (∀ w ∈ exW, va_Nw w U) ∧ vx_Zq Bundle.tN "UNASSIGNED_STACK" Bundle.steD A U H ∧ vx_Zq Bundle.tN "SUPPRESSED_SENTINEL" Bundle.listD A U H ∧ ∀ q ∈ exT, ∃ sa : Nat, vk_R "VillageFeud" q.1 q.2 sa U
theorem ex_hat {args : Array Value} {s : State} {L : List Cond} (hts : ∀ w ∈ wG, w.before args s = true) (hE : ∀ w ∈ exW, va_Nw w s) (h : ∀ w ∈ L, w ∈ wG ∨ w ∈ exW) : ∀ w ∈ L, w.before args s = true := fun w hw => (h w hw).elim (hts w) (fun h2 => va_Nw.use (exW_on w h2) (hE w h2))
def tX (S : PS) (cls : String) (bc bs : Nat) (postX : String → PS → Prop) : Prop := 1 ≤ bc ∧ 6 ≤ bs ∧ postX cls S
abbrev p_XC (D : va_G) (cy : Nat → ClassId) (A : Nat → Prop) (postX : String → PS → Prop) : String → State → State → Prop := vx_X (fun _ : PS => True) (fun E u t => postX E u ∧ p_Post D cy A u t) A
abbrev p_Xi (l : Launch) (D : va_G) (cy : Nat → ClassId) (G : p_GT) (S : PS) (sz : Nat) (y : MethodName) (ws : List Cond) (rm : Room) (args : List Value) (mc ms : Nat) (post : Int32 → PS → Prop) (postX : String → PS → Prop) : Prop :=
  vx_Met l y ws rm (va_Pc args (p_Pre D cy G S sz)) (va_Qi post (p_Post D cy (p_A cy S sz)) (p_A cy S sz)) (p_XC D cy (p_A cy S sz) postX) mc ms (p_A cy S sz)
theorem p_xc {D : va_G} {cy : Nat → ClassId} {A : Nat → Prop} {S : PS} {s : State} {H : Heap} {locs : List Loc} {cls : String} {postX : String → PS → Prop} (hK : va_K D vwCl (p_T cy) s) (hH : p_H D cy S A s H locs) (hp : postX cls S) : ∀ t : State, s.vm.Alike t.vm → H.size ≤ t.heap.size → (∀ q : Nat, q < H.size → t.heap[q]? = H[q]?) → p_XC D cy A postX cls s t := fun t hv hz hk =>
  ⟨S, trivial, ⟨hp, hH.1.kept (fun k x hx => hk x.1 ((hH.1 k x hx).lt)), va_K.moved hv hK, hH.2.1⟩, Nat.le_trans hH.2.2.1 hz, fun q h1 h2 => by rw [hk q (Nat.lt_of_lt_of_le h1 hH.2.2.1)]; exact hH.2.2.2.1 q h1 h2⟩
section P5
variable {p : Program} {l : Launch} {e : Env} {R : Room} {s : State} {m : MethodId} {args : Array Value} {below : List Frame} {meth : Method} {c : Code} {H : Heap} {locs : List Loc} {cells slots : Nat}
variable {cc : ByteArray} {pc nL : Nat} {ls : Array Slot} {rest : List Value} {D : va_G} {cy : Nat → ClassId} {G : p_GT} {A : Nat → Prop} {S : PS} {lv : List (Nat × Value)}
variable {bc bs mc ms ik is ic ix : Nat} {cls text : String} {names : List String} {rx : ByteArray} {postX : String → PS → Prop} {Qc : Array Value → State → Outcome → State → Prop}
theorem q_throw (X : p_X p m c cc nL s args RX7 D cy G A) (hH : p_H D cy S A s H locs) (hl : lv_has ls nL lv) (hB : cells + bc ≤ mc ∧ slots + bs ≤ ms) (hRc : R.cells = mc) (hRs : R.slots = ms) (hst : l.stackTraces = false) (hE : p_Ex A s s.heap) (hf : tX S cls bc bs postX) (hlk : Cond.classLink RX7 ik cls ∈ wG) (hini : Cond.initialized cls ∈ wG) (htx : (is, text) ∈ exT) (hat : ∀ w ∈ (vx_atS RX7 ic cls names), w ∈ wG ∨ w ∈ exW) (hgood : ∀ w ∈ Cond.classLink RX7 ik cls :: Cond.initialized cls :: (vx_atS RX7 ic cls names), vx_ot w = true) (hcls : Bundle.fit cls = true) (hnames : ∀ n ∈ names, Bundle.fit n = true)
    (d0 : decode cc pc = .ok (.new ik, 3)) (d3 : decode cc (pc + 3) = .ok (.dup, 1)) (d4 : decode cc (pc + 4) = .ok (.ldc is, 2)) (d6 : decode cc (pc + 6) = .ok (.invokespecial ic, 3)) (d9 : decode cc (pc + 9) = .ok (.athrow, 1)) (hout : ∀ x ∈ c.exceptionTable.toList, False) (hR : names.length + 3 < R.frames ∧ 8 + (13 * (names.length + 1) + 43) ≤ R.locals) (hW : (rest.map fun v => v.category).sum ≤ 8) (hlk2 : meth.locks = false) :
    W p l e R s m args below meth c H locs cells slots (vx_MQ below Qc (p_XC D cy A postX) args s mc ms A) (F0 m pc ls rest) := by
  obtain ⟨sa, hsa⟩ := hE.2.2.2 _ htx
  obtain ⟨h1, h2, h3⟩ := hf
  exact vx_throwS X.1.1 X.1.2.1 hst (is := is) (text := text) X.1.2.2.2.1 hcls hnames (X.1.2.2.2.2 _ hlk) (X.1.2.2.2.2 _ hini) hsa (ex_hat X.1.2.2.2.2 hE.1 hat) hgood hE.2.1 hE.2.2.1 hH.2.2 (hl.1.trans X.1.2.2.1.symm) d0 d3 d4 d6 d9 (fun x hx => (hout x hx).elim) hR.1 (Nat.le_trans (Nat.add_le_add_right hW _) hR.2) (by omega) (by omega) hlk2 (p_xc X.2.1 hH h3) hH.2.2.2.2 (by omega) (by omega)
theorem q_throwW (X : p_X p m c cc nL s args RX7 D cy G A) (hH : p_H D cy S A s H locs) (hl : lv_has ls nL lv) (hB : cells + bc ≤ mc ∧ slots + bs ≤ ms) (hRc : R.cells = mc) (hRs : R.slots = ms) (hst : l.stackTraces = false) (hE : p_Ex A s s.heap) (hf : tX S cls bc bs postX) (hlk : Cond.classLink RX7 ik cls ∈ wG) (hini : Cond.initialized cls ∈ wG) (htx : (is, text) ∈ exT) (hat : ∀ w ∈ (vx_atS RX7 ic cls names), w ∈ wG ∨ w ∈ exW) (hgood : ∀ w ∈ Cond.classLink RX7 ik cls :: Cond.initialized cls :: (vx_atS RX7 ic cls names), vx_ot w = true) (hcls : Bundle.fit cls = true) (hnames : ∀ n ∈ names, Bundle.fit n = true)
    (d0 : decode cc pc = .ok (.new ik, 3)) (d3 : decode cc (pc + 3) = .ok (.dup, 1)) (d4 : decode cc (pc + 4) = .ok (.ldc_w is, 3)) (d6 : decode cc (pc + 7) = .ok (.invokespecial ic, 3)) (d9 : decode cc (pc + 10) = .ok (.athrow, 1)) (hout : ∀ x ∈ c.exceptionTable.toList, False) (hR : names.length + 3 < R.frames ∧ 8 + (13 * (names.length + 1) + 43) ≤ R.locals) (hW : (rest.map fun v => v.category).sum ≤ 8) (hlk2 : meth.locks = false) :
    W p l e R s m args below meth c H locs cells slots (vx_MQ below Qc (p_XC D cy A postX) args s mc ms A) (F0 m pc ls rest) := by
  obtain ⟨sa, hsa⟩ := hE.2.2.2 _ htx
  obtain ⟨h1, h2, h3⟩ := hf
  exact vx_throwSW X.1.1 X.1.2.1 hst (is := is) (text := text) X.1.2.2.2.1 hcls hnames (X.1.2.2.2.2 _ hlk) (X.1.2.2.2.2 _ hini) hsa (ex_hat X.1.2.2.2.2 hE.1 hat) hgood hE.2.1 hE.2.2.1 hH.2.2 (hl.1.trans X.1.2.2.1.symm) d0 d3 d4 d6 d9 (fun x hx => (hout x hx).elim) hR.1 (Nat.le_trans (Nat.add_le_add_right hW _) hR.2) (by omega) (by omega) hlk2 (p_xc X.2.1 hH h3) hH.2.2.2.2 (by omega) (by omega)
theorem q_throwX (x0 : decode rx 0 = .ok (.aload_n 0, 1)) (x1 : decode rx 1 = .ok (.aload_n 1, 1)) (x2 : decode rx 2 = .ok (.invokespecial ix, 3)) (x5 : decode rx 5 = .ok (.return_, 1)) (X : p_X p m c cc nL s args RX7 D cy G A) (hH : p_H D cy S A s H locs) (hl : lv_has ls nL lv) (hB : cells + bc ≤ mc ∧ slots + bs ≤ ms) (hRc : R.cells = mc) (hRs : R.slots = ms) (hst : l.stackTraces = false) (hE : p_Ex A s s.heap) (hf : tX S cls bc bs postX) (hlk : Cond.classLink RX7 ik cls ∈ wG) (hini : Cond.initialized cls ∈ wG) (htx : (is, text) ∈ exT) (hat : ∀ w ∈ ((xs_at RX7 ic cls ix rx names).filter vx_no), w ∈ wG ∨ w ∈ exW) (hgood : ∀ w ∈ Cond.classLink RX7 ik cls :: Cond.initialized cls :: ((xs_at RX7 ic cls ix rx names).filter vx_no), vx_ot w = true) (hcls : Bundle.fit cls = true) (hnames : ∀ n ∈ names, Bundle.fit n = true)
    (d0 : decode cc pc = .ok (.new ik, 3)) (d3 : decode cc (pc + 3) = .ok (.dup, 1)) (d4 : decode cc (pc + 4) = .ok (.ldc is, 2)) (d6 : decode cc (pc + 6) = .ok (.invokespecial ic, 3)) (d9 : decode cc (pc + 9) = .ok (.athrow, 1)) (hout : ∀ x ∈ c.exceptionTable.toList, False) (hR : names.length + 3 < R.frames ∧ 8 + (13 * (names.length + 1) + 43) ≤ R.locals) (hW : (rest.map fun v => v.category).sum ≤ 8) (hlk2 : meth.locks = false) :
    W p l e R s m args below meth c H locs cells slots (vx_MQ below Qc (p_XC D cy A postX) args s mc ms A) (F0 m pc ls rest) := by
  obtain ⟨sa, hsa⟩ := hE.2.2.2 _ htx
  obtain ⟨h1, h2, h3⟩ := hf
  exact xs_throwS X.1.1 X.1.2.1 hst x0 x1 x2 x5 (is := is) (text := text) X.1.2.2.2.1 hcls hnames (X.1.2.2.2.2 _ hlk) (X.1.2.2.2.2 _ hini) hsa (ex_hat X.1.2.2.2.2 hE.1 hat) hgood hE.2.1 hE.2.2.1 hH.2.2 (hl.1.trans X.1.2.2.1.symm) d0 d3 d4 d6 d9 (fun x hx => (hout x hx).elim) hR.1 (Nat.le_trans (Nat.add_le_add_right hW _) hR.2) (by omega) (by omega) hlk2 (p_xc X.2.1 hH h3) hH.2.2.2.2 (by omega) (by omega)
theorem q_throwXW (x0 : decode rx 0 = .ok (.aload_n 0, 1)) (x1 : decode rx 1 = .ok (.aload_n 1, 1)) (x2 : decode rx 2 = .ok (.invokespecial ix, 3)) (x5 : decode rx 5 = .ok (.return_, 1)) (X : p_X p m c cc nL s args RX7 D cy G A) (hH : p_H D cy S A s H locs) (hl : lv_has ls nL lv) (hB : cells + bc ≤ mc ∧ slots + bs ≤ ms) (hRc : R.cells = mc) (hRs : R.slots = ms) (hst : l.stackTraces = false) (hE : p_Ex A s s.heap) (hf : tX S cls bc bs postX) (hlk : Cond.classLink RX7 ik cls ∈ wG) (hini : Cond.initialized cls ∈ wG) (htx : (is, text) ∈ exT) (hat : ∀ w ∈ ((xs_at RX7 ic cls ix rx names).filter vx_no), w ∈ wG ∨ w ∈ exW) (hgood : ∀ w ∈ Cond.classLink RX7 ik cls :: Cond.initialized cls :: ((xs_at RX7 ic cls ix rx names).filter vx_no), vx_ot w = true) (hcls : Bundle.fit cls = true) (hnames : ∀ n ∈ names, Bundle.fit n = true)
    (d0 : decode cc pc = .ok (.new ik, 3)) (d3 : decode cc (pc + 3) = .ok (.dup, 1)) (d4 : decode cc (pc + 4) = .ok (.ldc_w is, 3)) (d6 : decode cc (pc + 7) = .ok (.invokespecial ic, 3)) (d9 : decode cc (pc + 10) = .ok (.athrow, 1)) (hout : ∀ x ∈ c.exceptionTable.toList, False) (hR : names.length + 3 < R.frames ∧ 8 + (13 * (names.length + 1) + 43) ≤ R.locals) (hW : (rest.map fun v => v.category).sum ≤ 8) (hlk2 : meth.locks = false) :
    W p l e R s m args below meth c H locs cells slots (vx_MQ below Qc (p_XC D cy A postX) args s mc ms A) (F0 m pc ls rest) := by
  obtain ⟨sa, hsa⟩ := hE.2.2.2 _ htx
  obtain ⟨h1, h2, h3⟩ := hf
  exact xs_throwSW X.1.1 X.1.2.1 hst x0 x1 x2 x5 (is := is) (text := text) X.1.2.2.2.1 hcls hnames (X.1.2.2.2.2 _ hlk) (X.1.2.2.2.2 _ hini) hsa (ex_hat X.1.2.2.2.2 hE.1 hat) hgood hE.2.1 hE.2.2.1 hH.2.2 (hl.1.trans X.1.2.2.1.symm) d0 d3 d4 d6 d9 (fun x hx => (hout x hx).elim) hR.1 (Nat.le_trans (Nat.add_le_add_right hW _) hR.2) (by omega) (by omega) hlk2 (p_xc X.2.1 hH h3) hH.2.2.2.2 (by omega) (by omega)
end P5
theorem q_startX {l : Launch} {D : va_G} {cy : Nat → ClassId} {G : p_GT} (hG : p_ok G) {S : PS} {sz mc ms maxL : Nat} {y : MethodName} {rm : Room} {argsV : List Value} {cc : ByteArray} {ret : Option FieldType} {own : String} {Qc : (Nat → Prop) → Array Value → State → Outcome → State → Prop} {XC : (Nat → Prop) → String → State → State → Prop}
    {n : Nat} (hF : mF y cc maxL ret n) (hlen : (lg_sl argsV).length ≤ maxL) (ho : y.cls = own)
    (body : ∀ (p : Program) (e : Env) (s : State) (m : MethodId) (below : List Frame) (meth : Method) (c : Code) (A : Nat → Prop), p_X p m c cc maxL s argsV.toArray own D cy G A → meth.sig.returnType = ret → meth.locks = false → meth.name = y.name → (∀ x ∈ c.exceptionTable.toList, False) → ∀ ls : Array Slot, lv_has ls maxL (lv_args 0 argsV) → p_H D cy S A s s.heap [] →
      W p l e rm s m argsV.toArray below meth c s.heap [] 0 0 (vx_MQ below (Qc A) (XC A) argsV.toArray s mc ms A) (F0 m 0 ls [])) :
    vx_Met l y (Cond.code y cc maxL ret :: wG) rm (va_Pc argsV (p_Pre D cy G S sz)) (Qc (p_A cy S sz)) (XC (p_A cy S sz)) mc ms (p_A cy S sz) := by
  refine vx_ofW (cc := cc) (maxL := maxL) (ret := ret) hF.2.2.2 rfl ?_
  intro p e s m args below meth c s₁ B hml htab hv
  obtain ⟨rfl, hsz, hP, hK, hD0, hGs⟩ := hv
  subst hsz
  have hD := hD0.self (sz := s.heap.size)
  have hown : s.vm.findClass own = some m.cls := by rw [← ho]; exact findClass_of_methodNamed B.named
  have hl := lv_entry argsV (n := maxL) hlen
  rw [lg_entry_eq]
  exact body p e s m below meth c (p_A cy S s.heap.size) ⟨⟨B.exec, B.bytes, hml, hown, fun w h => atoms_spec (ws := Cond.code y cc maxL ret :: wG) B.pre w (List.mem_cons_of_mem _ h)⟩, hK, fun q h => Or.inr h, hG, hGs⟩ B.returns B.notSynchronized (name_of_methodNamed B.named B.method).1 htab _ hl ⟨hP, hD, va_S.rf⟩
theorem xa_UnsupportedOperationException : ∀ w ∈ vx_atS RX7 86 "java/lang/UnsupportedOperationException" ["java/lang/RuntimeException", "java/lang/Exception"], w ∈ wG ∨ w ∈ exW := by decide +kernel
theorem xg_UnsupportedOperationException : ∀ w ∈ Cond.classLink RX7 82 "java/lang/UnsupportedOperationException" :: Cond.initialized "java/lang/UnsupportedOperationException" :: vx_atS RX7 86 "java/lang/UnsupportedOperationException" ["java/lang/RuntimeException", "java/lang/Exception"], vx_ot w = true := by decide +kernel
theorem xa_IndexOutOfBoundsException : ∀ w ∈ vx_atS RX7 111 "java/lang/IndexOutOfBoundsException" ["java/lang/RuntimeException", "java/lang/Exception"], w ∈ wG ∨ w ∈ exW := by decide +kernel
theorem xg_IndexOutOfBoundsException : ∀ w ∈ Cond.classLink RX7 109 "java/lang/IndexOutOfBoundsException" :: Cond.initialized "java/lang/IndexOutOfBoundsException" :: vx_atS RX7 111 "java/lang/IndexOutOfBoundsException" ["java/lang/RuntimeException", "java/lang/Exception"], vx_ot w = true := by decide +kernel
theorem xa_IllegalArgumentException : ∀ w ∈ vx_atS RX7 143 "java/lang/IllegalArgumentException" ["java/lang/RuntimeException", "java/lang/Exception"], w ∈ wG ∨ w ∈ exW := by decide +kernel
theorem xg_IllegalArgumentException : ∀ w ∈ Cond.classLink RX7 139 "java/lang/IllegalArgumentException" :: Cond.initialized "java/lang/IllegalArgumentException" :: vx_atS RX7 143 "java/lang/IllegalArgumentException" ["java/lang/RuntimeException", "java/lang/Exception"], vx_ot w = true := by decide +kernel
theorem xa_NoSuchElementException : ∀ w ∈ (xs_at RX7 192 "java/util/NoSuchElementException" 13 ⟨#[0x2a, 0x2b, 0xb7, 0x00, 0x0d, 0xb1]⟩ ["java/lang/RuntimeException", "java/lang/Exception"]).filter vx_no, w ∈ wG ∨ w ∈ exW := by decide +kernel
theorem xg_NoSuchElementException : ∀ w ∈ Cond.classLink RX7 188 "java/util/NoSuchElementException" :: Cond.initialized "java/util/NoSuchElementException" :: (xs_at RX7 192 "java/util/NoSuchElementException" 13 ⟨#[0x2a, 0x2b, 0xb7, 0x00, 0x0d, 0xb1]⟩ ["java/lang/RuntimeException", "java/lang/Exception"]).filter vx_no, vx_ot w = true := by decide +kernel
theorem xa_ArithmeticException : ∀ w ∈ vx_atS RX7 369 "java/lang/ArithmeticException" ["java/lang/RuntimeException", "java/lang/Exception"], w ∈ wG ∨ w ∈ exW := by decide +kernel
theorem xg_ArithmeticException : ∀ w ∈ Cond.classLink RX7 367 "java/lang/ArithmeticException" :: Cond.initialized "java/lang/ArithmeticException" :: vx_atS RX7 369 "java/lang/ArithmeticException" ["java/lang/RuntimeException", "java/lang/Exception"], vx_ot w = true := by decide +kernel
