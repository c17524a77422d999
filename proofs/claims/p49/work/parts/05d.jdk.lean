/-! the JDK's own methods over the pool: a StringBuilder is a cell of kind 1; constant texts, tables and statics stand outside (G) -/
theorem sel_J5 {args : Array Value} {s : State} {y : MethodName} (hy : y.cls ≠ "java/lang/invoke/MethodHandle" ∧ y.cls ≠ "java/lang/invoke/VarHandle") (hc5 : y.cls = RJ5) (h0 : (Cond.selects RJ4 yJ5_isLatin1_aae02 yJ5_isLatin1_aae02).before args s = true) (hpriv : (Cond.privateMethod y).before args s = true) (hinst : (Cond.instanceMethod y).before args s = true) : (Cond.selects RJ4 y y).before args s = true := by
  obtain ⟨c, r, m1, hc, hr, hn1, hs1, mk1, hmk1, hni⟩ := Cond.selects_spec h0
  obtain ⟨mk, methM, hnamed, hmethM, -, -⟩ := Cond.instanceMethod_spec hinst
  have hfound : s.methodFound? y.cls y.name y.desc = some mk := State.methodFound?_of_named hnamed hy
  have hcls : mk.cls = m1.cls := by
    have e1 := findClass_of_methodNamed hnamed
    have e2 := findClass_of_methodNamed hn1
    rw [hc5] at e1
    exact Option.some.inj (e1.symm.trans e2)
  have hsel : selectMethod {} s.vm c mk = .method mk := selectMethod_private hmethM (Cond.privateMethod_at hpriv mk methM hnamed hmethM)
  simp only [Cond.before, Cond.holds, Cond.value, hc, hfound, hnamed, hsel, hcls, hmk1]
  simp; exact hni
/-- a private method of StringBuilder's superclass is the one selected for a StringBuilder: kept by G -/
def gU (_ : Nat → Prop) (U : State) (_ : Heap) : Prop := va_Nw (.selects RJ4 yJ5_ensureCapacityInternal_d00df yJ5_ensureCapacityInternal_d00df) U ∧ va_Nw (.selects RJ4 yJ5_newCapacity_0f7a4 yJ5_newCapacity_0f7a4) U ∧ va_Nw (.selects RJ4 yJ5_inflateIfNeededFor_a7421 yJ5_inflateIfNeededFor_a7421) U ∧ va_Nw (.selects RJ4 yJ5_putStringAt_47b60 yJ5_putStringAt_47b60) U
def mU (y : MethodName) : Prop := Cond.instanceMethod y ∈ wG ∧ Cond.sameMethod y.cls y.cls y.name y.desc ∈ wG
abbrev p_Qr (D : va_G) (cy : Nat → ClassId) (post : Nat → PS → Prop) (A : Nat → Prop) : Array Value → State → Outcome → State → Prop := va_Qr (fun u : PS × Nat => post u.2 u.1) (fun u a t => a = u.2 ∧ p_Post D cy A u.1 t) A
abbrev p_Mr (l : Launch) (D : va_G) (cy : Nat → ClassId) (G : p_GT) (S : PS) (sz : Nat) (y : MethodName) (ws : List Cond) (rm : Room) (args : List Value) (mc ms : Nat) (post : Nat → PS → Prop) : Prop :=
  Met l y ws rm (va_Pc args (p_Pre D cy G S sz)) (p_Qr D cy post (p_A cy S sz)) mc ms (p_A cy S sz)
/-- the law's own texts: their lengths and bytes -/
def txL : List Nat := [0, 1, 1, 1, 1]
def txB : List (List Int32) := [[], [32], [61], [124], [60]]
def txT : List (Nat × String) := [(155, ""), (166, " "), (171, "="), (189, "|"), (247, "<")]
def dgT (j : Nat) : Int32 := nI (48 + j / 10)
def dgO (j : Nat) : Int32 := nI (48 + j % 10)
def gC (A : Nat → Prop) (U : State) (H : Heap) : Prop := va_Z "java/lang/String" "COMPACT_STRINGS" "Z" (.int 1) A U H
def gF (A : Nat → Prop) (U : State) (H : Heap) : Prop := va_Zq "jdk/internal/util/Preconditions" "SIOOBE_FORMATTER" "Ljava/util/function/BiFunction;" A U H
def gT (dT dO : Nat) (A : Nat → Prop) (U : State) (H : Heap) : Prop := (va_Z "java/lang/Integer" "DigitTens" "[B" (.ref dT) A U H ∧ va_T .byte dT 100 (fun j => .int (dgT j)) A U H) ∧ (va_Z "java/lang/Integer" "DigitOnes" "[B" (.ref dO) A U H ∧ va_T .byte dO 100 (fun j => .int (dgO j)) A U H)
def gK (adK adV : Nat → Nat) (A : Nat → Prop) (U : State) (H : Heap) : Prop := vk_S 5 txL txB adK adV A U H ∧ ∀ i : Nat, i < 5 → ∀ q : Nat × String, txT[i]? = some q → vk_R "VillageFeudLaw" q.1 q.2 (adK i) U
def sK (adK : Nat → Nat) (a : Nat) (kk : Nat → Prop) : Prop := ∃ i : Nat, i < 5 ∧ a = adK i ∧ kk i
section P7
variable {p : Program} {l : Launch} {e : Env} {R : Room} {s : State} {m : MethodId} {args : Array Value} {below : List Frame} {meth : Method} {c : Code} {H : Heap} {locs : List Loc} {cells slots : Nat} {Q : State → Prop}
variable {cc bytes : ByteArray} {pc nL : Nat} {ls : Array Slot} {st0 rest As : List Value} {D : va_G} {cy : Nat → ClassId} {G : p_GT} {A : Nat → Prop} {S : PS} {own : String} {ws : List Cond} {lv : List (Nat × Value)}
variable {a b index maxL mc ms n bc bs : Nat} {y : MethodName} {ret : Option FieldType} {rm : Room} {Qc : Array Value → State → Outcome → State → Prop} {free : Addr → Prop} {av : Array Value} {adK adV : Nat → Nat}
theorem q_runU (As rest : List Value) (X : p_X p m c cc nL s args own D cy G A) (hH : p_H D cy S A s H locs) (hl : lv_has ls nL lv) (hM : Met l y (Cond.code y bytes maxL ret :: wG) rm (va_Pc (.ref b :: As) (p_Pre D cy G S H.size)) Qc mc ms free) (hF : mF y bytes maxL ret n) (hV : mU y) (hsel : (Cond.selects RJ4 y y).before args s = true) (hlk : Cond.methodLink own index y ∈ wG) (hR : rm.frames + 1 ≤ R.frames ∧ 8 + (maxL + 11) + rm.locals ≤ R.locals) (hL : b ∈ S.1) (he : ∃ fs : List Value, S.2 b = .inr (1, fs)) (hst : st0 = As.reverse ++ .ref b :: rest) (hW : (rest.map fun v => v.category).sum ≤ 8) (hdg : decode cc pc = .ok (.invokevirtual index, 3)) (hf : cells + mc ≤ R.cells ∧ slots + ms ≤ R.slots)
    (hn : As.length = n := by rfl) (hrc : rm.cells = mc := by rfl) (hrs : rm.slots = ms := by rfl) :
    va_Run p l e R s m args below meth c H locs cells slots mc ms (F0 m pc ls st0) rest (Qc (Value.ref b :: As).toArray) free := by
  have hts := X.1.2.2.2.2
  have hF0 := hF
  obtain ⟨h1, h2, ⟨h3, h4, h5⟩, h6⟩ := hF
  have hcw : va_CU R s args own RJ4 y.cls index y y bytes maxL ret (Cond.code y bytes maxL ret :: wG) rm mc ms n := by
    refine ⟨⟨hrc, hrs, hR.1, hR.2, q_pay hts h1, List.mem_cons_self⟩, hts _ h1, hts _ h2, ⟨h3, h4⟩, fun sig h => ?_, hts _ hlk, hts _ hV.2, va_Decl.of (hts _ hV.1) (hts _ h1), hsel, hts _ hV.1⟩
    rw [h] at h5
    exact (Option.some.inj h5).symm
  exact va_runU X.1 hM hcw ⟨p_blind X.2.2.2.1, p_recv (C := RJ4) (T := TJ4) (N := 4) X hH hL he rfl, p_pre X hH _⟩ rfl hn hl.1 hst (lv_room (pc := pc) (ls := ls) (rest := st0) hW) hdg hf
theorem q_runSU (As rest : List Value) (X : p_X p m c cc nL s args RJ4 D cy G A) (hH : p_H D cy S A s H locs) (hl : lv_has ls nL lv) (hM : Met l y (Cond.code y bytes maxL ret :: wG) rm (va_Pc (.ref b :: As) (p_Pre D cy G S H.size)) Qc mc ms free) (hF : mF y bytes maxL ret n) (hV : Cond.instanceMethod y ∈ wG) (hsm : Cond.sameMethod y.cls y.cls y.name y.desc ∈ wG) (hsup : Cond.superclass RJ4 y.cls ∈ wG) (hno : y.name ≠ "<init>") (hlk : Cond.methodLink RJ4 index y ∈ wG) (hR : rm.frames + 1 ≤ R.frames ∧ 8 + (maxL + 11) + rm.locals ≤ R.locals) (hL : b ∈ S.1) (he : ∃ fs : List Value, S.2 b = .inr (1, fs)) (hst : st0 = As.reverse ++ .ref b :: rest) (hW : (rest.map fun v => v.category).sum ≤ 8) (hdg : decode cc pc = .ok (.invokespecial index, 3)) (hf : cells + mc ≤ R.cells ∧ slots + ms ≤ R.slots)
    (hn : As.length = n := by rfl) (hrc : rm.cells = mc := by rfl) (hrs : rm.slots = ms := by rfl) :
    va_Run p l e R s m args below meth c H locs cells slots mc ms (F0 m pc ls st0) rest (Qc (Value.ref b :: As).toArray) free := by
  have hts := X.1.2.2.2.2
  obtain ⟨h1, h2, ⟨h3, h4, h5⟩, h6⟩ := hF
  have hcw : va_CS R s args RJ4 index y bytes maxL ret (Cond.code y bytes maxL ret :: wG) rm mc ms n := by
    refine ⟨⟨hrc, hrs, hR.1, hR.2, q_pay hts h1, List.mem_cons_self⟩, hts _ hlk, hts _ hsm, hts _ hsup, hts _ hV, hts _ h2, hts _ h1, hno, fun sig h => ?_⟩
    rw [h] at h5
    exact (Option.some.inj h5).symm
  exact va_runSU (X.2.1.1 1 _ rfl).2 X.1 hM hcw ⟨p_blind X.2.2.2.1, p_recv (C := RJ4) (T := TJ4) (N := 4) X hH hL he rfl, p_pre X hH _⟩ rfl hn hl.1 hst (lv_room (pc := pc) (ls := ls) (rest := st0) hW) hdg hf
theorem q_runK (As rest : List Value) (X : p_X p m c cc nL s args own D cy G A) (hH : p_H D cy S A s H locs) (hl : lv_has ls nL lv) (hM : Met l y (Cond.code y bytes maxL ret :: wG) rm (va_Pc (.ref b :: As) (p_Pre D cy G S H.size)) Qc mc ms free) (hF : mF y bytes maxL ret n) (hV : mV y) (hlk : Cond.methodLink own index y ∈ wG) (hR : rm.frames + 1 ≤ R.frames ∧ 8 + (maxL + 11) + rm.locals ≤ R.locals) (hK : gK adK adV A s s.heap) {i : Nat} (hi : i < 5) (hb : b = adK i) (hy : y.cls = "java/lang/String") (hst : st0 = As.reverse ++ .ref b :: rest) (hW : (rest.map fun v => v.category).sum ≤ 8) (hdg : decode cc pc = .ok (.invokevirtual index, 3)) (hf : cells + mc ≤ R.cells ∧ slots + ms ≤ R.slots)
    (hn : As.length = n := by rfl) (hrc : rm.cells = mc := by rfl) (hrs : rm.slots = ms := by rfl) :
    va_Run p l e R s m args below meth c H locs cells slots mc ms (F0 m pc ls st0) rest (Qc (Value.ref b :: As).toArray) free :=
  va_runV (C := y.cls) X.1 hM ⟨q_cB X.1.2.2.2.2 hF hlk hR hrc hrs, X.1.2.2.2.2 _ hV.1, X.1.2.2.2.2 _ hV.2⟩ ⟨p_blind X.2.2.2.1, by rw [hb, hy]; exact vk_recv hK.1 hi hH.2.2, p_pre X hH _⟩ rfl hn hl.1 hst (lv_room (pc := pc) (ls := ls) (rest := st0) hW) hdg hf
theorem q_backR {post : Nat → PS → Prop} (X : p_X p m c cc nL s args own D cy G A) (hH : p_H D cy S A s H locs) (hr : va_Run p l e R s m args below meth c H locs cells slots mc ms (F0 m pc ls st0) rest (p_Qr D cy post (p_A cy S H.size) av) (p_A cy S H.size))
    (next : ∀ (r : Nat) (S1 : PS), post r S1 → ∀ (H1 : Heap) (locs1 : List Loc), p_H D cy S1 A s H1 locs1 → W p l e R s m args below meth c H1 locs1 (cells + mc) (slots + ms) Q (F0 m (pc + 3) ls (.ref r :: rest))) : W p l e R s m args below meth c H locs cells slots Q (F0 m pc ls st0) :=
  va_callr hr hH.2.2 (fun q _ h => p_back X.2.2.1 hH q h) (p_back X.2.2.1 hH) (fun u r t H1 locs1 ht hvm hw hB hz1 hk1 hS1 => by
    obtain ⟨rfl, hB⟩ := hB
    exact next u.2 u.1 hw H1 locs1 (p_again X.2.2.1 hH ht hB hS1))
theorem q_backR0 {post : Nat → PS → Prop} (X : p_X p m c cc nL s args own D cy G A) (hH : p_H D cy S A s H locs) (hr : va_Run p l e R s m args below meth c H locs cells slots 0 0 (F0 m pc ls st0) rest (p_Qr D cy post (p_A cy S H.size) av) (p_A cy S H.size))
    (next : ∀ (r : Nat) (S1 : PS), post r S1 → ∀ (H1 : Heap) (locs1 : List Loc), p_H D cy S1 A s H1 locs1 → W p l e R s m args below meth c H1 locs1 cells slots Q (F0 m (pc + 3) ls (.ref r :: rest))) : W p l e R s m args below meth c H locs cells slots Q (F0 m pc ls st0) :=
  q_backR X hH hr next
theorem q_backRB {post : Nat → PS → Prop} (X : p_X p m c cc nL s args own D cy G A) (hH : p_H D cy S A s H locs) (hB : cells + bc ≤ R.cells ∧ slots + bs ≤ R.slots) (hm : mc ≤ bc) (hs : ms ≤ bs) (hr : va_Run p l e R s m args below meth c H locs cells slots mc ms (F0 m pc ls st0) rest (p_Qr D cy post (p_A cy S H.size) av) (p_A cy S H.size))
    (next : ∀ (r : Nat) (S1 : PS), post r S1 → ∀ (H1 : Heap) (locs1 : List Loc) (cells1 slots1 : Nat), p_H D cy S1 A s H1 locs1 → cells1 + (bc - mc) ≤ R.cells ∧ slots1 + (bs - ms) ≤ R.slots → W p l e R s m args below meth c H1 locs1 cells1 slots1 Q (F0 m (pc + 3) ls (.ref r :: rest))) : W p l e R s m args below meth c H locs cells slots Q (F0 m pc ls st0) :=
  q_backR X hH hr (fun r S1 hp H1 locs1 hH1 => next r S1 hp H1 locs1 _ _ hH1 ⟨by omega, by omega⟩)
theorem q_retR {post : Nat → PS → Prop} {r : Nat} {rt : FieldType} (X : p_X p m c cc nL s args own D cy G A) (hH : p_H D cy S A s H locs) (hr : meth.sig.returnType = some rt) (hrt : (∃ n, rt = .object n) ∨ ∃ t, rt = .array t) (hlk : meth.locks = false) (hp : post r S) (h1 : cells ≤ mc) (h2 : slots ≤ ms) (hdg : decode cc pc = .ok (.areturn, 1)) : W p l e R s m args below meth c H locs cells slots (MQ below (p_Qr D cy post A) args s mc ms A) (F0 m pc ls [.ref r]) :=
  W.widen h1 h2 (W.aret X.1.1 X.1.2.1 hr hrt (Or.inr ⟨r, rfl⟩) (fun t ht hW => ⟨⟨(S, r), r, rfl, hp, rfl, by rw [ht]; exact hH.1, va_K.moved hW.alike X.2.1, hH.2.1⟩, hH.2.2.F ht⟩) hH.2.2.2.2 hdg hlk)
theorem q_getsC (X : p_X p m c cc nL s args own D cy G A) (hH : p_H D cy S A s H locs) (hC : gC A s s.heap) (hlk : Cond.fieldLink own index "java/lang/String" "COMPACT_STRINGS" "Z" ∈ wG) (hdg : decode cc pc = .ok (.getstatic index, 3))
    (kk : W p l e R s m args below meth c H locs cells slots Q (F0 m (pc + 3) ls (.int 1 :: rest))) : W p l e R s m args below meth c H locs cells slots Q (F0 m pc ls rest) :=
  va_gets X.1.1 X.1.2.1 hC hH.2.2 X.1.2.2.2.1 (X.1.2.2.2.2 _ hlk) (fun _ h => h) hdg kk
theorem q_getsF (X : p_X p m c cc nL s args own D cy G A) (hH : p_H D cy S A s H locs) (hC : gF A s s.heap) (hlk : Cond.fieldLink own index "jdk/internal/util/Preconditions" "SIOOBE_FORMATTER" "Ljava/util/function/BiFunction;" ∈ wG) (hdg : decode cc pc = .ok (.getstatic index, 3))
    (kk : ∀ o : Option Nat, W p l e R s m args below meth c H locs cells slots Q (F0 m (pc + 3) ls (va_rf o :: rest))) : W p l e R s m args below meth c H locs cells slots Q (F0 m pc ls rest) := by
  rcases hC with h | ⟨t, h⟩
  · exact va_gets X.1.1 X.1.2.1 h hH.2.2 X.1.2.2.2.1 (X.1.2.2.2.2 _ hlk) (fun _ h => h) hdg (kk none)
  · exact va_gets X.1.1 X.1.2.1 h hH.2.2 X.1.2.2.2.1 (X.1.2.2.2.2 _ hlk) (fun _ h => h) hdg (kk (some t))
theorem q_getsT {f : String} {t : Nat} (X : p_X p m c cc nL s args own D cy G A) (hH : p_H D cy S A s H locs) (hC : va_Z "java/lang/Integer" f "[B" (.ref t) A s s.heap) (hlk : Cond.fieldLink own index "java/lang/Integer" f "[B" ∈ wG) (hdg : decode cc pc = .ok (.getstatic index, 3))
    (kk : W p l e R s m args below meth c H locs cells slots Q (F0 m (pc + 3) ls (.ref t :: rest))) : W p l e R s m args below meth c H locs cells slots Q (F0 m pc ls rest) :=
  va_gets X.1.1 X.1.2.1 hC hH.2.2 X.1.2.2.2.1 (X.1.2.2.2.2 _ hlk) (fun _ h => h) hdg kk
theorem q_tald {t N : Nat} {f : Nat → Int32} {i : Int32} (X : p_X p m c cc nL s args own D cy G A) (hH : p_H D cy S A s H locs) (hT : va_T .byte t N (fun j => .int (f j)) A s s.heap) (hin : vp_in i N) (hdg : decode cc pc = .ok (.baload, 1))
    (kk : W p l e R s m args below meth c H locs cells slots Q (F0 m (pc + 1) ls (.int (f i.toNatClampNeg) :: rest))) : W p l e R s m args below meth c H locs cells slots Q (F0 m pc ls (.int i :: .ref t :: rest)) :=
  va_tb X.1.1 X.1.2.1 hT hH.2.2 hin rfl hdg kk
theorem q_tlen {t N : Nat} {f : Nat → Int32} (X : p_X p m c cc nL s args own D cy G A) (hH : p_H D cy S A s H locs) (hT : va_T .byte t N (fun j => .int (f j)) A s s.heap) (hdg : decode cc pc = .ok (.arraylength, 1))
    (kk : W p l e R s m args below meth c H locs cells slots Q (F0 m (pc + 1) ls (.int (Int32.ofNat N) :: rest))) : W p l e R s m args below meth c H locs cells slots Q (F0 m pc ls (.ref t :: rest)) :=
  va_tlen X.1.1 X.1.2.1 hT hH.2.2 rfl hdg kk
theorem q_ldcK {i : Nat} {q : Nat × String} (X : p_X p m c cc nL s args "VillageFeudLaw" D cy G A) (hK : gK adK adV A s s.heap) (hi : i < 5) (hq : txT[i]? = some q) (hdg : decode cc pc = .ok (.ldc q.1, 2))
    (kk : W p l e R s m args below meth c H locs cells slots Q (F0 m (pc + 2) ls (.ref (adK i) :: rest))) : W p l e R s m args below meth c H locs cells slots Q (F0 m pc ls rest) :=
  va_ldcS X.1.1 X.1.2.1 X.1.2.2.2.1 (hK.2 i hi q hq) hdg kk
theorem q_getK {i : Nat} {n9 d9 : String} {v : Value} (X : p_X p m c cc nL s args own D cy G A) (hH : p_H D cy S A s H locs) (hE : va_OF "java/lang/String" n9 d9 v (adK i) A s s.heap) (hlk : Cond.fieldLink own index "java/lang/String" n9 d9 ∈ wG) (hdg : decode cc pc = .ok (.getfield index, 3))
    (kk : W p l e R s m args below meth c H locs cells slots Q (F0 m (pc + 3) ls (v :: rest))) : W p l e R s m args below meth c H locs cells slots Q (F0 m pc ls (.ref (adK i) :: rest)) :=
  vk_getf X.1.1 X.1.2.1 hE hH.2.2 X.1.2.2.2.1 (X.1.2.2.2.2 _ hlk) (fun _ h => h) hdg kk
end P7
