/-! THE POOL: the world of a method is one list of addresses with a cell each (class ids of arrays by kind: 0 int, 1 byte, 2 byte, 3 villages, 4 rows of int, 5 int). A method's meaning is a predicate f_..: what must hold so that it ends well; rows g.. and q_.. tie the machine to it. -/
abbrev pE : Type := (Nat × vp_A) ⊕ (Nat × List Value)
abbrev PS : Type := List Nat × (Nat → pE)
def p_c (cy : Nat → ClassId) (e : pE) : va_E := match e with
  | .inl q => .inl (cy q.1, q.2)
  | .inr o => .inr o
def p_W (cy : Nat → ClassId) (S : PS) : va_W := va_pl S.1 (fun a => p_c cy (S.2 a))
abbrev p_T (cy : Nat → ClassId) : List (ClassId × FieldType) := [(cy 0, .int), (cy 1, .byte), (cy 2, .byte), (cy 3, .object "VillageFeud$Village"), (cy 4, .array .int), (cy 5, .int)]
def p_set (S : PS) (a : Nat) (e : pE) : PS := (S.1, va_up S.2 a e)
def p_add (S : PS) (a : Nat) (e : pE) : PS := (S.1 ++ [a], va_up S.2 a e)
theorem p_get {cy : Nat → ClassId} {S : PS} {a : Nat} (h : a ∈ S.1) : ∃ j : Nat, (p_W cy S)[j]? = some (a, p_c cy (S.2 a)) := va_pl_get (X := []) (f := fun a => p_c cy (S.2 a)) h
theorem p_upc {cy : Nat → ClassId} {f : Nat → pE} {a : Nat} {e : pE} : va_up (fun b => p_c cy (f b)) a (p_c cy e) = fun b => p_c cy (va_up f a e b) := by
  funext b
  by_cases h : b = a
  · subst h; rw [va_up_self, va_up_self]
  · rw [va_up_ne _ _ h, va_up_ne _ _ h]
theorem p_set_eq {cy : Nat → ClassId} {A : Nat → Prop} {S : PS} {a j : Nat} (e : pE) (hD : va_D A (p_W cy S)) (hL : a ∈ S.1) (hj : (p_W cy S)[j]? = some (a, p_c cy (S.2 a))) : (p_W cy S).set j (a, p_c cy e) = p_W cy (p_set S a e) := by
  have h := va_pl_set (X := []) (f := fun a => p_c cy (S.2 a)) (e := p_c cy e) hD hL hj
  rw [p_upc] at h
  exact h
theorem p_add_eq {cy : Nat → ClassId} {S : PS} {a : Nat} (e : pE) (hL : a ∉ S.1) : p_W cy S ++ [(a, p_c cy e)] = p_W cy (p_add S a e) := by
  have h := va_pl_push (L := S.1) (f := fun a => p_c cy (S.2 a)) (e := p_c cy e) hL
  rw [p_upc] at h
  exact h
/-- what else stays true of the heap outside a method's world: nest links, constant texts, tables, statics -/
abbrev p_GT : Type := (Nat → Prop) → State → Heap → Prop
def nwL : List Cond := [.fieldLinkNest "VillageFeud" 223 "VillageFeud$Village" "size" "I" "VillageFeud", .fieldLinkNest "VillageFeud" 327 "VillageFeud$Village" "sideOne" "I" "VillageFeud", .fieldLinkNest "VillageFeud" 350 "VillageFeud$Village" "came" "I" "VillageFeud", .fieldLinkNest "VillageFeud" 353 "VillageFeud$Village" "went" "I" "VillageFeud", .fieldLinkNest "VillageFeud" 356 "VillageFeud$Village" "weddings" "I" "VillageFeud", .fieldLinkNest "VillageFeud$Divisions" 19 "VillageFeud$Village" "size" "I" "VillageFeud", .fieldLinkNest "VillageFeud$Phases" 31 "VillageFeud$Village" "size" "I" "VillageFeud",
  .methodLinkNest "VillageFeud" 11 yX6_init "VillageFeud", .methodLinkNest "VillageFeud" 24 yX2_init "VillageFeud", .methodLinkNest "VillageFeud" 31 yX3_init "VillageFeud", .methodLinkNest "VillageFeud" 38 yX0_init "VillageFeud", .methodLinkNest "VillageFeud" 45 yX1_init "VillageFeud", .methodLinkNest "VillageFeud" 52 yX5_init "VillageFeud", .methodLinkNest "VillageFeud" 59 yX4_init "VillageFeud", .methodLinkNest "VillageFeud$Divisions" 24 yX7_lowestOf "VillageFeud", .methodLinkNest "VillageFeud$Divisions" 45 yX7_isIn "VillageFeud", .methodLinkNest "VillageFeud$Flow" 38 yX7_isIn "VillageFeud", .methodLinkNest "VillageFeud$History" 24 yX6_init "VillageFeud", .methodLinkNest "VillageFeud$Phases" 56 yX7_isIn "VillageFeud", .methodLinkNest "VillageFeud$Phases" 66 yX7_lowestOf "VillageFeud", .methodLinkNest "VillageFeud$Village" 45 yX7_isIn "VillageFeud"]
def p_N (U : State) : Prop := ∀ w ∈ nwL, va_Nw w U
def p_ok (G : p_GT) : Prop := (∀ (A : Nat → Prop) (u U : State) (H : Heap), u.WarmedH U.vm → G A u H → G A U H) ∧ (∀ (A : Nat → Prop) (U : State) (H H1 : Heap), (∀ a : Nat, a < H.size → ¬ A a → H1[a]? = H[a]?) → G A U H → G A U H1) ∧ (∀ (A B : Nat → Prop) (U : State) (H : Heap), (∀ q, B q → A q) → G A U H → G B U H) ∧ (∀ (A : Nat → Prop) (U : State) (H : Heap), G A U H → p_N U)
def p_Pre (D : va_G) (cy : Nat → ClassId) (G : p_GT) (S : PS) (sz : Nat) (U : State) : Prop := U.heap.size = sz ∧ va_P D vwCl (p_W cy S) U.heap ∧ va_K D vwCl (p_T cy) U ∧ va_D (fun _ => True) (p_W cy S) ∧ G (va_A (p_W cy S) sz) U U.heap
def p_Post (D : va_G) (cy : Nat → ClassId) (A : Nat → Prop) (S : PS) (t : State) : Prop := va_P D vwCl (p_W cy S) t.heap ∧ va_K D vwCl (p_T cy) t ∧ va_D A (p_W cy S)
abbrev p_A (cy : Nat → ClassId) (S : PS) (sz : Nat) : Nat → Prop := va_A (p_W cy S) sz
/-- contracts: of an answer that is an int, of none, of a reference -/
abbrev p_Mi (l : Launch) (D : va_G) (cy : Nat → ClassId) (G : p_GT) (S : PS) (sz : Nat) (y : MethodName) (ws : List Cond) (rm : Room) (args : List Value) (mc ms : Nat) (post : Int32 → PS → Prop) : Prop :=
  Met l y ws rm (va_Pc args (p_Pre D cy G S sz)) (va_Qi post (p_Post D cy (p_A cy S sz)) (p_A cy S sz)) mc ms (p_A cy S sz)
abbrev p_Mv (l : Launch) (D : va_G) (cy : Nat → ClassId) (G : p_GT) (S : PS) (sz : Nat) (y : MethodName) (ws : List Cond) (rm : Room) (args : List Value) (mc ms : Nat) (post : PS → Prop) : Prop :=
  Met l y ws rm (va_Pc args (p_Pre D cy G S sz)) (va_Qv post (p_Post D cy (p_A cy S sz)) (p_A cy S sz)) mc ms (p_A cy S sz)
theorem p_blind {D : va_G} {cy : Nat → ClassId} {G : p_GT} (hG : p_ok G) {S : PS} {sz : Nat} {args : List Value} : FrameBlind (va_Pc args (p_Pre D cy G S sz)) := fun a U g mk q => by
  obtain ⟨q0, q1, qP, qK, qD, qG⟩ := q
  exact ⟨q0, q1, qP, va_K.moved (u := U) (U := U.calling g mk a) (Vm.Alike.refl U.vm) qK, qD, hG.1 _ U (U.calling g mk a) _ (State.WarmedH.refl U) qG⟩
abbrev p_H (D : va_G) (cy : Nat → ClassId) (S : PS) (A : Nat → Prop) (s : State) (H : Heap) (locs : List Loc) : Prop := va_P D vwCl (p_W cy S) H ∧ va_D A (p_W cy S) ∧ va_S A s.heap H locs
abbrev p_X (p : Program) (m : MethodId) (c : Code) (cc : ByteArray) (nL : Nat) (s : State) (args : Array Value) (own : String) (D : va_G) (cy : Nat → ClassId) (G : p_GT) (A : Nat → Prop) : Prop := CallFix p m c cc nL s args wG own ∧ va_K D vwCl (p_T cy) s ∧ (∀ q, s.heap.size ≤ q → A q) ∧ p_ok G ∧ G A s s.heap
/-! what an instruction asks of the pool -/
def gI (S : PS) (a ci k : Nat) (kk : Int32 → Prop) : Prop := a ∈ S.1 ∧ ∃ (fs : List Value) (v : Int32), S.2 a = .inr (ci, fs) ∧ fs[k]? = some (.int v) ∧ kk v
def gR (S : PS) (a ci k : Nat) (kk : Nat → Prop) : Prop := a ∈ S.1 ∧ ∃ (fs : List Value) (v : Nat), S.2 a = .inr (ci, fs) ∧ fs[k]? = some (.ref v) ∧ kk v
def gO (S : PS) (a ci k : Nat) (kk : Option Nat → Prop) : Prop := a ∈ S.1 ∧ ∃ (fs : List Value) (v : Option Nat), S.2 a = .inr (ci, fs) ∧ fs[k]? = some (va_rf v) ∧ kk v
def pV (S : PS) (a ci k : Nat) (v : Value) (kk : PS → Prop) : Prop := a ∈ S.1 ∧ ∃ (fs : List Value), S.2 a = .inr (ci, fs) ∧ k < fs.length ∧ kk (p_set S a (.inr (ci, fs.set k v)))
def aI (S : PS) (a t : Nat) (i : Int32) (kk : Int32 → Prop) : Prop := a ∈ S.1 ∧ ∃ (n : Nat) (f : Nat → Int32), S.2 a = .inl (t, n, .inl f) ∧ vp_in i n ∧ kk (f i.toNatClampNeg)
def sI (S : PS) (a t : Nat) (i x : Int32) (kk : PS → Prop) : Prop := a ∈ S.1 ∧ ∃ (n : Nat) (f : Nat → Int32), S.2 a = .inl (t, n, .inl f) ∧ vp_in i n ∧ kk (p_set S a (.inl (t, n, .inl (upd f i.toNatClampNeg x))))
def aO (S : PS) (a : Nat) (i : Int32) (kk : Option Nat → Prop) : Prop := a ∈ S.1 ∧ ∃ (n : Nat) (f : Nat → Option Nat), S.2 a = .inl (3, n, .inr (.inr (.inr (.inr f)))) ∧ vp_in i n ∧ kk (f i.toNatClampNeg)
def sO (S : PS) (a : Nat) (i : Int32) (v : Nat) (kk : PS → Prop) : Prop := a ∈ S.1 ∧ v ∈ S.1 ∧ (∃ vs : List Value, S.2 v = .inr (10, vs)) ∧ ∃ (n : Nat) (f : Nat → Option Nat), S.2 a = .inl (3, n, .inr (.inr (.inr (.inr f)))) ∧ vp_in i n ∧ kk (p_set S a (.inl (3, n, .inr (.inr (.inr (.inr (va_up f i.toNatClampNeg (some v))))))))
def lE (S : PS) (a : Nat) (kk : Int32 → Prop) : Prop := a ∈ S.1 ∧ ∃ (t n : Nat) (f : Nat → Int32), t < 3 ∧ S.2 a = .inl (t, n, .inl f) ∧ kk (Int32.ofNat n)
def lEO (S : PS) (a : Nat) (kk : Int32 → Prop) : Prop := a ∈ S.1 ∧ ∃ (n : Nat) (f : Nat → Option Nat), S.2 a = .inl (3, n, .inr (.inr (.inr (.inr f)))) ∧ kk (Int32.ofNat n)
def isO (S : PS) (a ci : Nat) (P : Prop) : Prop := a ∈ S.1 ∧ (∃ fs : List Value, S.2 a = .inr (ci, fs)) ∧ P
def nZ (ty : FieldType) (v : Int32) (P : Prop) : Prop := narrow ty (.int v) = .int v ∧ P
section P2
variable {p : Program} {l : Launch} {e : Env} {R : Room} {s : State} {m : MethodId} {args : Array Value} {below : List Frame} {meth : Method} {c : Code} {H : Heap} {locs : List Loc} {cells slots : Nat} {Q : State → Prop}
variable {cc : ByteArray} {pc nL : Nat} {ls : Array Slot} {rest : List Value} {D : va_G} {cy : Nat → ClassId} {G : p_GT} {A : Nat → Prop} {S : PS} {own : String}
variable {C : String} {T : u_T} {N ci k a index : Nat} {ref : String}
theorem q_getI (X : p_X p m c cc nL s args own D cy G A) (hH : p_H D cy S A s H locs) {kk : Int32 → Prop} (hf : gI S a ci k kk) (hin : ∀ w ∈ u_ws C T N, w ∈ wG) (hc : vwCl[ci]? = some (C, T, N)) (hk : k < N) (hlink : Cond.fieldLink own index ref (T k).2.1 (T k).2.2.1 ∈ wG) (hsame : ∀ x, s.fieldFound? (T k).1 (T k).2.1 (T k).2.2.1 = some x → s.fieldFound? ref (T k).2.1 (T k).2.2.1 = some x)
    (hdg : decode cc pc = .ok (.getfield index, 3)) (next : ∀ v : Int32, kk v → W p l e R s m args below meth c H locs cells slots Q (F0 m (pc + 3) ls (.int v :: rest))) : W p l e R s m args below meth c H locs cells slots Q (F0 m pc ls (.ref a :: rest)) := by
  obtain ⟨⟨hx, hb, hml, hown, hts⟩, hK, hA, hG, hGs⟩ := X
  obtain ⟨hP, hD, hS⟩ := hH
  obtain ⟨hL, fs, v, he, hv, hkv⟩ := hf
  obtain ⟨j, hj⟩ := p_get (cy := cy) hL
  rw [he] at hj
  exact va_get hx hb hts hin hown hK hP j hj hc k hk (hts _ hlink) hsame hv hdg (next v hkv)
theorem q_getR (X : p_X p m c cc nL s args own D cy G A) (hH : p_H D cy S A s H locs) {kk : Nat → Prop} (hf : gR S a ci k kk) (hin : ∀ w ∈ u_ws C T N, w ∈ wG) (hc : vwCl[ci]? = some (C, T, N)) (hk : k < N) (hlink : Cond.fieldLink own index ref (T k).2.1 (T k).2.2.1 ∈ wG) (hsame : ∀ x, s.fieldFound? (T k).1 (T k).2.1 (T k).2.2.1 = some x → s.fieldFound? ref (T k).2.1 (T k).2.2.1 = some x)
    (hdg : decode cc pc = .ok (.getfield index, 3)) (next : ∀ v : Nat, kk v → W p l e R s m args below meth c H locs cells slots Q (F0 m (pc + 3) ls (.ref v :: rest))) : W p l e R s m args below meth c H locs cells slots Q (F0 m pc ls (.ref a :: rest)) := by
  obtain ⟨⟨hx, hb, hml, hown, hts⟩, hK, hA, hG, hGs⟩ := X
  obtain ⟨hP, hD, hS⟩ := hH
  obtain ⟨hL, fs, v, he, hv, hkv⟩ := hf
  obtain ⟨j, hj⟩ := p_get (cy := cy) hL
  rw [he] at hj
  exact va_get hx hb hts hin hown hK hP j hj hc k hk (hts _ hlink) hsame hv hdg (next v hkv)
theorem q_getO (X : p_X p m c cc nL s args own D cy G A) (hH : p_H D cy S A s H locs) {kk : Option Nat → Prop} (hf : gO S a ci k kk) (hin : ∀ w ∈ u_ws C T N, w ∈ wG) (hc : vwCl[ci]? = some (C, T, N)) (hk : k < N) (hlink : Cond.fieldLink own index ref (T k).2.1 (T k).2.2.1 ∈ wG) (hsame : ∀ x, s.fieldFound? (T k).1 (T k).2.1 (T k).2.2.1 = some x → s.fieldFound? ref (T k).2.1 (T k).2.2.1 = some x)
    (hdg : decode cc pc = .ok (.getfield index, 3)) (next : ∀ v : Option Nat, kk v → W p l e R s m args below meth c H locs cells slots Q (F0 m (pc + 3) ls (va_rf v :: rest))) : W p l e R s m args below meth c H locs cells slots Q (F0 m pc ls (.ref a :: rest)) := by
  obtain ⟨⟨hx, hb, hml, hown, hts⟩, hK, hA, hG, hGs⟩ := X
  obtain ⟨hP, hD, hS⟩ := hH
  obtain ⟨hL, fs, v, he, hv, hkv⟩ := hf
  obtain ⟨j, hj⟩ := p_get (cy := cy) hL
  rw [he] at hj
  exact va_get hx hb hts hin hown hK hP j hj hc k hk (hts _ hlink) hsame hv hdg (next v hkv)
theorem q_getIN {host : String} (X : p_X p m c cc nL s args own D cy G A) (hH : p_H D cy S A s H locs) {kk : Int32 → Prop} (hf : gI S a ci k kk) (hin : ∀ w ∈ u_ws C T N, w ∈ wG) (hc : vwCl[ci]? = some (C, T, N)) (hk : k < N) (hlink : Cond.fieldLinkNest own index ref (T k).2.1 (T k).2.2.1 host ∈ nwL) (hsame : ∀ x, s.fieldFound? (T k).1 (T k).2.1 (T k).2.2.1 = some x → s.fieldFound? ref (T k).2.1 (T k).2.2.1 = some x)
    (hdg : decode cc pc = .ok (.getfield index, 3)) (next : ∀ v : Int32, kk v → W p l e R s m args below meth c H locs cells slots Q (F0 m (pc + 3) ls (.int v :: rest))) : W p l e R s m args below meth c H locs cells slots Q (F0 m pc ls (.ref a :: rest)) := by
  obtain ⟨⟨hx, hb, hml, hown, hts⟩, hK, hA, hG, hGs⟩ := X
  obtain ⟨hP, hD, hS⟩ := hH
  obtain ⟨hL, fs, v, he, hv, hkv⟩ := hf
  obtain ⟨j, hj⟩ := p_get (cy := cy) hL
  rw [he] at hj
  exact va_getN hx hb hts hin hown hK hP j hj hc k hk (va_Nw.use rfl (hG.2.2.2 _ _ _ hGs _ hlink)) hsame hv hdg (next v hkv)
theorem q_putV {v : Value} {ty0 : Nat → FieldType} {ty : FieldType} (X : p_X p m c cc nL s args own D cy G A) (hH : p_H D cy S A s H locs) {kk : PS → Prop} (hf : pV S a ci k v kk) (hin : ∀ w ∈ u_ws C T N, w ∈ wG) (hty : ∀ k, k < N → parseFieldDescriptor (T k).2.2.1 = some (ty0 k)) (hnm : ∀ a, a < N → ∀ b, b < N → a ≠ b → (T a).2.1 ≠ (T b).2.1) (hc : vwCl[ci]? = some (C, T, N)) (hk : k < N) (hlink : Cond.fieldLink own index ref (T k).2.1 (T k).2.2.1 ∈ wG) (hsame : ∀ x, s.fieldFound? (T k).1 (T k).2.1 (T k).2.2.1 = some x → s.fieldFound? ref (T k).2.1 (T k).2.2.1 = some x) (hfin : (T k).2.2.2 = false) (hd : parseFieldDescriptor (T k).2.2.1 = some ty) (hn : narrow ty v = v) (hfit : fits ty v = true)
    (hdg : decode cc pc = .ok (.putfield index, 3)) (next : ∀ (S1 : PS), kk S1 → ∀ (H1 : Heap) (locs1 : List Loc), p_H D cy S1 A s H1 locs1 → W p l e R s m args below meth c H1 locs1 cells slots Q (F0 m (pc + 3) ls rest)) : W p l e R s m args below meth c H locs cells slots Q (F0 m pc ls (v :: .ref a :: rest)) := by
  obtain ⟨⟨hx, hb, hml, hown, hts⟩, hK, hA, hG, hGs⟩ := X
  obtain ⟨hP, hD, hS⟩ := hH
  obtain ⟨hL, fs, he, hl, hkv⟩ := hf
  obtain ⟨j, hj⟩ := p_get (cy := cy) hL
  have hj2 := hj
  rw [he] at hj2
  refine va_put hx hb hts hin ty0 hty hnm hown hK hP hD hS j hj2 hc k hk (hts _ hlink) hsame hfin hd hn hfit hl hdg (fun H1 locs1 h1 h2 h3 => ?_)
  have he1 := p_set_eq (cy := cy) (.inr (ci, fs.set k v)) hD hL hj
  rw [show p_c cy (.inr (ci, fs.set k v)) = .inr (ci, fs.set k v) from rfl] at he1
  rw [he1] at h1 h2
  exact next _ hkv H1 locs1 ⟨h1, h2, h3⟩
theorem q_putF {v : Value} {ty0 : Nat → FieldType} {ty : FieldType} (X : p_X p m c cc nL s args own D cy G A) (hH : p_H D cy S A s H locs) {kk : PS → Prop} (hf : pV S a ci k v kk) (hin : ∀ w ∈ u_ws C T N, w ∈ wG) (hty : ∀ k, k < N → parseFieldDescriptor (T k).2.2.1 = some (ty0 k)) (hnm : ∀ a, a < N → ∀ b, b < N → a ≠ b → (T a).2.1 ≠ (T b).2.1) (hc : vwCl[ci]? = some (C, T, N)) (hk : k < N) (hlink : Cond.fieldLink own index ref (T k).2.1 (T k).2.2.1 ∈ wG) (hsame : ∀ x, s.fieldFound? (T k).1 (T k).2.1 (T k).2.2.1 = some x → s.fieldFound? ref (T k).2.1 (T k).2.2.1 = some x) (hfin : (T k).2.2.2 = true) (hin2 : meth.name = "<init>") (hdecl : (T k).1 = own) (hd : parseFieldDescriptor (T k).2.2.1 = some ty) (hn : narrow ty v = v) (hfit : fits ty v = true)
    (hdg : decode cc pc = .ok (.putfield index, 3)) (next : ∀ (S1 : PS), kk S1 → ∀ (H1 : Heap) (locs1 : List Loc), p_H D cy S1 A s H1 locs1 → W p l e R s m args below meth c H1 locs1 cells slots Q (F0 m (pc + 3) ls rest)) : W p l e R s m args below meth c H locs cells slots Q (F0 m pc ls (v :: .ref a :: rest)) := by
  obtain ⟨⟨hx, hb, hml, hown, hts⟩, hK, hA, hG, hGs⟩ := X
  obtain ⟨hP, hD, hS⟩ := hH
  obtain ⟨hL, fs, he, hl, hkv⟩ := hf
  obtain ⟨j, hj⟩ := p_get (cy := cy) hL
  have hj2 := hj
  rw [he] at hj2
  refine va_putF hx hb hts hin ty0 hty hnm hown hK hP hD hS j hj2 hc k hk (hts _ hlink) hsame hfin hin2 hdecl hd hn hfit hl hdg (fun H1 locs1 h1 h2 h3 => ?_)
  have he1 := p_set_eq (cy := cy) (.inr (ci, fs.set k v)) hD hL hj
  rw [show p_c cy (.inr (ci, fs.set k v)) = .inr (ci, fs.set k v) from rfl] at he1
  rw [he1] at h1 h2
  exact next _ hkv H1 locs1 ⟨h1, h2, h3⟩
theorem q_putN {host : String} {v : Value} {ty0 : Nat → FieldType} {ty : FieldType} (X : p_X p m c cc nL s args own D cy G A) (hH : p_H D cy S A s H locs) {kk : PS → Prop} (hf : pV S a ci k v kk) (hin : ∀ w ∈ u_ws C T N, w ∈ wG) (hty : ∀ k, k < N → parseFieldDescriptor (T k).2.2.1 = some (ty0 k)) (hnm : ∀ a, a < N → ∀ b, b < N → a ≠ b → (T a).2.1 ≠ (T b).2.1) (hc : vwCl[ci]? = some (C, T, N)) (hk : k < N) (hlink : Cond.fieldLinkNest own index ref (T k).2.1 (T k).2.2.1 host ∈ nwL) (hsame : ∀ x, s.fieldFound? (T k).1 (T k).2.1 (T k).2.2.1 = some x → s.fieldFound? ref (T k).2.1 (T k).2.2.1 = some x) (hfin : (T k).2.2.2 = false) (hd : parseFieldDescriptor (T k).2.2.1 = some ty) (hn : narrow ty v = v) (hfit : fits ty v = true)
    (hdg : decode cc pc = .ok (.putfield index, 3)) (next : ∀ (S1 : PS), kk S1 → ∀ (H1 : Heap) (locs1 : List Loc), p_H D cy S1 A s H1 locs1 → W p l e R s m args below meth c H1 locs1 cells slots Q (F0 m (pc + 3) ls rest)) : W p l e R s m args below meth c H locs cells slots Q (F0 m pc ls (v :: .ref a :: rest)) := by
  obtain ⟨⟨hx, hb, hml, hown, hts⟩, hK, hA, hG, hGs⟩ := X
  obtain ⟨hP, hD, hS⟩ := hH
  obtain ⟨hL, fs, he, hl, hkv⟩ := hf
  obtain ⟨j, hj⟩ := p_get (cy := cy) hL
  have hj2 := hj
  rw [he] at hj2
  refine va_putN hx hb hts hin ty0 hty hnm hown hK hP hD hS j hj2 hc k hk (va_Nw.use rfl (hG.2.2.2 _ _ _ hGs _ hlink)) hsame hfin hd hn hfit hl hdg (fun H1 locs1 h1 h2 h3 => ?_)
  have he1 := p_set_eq (cy := cy) (.inr (ci, fs.set k v)) hD hL hj
  rw [show p_c cy (.inr (ci, fs.set k v)) = .inr (ci, fs.set k v) from rfl] at he1
  rw [he1] at h1 h2
  exact next _ hkv H1 locs1 ⟨h1, h2, h3⟩
theorem q_iald {i : Int32} (X : p_X p m c cc nL s args own D cy G A) (hH : p_H D cy S A s H locs) {kk : Int32 → Prop} (hf : aI S a 0 i kk) (hdg : decode cc pc = .ok (.iaload, 1))
    (next : ∀ v : Int32, kk v → W p l e R s m args below meth c H locs cells slots Q (F0 m (pc + 1) ls (.int v :: rest))) : W p l e R s m args below meth c H locs cells slots Q (F0 m pc ls (.int i :: .ref a :: rest)) := by
  obtain ⟨⟨hx, hb, hml, hown, hts⟩, hK, hA, hG, hGs⟩ := X
  obtain ⟨hP, hD, hS⟩ := hH
  obtain ⟨hL, n, f, he, hin, hkv⟩ := hf
  obtain ⟨j, hj⟩ := p_get (cy := cy) hL
  rw [he] at hj
  exact va_iald hx hb hK hP j 0 hj rfl hin hdg (next _ hkv)
theorem q_bald {i : Int32} (X : p_X p m c cc nL s args own D cy G A) (hH : p_H D cy S A s H locs) {kk : Int32 → Prop} (hf : aI S a 1 i kk) (hdg : decode cc pc = .ok (.baload, 1))
    (next : ∀ v : Int32, kk v → W p l e R s m args below meth c H locs cells slots Q (F0 m (pc + 1) ls (.int v :: rest))) : W p l e R s m args below meth c H locs cells slots Q (F0 m pc ls (.int i :: .ref a :: rest)) := by
  obtain ⟨⟨hx, hb, hml, hown, hts⟩, hK, hA, hG, hGs⟩ := X
  obtain ⟨hP, hD, hS⟩ := hH
  obtain ⟨hL, n, f, he, hin, hkv⟩ := hf
  obtain ⟨j, hj⟩ := p_get (cy := cy) hL
  rw [he] at hj
  exact va_bald hx hb hK hP j 1 hj rfl hin hdg (next _ hkv)
theorem q_iast {i x : Int32} (X : p_X p m c cc nL s args own D cy G A) (hH : p_H D cy S A s H locs) {kk : PS → Prop} (hf : sI S a 0 i x kk) (hdg : decode cc pc = .ok (.iastore, 1))
    (next : ∀ (S1 : PS), kk S1 → ∀ (H1 : Heap) (locs1 : List Loc), p_H D cy S1 A s H1 locs1 → W p l e R s m args below meth c H1 locs1 cells slots Q (F0 m (pc + 1) ls rest)) : W p l e R s m args below meth c H locs cells slots Q (F0 m pc ls (.int x :: .int i :: .ref a :: rest)) := by
  obtain ⟨⟨hx, hb, hml, hown, hts⟩, hK, hA, hG, hGs⟩ := X
  obtain ⟨hP, hD, hS⟩ := hH
  obtain ⟨hL, n, f, he, hin, hkv⟩ := hf
  obtain ⟨j, hj⟩ := p_get (cy := cy) hL
  have hj2 := hj
  rw [he] at hj2
  refine va_iast hx hb hK hP hD hS j 0 hj2 rfl hin hdg (fun H1 locs1 h1 h2 h3 => ?_)
  have he1 := p_set_eq (cy := cy) (.inl (0, n, .inl (upd f i.toNatClampNeg x))) hD hL hj
  rw [show p_c cy (.inl (0, n, .inl (upd f i.toNatClampNeg x))) = .inl (cy 0, n, .inl (upd f i.toNatClampNeg x)) from rfl] at he1
  rw [he1] at h1 h2
  exact next _ hkv H1 locs1 ⟨h1, h2, h3⟩
theorem q_bast {i x : Int32} (X : p_X p m c cc nL s args own D cy G A) (hH : p_H D cy S A s H locs) {kk : PS → Prop} (hf : sI S a 1 i (vp_nar .byte x) kk) (hdg : decode cc pc = .ok (.bastore, 1))
    (next : ∀ (S1 : PS), kk S1 → ∀ (H1 : Heap) (locs1 : List Loc), p_H D cy S1 A s H1 locs1 → W p l e R s m args below meth c H1 locs1 cells slots Q (F0 m (pc + 1) ls rest)) : W p l e R s m args below meth c H locs cells slots Q (F0 m pc ls (.int x :: .int i :: .ref a :: rest)) := by
  obtain ⟨⟨hx, hb, hml, hown, hts⟩, hK, hA, hG, hGs⟩ := X
  obtain ⟨hP, hD, hS⟩ := hH
  obtain ⟨hL, n, f, he, hin, hkv⟩ := hf
  obtain ⟨j, hj⟩ := p_get (cy := cy) hL
  have hj2 := hj
  rw [he] at hj2
  refine va_bast hx hb hK hP hD hS j 1 hj2 rfl hin hdg (fun H1 locs1 h1 h2 h3 => ?_)
  have he1 := p_set_eq (cy := cy) (.inl (1, n, .inl (upd f i.toNatClampNeg (vp_nar .byte x)))) hD hL hj
  rw [show p_c cy (.inl (1, n, .inl (upd f i.toNatClampNeg (vp_nar .byte x)))) = .inl (cy 1, n, .inl (upd f i.toNatClampNeg (vp_nar .byte x))) from rfl] at he1
  rw [he1] at h1 h2
  exact next _ hkv H1 locs1 ⟨h1, h2, h3⟩
theorem q_aald {i : Int32} (X : p_X p m c cc nL s args own D cy G A) (hH : p_H D cy S A s H locs) {kk : Option Nat → Prop} (hf : aO S a i kk) (hdg : decode cc pc = .ok (.aaload, 1))
    (next : ∀ v : Option Nat, kk v → W p l e R s m args below meth c H locs cells slots Q (F0 m (pc + 1) ls (va_rf v :: rest))) : W p l e R s m args below meth c H locs cells slots Q (F0 m pc ls (.int i :: .ref a :: rest)) := by
  obtain ⟨⟨hx, hb, hml, hown, hts⟩, hK, hA, hG, hGs⟩ := X
  obtain ⟨hP, hD, hS⟩ := hH
  obtain ⟨hL, n, f, he, hin, hkv⟩ := hf
  obtain ⟨j, hj⟩ := p_get (cy := cy) hL
  rw [he] at hj
  exact va_aldq hx hb hK hP j 3 hj rfl hin hdg (next _ hkv)
theorem q_aast {i : Int32} {v : Nat} (X : p_X p m c cc nL s args own D cy G A) (hH : p_H D cy S A s H locs) {kk : PS → Prop} (hf : sO S a i v kk) (hdg : decode cc pc = .ok (.aastore, 1))
    (next : ∀ (S1 : PS), kk S1 → ∀ (H1 : Heap) (locs1 : List Loc), p_H D cy S1 A s H1 locs1 → W p l e R s m args below meth c H1 locs1 cells slots Q (F0 m (pc + 1) ls rest)) : W p l e R s m args below meth c H locs cells slots Q (F0 m pc ls (.ref v :: .int i :: .ref a :: rest)) := by
  obtain ⟨⟨hx, hb, hml, hown, hts⟩, hK, hA, hG, hGs⟩ := X
  obtain ⟨hP, hD, hS⟩ := hH
  obtain ⟨hL, hLv, ⟨vs, hvs⟩, n, f, he, hin, hkv⟩ := hf
  obtain ⟨j, hj⟩ := p_get (cy := cy) hL
  obtain ⟨jv, hjv⟩ := p_get (cy := cy) hLv
  rw [hvs] at hjv
  have hj2 := hj
  rw [he] at hj2
  refine va_astq (r := (RX6, TX6, 6)) hx hb hK hP hD hS j 3 jv 10 hj2 rfl hjv rfl hin hdg (fun H1 locs1 h1 h2 h3 => ?_)
  have he1 := p_set_eq (cy := cy) (.inl (3, n, .inr (.inr (.inr (.inr (va_up f i.toNatClampNeg (some v))))))) hD hL hj
  rw [show p_c cy (.inl (3, n, .inr (.inr (.inr (.inr (va_up f i.toNatClampNeg (some v))))))) = .inl (cy 3, n, .inr (.inr (.inr (.inr (va_up f i.toNatClampNeg (some v)))))) from rfl] at he1
  rw [he1] at h1 h2
  exact next _ hkv H1 locs1 ⟨h1, h2, h3⟩
theorem q_alen (X : p_X p m c cc nL s args own D cy G A) (hH : p_H D cy S A s H locs) {kk : Int32 → Prop} (hf : lE S a kk) (hdg : decode cc pc = .ok (.arraylength, 1))
    (next : ∀ v : Int32, kk v → W p l e R s m args below meth c H locs cells slots Q (F0 m (pc + 1) ls (.int v :: rest))) : W p l e R s m args below meth c H locs cells slots Q (F0 m pc ls (.ref a :: rest)) := by
  obtain ⟨⟨hx, hb, hml, hown, hts⟩, hK, hA, hG, hGs⟩ := X
  obtain ⟨hP, hD, hS⟩ := hH
  obtain ⟨hL, t, n, f, ht, he, hkv⟩ := hf
  obtain ⟨j, hj⟩ := p_get (cy := cy) hL
  rw [he] at hj
  match t, ht with
  | 0, _ => exact va_alen hx hb hK hP j 0 hj rfl rfl hdg (next _ hkv)
  | 1, _ => exact va_alen hx hb hK hP j 1 hj rfl rfl hdg (next _ hkv)
  | 2, _ => exact va_alen hx hb hK hP j 2 hj rfl rfl hdg (next _ hkv)
theorem q_alenO (X : p_X p m c cc nL s args own D cy G A) (hH : p_H D cy S A s H locs) {kk : Int32 → Prop} (hf : lEO S a kk) (hdg : decode cc pc = .ok (.arraylength, 1))
    (next : ∀ v : Int32, kk v → W p l e R s m args below meth c H locs cells slots Q (F0 m (pc + 1) ls (.int v :: rest))) : W p l e R s m args below meth c H locs cells slots Q (F0 m pc ls (.ref a :: rest)) := by
  obtain ⟨⟨hx, hb, hml, hown, hts⟩, hK, hA, hG, hGs⟩ := X
  obtain ⟨hP, hD, hS⟩ := hH
  obtain ⟨hL, n, f, he, hkv⟩ := hf
  obtain ⟨j, hj⟩ := p_get (cy := cy) hL
  rw [he] at hj
  exact va_alen hx hb hK hP j 3 hj rfl rfl hdg (next _ hkv)
end P2
