/-! rows of rows: new int[n][n], its rows read, their number; the law's script kept by G *for methods that are given it* -/
def aQ (S : PS) (a : Nat) (i : Int32) (kk : Nat → Prop) : Prop := a ∈ S.1 ∧ ∃ (n : Nat) (f : Nat → Option Nat) (b : Nat), S.2 a = .inl (4, n, .inr (.inr (.inr (.inr f)))) ∧ vp_in i n ∧ f i.toNatClampNeg = some b ∧ kk b
def lEQ (S : PS) (a : Nat) (kk : Int32 → Prop) : Prop := a ∈ S.1 ∧ ∃ (n : Nat) (f : Nat → Option Nat), S.2 a = .inl (4, n, .inr (.inr (.inr (.inr f)))) ∧ kk (Int32.ofNat n)
def p_multi (S : PS) (q n m : Nat) (r : Nat → Nat) : PS := (q :: (S.1 ++ (List.range n).map r), fun a => if a = q then .inl (4, n, .inr (.inr (.inr (.inr (fun i => if i < n then some (r i) else none))))) else if a ∈ (List.range n).map r then .inl (0, m, .inl (fun _ => 0)) else S.2 a)
def nM (S : PS) (n : Int32) (bc bs : Nat) (kk : Nat → PS → Nat → Nat → Prop) : Prop := ¬ n < 0 ∧ n.toNatClampNeg ≤ 1000 ∧ 1 + n.toNatClampNeg ≤ bc ∧ n.toNatClampNeg + n.toNatClampNeg * n.toNatClampNeg ≤ bs ∧ ∀ (q : Nat) (r : Nat → Nat), q ∉ S.1 → (∀ i j, i < n.toNatClampNeg → j < n.toNatClampNeg → r i = r j → i = j) → (∀ i, i < n.toNatClampNeg → r i ∉ S.1 ∧ r i ≠ q) → kk q (p_multi S q n.toNatClampNeg n.toNatClampNeg r) (bc - (1 + n.toNatClampNeg)) (bs - (n.toNatClampNeg + n.toNatClampNeg * n.toNatClampNeg))
def gX (b L : Nat) (xs : Nat → Int32) (A : Nat → Prop) (U : State) (H : Heap) : Prop := va_X b L xs U H ∧ b < H.size ∧ ¬ A b
section PQ
variable {p : Program} {l : Launch} {e : Env} {R : Room} {s : State} {m : MethodId} {args : Array Value} {below : List Frame} {meth : Method} {c : Code} {H : Heap} {locs : List Loc} {cells slots : Nat} {Q : State → Prop}
variable {cc : ByteArray} {pc nL : Nat} {ls : Array Slot} {rest : List Value} {D : va_G} {cy : Nat → ClassId} {G : p_GT} {A : Nat → Prop} {S : PS} {own : String} {a index bc bs : Nat}
theorem va_aldA {cl : List vw_C} {tys : List (ClassId × FieldType)} {ws : va_W} (hexec : p.tables.exec = Jvm.exec) (hb : c.code = cc) (hK : va_K D cl tys s) (hP : va_P D cl ws H) (q0 t0 : Nat) {cA : ClassId} {n : Nat} {f : Nat → Option Nat} (ha : ws[q0]? = some (a, .inl (cA, n, .inr (.inr (.inr (.inr f)))))) (ht : tys[t0]? = some (cA, .array .int)) {i : Int32} (hin : vp_in i n) (hdg : decode cc pc = .ok (.aaload, 1))
    (kk : W p l e R s m args below meth c H locs cells slots Q (F0 m (pc + 1) ls (va_rf (f i.toNatClampNeg) :: rest))) : W p l e R s m args below meth c H locs cells slots Q (F0 m pc ls (.int i :: .ref a :: rest)) := by
  have hlt : i.toNatClampNeg < n := Nat.not_le.mp fun q => hin (Or.inr q)
  exact W.aald (v := va_rf (f i.toNatClampNeg)) (ty := .array .int) hexec hb (hP q0 _ ha) ((hK.2 t0 _ ht).1 n (fun j => va_rf (f j))) rfl (fun q => by cases q) (by show ¬ (i < 0 ∨ (arrV _ _ _).slots.size ≤ _); rw [arrV_size]; exact hin) (by show (arrV _ _ _).slots[_]? = _; rw [arrV_read _ _ hlt]) rfl rfl hdg kk
theorem q_aaldQ {i : Int32} (X : p_X p m c cc nL s args own D cy G A) (hH : p_H D cy S A s H locs) {kk : Nat → Prop} (hf : aQ S a i kk) (hdg : decode cc pc = .ok (.aaload, 1))
    (next : ∀ v : Nat, kk v → W p l e R s m args below meth c H locs cells slots Q (F0 m (pc + 1) ls (.ref v :: rest))) : W p l e R s m args below meth c H locs cells slots Q (F0 m pc ls (.int i :: .ref a :: rest)) := by
  obtain ⟨⟨hx, hb, hml, hown, hts⟩, hK, hA, hG, hGs⟩ := X
  obtain ⟨hP, hD, hS⟩ := hH
  obtain ⟨hL, n, f, b, he, hin, hfb, hkv⟩ := hf
  obtain ⟨j, hj⟩ := p_get (cy := cy) hL
  rw [he] at hj
  refine va_aldA hx hb hK hP j 4 hj rfl hin hdg ?_
  rw [hfb]
  exact next b hkv
theorem q_alenQ (X : p_X p m c cc nL s args own D cy G A) (hH : p_H D cy S A s H locs) {kk : Int32 → Prop} (hf : lEQ S a kk) (hdg : decode cc pc = .ok (.arraylength, 1))
    (next : ∀ v : Int32, kk v → W p l e R s m args below meth c H locs cells slots Q (F0 m (pc + 1) ls (.int v :: rest))) : W p l e R s m args below meth c H locs cells slots Q (F0 m pc ls (.ref a :: rest)) := by
  obtain ⟨⟨hx, hb, hml, hown, hts⟩, hK, hA, hG, hGs⟩ := X
  obtain ⟨hP, hD, hS⟩ := hH
  obtain ⟨hL, n, f, he, hkv⟩ := hf
  obtain ⟨j, hj⟩ := p_get (cy := cy) hL
  rw [he] at hj
  exact va_alen hx hb hK hP j 4 hj rfl rfl hdg (next _ hkv)
theorem q_mna {n : Int32} (X : p_X p m c cc nL s args own D cy G A) (hH : p_H D cy S A s H locs) (hB : cells + bc ≤ R.cells ∧ slots + bs ≤ R.slots) {kk : Nat → PS → Nat → Nat → Prop} (hf : nM S n bc bs kk) (hcl : Cond.classLink own index "[[I" ∈ wG) (hao : va_AOA .int s) (harr : Cond.arrayClass .int ∈ wG) (hdg : decode cc pc = .ok (.multianewarray index 2, 4))
    (next : ∀ (q : Nat) (S1 : PS) (bc1 bs1 : Nat), kk q S1 bc1 bs1 → ∀ (H1 : Heap) (locs1 : List Loc) (cells1 slots1 : Nat), p_H D cy S1 A s H1 locs1 → cells1 + bc1 ≤ R.cells ∧ slots1 + bs1 ≤ R.slots → W p l e R s m args below meth c H1 locs1 cells1 slots1 Q (F0 m (pc + 4) ls (.ref q :: rest))) : W p l e R s m args below meth c H locs cells slots Q (F0 m pc ls (.int n :: .int n :: rest)) := by
  obtain ⟨⟨hx, hb, hml, hown, hts⟩, hK, hA, hG, hGs⟩ := X
  obtain ⟨h0, h3, h1, h2, hf⟩ := hf
  obtain ⟨N, hN⟩ : ∃ N, N = n.toNatClampNeg := ⟨_, rfl⟩
  rw [← hN] at h3 h1 h2 hf
  refine va_mna (X := []) (L := S.1) (f := fun a => p_c cy (S.2 a)) (ty := .int) (cy := cy 0) (z := (N, .inl (fun _ => 0))) hx hb hown (hts _ hcl) hao (hts _ harr) (hK.2 0 (cy 0, .int) rfl).2 hK hH.1 hH.2.1 hH.2.2 hA h0 h0 hN.symm hN.symm (by omega) (by show N * 4 ≤ _; omega) (by omega) rfl rfl (by omega) (by omega) (fun c => by show ({ cls := c, slots := Array.replicate N (.int 0), vm := .none } : Cell) = _; rw [arrV_new]; rfl) hdg (fun q r cA H1 hr hn hK1 hP1 hD1 hS1 => ?_)
  have hcA := p_ty hK (k := 4) rfl (fun C h => by cases h) hK1
  subst hcA
  obtain ⟨g, hg⟩ : ∃ g, g = vr_up (fun a => p_c cy (S.2 a)) ((List.range N).map r) (.inl (cy 0, N, .inl (fun _ => 0))) := ⟨_, rfl⟩
  have hne : ∀ x, x ∈ S.1 ++ (List.range N).map r → x ≠ q := fun x hx e9 => by
    obtain ⟨j, hj⟩ := va_pl_get (X := []) (f := g) hx
    have hj2 : (([] ++ [(q, (.inl (cy 4, N, .inr (.inr (.inr (.inr (fun i => if i < N then some (r i) else none))))) : va_E))]) ++ va_pl (S.1 ++ (List.range N).map r) g)[j + 1]? = some (x, g x) := hj
    rw [hg] at hj2
    have h9 := hD1.1 0 (j + 1) _ _ rfl hj2 e9.symm
    omega
  have hW : (([] ++ [(q, (.inl (cy 4, N, .inr (.inr (.inr (.inr (fun i => if i < N then some (r i) else none))))) : va_E))]) ++ va_pl (S.1 ++ (List.range N).map r) (vr_up (fun a => p_c cy (S.2 a)) ((List.range N).map r) (.inl (cy 0, N, .inl (fun _ => 0))))) = p_W cy (p_multi S q N N r) := by
    show (q, _) :: va_pl _ _ = (q, p_c cy ((p_multi S q N N r).2 q)) :: va_pl _ _
    congr 1
    · show _ = (q, p_c cy (if q = q then _ else _))
      rw [if_pos rfl]
      rfl
    · unfold va_pl
      refine List.map_congr_left (fun x hx => ?_)
      have h9 := hne x hx
      show (x, vr_up _ _ _ x) = (x, p_c cy (if x = q then _ else if x ∈ (List.range N).map r then _ else S.2 x))
      rw [if_neg h9]
      unfold vr_up
      by_cases hm : x ∈ (List.range N).map r
      · rw [if_pos hm, if_pos hm]; rfl
      · rw [if_neg hm, if_neg hm]
  rw [hW] at hP1 hD1
  refine next q _ _ _ (hf q r (fun z => hne q (List.mem_append_left _ z) rfl) hr (fun i hi => ⟨hn i hi, fun z => hne (r i) (List.mem_append_right _ (List.mem_map.mpr ⟨i, List.mem_range.mpr hi, rfl⟩)) z⟩)) H1 locs _ _ ⟨hP1, hD1, hS1⟩ ⟨by omega, by omega⟩
theorem q_sld {b L : Nat} {xs : Nat → Int32} {i : Int32} (X : p_X p m c cc nL s args own D cy G A) (hH : p_H D cy S A s H locs) (hX : gX b L xs A s s.heap) (hin : vp_in i L) (hdg : decode cc pc = .ok (.iaload, 1))
    (kk : W p l e R s m args below meth c H locs cells slots Q (F0 m (pc + 1) ls (.int (xs i.toNatClampNeg) :: rest))) : W p l e R s m args below meth c H locs cells slots Q (F0 m pc ls (.int i :: .ref b :: rest)) :=
  va_sld X.1.1 X.1.2.1 hX.1 hX.2.1 hX.2.2 hH.2.2 hin hdg kk
theorem q_slen {b L : Nat} {xs : Nat → Int32} (X : p_X p m c cc nL s args own D cy G A) (hH : p_H D cy S A s H locs) (hX : gX b L xs A s s.heap) (hdg : decode cc pc = .ok (.arraylength, 1))
    (kk : W p l e R s m args below meth c H locs cells slots Q (F0 m (pc + 1) ls (.int (Int32.ofNat L) :: rest))) : W p l e R s m args below meth c H locs cells slots Q (F0 m pc ls (.ref b :: rest)) :=
  va_slen X.1.1 X.1.2.1 hX.1 hX.2.1 hX.2.2 hH.2.2 hdg kk
end PQ
