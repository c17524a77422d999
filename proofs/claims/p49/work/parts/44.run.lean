/-! the input and its orders carried out, by the class -/
theorem ref_arg {v : Vt} {o : Nat} {x y w x' y' w' : Int32} (ho : o ≤ 6) (h1 : 1 ≤ cnt o → x = x') (h2 : 2 ≤ cnt o → y = y') (h3 : 3 ≤ cnt o → w = w') : refR v o x y w = refR v o x' y' w' ∧ doV v o x y w = doV v o x' y' w' ∧ doA v o x y w = doA v o x' y' w' := by
  have c1 : cnt 1 = 1 := rfl
  have c2 : cnt 2 = 3 := rfl
  have c3 : cnt 3 = 2 := rfl
  have c4 : cnt 4 = 2 := rfl
  have c5 : cnt 5 = 2 := rfl
  match o, ho with
  | 0, _ => exact ⟨by simp only [refR], by simp only [doV], by simp only [doA]⟩
  | 1, _ => rw [h1 (by omega)]; exact ⟨by simp only [refR], by simp only [doV], by simp only [doA]⟩
  | 2, _ => rw [h1 (by omega), h2 (by omega), h3 (by omega)]; exact ⟨rfl, rfl, rfl⟩
  | 3, _ => rw [h1 (by omega), h2 (by omega)]; exact ⟨by simp only [refR], by simp only [doV], by simp only [doA]⟩
  | 4, _ => rw [h1 (by omega), h2 (by omega)]; exact ⟨by simp only [refR], by simp only [doV], by simp only [doA]⟩
  | 5, _ => rw [h1 (by omega), h2 (by omega)]; exact ⟨by simp only [refR], by simp only [doV], by simp only [doA]⟩
  | 6, _ => exact ⟨by simp only [refR], by simp only [doV], by simp only [doA]⟩
def ag (o : Od) (j : Nat) : Int32 := match o.2[j]? with
  | some x => nI x
  | none => 0
theorem ag_of {o : Od} {g : Nat → Int32} (ho : orOk o) (hg : ∀ j x, o.2[j]? = some x → g j = nI x) {j : Nat} (hj : j + 1 ≤ cnt o.1) : g j = ag o j := by
  have hl : j < o.2.length := by rw [ho.2.1]; omega
  obtain ⟨x, hx⟩ : ∃ x, o.2[j]? = some x := ⟨_, List.getElem?_eq_getElem hl⟩
  unfold ag
  rw [hg j x hx, hx]
def odR (v : Vt) (o : Od) : Option (Int32 × Int32) := refR v o.1 (ag o 0) (ag o 1) (ag o 2)
def odV (v : Vt) (o : Od) : Vt := doV v o.1 (ag o 0) (ag o 1) (ag o 2)
/-- the orders in their course: the village they leave, or which one is refused and why -/
def runL (v : Vt) : List Od → Nat → Vt × Option (Nat × Int32 × Int32)
  | [], _ => (v, none)
  | o :: os, i => match odR v o with
    | some q => (v, some (i, q))
    | none => runL (odV v o) os (i + 1)
theorem odV_ok {v : Vt} {o : Od} (hv : okV v) (h : odR v o = none) {n : Nat} (ht : tot v + 198 * (n + 1) < 10000000) : okV (odV v o) ∧ tot (odV v o) ≤ tot v + 198 := by
  obtain ⟨a, b⟩ := doV_ok hv o.1 (ag o 0) (ag o 1) (ag o 2) h
  exact ⟨okV_of a (Nat.lt_of_le_of_lt b (by omega)), b⟩
theorem runL_tot : ∀ (os : List Od) (v : Vt) (i : Nat) (w : Vt), okV v → tot v + 198 * os.length < 10000000 → runL v os i = (w, none) → okV w ∧ tot w ≤ tot v + 198 * os.length
  | [], v, i, w, hv, _, h => by
    have h : ((v, none) : Vt × Option (Nat × Int32 × Int32)) = (w, none) := h
    injection h with h h2
    rw [← h]
    exact ⟨hv, Nat.le_add_right _ _⟩
  | o :: os, v, i, w, hv, ht, h => by
    have ht' : tot v + 198 * (os.length + 1) < 10000000 := ht
    unfold runL at h
    cases e : odR v o with
    | some q => rw [e] at h; injection h with h h2; cases h2
    | none =>
      rw [e] at h
      obtain ⟨a, b⟩ := odV_ok hv e ht'
      obtain ⟨c1, c2⟩ := runL_tot os _ (i + 1) w a (by omega) h
      exact ⟨c1, by show tot w ≤ tot v + 198 * (os.length + 1); omega⟩
theorem gsl60 {cap need : Nat} (h : need ≤ 60) : gk cap need ≤ 1 ∧ gsl cap need ≤ 122 := by
  unfold gk gsl
  constructor <;> split <;> omega
/-- the orders that were read stand in the class -/
def P7o (S : PS) (ow : Ow) (a : Nat) (os : List Od) : Prop := ∃ sa B F h, B 0 = a ∧ Po 3 9 (tfs sa) (fun _ => 0) trl S ow 7 B F h ∧ F 3 = nI os.length ∧ osC h os
theorem P7o_fr {S S1 : PS} {ow ow1 : Ow} {C : List Nat} {a : Nat} {os : List Od} (h : P7o S ow a os) (hk : keeps C S ow S1 ow1) (hc : 7 ∉ C) : P7o S1 ow1 a os := by
  obtain ⟨sa, B, F, h, h1, h2, h3, h4⟩ := h
  exact ⟨sa, B, F, h, h1, Po_fr (by omega) h2 hk hc, h3, h4⟩
section P7S
variable {adK : Nat → Nat} {S : PS} {ow : Ow} {a : Nat} {tx : List Nat} {fa : Int32} {os : List Od}
theorem p7_len (h : P7 S ow a tx fa) {post : Int32 → PS → Prop} : f_X5_length S a post = post (nI tx.length) S := by
  obtain ⟨sa, cap, B, F, g, e, ⟨hB, H, ho⟩, hs, -⟩ := h
  rw [← e]
  unfold f_X5_length
  rw [T_sa hB H, sb_O hs, sb_len hs]
theorem p7_O (h : P7o S ow a os) {P : Prop} : isO S a 9 P = P := by
  obtain ⟨sa, B, F, g, e, ⟨hB, H, ho⟩, h3, h4⟩ := h
  rw [← e]
  exact OS_isO hB (by omega) H
end P7S
section CH
variable {adK : Nat → Nat} {S S1 : PS} {ow ow1 : Ow} {A : Nat → Nat} {v : Vt} {hs : List Vt} {sv : Option Vt} {r : Nat → Int32} {tx : List Nat} {fa : Int32} {ln : List Nat}
theorem CI_7 (h : CI S ow A v hs sv r tx fa ln) : P7 S ow (A 7) tx fa := h.2.2.2.2.2.2.2.2.1
theorem CI_b (h : CI S ow A v hs sv r tx fa ln) : ∀ (i x : Nat), tx[i]? = some x → x < 128 := fun i x hx => by
  obtain ⟨sa, cap, B, F, g, e, -, ⟨ba, m, f, -, -, -, -, -, -, -, -, -, -, hch, -⟩, -⟩ := CI_7 h
  exact (hch i x hx).1
def rsn (r : Nat → Int32) (x y : Int32) : Int32 := if x = 0 then (if y = 0 then r 0 else r 1) else (if y = 0 then r 2 else r 3)
theorem x_reason {x y : Int32} {bc bs : Nat} {post : Int32 → PS → Prop} {postX : String → PS → Prop} (h : CI S ow A v hs sv r tx fa ln) (h1 : 1 ≤ bc) (h2 : 6 ≤ bs)
    (no : ¬ (x = 0 ∨ x = 1) → postX "java/lang/IllegalArgumentException" S) (none : (x = 0 ∨ x = 1) → (if x = 0 then r 0 else r 2) = 0 → postX "java/util/NoSuchElementException" S)
    (next : (x = 0 ∨ x = 1) → ¬ (if x = 0 then r 0 else r 2) = 0 → post (rsn r x y) S) : f_X7_reason S (A 12) x y bc bs post postX := by
  obtain ⟨p1, p2, p3⟩ := h.2.2.2.2.2.2.2.2.2.1
  have core : (x = 0 ∨ x = 1) → f_X7_reason_J20 post postX S bc bs (A 12) x y := fun hx => by
    unfold f_X7_reason_J20 f_X4_reaches
    rw [G_8 h, O_8 h]
    by_cases e : x = 0
    · have hx0 : (if x = 0 then r 0 else r 2) = r 0 := if_pos e
      rw [hx0] at none next
      rw [if_pos e, gI_eq p1 p3 rfl]
      by_cases e0 : r 0 = 0
      · rw [if_pos e0, nZ0]
        try dsimp only
        rw [if_pos rfl]
        exact ⟨h1, h2, none hx e0⟩
      · rw [if_neg e0, nZ1]
        try dsimp only
        rw [if_neg (by decide), G_8 h, O_8 h]
        have := next hx e0
        unfold rsn at this
        rw [if_pos e] at this
        unfold f_X4_numberAt
        rw [if_pos e]
        by_cases e1 : y = 0
        · rw [if_pos e1, gI_eq p1 p3 rfl]; rw [if_pos e1] at this; exact this
        · rw [if_neg e1, gI_eq p1 p3 rfl]; rw [if_neg e1] at this; exact this
    · have hx0 : (if x = 0 then r 0 else r 2) = r 2 := if_neg e
      rw [hx0] at none next
      rw [if_neg e, gI_eq p1 p3 rfl]
      by_cases e0 : r 2 = 0
      · rw [if_pos e0, nZ0]
        try dsimp only
        rw [if_pos rfl]
        exact ⟨h1, h2, none hx e0⟩
      · rw [if_neg e0, nZ1]
        try dsimp only
        rw [if_neg (by decide), G_8 h, O_8 h]
        have := next hx e0
        unfold rsn at this
        rw [if_neg e] at this
        unfold f_X4_numberAt
        rw [if_neg e]
        by_cases e1 : y = 0
        · rw [if_pos e1, gI_eq p1 p3 rfl]; rw [if_pos e1] at this; exact this
        · rw [if_neg e1, gI_eq p1 p3 rfl]; rw [if_neg e1] at this; exact this
  unfold f_X7_reason
  by_cases e : x = 0
  · rw [if_pos e]; exact core (Or.inl e)
  · rw [if_neg e]
    by_cases e1 : x = 1
    · rw [if_pos e1]; exact core (Or.inr e1)
    · rw [if_neg e1]
      exact ⟨h1, h2, no (fun z => by rcases z with z | z; exact e z; exact e1 z)⟩
/-! taken back, saved, brought back -/
theorem CI_up03 {v' : Vt} {hs' : List Vt} (h : CI S ow A v hs sv r tx fa ln) (hk : keeps [0, 3] S ow S1 ow1) (hn : Pv S1 ow1 0 (A 0) v') (hn3 : P3 S1 ow1 (A 3) hs') : CI S1 ow1 A v' hs' sv r tx fa ln := by
  obtain ⟨h12, h0, ⟨w1, h1⟩, ⟨w2, h2⟩, h3, ⟨B4, F4, g4, e4, h4⟩, ⟨B5, F5, g5, e5, h5, z5⟩, ⟨B6, F6, g6, e6, h6⟩, h7, h8, ⟨cp, h9⟩, f, h10⟩ := h
  exact ⟨P12_fr h12 hk (by decide) (by decide), hn, ⟨w1, Pv_fr h1 hk (by decide)⟩, ⟨w2, Pv_fr h2 hk (by decide)⟩, hn3, ⟨B4, F4, g4, e4, Po_fr (by omega) h4 hk (by decide)⟩, ⟨B5, F5, g5, e5, Po_fr (by omega) h5 hk (by decide), z5⟩, ⟨B6, F6, g6, e6, Po_fr (by omega) h6 hk (by decide)⟩, P7_fr h7 hk (by decide) (by decide), P8_fr h8 hk (by decide), ⟨cp, sb_fr h9 hk (by decide)⟩, f, P10_fr h10 hk (by decide)⟩
end CH

