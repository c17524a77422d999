/-! the script's numbers; an act of the law, refused or not; the build *(pure)* -/
section SCR
variable {L : Nat} {xs : Nat → Int32} {S : PS} {post : Int32 → PS → Prop}
theorem l_any (x : Int32) : x = nI x.toBitVec.toNat := by
  apply Int32.toBitVec_inj.mp
  apply BitVec.eq_of_toNat_eq
  rw [pk_tn x.toBitVec.isLt]
theorem l_cell (hL : L ≤ 260) {k : Nat} (hk : k < 2 ^ 31) (next : ∀ x, post x S) : f_L_cell L xs S (nI k) post := by
  unfold f_L_cell
  by_cases h : L ≤ k
  · rw [if_pos (show Int32.ofNat L ≤ nI k from nI_le h hk)]; exact next _
  · rw [if_neg (show ¬ Int32.ofNat L ≤ nI k from nI_ge (by omega) (by omega))]
    exact ⟨nI_in (by omega) (by omega), next _⟩
theorem l_some (hL : L ≤ 260) {k m : Nat} (hk : k < 2 ^ 31) (h0 : 0 < m) (hm : m < 2 ^ 31) (next : ∀ t, t < m → post (nI t) S) : f_L_some L xs S (nI k) (nI m) post := by
  unfold f_L_some
  refine l_cell hL hk (fun x => ⟨fun e => by rw [nIe0 hm] at e; omega, ?_⟩)
  have hx := x.toBitVec.isLt
  rw [l_any x, pk_ushrN hx 3 3 (by decide), pk_rem (by omega) h0 hm]
  exact next _ (Nat.mod_lt _ h0)
end SCR
/-- what the acts leave: how many came and went, how heavy the bonds may be *(k acts)* -/
def inC (v : Nat → Nat) (k : Nat) : Prop := v 1 = v 0 + v 2 ∧ v 3 ≤ v 2 ∧ v 1 ≤ k ∧ tot v ≤ 198 * k
def cn (v : Nat → Nat) (k : Nat) : Prop := v 1 = v 0 + v 2 ∧ v 3 ≤ v 2 ∧ v 1 ≤ k
theorem cn_mk {n a b c k : Nat} {sd : Nat → Nat} {w : Nat → Nat → Nat} (h1 : a = n + b) (h2 : c ≤ b) (h3 : a ≤ k) : cn (mkV n a b c sd w) k := ⟨h1, h2, h3⟩
theorem cn_do {v : Vt} {k : Nat} (h9 : v 0 ≤ 9) (hc : cn v k) : ∀ (o : Nat) (x y w : Int32), refR v o x y w = none → cn (doV v o x y w) (k + 1) := by
  intro o x y w hn
  obtain ⟨c1, c2, c3⟩ := hc
  match o, hn with
  | 0, hn =>
    show cn (vCom v) (k + 1)
    unfold vCom; exact cn_mk (by omega) (by omega) (by omega)
  | 1, hn =>
    have hx : inb v x = true := by
      by_cases hx : inb v x = true
      · exact hx
      · have e : refR v 1 x y w = some (2, x) := if_neg hx
        rw [e] at hn; cases hn
    have := (inb_of h9 hx).1
    show cn (vGo v (ix x)) (k + 1)
    unfold vGo; exact cn_mk (by omega) (by omega) (by omega)
  | 2, hn =>
    show cn (vBnd v (ix x) (ix y) (ix w)) (k + 1)
    unfold vBnd; exact cn_mk (by omega) (by omega) (by omega)
  | 3, hn =>
    show cn (vBnd v (ix x) (ix y) 0) (k + 1)
    unfold vBnd; exact cn_mk (by omega) (by omega) (by omega)
  | 4, hn =>
    have := (pairR_none h9 (show pairR v x y = none from hn)).2.2.2.1
    have e0 : vGo (vUni v (ix x) (ix y)) (ix y) 0 = v 0 - 1 := by unfold vGo; rw [mk_0]; unfold vUni; rw [mk_0]
    have e1 : vGo (vUni v (ix x) (ix y)) (ix y) 1 = v 1 := by unfold vGo; rw [mk_1]; unfold vUni; rw [mk_1]
    have e2 : vGo (vUni v (ix x) (ix y)) (ix y) 2 = v 2 + 1 := by unfold vGo; rw [mk_2]; unfold vUni; rw [mk_2]
    have e3 : vGo (vUni v (ix x) (ix y)) (ix y) 3 = v 3 := by unfold vGo; rw [mk_3]; unfold vUni; rw [mk_3]
    show cn (vMar v (ix x) (ix y)) (k + 1)
    unfold vMar vWed
    exact cn_mk (by omega) (by omega) (by omega)
  | 5, hn =>
    show cn (vSid v (ix x) (ix y)) (k + 1)
    unfold vSid; exact cn_mk (by omega) (by omega) (by omega)
  | o + 6, hn =>
    show cn (vPar v (lgr v)) (k + 1)
    unfold vPar; exact cn_mk (by omega) (by omega) (by omega)
theorem inC_do {v : Vt} {k : Nat} (hv : okV v) (hc : inC v k) (o : Nat) (x y w : Int32) (hn : refR v o x y w = none) : inC (doV v o x y w) (k + 1) := by
  obtain ⟨c1, c2, c3, c4⟩ := hc
  have ht := (doV_ok hv o x y w hn).2
  obtain ⟨d1, d2, d3⟩ := cn_do hv.1 ⟨c1, c2, c3⟩ o x y w hn
  exact ⟨d1, d2, d3, by omega⟩
theorem pairR_ne {v : Vt} {x y : Int32} {q : Int32 × Int32} (h : pairR v x y = some q) : q.1 ≠ 0 := by
  unfold pairR at h
  split at h
  · split at h
    · split at h
      · cases h; dsimp only; decide
      · cases h
    · cases h; dsimp only; decide
  · cases h; dsimp only; decide
theorem refR_ne {v : Vt} : ∀ (o : Nat) (x y w : Int32) (q : Int32 × Int32), refR v o x y w = some q → q.1 ≠ 0 := by
  intro o x y w q h
  match o, h with
  | 0, h =>
    replace h : (if v 0 = 9 then some ((1 : Int32), (9 : Int32)) else none) = some q := h
    split at h
    · cases h; dsimp only; decide
    · cases h
  | 1, h =>
    replace h : (if inb v x = true then none else some ((2 : Int32), x)) = some q := h
    split at h
    · cases h
    · cases h; dsimp only; decide
  | 2, h =>
    cases hp : pairR v x y with
    | some z =>
      have e : refR v 2 x y w = some z := by simp only [refR, hp]
      rw [e] at h; cases h; exact pairR_ne hp
    | none =>
      simp only [refR, hp] at h
      split at h
      · cases h; dsimp only; decide
      · split at h
        · cases h; dsimp only; decide
        · cases h
  | 3, h =>
    cases hp : pairR v x y with
    | some z =>
      have e : refR v 3 x y w = some z := by simp only [refR, hp]
      rw [e] at h; cases h; exact pairR_ne hp
    | none =>
      simp only [refR, hp] at h
      split at h
      · cases h; dsimp only; decide
      · cases h
  | 4, h => exact pairR_ne (show pairR v x y = some q from h)
  | 5, h =>
    simp only [refR] at h
    split at h
    · split at h
      · cases h; dsimp only; decide
      · split at h
        · cases h; dsimp only; decide
        · cases h
    · cases h; dsimp only; decide
  | o + 6, h =>
    simp only [refR] at h
    split at h
    · cases h; dsimp only; decide
    · cases h
/-- the class between two acts *(whatever else it keeps)* -/
def LV (k : Nat) (S : PS) (A : Nat → Nat) (v : Vt) : Prop := okV v ∧ inC v k ∧ ∃ ow hs sv r tx fa ln, CI S ow A v hs sv r tx fa ln
section ACT
variable {S : PS} {ow : Ow} {A : Nat → Nat} {v : Vt} {hs : List Vt} {sv : Option Vt} {r : Nat → Int32} {tx : List Nat} {fa : Int32} {ln : List Nat} {bc bs k : Nat} {post : Int32 → PS → Prop}
theorem l_told {x y : Int32} (h : CI S ow A v hs sv (rK x y) tx fa ln) (hx : x ≠ 0) (h1 : 1 ≤ bc) (h2 : 6 ≤ bs) (next : ∀ z, post z S) : f_L_told S (A 12) bc bs post := by
  unfold f_L_told
  rw [G_O h]
  refine ⟨1, 6, h1, h2, x_reason h (Nat.le_refl _) (Nat.le_refl _) (fun hn => hn (Or.inl rfl)) (fun _ hz => hx ?_) (fun _ _ => next _)⟩
  rw [if_pos rfl] at hz
  exact hz
theorem l_act {o : Nat} {x y w : Int32} (h : LV k S A v) (hk : k ≤ 1000) (ho : o ≤ 6) (h1 : 5 ≤ bc) (h2 : 120 ≤ bs) (next : ∀ z S1 v1, LV (k + 1) S1 A v1 → post z S1) : isO S (A 12) 11 (∃ mc2 ms2 : Nat, mc2 ≤ bc ∧ ms2 ≤ bs ∧ (isO S (A 12) 11 (f_X7_refuses S (A 12) (nI o) x y w fun v2 S1 => if v2 = 0 then isO S1 (A 12) 11 (∃ mc5 ms5 : Nat, mc5 ≤ mc2 ∧ ms5 ≤ ms2 ∧ (f_X7_changed S1 (A 12) (nI o) x y w mc5 ms5 fun v6 S4 => post v6 S4)) else tX S1 "java/lang/UnsupportedOperationException" mc2 ms2 (fun E4 S4 => E4 = "java/lang/UnsupportedOperationException" ∧ ∃ mc6 ms6 : Nat, mc6 ≤ (bc - mc2) ∧ ms6 ≤ (bs - ms2) ∧ (f_L_told S4 (A 12) mc6 ms6 fun v7 S5 => post v7 S5))))) := by
  obtain ⟨hv, hc, ow, hs, sv, r, tx, fa, ln, h⟩ := h
  have hc4 := hc.2.2.2
  rw [G_O h]
  refine ⟨2, 87, by omega, by omega, x_change h hv (by omega) ho (Nat.le_refl _) (Nat.le_refl _) (fun q hq S1 h3 k3 => ⟨rfl, 1, 6, by omega, by omega, ?_⟩) (fun hn S1 ow1 h3 k3 => ?_)⟩
  · exact l_told h3 (refR_ne o x y w q hq) (Nat.le_refl _) (Nat.le_refl _) (fun z => next z S1 v ⟨hv, ⟨hc.1, hc.2.1, by have := hc.2.2.1; omega, by omega⟩, ow, hs, sv, _, tx, fa, ln, h3⟩)
  · have hd := doV_ok hv o x y w hn
    exact next _ S1 _ ⟨okV_of hd.1 (by omega), inC_do hv hc o x y w hn, ow1, _, sv, r, tx, fa, ln, h3⟩
theorem l_household (h : LV k S A v) (hk : k ≤ 1000) (h1 : 5 ≤ bc) (h2 : 120 ≤ bs) (next : ∀ z S1 v1, LV (k + 1) S1 A v1 → post z S1) : f_L_household S (A 12) bc bs post := l_act (o := 0) (x := 0) (y := 0) (w := 0) h hk (by omega) h1 h2 next
theorem l_leave {x : Int32} (h : LV k S A v) (hk : k ≤ 1000) (h1 : 5 ≤ bc) (h2 : 120 ≤ bs) (next : ∀ z S1 v1, LV (k + 1) S1 A v1 → post z S1) : f_L_leave S (A 12) x bc bs post := l_act (o := 1) (x := x) (y := 0) (w := 0) h hk (by omega) h1 h2 next
theorem l_bond {x y w : Int32} (h : LV k S A v) (hk : k ≤ 1000) (h1 : 5 ≤ bc) (h2 : 120 ≤ bs) (next : ∀ z S1 v1, LV (k + 1) S1 A v1 → post z S1) : f_L_bond S (A 12) x y w bc bs post := l_act (o := 2) (x := x) (y := y) (w := w) h hk (by omega) h1 h2 next
theorem l_loosen {x y : Int32} (h : LV k S A v) (hk : k ≤ 1000) (h1 : 5 ≤ bc) (h2 : 120 ≤ bs) (next : ∀ z S1 v1, LV (k + 1) S1 A v1 → post z S1) : f_L_loosen S (A 12) x y bc bs post := l_act (o := 3) (x := x) (y := y) (w := 0) h hk (by omega) h1 h2 next
theorem l_marry {x y : Int32} (h : LV k S A v) (hk : k ≤ 1000) (h1 : 5 ≤ bc) (h2 : 120 ≤ bs) (next : ∀ z S1 v1, LV (k + 1) S1 A v1 → post z S1) : f_L_marry S (A 12) x y bc bs post := l_act (o := 4) (x := x) (y := y) (w := 0) h hk (by omega) h1 h2 next
theorem l_stand {x y : Int32} (h : LV k S A v) (hk : k ≤ 1000) (h1 : 5 ≤ bc) (h2 : 120 ≤ bs) (next : ∀ z S1 v1, LV (k + 1) S1 A v1 → post z S1) : f_L_stand S (A 12) x y bc bs post := l_act (o := 5) (x := x) (y := y) (w := 0) h hk (by omega) h1 h2 next
theorem l_part (h : LV k S A v) (hk : k ≤ 1000) (h1 : 5 ≤ bc) (h2 : 120 ≤ bs) (next : ∀ z S1 v1, LV (k + 1) S1 A v1 → post z S1) : f_L_part S (A 12) bc bs post := l_act (o := 6) (x := 0) (y := 0) (w := 0) h hk (by omega) h1 h2 next
end ACT
section BLD
variable {L : Nat} {xs : Nat → Int32} {S : PS} {A : Nat → Nat} {v : Vt} {bc bs k : Nat} {post : PS → Prop}
theorem l_acts (hL : L ≤ 260) {i : Nat} (hi : i + 3 < 2 ^ 31) (h : LV k S A v) (hk : k ≤ 900) (h1 : 6 ≤ bc) (h2 : 126 ≤ bs) (next : ∀ S1 v1, LV (k + 1) S1 A v1 → post S1) : f_L_acts L xs S (A 12) (nI i) bc bs post := by
  have hu : LV (k + 1) S A v := ⟨h.1, ⟨h.2.1.1, h.2.1.2.1, by have := h.2.1.2.2.1; omega, by have := h.2.1.2.2.2; omega⟩, h.2.2⟩
  obtain ⟨ow, hs, sv, r, tx, fa, ln, hC⟩ := h.2.2
  have hv := h.1
  have h9 := hv.1
  unfold f_L_acts
  rw [G_O hC]
  refine ⟨1, 6, by omega, by omega, x_account hC hv (Nat.le_refl _) (Nat.le_refl _) ?_⟩
  rw [show oAcc v tx.length hs.length 0 = (0, nI (v 0)) from if_pos rfl]
  simp only [rs]
  obtain ⟨m, hm0, hm, em⟩ : ∃ m : Nat, 0 < m ∧ m < 2 ^ 31 ∧ (if (1 : Int32) < nI (v 0) then nI (v 0) else 1) = nI m := by
    by_cases hz : 1 < v 0
    · exact ⟨v 0, by omega, by omega, if_pos ((nI_ltI (by omega) (by omega)).mpr hz)⟩
    · exact ⟨1, by omega, by omega, if_neg (fun z => hz ((nI_ltI (by omega) (by omega)).mp z))⟩
  rw [em]
  have e1 : nI i + 1 = nI (i + 1) := nI_add i 1
  have e2 : nI i + 2 = nI (i + 2) := nI_add i 2
  have e3 : nI i + 3 = nI (i + 3) := nI_add i 3
  rw [e1]
  refine l_some hL (by omega) hm0 hm (fun t1 ht1 => ?_)
  rw [e2]
  refine l_some hL (by omega) hm0 hm (fun t2 ht2 => ?_)
  rw [e3]
  refine l_some hL (m := 99) (by omega) (by omega) (by omega) (fun t3 ht3 => ?_)
  refine l_some hL (m := 10) (by omega) (by omega) (by omega) (fun t4 ht4 => ?_)
  have st : f_L_acts_J178 L xs post S (bc - 1) (bs - 6) (A 12) (nI t1) (nI t3) := by
    unfold f_L_acts_J178
    exact ⟨by decide, _, _, Nat.le_refl _, Nat.le_refl _, l_stand h (by omega) (by omega) (by omega) (fun z S1 v1 hh => next S1 v1 hh)⟩
  split
  · split
    · exact ⟨_, _, Nat.le_refl _, Nat.le_refl _, l_leave h (by omega) (by omega) (by omega) (fun z S1 v1 hh => next S1 v1 hh)⟩
    · exact ⟨_, _, Nat.le_refl _, Nat.le_refl _, l_household h (by omega) (by omega) (by omega) (fun z S1 v1 hh => next S1 v1 hh)⟩
  split
  · split
    · exact ⟨_, _, Nat.le_refl _, Nat.le_refl _, l_household h (by omega) (by omega) (by omega) (fun z S1 v1 hh => next S1 v1 hh)⟩
    · exact ⟨_, _, Nat.le_refl _, Nat.le_refl _, l_leave h (by omega) (by omega) (by omega) (fun z S1 v1 hh => next S1 v1 hh)⟩
  split
  · split
    · exact next S v hu
    · exact ⟨_, _, Nat.le_refl _, Nat.le_refl _, l_marry h (by omega) (by omega) (by omega) (fun z S1 v1 hh => next S1 v1 hh)⟩
  split
  · exact ⟨_, _, Nat.le_refl _, Nat.le_refl _, l_loosen h (by omega) (by omega) (by omega) (fun z S1 v1 hh => next S1 v1 hh)⟩
  split
  · exact st
  split
  · exact st
  split
  · exact ⟨_, _, Nat.le_refl _, Nat.le_refl _, l_part h (by omega) (by omega) (by omega) (fun z S1 v1 hh => next S1 v1 hh)⟩
  · exact ⟨_, _, Nat.le_refl _, Nat.le_refl _, l_bond h (by omega) (by omega) (by omega) (fun z S1 v1 hh => next S1 v1 hh)⟩
end BLD
