/-! the pairs told so far: their number, sum, text, heaviest; a bond's place among all *(pure)* -/
section PRE
variable {v : Vt} {P : List (Nat × Nat)} {a b : Nat}
/-- the pairs of row a with the other below b; those of the rows below a -/
def rp (a : Nat) : Nat → List (Nat × Nat)
  | 0 => []
  | b + 1 => rp a b ++ (if a < b then [(a, b)] else [])
def pp (n : Nat) : Nat → List (Nat × Nat)
  | 0 => []
  | a + 1 => pp n a ++ rp a n
theorem pp_prs : ∀ n, n < 10 → pp n n = prs n n := by decide +kernel
theorem pp_at : ∀ n, n < 10 → ∀ a, a < n → ∀ b, b < n → a < b → ((pp n a ++ rp a b) ++ [(a, b)]).isPrefixOf (prs n n) = true := by decide +kernel
def cB (v : Vt) (P : List (Nat × Nat)) : Nat := psl (fun i j => if 0 < wt v i j then 1 else 0) P
def tB (v : Vt) (P : List (Nat × Nat)) : List Nat := P.foldl (tlB v) []
def hB (v : Vt) (P : List (Nat × Nat)) : hvT v := P.foldl (fun s q => hvS v q.1 q.2 s) (hv0 v)
def hI (v : Vt) (P : List (Nat × Nat)) : Int32 := if (hB v P).1.1 = -1 then -30000 else (hB v P).1.1
theorem psl_1 (g : Nat → Nat → Nat) : psl g (P ++ [(a, b)]) = psl g P + g a b := by
  rw [psl_app]
  rfl
theorem tB_1 : tB v (P ++ [(a, b)]) = tlB v (tB v P) (a, b) := by
  unfold tB
  rw [List.foldl_append]
  rfl
theorem hB_1 : hB v (P ++ [(a, b)]) = hvS v a b (hB v P) := by
  unfold hB
  rw [List.foldl_append]
  rfl
theorem cB_f : cB v P = (P.filter (bnd v)).length := psl_len v P
theorem cB_le : cB v P ≤ P.length := by rw [cB_f]; exact List.length_filter_le ..
theorem bl_at (hp : (P ++ [(a, b)]).isPrefixOf (prs (v 0) (v 0)) = true) (hw : 0 < wt v a b) : (bl v)[cB v P]? = some (a, b) := by
  obtain ⟨R, hR⟩ := List.isPrefixOf_iff_prefix.mp hp
  unfold bl
  rw [← hR, List.filter_append, List.filter_append, cB_f, List.append_assoc, List.getElem?_append_right (Nat.le_refl _), Nat.sub_self]
  have e : [(a, b)].filter (bnd v) = [(a, b)] := List.filter_cons_of_pos (by unfold bnd; exact decide_eq_true hw)
  rw [e]
  rfl
theorem pre_len (h9 : v 0 ≤ 9) (hp : (P ++ [(a, b)]).isPrefixOf (prs (v 0) (v 0)) = true) : P.length ≤ 35 := by
  obtain ⟨R, hR⟩ := List.isPrefixOf_iff_prefix.mp hp
  have h := prs36 (v 0) (by omega)
  rw [← hR, List.length_append, List.length_append] at h
  simp only [List.length_singleton] at h
  omega
theorem pre_mem (hp : (P ++ [(a, b)]).isPrefixOf (prs (v 0) (v 0)) = true) : ∀ q, q ∈ P → q.1 < v 0 ∧ q.2 < v 0 := fun q hq => by
  obtain ⟨R, hR⟩ := List.isPrefixOf_iff_prefix.mp hp
  have h := prs_mem (n := v 0) (d := v 0) (Nat.le_refl _) q (by rw [← hR]; exact List.mem_append_left _ (List.mem_append_left _ hq))
  omega
theorem tlB_nil (v : Vt) (l : List Nat) (q : Nat × Nat) : tlB v l q = [] ↔ l = [] ∧ ¬ 0 < wt v q.1 q.2 := by
  unfold tlB bdL
  by_cases e : 0 < wt v q.1 q.2
  · rw [if_pos e]
    exact ⟨fun h => by simp at h, fun h => absurd e h.2⟩
  · rw [if_neg e]
    exact ⟨fun h => ⟨h, e⟩, fun h => h.1⟩
theorem foldl_nil (v : Vt) : ∀ (P : List (Nat × Nat)) (l : List Nat), P.foldl (tlB v) l = [] ↔ l = [] ∧ cB v P = 0
  | [], l => ⟨fun h => ⟨h, rfl⟩, fun h => h.1⟩
  | q :: P, l => by
    rw [List.foldl_cons, foldl_nil v P, tlB_nil]
    have e : cB v (q :: P) = (if 0 < wt v q.1 q.2 then 1 else 0) + cB v P := rfl
    rw [e]
    by_cases h : 0 < wt v q.1 q.2
    · rw [if_pos h]
      exact ⟨fun z => absurd h z.1.2, fun z => by omega⟩
    · rw [if_neg h]
      exact ⟨fun z => ⟨z.1.1, by omega⟩, fun z => ⟨⟨z.1, h⟩, by omega⟩⟩
theorem tB_nil : tB v P = [] ↔ cB v P = 0 := by
  unfold tB
  rw [foldl_nil]
  exact ⟨fun h => h.2, fun h => ⟨rfl, h⟩⟩
theorem foldl_len (hv : okV v) : ∀ (P : List (Nat × Nat)) (l : List Nat), (∀ q, q ∈ P → q.1 < v 0 ∧ q.2 < v 0) → (P.foldl (tlB v) l).length ≤ l.length + 11 * P.length
  | [], l, _ => Nat.le_add_right _ _
  | q :: P, l, h => by
    have h9 := hv.1
    have h1 := h q (List.mem_cons_self ..)
    have h2 := (tlB_len hv (l := l) (q := q) (by omega) (by omega)).2
    have h3 := foldl_len hv P (tlB v l q) (fun x hx => h x (List.mem_cons_of_mem _ hx))
    rw [List.foldl_cons, List.length_cons]
    omega
theorem tB_len (hv : okV v) (hm : ∀ q, q ∈ P → q.1 < v 0 ∧ q.2 < v 0) : (tB v P).length ≤ 11 * P.length := by
  have h := foldl_len hv P [] hm
  rw [List.length_nil, Nat.zero_add] at h
  exact h
/-- the text of a bond, as the law puts it together -/
theorem tB_bd (ha : a < 9) (hb : b < 9) (hw : 0 < wt v a b) (hc : cB v P < 1000) : tB v P ++ tN (if nI (cB v P) + 1 ≤ 1 then 0 else 1) ++ dg a ++ dg b ++ tN 2 ++ dg (wt v a b) = tB v (P ++ [(a, b)]) := by
  rw [tB_1, dg_1 (by omega), dg_1 (by omega)]
  unfold tlB bdL
  have e1 : nI (cB v P) + 1 = nI (cB v P + 1) := nI_1 ..
  rw [if_pos hw, e1]
  by_cases h : cB v P = 0
  · rw [if_pos (tB_nil.mpr h), if_pos (show nI (cB v P + 1) ≤ 1 from nI_le (a := cB v P + 1) (b := 1) (by omega) (by omega))]
    simp only [List.append_assoc, List.nil_append]
    rfl
  · rw [if_neg (fun z => h (tB_nil.mp z)), if_neg (show ¬ nI (cB v P + 1) ≤ 1 from nI_ge (a := 1) (b := cB v P + 1) (by omega) (by omega))]
    simp only [List.append_assoc]
    rfl
theorem tB_no (hw : ¬ 0 < wt v a b) : tB v (P ++ [(a, b)]) = tB v P := by
  rw [tB_1]
  exact if_neg hw
theorem hI_no (hw : ¬ 0 < wt v a b) : hI v (P ++ [(a, b)]) = hI v P := by
  unfold hI
  rw [hB_1]
  have e : hvS v a b (hB v P) = hB v P := by
    unfold hvS
    rw [dif_neg (fun z => hw (by omega))]
  rw [e]
end PRE
