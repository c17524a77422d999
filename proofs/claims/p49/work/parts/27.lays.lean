/-! the reference lays its phases -/
theorem nI_far : (100000000 : Int32) = nI 100000000 := rfl
/-- what laying leaves: groups, ties, cuts, the place of the least cut and that cut -/
def laid (v : Nat → Nat) (F : Nat → Int32) (h : Nat → Nat → Int32) (F1 : Nat → Int32) (h1 : Nat → Nat → Int32) : Prop :=
  (∀ i, i ≠ 13 → i ≠ 14 → F1 i = F i) ∧ (∀ k, k ≠ 2 → k ≠ 3 → k ≠ 4 → k ≠ 5 → h1 k = h k) ∧ (∀ p q, p < v 0 - 1 → q < v 0 - p → h1 2 (9 * p + q) = nI (gr v p q) ∧ h1 3 (9 * p + q) = nI (pl v p q)) ∧ (∀ p, p < v 0 - 1 → h1 4 p = nI (cut v p)) ∧ F1 13 = nI (lph v (v 0 - 2)) ∧ (2 ≤ v 0 → F1 14 = nI (cut v (lph v (v 0 - 2))))
theorem cut_lt {v : Nat → Nat} (hv : okV v) {p : Nat} : cut v p < 10000000 := tT_lt hv
section RLY
variable {S0 S : PS} {B : Nat → Nat} {F : Nat → Int32} {h : Nat → Nat → Int32} {v : Nat → Nat}
end RLY

