/-! what a household reaches: both sides end at the least closed set *that holds it* -/
def clS (v : Nat → Nat) (s : Nat) : Prop := ∀ i, i < v 0 → 0 < tS v i s → s.testBit i = true
def sub (s t : Nat) : Prop := ∀ k, s.testBit k = true → t.testBit k = true
theorem tS_mono {v : Nat → Nat} {i s t : Nat} (h : sub s t) : tS v i s ≤ tS v i t := sm_le (fun k _ => by
  by_cases hk : s.testBit k = true
  · rw [if_pos hk, if_pos (h k hk)]; exact Nat.le_refl _
  · rw [if_neg hk]; exact Nat.zero_le _)
theorem or_tb (s i k : Nat) : (s ||| 2 ^ i).testBit k = (s.testBit k || decide (k = i)) := by
  rw [Nat.testBit_or, Nat.testBit_two_pow]
  by_cases h : k = i
  · subst h; simp
  · simp [h, show ¬ i = k by omega]
theorem rcI_sub {v : Nat → Nat} {s : Nat} : ∀ {i : Nat}, sub s (rcI v s i)
  | 0 => fun _ h => h
  | i + 1 => fun k hk => by
    have := rcI_sub (v := v) (s := s) (i := i) k hk
    simp only [rcI]
    split
    · rw [or_tb, this]; rfl
    · exact this
theorem rcI_mono {v : Nat → Nat} {s i : Nat} : ∀ (d : Nat), sub (rcI v s i) (rcI v s (i + d))
  | 0 => fun _ h => h
  | d + 1 => fun k hk => by
    have := rcI_mono (v := v) (s := s) (i := i) d k hk
    show (rcI v s (i + d + 1)).testBit k = true
    simp only [rcI]
    split
    · rw [or_tb, this]; rfl
    · exact this
theorem rcI_in {v : Nat → Nat} {s c : Nat} (hc : clS v c) (hs : sub s c) : ∀ {i : Nat}, i ≤ v 0 → sub (rcI v s i) c
  | 0, _ => hs
  | i + 1, h => fun k hk => by
    have ih := rcI_in hc hs (i := i) (by omega)
    simp only [rcI] at hk
    split at hk
    · rename_i ht
      rw [or_tb] at hk
      rcases Bool.or_eq_true _ _ ▸ hk with h1 | h1
      · exact ih k h1
      · rw [of_decide_eq_true h1]
        exact hc i (by omega) (Nat.lt_of_lt_of_le ht (tS_mono ih))
    · exact ih k hk
theorem rcO_in {v : Nat → Nat} {h c : Nat} (hc : clS v c) (hh : c.testBit h = true) : ∀ r, sub (rcO v h r) c
  | 0 => fun k hk => by
    rw [rcO, Nat.testBit_two_pow] at hk
    rw [← of_decide_eq_true hk]; exact hh
  | r + 1 => rcI_in hc (rcO_in hc hh r) (Nat.le_refl _)
theorem rcO_has {v : Nat → Nat} {h : Nat} : ∀ r, (rcO v h r).testBit h = true
  | 0 => by rw [rcO, Nat.testBit_two_pow]; simp
  | r + 1 => rcI_sub h (rcO_has r)
/-- a round that adds nothing: the set is closed -/
theorem rcI_fix {v : Nat → Nat} {s : Nat} (h : rcI v s (v 0) = s) : clS v s := by
  intro i hi ht
  have h1 : 0 < tS v i (rcI v s i) := Nat.lt_of_lt_of_le ht (tS_mono rcI_sub)
  have h2 : (rcI v s (i + 1)).testBit i = true := by
    simp only [rcI]; rw [if_pos h1, or_tb]; simp
  have h3 := rcI_mono (v := v) (s := s) (i := i + 1) (v 0 - (i + 1)) i h2
  rw [show i + 1 + (v 0 - (i + 1)) = v 0 by omega, h] at h3
  exact h3
theorem cl_fix {v : Nat → Nat} {s : Nat} (h : clS v s) : ∀ {i : Nat}, i ≤ v 0 → rcI v s i = s
  | 0, _ => rfl
  | i + 1, hi => by
    simp only [rcI]
    rw [cl_fix h (i := i) (by omega)]
    split
    · rename_i ht
      exact Nat.eq_of_testBit_eq (fun k => by
        rw [or_tb]
        by_cases hk : k = i
        · subst hk; rw [h k (by omega) ht]; rfl
        · simp [hk])
    · rfl
/-- how many households are in a set -/
def pc (s n : Nat) : Nat := sm (fun k => if s.testBit k = true then 1 else 0) n
theorem pc_le (s : Nat) : ∀ n, pc s n ≤ n := fun n => by
  have h := sm_bd (f := fun k => if s.testBit k = true then 1 else 0) (c := 1) (n := n) (fun k _ => by split <;> omega)
  rw [Nat.mul_one] at h; exact h
theorem pc_lt {s t n : Nat} (h : sub s t) {k : Nat} (hk : k < n) (h1 : s.testBit k = false) (h2 : t.testBit k = true) : pc s n < pc t n := by
  have e : pc s n + 1 ≤ pc t n := by
    rw [← sm_pick (f := fun _ => 1) hk]
    unfold pc
    rw [← sm_add]
    refine sm_le (fun j _ => ?_)
    by_cases hj : j = k
    · subst hj; rw [if_pos rfl, if_pos h2, if_neg (by rw [h1]; decide)]; exact Nat.le_refl _
    · rw [if_neg hj, Nat.add_zero]
      by_cases hs : s.testBit j = true
      · rw [if_pos hs, if_pos (h j hs)]; exact Nat.le_refl _
      · rw [if_neg hs]; exact Nat.zero_le _
  exact e
theorem rcI_lo {v : Nat → Nat} {s : Nat} (hs : ∀ k, v 0 ≤ k → s.testBit k = false) : ∀ {i : Nat}, i ≤ v 0 → ∀ k, v 0 ≤ k → (rcI v s i).testBit k = false
  | 0, _, k, hk => hs k hk
  | i + 1, hi, k, hk => by
    have := rcI_lo hs (i := i) (by omega) k hk
    simp only [rcI]
    split
    · rw [or_tb, this]; simp; omega
    · exact this
theorem rcO_lo {v : Nat → Nat} {h : Nat} (hh : h < v 0) : ∀ r k, v 0 ≤ k → (rcO v h r).testBit k = false
  | 0, k, hk => by rw [rcO, Nat.testBit_two_pow]; simp; omega
  | r + 1, k, hk => rcI_lo (rcO_lo hh r) (Nat.le_refl _) k hk
theorem rcO_cl {v : Nat → Nat} {h : Nat} (hh : h < v 0) : ∀ r, clS v (rcO v h r) ∨ r < pc (rcO v h r) (v 0)
  | 0 => Or.inr (by
    have h1 := sm_one (f := fun k => if (rcO v h 0).testBit k = true then 1 else 0) hh
    rw [if_pos (rcO_has 0)] at h1
    exact h1)
  | r + 1 => by
    rcases rcO_cl hh r with h1 | h1
    · exact Or.inl (by rw [rcO, cl_fix h1 (Nat.le_refl _)]; exact h1)
    · by_cases h2 : rcI v (rcO v h r) (v 0) = rcO v h r
      · exact Or.inl (by rw [rcO, h2]; exact rcI_fix h2)
      · refine Or.inr ?_
        rw [rcO]
        have h3 : ∃ k, k < v 0 ∧ (rcO v h r).testBit k = false ∧ (rcI v (rcO v h r) (v 0)).testBit k = true := by
          refine Classical.byContradiction fun hn => h2 (Nat.eq_of_testBit_eq fun k => ?_)
          by_cases hk : k < v 0
          · cases hb : (rcO v h r).testBit k with
            | true => exact rcI_sub k hb
            | false =>
              cases hc : (rcI v (rcO v h r) (v 0)).testBit k with
              | true => exact absurd ⟨k, hk, hb, hc⟩ hn
              | false => rfl
          · rw [rcI_lo (rcO_lo hh r) (Nat.le_refl _) k (by omega), rcO_lo hh r k (by omega)]
        obtain ⟨k, hk, a, b⟩ := h3
        have := pc_lt rcI_sub hk a b
        omega
def rch (v : Nat → Nat) (h : Nat) : Nat := rcO v h (v 0)
theorem rch_cl {v : Nat → Nat} {h : Nat} (hh : h < v 0) : clS v (rch v h) := by
  rcases rcO_cl hh (v 0) with h1 | h1
  · exact h1
  · have := pc_le (rcO v h (v 0)) (v 0); omega
/-- a set that holds a household, is closed, and lies in every closed one that holds it -/
theorem rch_eq {v : Nat → Nat} {h s : Nat} (hh : h < v 0) (h1 : s.testBit h = true) (h2 : clS v s) (h3 : ∀ c, clS v c → c.testBit h = true → sub s c) : s = rch v h :=
  Nat.eq_of_testBit_eq (fun k => by
    have a := h3 (rch v h) (rch_cl hh) (rcO_has _) k
    have b := rcO_in h2 h1 (v 0) k
    cases hs : s.testBit k with
    | true => exact (a hs).symm
    | false =>
      cases hr : (rch v h).testBit k with
      | true => rw [b hr] at hs; exact hs.symm
      | false => rfl)
/-- the reference's round: with the set as it was -/
def rrI (v : Nat → Nat) (w s : Nat) : Nat → Nat
  | 0 => s
  | i + 1 => if 0 < tS v i w then rrI v w s i ||| 2 ^ i else rrI v w s i
theorem rrI_tb {v : Nat → Nat} {w s : Nat} : ∀ (i k : Nat), (rrI v w s i).testBit k = true ↔ s.testBit k = true ∨ (k < i ∧ 0 < tS v k w)
  | 0, k => by simp [rrI]
  | i + 1, k => by
    simp only [rrI]
    have ih := rrI_tb (v := v) (w := w) (s := s) i k
    by_cases ht : 0 < tS v i w
    · rw [if_pos ht, or_tb, Bool.or_eq_true, ih, decide_eq_true_eq]
      constructor
      · rintro ((h | ⟨h1, h2⟩) | h)
        · exact Or.inl h
        · exact Or.inr ⟨by omega, h2⟩
        · subst h; exact Or.inr ⟨by omega, ht⟩
      · rintro (h | ⟨h1, h2⟩)
        · exact Or.inl (Or.inl h)
        · by_cases hk : k = i
          · exact Or.inr hk
          · exact Or.inl (Or.inr ⟨by omega, h2⟩)
    · rw [if_neg ht, ih]
      constructor
      · rintro (h | ⟨h1, h2⟩)
        · exact Or.inl h
        · exact Or.inr ⟨by omega, h2⟩
      · rintro (h | ⟨h1, h2⟩)
        · exact Or.inl h
        · refine Or.inr ⟨?_, h2⟩
          by_cases hk : k = i
          · subst hk; exact absurd h2 ht
          · omega
theorem rrI_lt {v : Nat → Nat} {w s : Nat} (hs : s < 2 ^ 9) : ∀ {i : Nat}, i ≤ 9 → rrI v w s i < 2 ^ 9
  | 0, _ => hs
  | i + 1, h => by
    have := rrI_lt (v := v) (w := w) hs (i := i) (by omega)
    simp only [rrI]
    split
    · exact Nat.or_lt_two_pow this (Nat.pow_lt_pow_right (by omega) (by omega))
    · exact this
section RCH
variable {S : PS} {m al : Nat} {v : Nat → Nat} {post : Int32 → PS → Prop}
end RCH

