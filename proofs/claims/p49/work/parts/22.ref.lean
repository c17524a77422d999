/-! the reference's row 0, what its methods tell *of* it -/
def isR (S : PS) (m al : Nat) (v : Nat → Nat) : Prop := m ∈ S.1 ∧ al ∈ S.1 ∧ (∃ fs : List Value, S.2 m = .inr (12, fs) ∧ fs[1]? = some (.ref al)) ∧ ∃ f : Nat → Int32, S.2 al = .inl (0, 1128, .inl f) ∧ ∀ k, k < 94 → f k = nI (v k)
def fo (v : Nat → Nat) (s : Nat) : Nat := tT v s (bn (ev v) s)
theorem n13 : (13 : Int32) = nI 13 := rfl
theorem n4 : (4 : Int32) = nI 4 := rfl
section REF
variable {S : PS} {m al : Nat} {v : Nat → Nat} {post : Int32 → PS → Prop}
theorem R0 (h : isR S m al v) {kk : Nat → Prop} : gR S m 12 1 kk = kk al := by
  obtain ⟨h1, h2, ⟨fs, h3, h4⟩, h5⟩ := h
  exact gR_eq h1 h3 h4
theorem RO (h : isR S m al v) {P : Prop} : isO S m 12 P = P := by
  obtain ⟨h1, h2, ⟨fs, h3, h4⟩, h5⟩ := h
  exact isO_eq h1 h3
theorem RA (h : isR S m al v) {k : Nat} (hk : k < 94) {kk : Int32 → Prop} : aI S al 0 (nI k) kk = kk (nI (v k)) := by
  obtain ⟨h1, h2, h3, f, h4, h5⟩ := h
  rw [aI_nI h2 h4 (show k < 1128 by omega) (by decide), h5 k hk]
theorem RA0 (h : isR S m al v) {kk : Int32 → Prop} : aI S al 0 0 kk = kk (nI (v 0)) := RA h (k := 0) (by omega)
theorem mk9_or {f : Nat → Nat} {n : Nat} (h : ∀ k, k < n + 1 → f k ≤ 1) : mk9 f (n + 1) = mk9 f n ||| (f n * 2 ^ n) := by
  have h1 := mk9_lt (n := n) (f := f) (fun k hk => h k (by omega))
  show mk9 f n + f n * 2 ^ n = _
  rw [Nat.or_comm, Nat.mul_comm, Nat.add_comm]
  exact Nat.two_pow_add_eq_or_of_lt h1 _
theorem b_sh {x k : Nat} (hx : x ≤ 1) (hk : k < 31) : nI x <<< (nI k &&& 31) = nI (x * 2 ^ k) := by
  rcases (show x = 0 ∨ x = 1 by omega) with rfl | rfl
  · rw [Nat.zero_mul]
    have : ∀ k, k < 31 → nI 0 <<< (nI k &&& 31) = nI 0 := by decide
    exact this k hk
  · rw [Nat.one_mul]; exact b_bit k hk
theorem clo_inv {v : Nat → Nat} {x : Nat} : ∀ {i : Nat}, i ≤ 9 → ((clo v x i).1 = -1 ∧ (clo v x i).2 = 0) ∨ ∃ b, b < 9 ∧ (clo v x i).1 = nI b ∧ (clo v x i).2 = wt v x b
  | 0, _ => Or.inl ⟨rfl, rfl⟩
  | i + 1, h => by
    simp only [clo]
    split
    · exact Or.inr ⟨i, by omega, rfl, rfl⟩
    · exact clo_inv (by omega)
theorem nIm1 {b : Nat} (hb : b < 1000) : (nI b = -1) = False := by
  have : ∀ b, b < 1000 → nI b ≠ -1 := fun b hb q => by
    have h1 := congrArg Int32.toInt q
    rw [nI_toInt (by omega)] at h1
    have h2 : (-1 : Int32).toInt = -1 := by decide
    omega
  exact propext ⟨this b hb, False.elim⟩
end REF

