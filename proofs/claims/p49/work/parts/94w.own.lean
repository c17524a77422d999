/-! what the law asks of one household *(pure)* -/
section OWN
variable {adK : Nat → Nat} {L : Nat} {xs : Nat → Int32} {S : PS} {ow : Ow} {A : Nat → Nat} {v : Vt} {hs : List Vt} {sv : Option Vt} {rr : Nat → Int32} {tx : List Nat} {fa : Int32} {ln : List Nat} {q : Nat} {r : Nat → Nat} {bc bs : Nat}
theorem oH1 (h9 : v 0 ≤ 9) {a : Nat} (ha : a < v 0) : oHou v (nI a) 1 = (0, nI (bo v a)) := by
  unfold oHou; rw [if_pos (inb_nI h9 ha), ix_nI (show a < 2 ^ 31 by omega), if_neg (by decide), if_pos rfl]
theorem oH2 (h9 : v 0 ≤ 9) {a : Nat} (ha : a < v 0) : oHou v (nI a) 2 = (0, nI (tS v a (ev v))) := by
  unfold oHou; rw [if_pos (inb_nI h9 ha), ix_nI (show a < 2 ^ 31 by omega), if_neg (by decide), if_neg (by decide), if_pos rfl]
theorem oH3 (h9 : v 0 ≤ 9) {a : Nat} (ha : a < v 0) : oHou v (nI a) 3 = (0, nI (tS v a (ss v a))) := by
  unfold oHou; rw [if_pos (inb_nI h9 ha), ix_nI (show a < 2 ^ 31 by omega), if_neg (by decide), if_neg (by decide), if_neg (by decide), if_pos rfl]
theorem oH4 (h9 : v 0 ≤ 9) {a : Nat} (ha : a < v 0) : oHou v (nI a) 4 = (0, nI (tS v a (os v a))) := by
  unfold oHou; rw [if_pos (inb_nI h9 ha), ix_nI (show a < 2 ^ 31 by omega), if_neg (by decide), if_neg (by decide), if_neg (by decide), if_neg (by decide), if_pos rfl]
theorem oH5 (h9 : v 0 ≤ 9) {a : Nat} (ha : a < v 0) : oHou v (nI a) 5 = (0, (clo v a (v 0)).1) := by
  unfold oHou; rw [if_pos (inb_nI h9 ha), ix_nI (show a < 2 ^ 31 by omega), if_neg (by decide), if_neg (by decide), if_neg (by decide), if_neg (by decide), if_neg (by decide), if_pos rfl]
/-- the best move of a first households and one more -/
def bnx (v : Vt) (a : Nat) (x : Int32) : Int32 := if x = -30000 then nI a else if amv v (ix x) ≤ amv v a then x else nI a
theorem nI30 {b : Nat} (hb : b < 1000) : ¬ nI b = -30000 := fun e => by
  have h1 : nI b + nI 30000 = -30000 + nI 30000 := by rw [e]
  rw [nI_add, show (-30000 : Int32) + nI 30000 = nI 0 by decide] at h1
  have := (nI_eq (by omega) (by omega)).mp h1
  omega
theorem ss_lw (hv : okV v) {a : Nat} : ss v a < 2 ^ 9 := by
  have h1 := sds_lt hv
  have hp := Nat.pow_le_pow_right (show 0 < 2 by omega) hv.1
  unfold ss
  split
  · exact h1
  · exact bn_lt (by unfold ev; omega)
theorem os_lw (hv : okV v) {a : Nat} : os v a < 2 ^ 9 := by
  have hp := Nat.pow_le_pow_right (show 0 < 2 by omega) hv.1
  exact bn_lt (by unfold ev; omega)
theorem l_own {g : PS → Nat → Nat → Nat → Int32 → Nat → Int32 → Int32 → Int32 → Int32 → Int32 → Int32 → Int32 → Int32 → Int32 → Int32 → Int32 → Int32 → Int32 → Nat → Nat → Int32 → Prop} {a l17 l18 : Nat} {l2 l7 l8 l9 l10 l11 l13 l14 l15 l16 t0 t1 : Int32} (h : CI S ow A v hs sv rr tx fa ln) (hv : okV v) (hM : isM S q r v) (ha : a < v 0) (h1 : 9 ≤ bc) (h2 : 54 ≤ bs) (hb : l16 = -30000 ∨ ∃ b, b < v 0 ∧ l16 = nI b)
    (next : ∀ bc1 bs1, bc ≤ bc1 + 9 → bs ≤ bs1 + 54 → f_L_law_J710 adK L xs g S bc1 bs1 (A 12) l2 q (nI (v 0)) (nI (ev v)) (nI (sds v)) l7 l8 l9 l10 l11 (t1 + t0) l13 l14 l15 (bnx v a l16) l17 l18 (nI a)) :
    f_L_law_J528 adK L xs g S bc bs (A 12) l2 q (nI (v 0)) (nI (ev v)) (nI (sds v)) l7 l8 l9 l10 l11 l13 l14 l15 l16 l17 l18 (nI a) (nI (bo v a)) (clo v a (v 0)).1 (nI (rch v a)) t0 t1 := by
  have h9 := hv.1
  have hs1 := sds_lt hv
  have hp := Nat.pow_le_pow_right (show 0 < 2 by omega) (show a ≤ 8 by omega)
  have hpv := Nat.pow_le_pow_right (show 0 < 2 by omega) h9
  have hev : ev v < 2 ^ 31 := by unfold ev; omega
  have core : f_L_law_J554 adK L xs g S bc bs (A 12) l2 q (nI (v 0)) (nI (ev v)) (nI (sds v)) l7 l8 l9 l10 l11 (t1 + t0) l13 l14 l15 l16 l17 l18 (nI a) (nI (bo v a)) (clo v a (v 0)).1 (nI (rch v a)) (nI (ss v a)) := by
    have hx : ∀ b, b < v 0 → sds v ^^^ 2 ^ b < 2 ^ 31 := fun b hb => by
      have hpb := Nat.pow_le_pow_right (show 0 < 2 by omega) (show b ≤ 8 by omega)
      exact Nat.lt_of_lt_of_le (Nat.xor_lt_two_pow (n := 9) hs1 (by omega)) (by omega)
    have sx : ss v a < 2 ^ 31 := Nat.lt_of_lt_of_le (ss_lw hv) (by omega)
    have ox : os v a < 2 ^ 31 := Nat.lt_of_lt_of_le (os_lw hv) (by omega)
    unfold f_L_law_J554
    rw [b_bit a (by omega), b_xor, l_feud hM h9 (hx a ha), G_O h]
    refine ⟨1, 6, by omega, by omega, x_householdOf h hv (Nat.le_refl _) (Nat.le_refl _) ?_⟩
    rw [oH1 h9 ha]
    simp only [rs, if_true]
    rw [G_O h]
    refine ⟨1, 6, by omega, by omega, x_householdOf h hv (Nat.le_refl _) (Nat.le_refl _) ?_⟩
    rw [oH2 h9 ha]
    simp only [rs]
    rw [l_tie hM h9 (show 2 ^ a < 2 ^ 31 by omega) hev, tT_bit ha, if_pos rfl, G_O h]
    refine ⟨1, 6, by omega, by omega, x_householdOf h hv (Nat.le_refl _) (Nat.le_refl _) ?_⟩
    rw [oH3 h9 ha]
    simp only [rs]
    rw [l_tie hM h9 (show 2 ^ a < 2 ^ 31 by omega) sx, tT_bit ha, if_pos rfl, G_O h]
    refine ⟨1, 6, by omega, by omega, x_householdOf h hv (Nat.le_refl _) (Nat.le_refl _) ?_⟩
    rw [oH4 h9 ha]
    simp only [rs]
    rw [b_bn, show bn (ev v) (ss v a) = os v a from rfl, l_tie hM h9 (show 2 ^ a < 2 ^ 31 by omega) ox, tT_bit ha, if_pos rfl, G_O h]
    refine ⟨1, 6, by omega, by omega, x_householdOf h hv (Nat.le_refl _) (Nat.le_refl _) ?_⟩
    rw [oH5 h9 ha]
    simp only [rs, if_true]
    rw [G_O h]
    refine ⟨1, 6, by omega, by omega, x_partOf h hv (Nat.le_refl _) (Nat.le_refl _) ?_⟩
    rw [show oPof v (nI a) = (0, nI (rch v a)) by unfold oPof; rw [if_pos (inb_nI h9 ha), ix_nI (show a < 2 ^ 31 by omega)]]
    simp only [rs, if_true]
    rw [G_O h]
    refine ⟨1, 6, by omega, by omega, x_ifMoved h hv (Nat.le_refl _) (Nat.le_refl _) ?_⟩
    rw [show oIfM v (nI a) = (0, nI (fo v (sds v ^^^ 2 ^ a))) by unfold oIfM amv; rw [if_pos (inb_nI h9 ha), ix_nI (show a < 2 ^ 31 by omega)]]
    simp only [rs, if_true]
    unfold bnx amv at next
    rcases hb with rfl | ⟨b, hb, rfl⟩
    · rw [if_pos rfl]
      rw [if_pos rfl] at next
      unfold f_L_law_J706
      exact next _ _ (by omega) (by omega)
    · rw [if_neg (nI30 (by omega)), b_bit b (by omega), b_xor, l_feud hM h9 (hx b hb)]
      rw [if_neg (nI30 (show b < 1000 by omega)), ix_nI (show b < 2 ^ 31 by omega)] at next
      have f1 := fo_lt hv (s := sds v ^^^ 2 ^ b)
      have f2 := fo_lt hv (s := sds v ^^^ 2 ^ a)
      by_cases hc : fo v (sds v ^^^ 2 ^ b) ≤ fo v (sds v ^^^ 2 ^ a)
      · rw [if_pos (nI_le hc (by omega))]
        rw [if_pos hc] at next
        exact next _ _ (by omega) (by omega)
      · rw [if_neg (nI_ge (by omega) (by omega))]
        rw [if_neg hc] at next
        unfold f_L_law_J706
        exact next _ _ (by omega) (by omega)
  unfold f_L_law_J528
  have sb : (sds v).testBit a = decide (v (4 + a) = 1) := sds_tb hv (by omega)
  by_cases hc : v (4 + a) = 1
  · rw [if_pos (by rw [b_in (show sds v < 2 ^ 31 by omega) (by omega), sb, decide_eq_true hc])]
    have e : ss v a = sds v := if_pos hc
    rw [e] at core
    exact core
  · rw [if_neg (by rw [b_in (show sds v < 2 ^ 31 by omega) (by omega), sb, decide_eq_false hc]; decide), b_bn]
    have e : ss v a = bn (ev v) (sds v) := if_neg hc
    rw [e] at core
    exact core
end OWN
