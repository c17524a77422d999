/-! the law's reach is the part of a household *(pure)* -/
section REA
variable {adK : Nat → Nat} {L : Nat} {xs : Nat → Int32} {S : PS} {q : Nat} {r : Nat → Nat} {v : Nat → Nat} {bc bs : Nat}
theorem l_reachI {g : PS → Nat → Nat → Nat → Int32 → Nat → Int32 → Int32 → Int32 → Int32 → Int32 → Int32 → Int32 → Int32 → Int32 → Int32 → Int32 → Int32 → Int32 → Nat → Nat → Int32 → Int32 → Int32 → Int32 → Int32 → Prop} {l1 l17 l18 s : Nat} {l2 l5 l6 l7 l8 l9 l10 l11 l12 l13 l14 l15 l16 l19 l20 l21 l23 : Int32} (h : isM S q r v) (hv : okV v) (hs : s < 2 ^ 9) :
    f_L_law_L452 adK L xs g 4096 S bc bs l1 l2 q (nI (v 0)) l5 l6 l7 l8 l9 l10 l11 l12 l13 l14 l15 l16 l17 l18 l19 l20 l21 (nI s) l23 0 = g S bc bs l1 l2 q (nI (v 0)) l5 l6 l7 l8 l9 l10 l11 l12 l13 l14 l15 l16 l17 l18 l19 l20 l21 (nI (rcI v s (v 0))) (l23 + 1) := by
  have h9 := hv.1
  refine lp_eq (L := fun fu i => f_L_law_L452 adK L xs g fu S bc bs l1 l2 q (nI (v 0)) l5 l6 l7 l8 l9 l10 l11 l12 l13 l14 l15 l16 l17 l18 l19 l20 l21 (nI (rcI v s i)) l23 (nI i)) (n := v 0) (fun fu i hi => ?_) (fun fu => ?_) 0 4096 (by omega) (by omega)
  · have hr := rcI_lt (v := v) hs (i := i) (by omega)
    have hp := Nat.pow_le_pow_right (show 0 < 2 by omega) (show i ≤ 8 by omega)
    have ht := tS_lt hv (x := i) (s := rcI v s i) (by omega)
    simp only [f_L_law_L452, f_L_law_J481, if_neg (nI_ge hi (show v 0 < 2 ^ 31 by omega)), b_bit i (by omega), nI_1]
    rw [l_tie h h9 (show 2 ^ i < 2 ^ 31 by omega) (show rcI v s i < 2 ^ 31 by omega), tT_bit hi]
    simp only [rcI]
    by_cases hb : 0 < tS v i (rcI v s i)
    · simp only [if_neg (nI_nle hb (show tS v i (rcI v s i) < 2 ^ 31 by omega)), if_pos hb, b_or]
    · simp only [show tS v i (rcI v s i) = 0 by omega, n0, if_pos (Int32.le_refl _), Nat.lt_irrefl, if_false]
  · simp only [f_L_law_L452, f_L_law_J487, if_pos (nI_le (Nat.le_refl (v 0)) (show v 0 < 2 ^ 31 by omega))]
theorem l_reach {g : PS → Nat → Nat → Nat → Int32 → Nat → Int32 → Int32 → Int32 → Int32 → Int32 → Int32 → Int32 → Int32 → Int32 → Int32 → Int32 → Int32 → Int32 → Nat → Nat → Int32 → Prop} {l1 l17 l18 a : Nat} {l2 l5 l6 l7 l8 l9 l10 l11 l12 l13 l14 l15 l16 l19 l20 l21 : Int32} (h : isM S q r v) (hv : okV v) (ha : a < 9) :
    f_L_law_L442 adK L xs g 4096 S bc bs l1 l2 q (nI (v 0)) l5 l6 l7 l8 l9 l10 l11 l12 l13 l14 l15 l16 l17 l18 l19 l20 l21 (nI (2 ^ a)) 0 = f_L_law_J493 adK L xs g S bc bs l1 l2 q (nI (v 0)) l5 l6 l7 l8 l9 l10 l11 l12 l13 l14 l15 l16 l17 l18 l19 l20 l21 (nI (rch v a)) := by
  have h9 := hv.1
  refine lp_eq (L := fun fu i => f_L_law_L442 adK L xs g fu S bc bs l1 l2 q (nI (v 0)) l5 l6 l7 l8 l9 l10 l11 l12 l13 l14 l15 l16 l17 l18 l19 l20 l21 (nI (rcO v a i)) (nI i)) (n := v 0) (fun fu i hi => ?_) (fun fu => ?_) 0 4096 (by omega) (by omega)
  · simp only [f_L_law_L442, if_neg (nI_ge hi (show v 0 < 2 ^ 31 by omega))]
    rw [l_reachI h hv (rcO_lt hv ha), nI_1]
    rfl
  · simp only [f_L_law_L442, if_pos (nI_le (Nat.le_refl (v 0)) (show v 0 < 2 ^ 31 by omega))]
    rfl
end REA
