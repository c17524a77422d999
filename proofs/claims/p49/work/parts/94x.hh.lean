/-! one household of the law's loop, behind its row of bonds: reach, alone, parts, its numbers, the least between *(pure)* -/
section HH
variable {adK : Nat → Nat} {L : Nat} {xs : Nat → Int32} {S : PS} {ow : Ow} {A : Nat → Nat} {v : Vt} {hs : List Vt} {sv : Option Vt} {rr : Nat → Int32} {tx : List Nat} {fa : Int32} {ln : List Nat} {q : Nat} {r : Nat → Nat} {bc bs : Nat}
/-- 1 for the lowest household of a part *(as the law finds it)* -/
def lowI (v : Vt) (a : Nat) : Int32 := if (nI (rch v a) &&& (-nI (rch v a))) = nI (2 ^ a) then 1 else 0
def aloI (v : Vt) (a : Nat) : Int32 := if bo v a = 0 then 1 else 0
theorem l_hh {g : PS → Nat → Nat → Nat → Int32 → Nat → Int32 → Int32 → Int32 → Int32 → Int32 → Int32 → Int32 → Int32 → Int32 → Int32 → Int32 → Int32 → Int32 → Nat → Nat → Int32 → Prop} {a l17 l18 : Nat} {l2 l7 l8 l9 l10 l11 l12 l13 l15 l16 : Int32} (h : CI S ow A v hs sv rr tx fa ln) (hv : okV v) (hw : wM S ow q (v 0) r (fun i j => nI (wt v i j))) (ha : a < v 0) (h1 : 27 ≤ bc) (h2 : 162 ≤ bs) (hb : l16 = -30000 ∨ ∃ b, b < v 0 ∧ l16 = nI b)
    (next : ∀ S1 bc1 bs1, CI S1 ow A v hs sv rr tx fa ln → keeps CC S ow S1 ow → bc ≤ bc1 + 27 → bs ≤ bs1 + 162 → g S1 bc1 bs1 (A 12) l2 q (nI (v 0)) (nI (ev v)) (nI (sds v)) l7 l8 l9 (l10 + aloI v a) l11 (l12 + lowI v a) l13 (lst v) l15 (bnx v a l16) l17 l18 (nI (a + 1))) :
    f_L_law_J439 adK L xs g S bc bs (A 12) l2 q (nI (v 0)) (nI (ev v)) (nI (sds v)) l7 l8 l9 l10 l11 l12 l13 (lst v) l15 l16 l17 l18 (nI a) (nI (bo v a)) (clo v a (v 0)).1 (nI (2 ^ a)) := by
  have h9 := hv.1
  have hM : isM S q r v := wM_M hw (fun _ _ _ _ => rfl)
  have hbo := bo_le (v := v) (x := a)
  have J : f_L_law_J505 adK L xs g S bc bs (A 12) l2 q (nI (v 0)) (nI (ev v)) (nI (sds v)) l7 l8 l9 l11 l12 l13 (lst v) l15 l16 l17 l18 (nI a) (nI (bo v a)) (clo v a (v 0)).1 (nI (rch v a)) (aloI v a) l10 := by
    have K : f_L_law_J528 adK L xs g S bc bs (A 12) l2 q (nI (v 0)) (nI (ev v)) (nI (sds v)) l7 l8 l9 (l10 + aloI v a) l11 l13 (lst v) l15 l16 l17 l18 (nI a) (nI (bo v a)) (clo v a (v 0)).1 (nI (rch v a)) (lowI v a) l12 := by
      refine l_own h hv hM ha (by omega) (by omega) hb (fun bc1 bs1 b1 b2 => ?_)
      unfold f_L_law_J710
      refine l_btw h hv hw ha (by omega) (by omega) (fun S1 bc2 bs2 c1 k1 b3 b4 => ?_)
      unfold f_L_law_J771
      rw [nI_1]
      exact next S1 bc2 bs2 c1 k1 (by omega) (by omega)
    unfold f_L_law_J505
    unfold lowI at K
    rw [b_bit a (by omega)]
    by_cases hc : (nI (rch v a) &&& (-nI (rch v a))) = nI (2 ^ a)
    · rw [if_pos hc] at K ⊢; exact K
    · rw [if_neg hc] at K ⊢; exact K
  unfold f_L_law_J439
  rw [l_reach hM hv (by omega)]
  unfold f_L_law_J493
  unfold aloI at J
  have hz := nIe0 (show bo v a < 2 ^ 31 by omega)
  by_cases hc : bo v a = 0
  · rw [if_pos hc] at J; rw [if_pos (hz.mpr hc)]; exact J
  · rw [if_neg hc] at J; rw [if_neg (fun e => hc (hz.mp e))]; exact J
end HH
