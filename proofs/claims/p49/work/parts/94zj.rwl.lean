/-! the law's row of bonds of one household *(pure)* -/
section RWL
variable {adK : Nat → Nat} {L : Nat} {xs : Nat → Int32} {S : PS} {ow : Ow} {A : Nat → Nat} {v : Vt} {hs : List Vt} {sv : Option Vt} {rr : Nat → Int32} {tx : List Nat} {fa : Int32} {ln : List Nat} {q : Nat} {r : Nat → Nat} {bc bs : Nat}
theorem l_row {g138 : PS → Nat → Nat → Nat → Int32 → Nat → Int32 → Int32 → Int32 → Int32 → Int32 → Int32 → Int32 → Int32 → Int32 → Int32 → Int32 → Int32 → Int32 → Nat → Nat → Int32 → Prop} {a l17 l18 : Nat} {l2 l5 l10 l12 l13 l14 l15 l16 l22 : Int32} (h : CI S ow A v hs sv rr tx fa ln) (hv : okV v) (hw : wM S ow q (v 0) r (fun i j => nI (wt v i j))) (ha : a < v 0) (ht : txt adK S ow l17 (tB v (pp (v 0) a))) (h1 : 189 ≤ bc) (h2 : 135054 ≤ bs)
    (next : ∀ S1 ow1 u bc1 bs1, CI S1 ow1 A v hs sv rr tx fa ln → keeps [31] S ow S1 ow1 → txt adK S1 ow1 u (tB v (pp (v 0) (a + 1))) → bc ≤ bc1 + 189 → bs ≤ bs1 + 135054 → f_L_law_J439 adK L xs g138 S1 bc1 bs1 (A 12) l2 q (nI (v 0)) l5 (nI (sds v)) (nI (cB v (pp (v 0) (a + 1)))) (nI (psl (wt v) (pp (v 0) (a + 1)))) (nI (psl (acg v) (pp (v 0) (a + 1)))) l10 (hI v (pp (v 0) (a + 1))) l12 l13 l14 l15 l16 u l18 (nI a) (nI (bo v a)) (clo v a (v 0)).1 l22) :
    f_L_law_L160 adK L xs g138 4096 S bc bs (A 12) l2 q (nI (v 0)) l5 (nI (sds v)) (nI (cB v (pp (v 0) a))) (nI (psl (wt v) (pp (v 0) a))) (nI (psl (acg v) (pp (v 0) a))) l10 (hI v (pp (v 0) a)) l12 l13 l14 l15 l16 l17 l18 (nI a) 0 (-1) l22 0 := by
  have h9 := hv.1
  have W : ∀ b fuel, b ≤ v 0 → v 0 - b < fuel → ∀ (S1 : PS) (ow1 : Ow) (u bc1 bs1 : Nat), CI S1 ow1 A v hs sv rr tx fa ln → keeps [31] S ow S1 ow1 → txt adK S1 ow1 u (tB v (pp (v 0) a ++ rp a b)) → bc ≤ bc1 + 21 * b → bs ≤ bs1 + 15006 * b → f_L_law_L160 adK L xs g138 fuel S1 bc1 bs1 (A 12) l2 q (nI (v 0)) l5 (nI (sds v)) (nI (cB v (pp (v 0) a ++ rp a b))) (nI (psl (wt v) (pp (v 0) a ++ rp a b))) (nI (psl (acg v) (pp (v 0) a ++ rp a b))) l10 (hI v (pp (v 0) a ++ rp a b)) l12 l13 l14 l15 l16 u l18 (nI a) (nI (sm (fun j => if 0 < wt v a j then 1 else 0) b)) (clo v a b).1 l22 (nI b) := by
    refine lp_im (L := fun fuel b => ∀ (S1 : PS) (ow1 : Ow) (u bc1 bs1 : Nat), CI S1 ow1 A v hs sv rr tx fa ln → keeps [31] S ow S1 ow1 → txt adK S1 ow1 u (tB v (pp (v 0) a ++ rp a b)) → bc ≤ bc1 + 21 * b → bs ≤ bs1 + 15006 * b → f_L_law_L160 adK L xs g138 fuel S1 bc1 bs1 (A 12) l2 q (nI (v 0)) l5 (nI (sds v)) (nI (cB v (pp (v 0) a ++ rp a b))) (nI (psl (wt v) (pp (v 0) a ++ rp a b))) (nI (psl (acg v) (pp (v 0) a ++ rp a b))) l10 (hI v (pp (v 0) a ++ rp a b)) l12 l13 l14 l15 l16 u l18 (nI a) (nI (sm (fun j => if 0 < wt v a j then 1 else 0) b)) (clo v a b).1 l22 (nI b)) (fun fuel b hb ih S1 ow1 u bc1 bs1 c1 k1 t1 b1 b2 => ?_) (fun fuel S1 ow1 u bc1 bs1 c1 k1 t1 b1 b2 => ?_)
    · have w1 := wM_fr hw k1 (by decide)
      have m1 : isM S1 q r v := wM_M w1 (fun _ _ _ _ => rfl)
      have esy : wt v a b = wt v b a := hv.2.2.2.1 a b (by omega) (by omega)
      have st : f_L_law_J203 adK L xs (f_L_law_L160 adK L xs g138 fuel) S1 bc1 bs1 (A 12) l2 q (nI (v 0)) l5 (nI (sds v)) (nI (cB v (pp (v 0) a ++ rp a b))) (nI (psl (wt v) (pp (v 0) a ++ rp a b))) (nI (psl (acg v) (pp (v 0) a ++ rp a b))) l10 (hI v (pp (v 0) a ++ rp a b)) l12 l13 l14 l15 l16 u l18 (nI a) (nI (sm (fun j => if 0 < wt v a j then 1 else 0) b)) (clo v a b).1 l22 (nI b) := by
        rw [l_r1 m1 hv ha hb]
        refine l_r2 c1 hv w1 ha hb (fun hab => pp_at (v 0) (by omega) a ha b hb hab) t1 (by omega) (by omega) (fun S2 ow2 u2 bc2 bs2 c2 k2 t2 b3 b4 => ?_)
        have nx := ih S2 ow2 u2 bc2 bs2 c2 (k1.trans k2) (by rw [show rp a (b + 1) = rp a b ++ (if a < b then [(a, b)] else []) from rfl, ← List.append_assoc]; exact t2) (by omega) (by omega)
        rw [show rp a (b + 1) = rp a b ++ (if a < b then [(a, b)] else []) from rfl, ← List.append_assoc] at nx
        exact nx
      rw [f_L_law_L160, if_neg (nI_ge hb (show v 0 < 2 ^ 31 by omega)), MRow m1 h9 ha, MAt m1 h9 ha hb, MRow m1 h9 hb, MAt m1 h9 hb ha, if_pos (by rw [esy])]
      by_cases hab : a = b
      · rw [if_pos (by rw [hab]), MRow m1 h9 ha, MAt m1 h9 ha hb, if_pos (by rw [← hab, hv.2.2.2.2.1 a (by omega)]; rfl)]
        exact st
      · rw [if_neg (fun e => hab ((nI_eq (by omega) (by omega)).mp e))]
        exact st
    · rw [f_L_law_L160, if_pos (nI_le (Nat.le_refl (v 0)) (show v 0 < 2 ^ 31 by omega))]
      exact next S1 ow1 u bc1 bs1 c1 k1 t1 (by omega) (by omega)
  have z := W 0 4096 (Nat.zero_le _) (by omega) S ow l17 bc bs h keeps.refl (by rw [show rp a 0 = [] from rfl, List.append_nil]; exact ht) (by omega) (by omega)
  rw [show rp a 0 = [] from rfl, List.append_nil] at z
  exact z
end RWL
