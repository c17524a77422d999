/-! a bond's text from the line so far on *(pure)* -/
section BT2
variable {adK : Nat → Nat} {L : Nat} {xs : Nat → Int32} {S : PS} {ow : Ow} {v : Vt} {q : Nat} {r : Nat → Nat} {bc bs a b l1 l17 l18 : Nat} {l : List Nat}
theorem l_btx {g : PS → Nat → Nat → Nat → Int32 → Nat → Int32 → Int32 → Int32 → Int32 → Int32 → Int32 → Int32 → Int32 → Int32 → Int32 → Int32 → Int32 → Int32 → Nat → Nat → Int32 → Int32 → Int32 → Int32 → Int32 → Prop} {l2 l4 l5 l6 l7 l8 l10 l11 l12 l13 l14 l15 l16 l20 l21 l22 t0 t1 : Int32} {K : PS → Nat → Nat → Nat → Prop} (hw : wM S ow q (v 0) r (fun i j => nI (wt v i j))) (hv : okV v) (ha : a < v 0) (hb : b < v 0) (ht : txt adK S ow l17 l) (hl : l.length + (dg (wt v a b)).length + 4 ≤ 500) (h1 : 20 ≤ bc) (h2 : 15000 ≤ bs)
    (hK : ∀ S1 q1 bc1 bs1, isM S1 q r v → K S1 q1 bc1 bs1 → (if l11 = (-30000) then f_L_law_J423 adK L xs g S1 bc1 bs1 l1 l2 q l4 l5 l6 l7 l8 (t1 + t0) l10 l12 l13 l14 l15 l16 q1 l18 (nI a) l20 l21 l22 (nI b) else aQ S1 q (nI a) fun v22 => aI S1 v22 0 (nI b) fun v23 => (¬ (10 : Int32) = 0) ∧ (aQ S1 q (l11 / 10) fun v24 => (¬ (10 : Int32) = 0) ∧ (aI S1 v24 0 (l11 - l11 / 10 * 10) fun v25 => if v23 ≤ v25 then f_L_law_J433 adK L xs g S1 bc1 bs1 l1 l2 q l4 l5 l6 l7 l8 (t1 + t0) l10 l11 l12 l13 l14 l15 l16 q1 l18 (nI a) l20 l21 l22 (nI b) else f_L_law_J423 adK L xs g S1 bc1 bs1 l1 l2 q l4 l5 l6 l7 l8 (t1 + t0) l10 l12 l13 l14 l15 l16 q1 l18 (nI a) l20 l21 l22 (nI b)))))
    (next : ∀ S1 ow1 q1 bc1 bs1, keeps [31] S ow S1 ow1 → st S1 ow1 32 q1 (l ++ tN (if l7 ≤ 1 then 0 else 1) ++ dg a ++ dg b ++ tN 2 ++ dg (wt v a b)) → bc ≤ bc1 + 20 → bs ≤ bs1 + 15000 → K S1 q1 bc1 bs1) :
    f_L_law_J331 adK L xs g S bc bs l1 l2 q l4 l5 l6 l7 l8 l10 l11 l12 l13 l14 l15 l16 l17 l18 (nI a) l20 l21 l22 (nI b) t0 t1 := by
  unfold f_L_law_J331
  refine sb_nw (ow := ow) (kk := fun q1 S5 b5 s5 => isO S5 q1 1 (∃ mc9 ms9 : Nat, mc9 ≤ b5 ∧ ms9 ≤ s5 ∧ (f_J4_append_15ec4_u adK S5 q1 l17 mc9 ms9 fun v10 S8 => if l7 ≤ 1 then f_L_law_J359 adK L xs g S8 (b5 - mc9) (s5 - ms9) l1 l2 q l4 l5 l6 l7 l8 (t1 + t0) l10 l11 l12 l13 l14 l15 l16 l18 (nI a) l20 l21 l22 (nI b) (adK 0) v10 else f_L_law_J359 adK L xs g S8 (b5 - mc9) (s5 - ms9) l1 l2 q l4 l5 l6 l7 l8 (t1 + t0) l10 l11 l12 l13 l14 l15 l16 l18 (nI a) l20 l21 l22 (nI b) (adK 1) v10))) (by omega) (by omega) (fun u S1 ow1 k1 s1 => ?_)
  try dsimp only
  rw [sb_O s1]
  refine ⟨1, 2002, by omega, by omega, sb_txt s1 (txt_fr ht k1 (by decide)) (by simp only [List.length_nil]; omega) (Nat.le_refl _) (Nat.le_refl _) (fun S2 ow2 c2 k2 s2 => ?_)⟩
  rw [List.nil_append] at s2
  have w2 := wM_fr hw (k1.trans k2) (by decide)
  by_cases h7 : l7 ≤ 1
  · rw [if_pos h7]
    rw [if_pos h7] at next
    exact l_btx5 (K := K) (k := 0) w2 hv ha hb s2 (by omega) hl (by omega) (by omega) hK (fun S3 ow3 q3 bc3 bs3 k3 s3 b1 b2 => next S3 ow3 q3 bc3 bs3 ((k1.trans k2).trans k3) s3 (by omega) (by omega))
  · rw [if_neg h7]
    rw [if_neg h7] at next
    exact l_btx5 (K := K) (k := 1) w2 hv ha hb s2 (by omega) hl (by omega) (by omega) hK (fun S3 ow3 q3 bc3 bs3 k3 s3 b1 b2 => next S3 ow3 q3 bc3 bs3 ((k1.trans k2).trans k3) s3 (by omega) (by omega))
end BT2
