/-! a bond's text, behind the line so far *(pure)* -/
section BTX
variable {adK : Nat → Nat} {L : Nat} {xs : Nat → Int32} {S : PS} {ow : Ow} {v : Vt} {q : Nat} {r : Nat → Nat} {bc bs a b l1 l17 l18 : Nat} {l : List Nat}
theorem l_btx5 {g : PS → Nat → Nat → Nat → Int32 → Nat → Int32 → Int32 → Int32 → Int32 → Int32 → Int32 → Int32 → Int32 → Int32 → Int32 → Int32 → Int32 → Int32 → Nat → Nat → Int32 → Int32 → Int32 → Int32 → Int32 → Prop} {l2 l4 l5 l6 l7 l8 l9 l10 l11 l12 l13 l14 l15 l16 l20 l21 l22 : Int32} {K : PS → Nat → Nat → Nat → Prop} {k u cap : Nat} (hw : wM S ow q (v 0) r (fun i j => nI (wt v i j))) (hv : okV v) (ha : a < v 0) (hb : b < v 0) (hs : sb S ow 31 u cap l) (hk : k < 5) (hl : l.length + (dg (wt v a b)).length + 4 ≤ 500) (h1 : 12 ≤ bc) (h2 : 12000 ≤ bs)
    (hK : ∀ S1 q1 bc1 bs1, isM S1 q r v → K S1 q1 bc1 bs1 → (if l11 = (-30000) then f_L_law_J423 adK L xs g S1 bc1 bs1 l1 l2 q l4 l5 l6 l7 l8 l9 l10 l12 l13 l14 l15 l16 q1 l18 (nI a) l20 l21 l22 (nI b) else aQ S1 q (nI a) fun v22 => aI S1 v22 0 (nI b) fun v23 => (¬ (10 : Int32) = 0) ∧ (aQ S1 q (l11 / 10) fun v24 => (¬ (10 : Int32) = 0) ∧ (aI S1 v24 0 (l11 - l11 / 10 * 10) fun v25 => if v23 ≤ v25 then f_L_law_J433 adK L xs g S1 bc1 bs1 l1 l2 q l4 l5 l6 l7 l8 l9 l10 l11 l12 l13 l14 l15 l16 q1 l18 (nI a) l20 l21 l22 (nI b) else f_L_law_J423 adK L xs g S1 bc1 bs1 l1 l2 q l4 l5 l6 l7 l8 l9 l10 l12 l13 l14 l15 l16 q1 l18 (nI a) l20 l21 l22 (nI b)))))
    (next : ∀ S1 ow1 q1 bc1 bs1, keeps [31] S ow S1 ow1 → st S1 ow1 32 q1 (l ++ tN k ++ dg a ++ dg b ++ tN 2 ++ dg (wt v a b)) → bc ≤ bc1 + 12 → bs ≤ bs1 + 12000 → K S1 q1 bc1 bs1) :
    f_L_law_J359 adK L xs g S bc bs l1 l2 q l4 l5 l6 l7 l8 l9 l10 l11 l12 l13 l14 l15 l16 l18 (nI a) l20 l21 l22 (nI b) (adK k) u := by
  have h9 := hv.1
  have hwt := hv.lt (i := a) (j := b) (by omega) (by omega)
  have kL := (tN_L k hk).2
  have e2 : (tN 2).length = 1 := rfl
  have ea : (dg a).length = 1 := by rw [dg_1 (by omega)]; rfl
  have eb : (dg b).length = 1 := by rw [dg_1 (by omega)]; rfl
  unfold f_L_law_J359
  rw [sb_O hs]
  refine ⟨1, 2002, by omega, by omega, sb_txt (adK := adK) hs (Or.inr ⟨k, hk, rfl, rfl⟩) (by omega) (Nat.le_refl _) (Nat.le_refl _) (fun S1 ow1 c1 k1 s1 => ?_)⟩
  rw [sb_O s1]
  refine ⟨1, 2002, by omega, by omega, sb_nm s1 (by omega) (by simp only [List.length_append]; omega) (Nat.le_refl _) (Nat.le_refl _) (fun S2 ow2 c2 k2 s2 => ?_)⟩
  rw [sb_O s2]
  refine ⟨1, 2002, by omega, by omega, sb_nm s2 (by omega) (by simp only [List.length_append]; omega) (Nat.le_refl _) (Nat.le_refl _) (fun S3 ow3 c3 k3 s3 => ?_)⟩
  rw [sb_O s3]
  refine ⟨1, 2002, by omega, by omega, sb_txt (adK := adK) s3 (Or.inr ⟨2, by omega, rfl, rfl⟩) (by simp only [List.length_append]; omega) (Nat.le_refl _) (Nat.le_refl _) (fun S4 ow4 c4 k4 s4 => ?_)⟩
  have k14 := ((k1.trans k2).trans k3).trans k4
  have m4 : isM S4 q r v := wM_M (wM_fr hw k14 (by decide)) (fun _ _ _ _ => rfl)
  rw [MRow m4 h9 ha, MAt m4 h9 ha hb, sb_O s4]
  refine ⟨1, 2002, by omega, by omega, sb_nm s4 (by omega) (by simp only [List.length_append]; omega) (Nat.le_refl _) (Nat.le_refl _) (fun S5 ow5 c5 k5 s5 => ?_)⟩
  rw [sb_O s5]
  refine ⟨2, 1004, by omega, by omega, sb_to (d := 32) s5 (Nat.le_refl _) (Nat.le_refl _) (by simp only [List.length_append]; omega) (fun q6 S6 ow6 k6 n6 s6 => ?_)⟩
  have k16 := (k14.trans k5).trans (k6.mono (D := [31]) (fun c hc => (List.not_mem_nil hc).elim))
  exact hK S6 q6 _ _ (wM_M (wM_fr hw k16 (by decide)) (fun _ _ _ _ => rfl)) (next S6 ow6 q6 _ _ k16 s6 (by omega) (by omega))
end BTX
