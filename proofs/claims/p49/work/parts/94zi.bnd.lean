/-! one place of the law's row: a bond told *(pure)* -/
section RWB
variable {adK : Nat → Nat} {L : Nat} {xs : Nat → Int32} {S : PS} {ow : Ow} {A : Nat → Nat} {v : Vt} {hs : List Vt} {sv : Option Vt} {rr : Nat → Int32} {tx : List Nat} {fa : Int32} {ln : List Nat} {q : Nat} {r : Nat → Nat} {bc bs : Nat}
theorem CC31 : ∀ c, c ∈ CC → c ∉ ([31] : List Nat) := by decide
/-- the heaviest: what the law compares, and what it keeps -/
theorem l_hvy {P : List (Nat × Nat)} {a b : Nat} {X Y : Prop} (hM : isM S q r v) (hv : okV v) (ha : a < v 0) (hb : b < v 0) (hw : 0 < wt v a b) (hx : hI v (P ++ [(a, b)]) = nI (10 * a + b) → X) (hy : hI v (P ++ [(a, b)]) = hI v P → Y) :
    if hI v P = (-30000) then X else aQ S q (nI a) fun v22 => aI S v22 0 (nI b) fun v23 => (¬ (10 : Int32) = 0) ∧ (aQ S q (hI v P / 10) fun v24 => (¬ (10 : Int32) = 0) ∧ (aI S v24 0 (hI v P - hI v P / 10 * 10) fun v25 => if v23 ≤ v25 then Y else X)) := by
  have h9 := hv.1
  have hwl := hv.lt (i := a) (j := b) (by omega) (by omega)
  unfold hI at hx hy ⊢
  rw [hB_1] at hx hy
  generalize hB v P = x at hx hy ⊢
  have e1 : x.1.2 < wt v a b → (hvS v a b x).1.1 = nI (10 * a + b) := fun hz => congrArg (fun y : hvT v => y.1.1) (dif_pos ⟨hz, by omega, by omega⟩)
  have e2 : ¬ x.1.2 < wt v a b → hvS v a b x = x := fun hz => dif_neg (fun z => hz z.1)
  have m1 : ∀ n, n < 1000 → ¬ nI n = -1 := fun n hn => by rw [nIm1 hn]; exact id
  rcases x.2 with ⟨c1, c2⟩ | ⟨i, j, hi, hj, c1, c2, c3⟩
  · rw [if_pos c1, if_pos rfl]
    refine hx ?_
    rw [e1 (by rw [c2]; exact hw), if_neg (m1 _ (by omega))]
  · have hiv : i < v 0 ∧ j < v 0 := by
      rcases Nat.lt_or_ge i (v 0) with z | z
      · rcases Nat.lt_or_ge j (v 0) with z2 | z2
        · exact ⟨z, z2⟩
        · rw [hv.out hi hj (Or.inr z2)] at c2; omega
      · rw [hv.out hi hj (Or.inl z)] at c2; omega
    have d1 : nI (10 * i + j) / 10 = nI i := by
      have : ∀ i, i < 9 → ∀ j, j < 9 → nI (10 * i + j) / 10 = nI i := by decide
      exact this i hi j hj
    have d2 : nI (10 * i + j) - nI i * 10 = nI j := by
      have : ∀ i, i < 9 → ∀ j, j < 9 → nI (10 * i + j) - nI i * 10 = nI j := by decide
      exact this i hi j hj
    have hwk := hv.lt (i := i) (j := j) hi hj
    have ex : (if x.1.1 = -1 then (-30000 : Int32) else x.1.1) = nI (10 * i + j) := by rw [c1, if_neg (m1 _ (by omega))]
    rw [ex] at hy ⊢
    rw [if_neg (nI30 (by omega)), d1, d2, MRow hM h9 ha, MAt hM h9 ha hb]
    refine ⟨by decide, ?_⟩
    rw [MRow hM h9 hiv.1]
    refine ⟨by decide, ?_⟩
    rw [MAt hM h9 hiv.1 hiv.2]
    by_cases h0 : wt v i j < wt v a b
    · rw [if_neg (nI_ge h0 (by omega))]
      refine hx ?_
      rw [e1 (by rw [c2]; exact h0), if_neg (m1 _ (by omega))]
    · rw [if_pos (nI_le (by omega) (by omega))]
      refine hy ?_
      rw [e2 (by rw [c2]; exact h0)]
      exact ex
theorem l_r2 {g : PS → Nat → Nat → Nat → Int32 → Nat → Int32 → Int32 → Int32 → Int32 → Int32 → Int32 → Int32 → Int32 → Int32 → Int32 → Int32 → Int32 → Int32 → Nat → Nat → Int32 → Int32 → Int32 → Int32 → Int32 → Prop} {a b l17 l18 : Nat} {l2 l5 l10 l12 l13 l14 l15 l16 l20 l21 l22 : Int32} {P : List (Nat × Nat)} (h : CI S ow A v hs sv rr tx fa ln) (hv : okV v) (hw : wM S ow q (v 0) r (fun i j => nI (wt v i j))) (ha : a < v 0) (hb : b < v 0) (hp : a < b → (P ++ [(a, b)]).isPrefixOf (prs (v 0) (v 0)) = true) (ht : txt adK S ow l17 (tB v P)) (h1 : 21 ≤ bc) (h2 : 15006 ≤ bs)
    (next : ∀ S1 ow1 u bc1 bs1, CI S1 ow1 A v hs sv rr tx fa ln → keeps [31] S ow S1 ow1 → txt adK S1 ow1 u (tB v (P ++ if a < b then [(a, b)] else [])) → bc ≤ bc1 + 21 → bs ≤ bs1 + 15006 → g S1 bc1 bs1 (A 12) l2 q (nI (v 0)) l5 (nI (sds v)) (nI (cB v (P ++ if a < b then [(a, b)] else []))) (nI (psl (wt v) (P ++ if a < b then [(a, b)] else []))) (nI (psl (acg v) (P ++ if a < b then [(a, b)] else []))) l10 (hI v (P ++ if a < b then [(a, b)] else [])) l12 l13 l14 l15 l16 u l18 (nI a) l20 l21 l22 (nI (b + 1))) :
    f_L_law_J253 adK L xs g S bc bs (A 12) l2 q (nI (v 0)) l5 (nI (sds v)) (nI (cB v P)) (nI (psl (wt v) P)) (nI (psl (acg v) P)) l10 (hI v P) l12 l13 l14 l15 l16 l17 l18 (nI a) l20 l21 l22 (nI b) := by
  have h9 := hv.1
  have hM : isM S q r v := wM_M hw (fun _ _ _ _ => rfl)
  have hwt := hv.lt (i := a) (j := b) (by omega) (by omega)
  unfold f_L_law_J253
  by_cases hab : a < b
  · rw [if_neg (nI_ge hab (by omega)), MRow hM h9 ha, MAt hM h9 ha hb]
    rw [if_pos hab] at next
    have hpp := hp hab
    have hlen := pre_len h9 hpp
    have hmem := pre_mem hpp
    have htl := tB_len hv hmem
    have hc := cB_le (v := v) (P := P)
    have hdl := dg_le 7 (wt v a b) (by omega) hwt
    by_cases h0 : 0 < wt v a b
    · rw [if_neg (nI_ne0 h0 (by omega))]
      refine ⟨1, 6, by omega, by omega, l_bondAt h hv (Nat.le_refl _) (Nat.le_refl _) ?_⟩
      have eo : nE (oBat v (nI (cB v P))) = (10 : Int32) * nI a + nI b := by
        unfold oBat
        rw [if_pos (nI_pos' (by omega)), ix_nI (show cB v P < 2 ^ 31 by omega), bl_at hpp h0]
        show nI (10 * a + b) = _
        rw [show (10 : Int32) * nI a = nI (10 * a) from (Int32.ofNat_mul 10 a).symm, nI_add]
      rw [if_pos eo, MRow hM h9 ha, MAt hM h9 ha hb, nI_add]
      have sa := hv.2.1 a (by omega)
      have sb2 := hv.2.1 b (by omega)
      have hs1 := sds_lt hv
      have ec : cB v (P ++ [(a, b)]) = cB v P + 1 := by
        show psl _ (P ++ [(a, b)]) = _
        rw [psl_1, if_pos h0]; rfl
      have K : ∀ t : Nat, t = acg v a b → f_L_law_J331 adK L xs g S (bc - 1) (bs - 6) (A 12) l2 q (nI (v 0)) l5 (nI (sds v)) (nI (cB v P) + 1) (nI (psl (wt v) P + wt v a b)) l10 (hI v P) l12 l13 l14 l15 l16 l17 l18 (nI a) l20 l21 l22 (nI b) (nI t) (nI (psl (acg v) P)) := fun t et => by
        refine l_btx (K := fun S1 q1 bc1 bs1 => ∃ ow1, CI S1 ow1 A v hs sv rr tx fa ln ∧ keeps [31] S ow S1 ow1 ∧ txt adK S1 ow1 q1 (tB v (P ++ [(a, b)])) ∧ bc ≤ bc1 + 21 ∧ bs ≤ bs1 + 15006) hw hv ha hb ht (by omega) (by omega) (by omega) (fun S1 q1 bc1 bs1 m1 k1 => ?_) (fun S1 ow1 q1 bc1 bs1 k1 s1 b1 b2 => ?_)
        · obtain ⟨ow1, c1, k1, t1, b1, b2⟩ := k1
          have nx := next S1 ow1 q1 bc1 bs1 c1 k1 t1 b1 b2
          rw [ec, psl_1, psl_1, ← et, ← nI_add (psl (acg v) P) t, ← nI_1] at nx
          refine l_hvy m1 hv ha hb h0 (fun eh => ?_) (fun eh => ?_)
          · rw [eh] at nx
            unfold f_L_law_J423 f_L_law_J433
            rw [show (10 : Int32) * nI a = nI (10 * a) from (Int32.ofNat_mul 10 a).symm, nI_add (10 * a) b, nI_1 b]
            exact nx
          · rw [eh] at nx
            unfold f_L_law_J433
            rw [nI_1 b]
            exact nx
        · rw [tB_bd (by omega) (by omega) h0 (by omega)] at s1
          exact ⟨ow1, CI_fr h k1 CC31, k1, Or.inl ⟨32, rfl, s1⟩, by omega, by omega⟩
      have ea : (((nI (sds v) >>> (nI a &&& 31)) &&& 1) = ((nI (sds v) >>> (nI b &&& 31)) &&& 1)) = (v (4 + a) = v (4 + b)) := by
        rw [bit_eqI (by omega) (by omega) (by omega), sds_tb hv (by omega), sds_tb hv (by omega)]
        refine propext ?_
        rw [decide_eq_decide]
        omega
      by_cases hsd : v (4 + a) = v (4 + b)
      · rw [if_pos (by rw [ea]; exact hsd)]
        exact K 0 (by unfold acg; rw [if_pos hsd])
      · rw [if_neg (by rw [ea]; exact hsd)]
        exact K 1 (by unfold acg; rw [if_neg hsd, if_pos h0])
    · have nx := next S ow l17 bc bs h keeps.refl (by rw [tB_no h0]; exact ht) (by omega) (by omega)
      have ec : cB v (P ++ [(a, b)]) = cB v P := by
        show psl _ (P ++ [(a, b)]) = _
        rw [psl_1, if_neg h0]; rfl
      have ew : wt v a b = 0 := by omega
      have eg : acg v a b = 0 := by
        unfold acg
        rw [if_neg h0, ite_self]
      rw [ec, psl_1, psl_1, ew, eg, hI_no h0] at nx
      rw [if_pos (by rw [ew]; rfl)]
      unfold f_L_law_J433
      rw [nI_1]
      exact nx
  · rw [if_neg hab] at next
    rw [if_pos (nI_le (by omega) (by omega))]
    have nx := next S ow l17 bc bs h keeps.refl (by rw [List.append_nil]; exact ht) (by omega) (by omega)
    rw [List.append_nil] at nx
    unfold f_L_law_J433
    rw [nI_1]
    exact nx
end RWB
