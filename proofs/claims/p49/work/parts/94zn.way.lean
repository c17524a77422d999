/-! what the law asks behind its loops: answers or none; ways *(pure)* -/
section WAY
variable {adK : Nat → Nat} {L : Nat} {xs : Nat → Int32} {S : PS} {ow : Ow} {A : Nat → Nat} {v : Vt} {hs : List Vt} {sv : Option Vt} {rr : Nat → Int32} {tx : List Nat} {fa : Int32} {ln : List Nat} {q : Nat} {r : Nat → Nat} {bc bs : Nat}
theorem oHvy_1 : (oHvy v).1 ≤ 1 := by
  unfold oHvy
  split
  · exact Nat.le_refl 1
  · exact Nat.zero_le 1
theorem l_heaviest {post : Int32 → PS → Prop} (h : CI S ow A v hs sv rr tx fa ln) (hv : okV v) (h1 : 1 ≤ bc) (h2 : 6 ≤ bs) (next : post (nE (oHvy v)) S) : f_L_heaviest S (A 12) bc bs post := by
  unfold f_L_heaviest
  rw [G_O h]
  exact ⟨1, 6, h1, h2, x_heaviest h hv (Nat.le_refl _) (Nat.le_refl _) (rs_n oHvy_1 next)⟩
theorem oBst_1 : (oBst v).1 ≤ 1 := by
  unfold oBst
  split
  · exact Nat.le_refl 1
  · exact Nat.zero_le 1
theorem l_bestMove {post : Int32 → PS → Prop} (h : CI S ow A v hs sv rr tx fa ln) (hv : okV v) (h1 : 1 ≤ bc) (h2 : 6 ≤ bs) (next : post (nE (oBst v)) S) : f_L_bestMove S (A 12) bc bs post := by
  unfold f_L_bestMove
  rw [G_O h]
  exact ⟨1, 6, h1, h2, x_bestMove h hv (Nat.le_refl _) (Nat.le_refl _) (rs_n oBst_1 next)⟩
theorem oLst_1 : (oLst v).1 ≤ 1 := by
  unfold oLst
  split
  · exact Nat.le_refl 1
  · exact Nat.zero_le 1
theorem l_least {post : Int32 → PS → Prop} (h : CI S ow A v hs sv rr tx fa ln) (hv : okV v) (h1 : 1 ≤ bc) (h2 : 6 ≤ bs) (next : ∀ S1, CI S1 ow A v hs sv rr tx fa ln → keeps CC S ow S1 ow → post (nE (oLst v)) S1) : f_L_least S (A 12) bc bs post := by
  unfold f_L_least
  rw [G_O h]
  exact ⟨1, 6, h1, h2, x_least h hv (Nat.le_refl _) (Nat.le_refl _) (fun S1 c1 k1 => rs_n oLst_1 (next S1 c1 k1))⟩
theorem l_leastAgain {post : Int32 → PS → Prop} (h : CI S ow A v hs sv rr tx fa ln) (hv : okV v) (h1 : 1 ≤ bc) (h2 : 6 ≤ bs) (next : ∀ S1, CI S1 ow A v hs sv rr tx fa ln → keeps CC S ow S1 ow → post (nE (oLst v)) S1) : f_L_leastAgain S (A 12) bc bs post := by
  unfold f_L_leastAgain
  rw [G_O h]
  exact ⟨1, 6, h1, h2, x_leastAgain h hv (Nat.le_refl _) (Nat.le_refl _) (fun S1 c1 k1 => rs_n oLst_1 (next S1 c1 k1))⟩
theorem oLsd_1 : (oLsd v).1 ≤ 1 := by
  unfold oLsd
  split
  · exact Nat.le_refl 1
  · exact Nat.zero_le 1
theorem l_leastSides {post : Int32 → PS → Prop} (h : CI S ow A v hs sv rr tx fa ln) (hv : okV v) (h1 : 1 ≤ bc) (h2 : 6 ≤ bs) (next : ∀ S1, CI S1 ow A v hs sv rr tx fa ln → keeps CC S ow S1 ow → post (nE (oLsd v)) S1) : f_L_leastSides S (A 12) bc bs post := by
  unfold f_L_leastSides
  rw [G_O h]
  exact ⟨1, 6, h1, h2, x_leastSides h hv (Nat.le_refl _) (Nat.le_refl _) (fun S1 c1 k1 => rs_n oLsd_1 (next S1 c1 k1))⟩
theorem oMet_1 : (oMet v).1 ≤ 1 := by
  unfold oMet
  split
  · exact Nat.le_refl 1
  · exact Nat.zero_le 1
theorem l_met {post : Int32 → PS → Prop} (h : CI S ow A v hs sv rr tx fa ln) (hv : okV v) (h1 : 1 ≤ bc) (h2 : 6 ≤ bs) (next : ∀ S1, CI S1 ow A v hs sv rr tx fa ln → keeps CC S ow S1 ow → post (nE (oMet v)) S1) : f_L_met S (A 12) bc bs post := by
  unfold f_L_met
  rw [G_O h]
  exact ⟨1, 6, h1, h2, x_met h hv (Nat.le_refl _) (Nat.le_refl _) (fun S1 c1 k1 => rs_n oMet_1 (next S1 c1 k1))⟩
theorem nE_hvy : nE (oHvy v) = hI v (prs (v 0) (v 0)) := by
  have e : hvF v = (hB v (prs (v 0) (v 0))).1.1 := rfl
  unfold oHvy hI nE
  rw [e]
  split <;> rfl
theorem nE_bst : nE (oBst v) = bsI v (v 0) := by
  unfold oBst bsI nE
  split <;> rfl
theorem lst_e (hv : okV v) : lst v = if v 0 ≤ 1 then -30000 else nI (lcut v) := by
  unfold lst
  split
  · rfl
  · rw [lse_cut hv (by omega)]
theorem nE_lst (hv : okV v) : nE (oLst v) = lst v := by
  rw [lst_e hv]
  unfold oLst nE
  by_cases h : v 0 < 2
  · rw [if_pos h, if_pos (show v 0 ≤ 1 by omega)]; rfl
  · rw [if_neg h, if_neg (show ¬ v 0 ≤ 1 by omega)]; rfl
def wyI (v : Vt) : Int32 := if v 0 ≤ 1 then 0 else nI (sm (lg1 v) (dcn v))
theorem nE_lsd : nE (oLsd v) = if v 0 ≤ 1 then -30000 else wyI v := by
  unfold oLsd nE wyI
  by_cases h : v 0 < 2
  · rw [if_pos h, if_pos (show v 0 ≤ 1 by omega)]; rfl
  · rw [if_neg h, if_neg (show ¬ v 0 ≤ 1 by omega), if_neg (show ¬ v 0 ≤ 1 by omega)]; rfl
theorem bl_len (h9 : v 0 ≤ 9) : (bl v).length ≤ 36 := Nat.le_trans (List.length_filter_le ..) (prs36 (v 0) (by omega))
theorem nE_no (h9 : v 0 ≤ 9) : nE (oBat v (nI (bl v).length)) = -30000 := by
  have hb := bl_len h9
  unfold oBat
  rw [if_pos (nI_pos' (by omega)), ix_nI (by omega), List.getElem?_eq_none (Nat.le_refl _)]
  rfl
theorem l_ways {g15 : PS → Nat → Nat → Nat → Int32 → Prop} {l1 l17 l18 : Nat} {l2 l6 l7 l8 l9 l10 l11 l12 l13 l16 : Int32} (hM : isM S q r v) (hv : okV v) (next : f_L_law_J934 adK L xs g15 S bc bs l1 l2 q (nI (v 0)) l6 l7 l8 l9 l10 l11 l12 l13 (lst v) (wyI v) l16 l17 l18) :
    f_L_law_J897 adK L xs g15 S bc bs l1 l2 q (nI (v 0)) (nI (ev v)) l6 l7 l8 l9 l10 l11 l12 l13 (lst v) 0 l16 l17 l18 := by
  have h9 := hv.1
  have hp := Nat.pow_le_pow_right (show 0 < 2 by omega) h9
  have hp0 := Nat.pow_pos (n := v 0) (show 0 < 2 by omega)
  have he : ev v = 2 ^ v 0 - 1 := rfl
  unfold f_L_law_J897
  by_cases h1 : v 0 ≤ 1
  · have e1 : ev v < 2 := by
      have := Nat.pow_le_pow_right (show 0 < 2 by omega) h1
      omega
    rw [show (4096 : Nat) = 4095 + 1 from rfl, f_L_law_L900, if_pos (show nI (ev v) < 2 from nI_lt (b := 2) e1 (by omega))]
    unfold wyI at next
    rw [if_pos h1] at next
    exact next
  · obtain ⟨d1, d2⟩ := dcn_2 (v := v) (by omega)
    have hd0 : 1 ≤ dcn v := by omega
    have hl : lst v = nI (lcut v) := by rw [lst_e hv, if_neg h1]
    have W : ∀ t fuel, 1 ≤ t → t ≤ dcn v → dcn v - t < fuel → f_L_law_L900 adK L xs g15 fuel S bc bs l1 l2 q (nI (v 0)) (nI (ev v)) l6 l7 l8 l9 l10 l11 l12 l13 (lst v) (nI (sm (fun t => lg1 v (2 * t)) t)) l16 l17 l18 (nI (2 * t)) = f_L_law_J934 adK L xs g15 S bc bs l1 l2 q (nI (v 0)) l6 l7 l8 l9 l10 l11 l12 l13 (lst v) (wyI v) l16 l17 l18 := by
      refine lp_eqm (L := fun fuel t => f_L_law_L900 adK L xs g15 fuel S bc bs l1 l2 q (nI (v 0)) (nI (ev v)) l6 l7 l8 l9 l10 l11 l12 l13 (lst v) (nI (sm (fun t => lg1 v (2 * t)) t)) l16 l17 l18 (nI (2 * t))) (m := 1) (n := dcn v) (fun fuel t ht1 ht => ?_) (fun fuel => ?_)
      · have hf := fo_lt hv (s := 2 * t)
        have hc := lcut_lt hv
        have hn : nI (2 * t) + 2 = nI (2 * (t + 1)) := nI_add (2 * t) 2
        rw [f_L_law_L900, if_neg (nI_nlt (by omega) (by omega)), l_feud hM h9 (show 2 * t < 2 ^ 31 by omega)]
        unfold f_L_law_J925
        rw [hn]
        by_cases e : fo v (2 * t) = lcut v
        · have e1 : lg1 v (2 * t) = 1 := if_pos ⟨by omega, by omega, e⟩
          rw [if_pos (by rw [hl, e])]
          rw [show sm (fun t => lg1 v (2 * t)) (t + 1) = sm (fun t => lg1 v (2 * t)) t + lg1 v (2 * t) from rfl, e1, ← nI_add]
          rfl
        · have e1 : lg1 v (2 * t) = 0 := if_neg (fun z => e z.2.2)
          rw [if_neg (by rw [hl]; exact fun z => e ((nI_eq (by omega) (by omega)).mp z))]
          rw [show sm (fun t => lg1 v (2 * t)) (t + 1) = sm (fun t => lg1 v (2 * t)) t + lg1 v (2 * t) from rfl, e1, ← nI_add]
          rfl
      · rw [f_L_law_L900, if_pos (nI_lt (by omega) (by omega)), ← lg1_half hv (by omega)]
        unfold wyI
        rw [if_neg h1]
    have z := W 1 4096 (Nat.le_refl _) hd0 (by omega)
    have e0 : sm (fun t => lg1 v (2 * t)) 1 = 0 := by
      show 0 + lg1 v (2 * 0) = 0
      have : lg1 v 0 = 0 := if_neg (fun z => z.1 rfl)
      rw [this]
    rw [e0] at z
    exact z.mpr next
end WAY
