/-! the law's account of a village: lines, feuds, accounts, mean, share *(pure)* -/
section ACC
variable {adK : Nat → Nat} {L : Nat} {xs : Nat → Int32} {S : PS} {ow : Ow} {A : Nat → Nat} {v : Vt} {hs : List Vt} {sv : Option Vt} {rr : Nat → Int32} {tx : List Nat} {fa : Int32} {ln : List Nat} {q : Nat} {r : Nat → Nat} {bc bs : Nat}
theorem fc_0 {a : UInt32} (h : FP.Core.fIsNaN a = false) : Op.cmpValue (FP.fcmp a a) .l = 0 := by
  rw [show FP.fcmp a a = some .eq from FP.Core.fcmp_refl h]
  rfl
theorem cB_bm (hv : okV v) : bm v = cB v (prs (v 0) (v 0)) := by rw [bm_pr hv, psl_pr]; rfl
theorem wB_ws (hv : okV v) : ws v = psl (wt v) (prs (v 0) (v 0)) := by rw [ws_pr hv, psl_pr]
theorem aB_ac : acr v = psl (acg v) (prs (v 0) (v 0)) := psl_pr ..
theorem tl_len (hv : okV v) : (tlL v).length ≤ 500 := by
  have h9 := hv.1
  have h1 : (tlL v).length ≤ 11 * (prs (v 0) (v 0)).length := tB_len (P := (prs (v 0) (v 0))) hv (fun q hq => by have := prs_mem (n := v 0) (d := v 0) (Nat.le_refl _) q hq; omega)
  have h2 := prs36 (v 0) (by omega)
  omega
theorem sd_len : (sdL v).length ≤ 70 := by
  have h1 := stL_len (bn (ev v) (sds v)) 9
  have h2 := stL_len (sds v) 9
  unfold sdL
  rw [List.length_append, List.length_append, List.length_singleton]
  omega
/-- from the best move on -/
theorem l_acc2 {g15 : PS → Nat → Nat → Nat → Int32 → Prop} {l2 t : Int32} (h : CI S ow A v hs sv rr tx fa ln) (hv : okV v) (hc1 : v 1 = v 0 + v 2) (hc2 : v 3 ≤ v 2) (hc3 : v 1 ≤ 1000) (h1 : 20 ≤ bc) (h2 : 120 ≤ bs)
    (next : ∀ S1 bc1 bs1, CI S1 ow A v hs sv rr tx fa ln → keeps CC S ow S1 ow → bc ≤ bc1 + 20 → bs ≤ bs1 + 120 → f_L_law_J1186 adK L xs g15 S1 bc1 bs1 (A 12) l2 q (nI (v 0)) (lst v)) :
    f_L_law_J1035 adK L xs g15 S bc bs (A 12) l2 q (nI (v 0)) (nI (sds v)) (nI (cB v (prs (v 0) (v 0)))) (nI (psl (wt v) (prs (v 0) (v 0)))) (nI (psl (acg v) (prs (v 0) (v 0)))) (nI (lon v)) (nI (ptn v (v 0))) (nI (fo v (sds v))) (lst v) (bsI v (v 0)) t t := by
  have h9 := hv.1
  have hs1 := sds_lt hv
  have hbm := bm_lt hv
  unfold f_L_law_J1035
  rw [if_pos rfl]
  refine ⟨1, 6, by omega, by omega, l_bestMove h hv (Nat.le_refl _) (Nat.le_refl _) ?_⟩
  rw [nE_bst, if_pos rfl, G_O h]
  refine x_parts h hv ?_
  rw [if_pos rfl]
  rw [G_O h]
  refine ⟨1, 6, by omega, by omega, x_account h hv (Nat.le_refl _) (Nat.le_refl _) ?_⟩
  rw [show oAcc v tx.length hs.length 1 = (0, nI (bm v)) from rfl]
  simp only [rs, if_true]
  rw [cB_bm hv, if_pos rfl]
  rw [G_O h]
  refine ⟨1, 6, by omega, by omega, x_account h hv (Nat.le_refl _) (Nat.le_refl _) ?_⟩
  rw [show oAcc v tx.length hs.length 2 = (0, nI (ws v)) from rfl]
  simp only [rs, if_true]
  rw [wB_ws hv, if_pos rfl]
  rw [G_O h]
  refine ⟨1, 6, by omega, by omega, x_account h hv (Nat.le_refl _) (Nat.le_refl _) ?_⟩
  rw [show oAcc v tx.length hs.length 3 = (0, nI (sm (fun k => v (4 + k)) (v 0))) from rfl]
  simp only [rs, if_true]
  rw [bcnt (sds v) hs1, pc_sds hv, if_pos rfl]
  rw [G_O h]
  refine ⟨1, 6, by omega, by omega, x_account h hv (Nat.le_refl _) (Nat.le_refl _) ?_⟩
  rw [show oAcc v tx.length hs.length 4 = (0, nI (acr v)) from rfl]
  simp only [rs, if_true]
  rw [aB_ac, if_pos rfl]
  rw [G_O h]
  refine ⟨1, 6, by omega, by omega, x_account h hv (Nat.le_refl _) (Nat.le_refl _) ?_⟩
  rw [show oAcc v tx.length hs.length 5 = (0, nI (v 1)) from rfl]
  simp only [rs, if_true]
  rw [G_O h]
  refine ⟨1, 6, by omega, by omega, x_account h hv (Nat.le_refl _) (Nat.le_refl _) ?_⟩
  rw [show oAcc v tx.length hs.length 6 = (0, nI (v 2)) from rfl]
  simp only [rs, if_true]
  rw [nI_add, hc1, if_pos rfl]
  rw [G_O h]
  refine ⟨1, 6, by omega, by omega, x_account h hv (Nat.le_refl _) (Nat.le_refl _) ?_⟩
  rw [show oAcc v tx.length hs.length 7 = (0, nI (v 3)) from rfl]
  simp only [rs, if_true]
  rw [G_O h]
  refine ⟨1, 6, by omega, by omega, x_account h hv (Nat.le_refl _) (Nat.le_refl _) ?_⟩
  rw [show oAcc v tx.length hs.length 6 = (0, nI (v 2)) from rfl]
  simp only [rs, if_true]
  rw [if_neg (nI_nlt hc2 (by omega))]
  rw [G_O h]
  refine ⟨1, 6, by omega, by omega, x_account h hv (Nat.le_refl _) (Nat.le_refl _) ?_⟩
  rw [show oAcc v tx.length hs.length 8 = (0, nI (lon v)) from rfl]
  simp only [rs, if_true]
  rw [G_O h]
  refine x_isTold h hv (fun S1 c1 k1 => ?_)
  rw [if_neg (show ¬ (1 : Int32) = 0 by decide)]
  rw [cB_bm hv] at hbm
  by_cases e : cB v (prs (v 0) (v 0)) = 0
  · rw [if_pos (show nI (cB v (prs (v 0) (v 0))) ≤ 0 from nI_le (b := 0) (by omega) (by omega))]
    exact next S1 _ _ c1 k1 (by omega) (by omega)
  · have eb : bm v ≠ 0 := by rw [cB_bm hv]; exact e
    have ew : ws v ≠ 0 := fun z => eb ((ws_bm hv).mp z)
    have hws := ws_lt hv
    have hbm2 := bm_lt hv
    have d1 : FP.Core.dIsNaN (FP.ddiv (FP.i2d (nI (ws v))) (FP.i2d (nI (bm v)))) = false := dd_ok (nI_ne0 (by omega) (by omega))
    have d2 : FP.Core.fIsNaN (FP.fdiv (FP.i2f (nI (fo v (sds v)))) (FP.i2f (nI (ws v)))) = false := fd_ok (nI_ne0 (by omega) (by omega))
    rw [if_neg (nI_nle (by omega) (by omega)), G_O c1, ← cB_bm hv, ← wB_ws hv]
    refine ⟨1, 6, by omega, by omega, x_mean c1 hv (Nat.le_refl _) (Nat.le_refl _) (fun z => eb z) (fun _ => ⟨n64_of d1, ?_⟩)⟩
    rw [if_pos (show Op.cmpValue (FP.dcmp (mnD v) (FP.ddiv (FP.i2d (nI (ws v))) (FP.i2d (nI (bm v))))) .l = 0 from dc_0 d1), G_O c1]
    refine ⟨1, 6, by omega, by omega, x_share c1 hv (Nat.le_refl _) (Nat.le_refl _) (fun z => eb z) (fun _ => ⟨n32_of d2, ?_⟩)⟩
    rw [if_pos (show Op.cmpValue (FP.fcmp (shF v) (FP.fdiv (FP.i2f (nI (fo v (sds v)))) (FP.i2f (nI (ws v))))) .l = 0 from fc_0 d2)]
    exact next S1 _ _ c1 k1 (by omega) (by omega)
/-- from the lines on -/
theorem l_acc1 {g15 : PS → Nat → Nat → Nat → Int32 → Prop} {l17 l18 : Nat} {l2 : Int32} (h : CI S ow A v hs sv rr tx fa ln) (hv : okV v) (hc1 : v 1 = v 0 + v 2) (hc2 : v 3 ≤ v 2) (hc3 : v 1 ≤ 1000) (t17 : txt adK S ow l17 (tlL v)) (t18 : txt adK S ow l18 (sdL v)) (h1 : 1300 ≤ bc) (h2 : 11000 ≤ bs)
    (next : ∀ S1 ow1 ln1 bc1 bs1, CI S1 ow1 A v hs sv rr tx fa ln1 → keeps CC S ow S1 ow1 → bc ≤ bc1 + 1300 → bs ≤ bs1 + 11000 → f_L_law_J1186 adK L xs g15 S1 bc1 bs1 (A 12) l2 q (nI (v 0)) (lst v)) :
    f_L_law_J934 adK L xs g15 S bc bs (A 12) l2 q (nI (v 0)) (nI (sds v)) (nI (cB v (prs (v 0) (v 0)))) (nI (psl (wt v) (prs (v 0) (v 0)))) (nI (psl (acg v) (prs (v 0) (v 0)))) (nI (lon v)) (hI v (prs (v 0) (v 0))) (nI (ptn v (v 0))) (nI (fo v (sds v))) (lst v) (wyI v) (bsI v (v 0)) l17 l18 := by
  have h9 := hv.1
  have n1 : ¬ (1 : Int32) = 0 := by decide
  unfold f_L_law_J934
  rw [G_O h]
  refine ⟨70, 2100, by omega, by omega, x_tell h hv (Nat.le_refl _) (Nat.le_refl _) (fun S1 ow1 c1 k1 => ?_)⟩
  refine ⟨500, 3000, by omega, by omega, l_isLine c1 (txt_fr t17 k1 CC_32) (tl_len hv) (Nat.le_refl _) (Nat.le_refl _) ?_⟩
  rw [if_neg n1, G_O c1]
  refine ⟨70, 2100, by omega, by omega, x_tellSides c1 hv (Nat.le_refl _) (Nat.le_refl _) (fun S2 ow2 c2 k2 => ?_)⟩
  refine ⟨500, 3000, by omega, by omega, l_isLine c2 (txt_fr t18 (k1.trans k2) CC_32) (by have := sd_len (v := v); omega) (Nat.le_refl _) (Nat.le_refl _) ?_⟩
  rw [if_neg n1]
  refine ⟨1, 6, by omega, by omega, l_bondAt c2 hv (Nat.le_refl _) (Nat.le_refl _) ?_⟩
  rw [show cB v (prs (v 0) (v 0)) = (bl v).length from cB_f, nE_no h9, if_pos rfl, show (bl v).length = cB v (prs (v 0) (v 0)) from cB_f.symm]
  refine ⟨1, 6, by omega, by omega, l_heaviest c2 hv (Nat.le_refl _) (Nat.le_refl _) ?_⟩
  rw [nE_hvy, if_pos rfl, G_O c2]
  refine x_feud c2 hv ?_
  rw [if_pos rfl, G_O c2]
  refine x_feudAgain c2 hv ?_
  rw [if_pos rfl]
  refine ⟨1, 6, by omega, by omega, l_least c2 hv (Nat.le_refl _) (Nat.le_refl _) (fun S3 c3 k3 => ?_)⟩
  rw [nE_lst hv, if_pos rfl]
  refine ⟨1, 6, by omega, by omega, l_leastAgain c3 hv (Nat.le_refl _) (Nat.le_refl _) (fun S4 c4 k4 => ?_)⟩
  rw [nE_lst hv, if_pos rfl]
  refine ⟨1, 6, by omega, by omega, l_leastSides c4 hv (Nat.le_refl _) (Nat.le_refl _) (fun S5 c5 k5 => ?_)⟩
  rw [nE_lsd]
  have k15 := (((k1.trans k2).trans k3).trans k4).trans k5
  by_cases e : v 0 ≤ 1
  · rw [if_pos e, if_pos (show nI (v 0) ≤ 1 from nI_le (b := 1) e (by omega))]
    exact l_acc2 c5 hv hc1 hc2 hc3 (by omega) (by omega) (fun S6 bc6 bs6 c6 k6 b1 b2 => next S6 ow2 _ bc6 bs6 c6 (k15.trans k6) (by omega) (by omega))
  · rw [if_neg e, if_neg (show ¬ nI (v 0) ≤ 1 from nI_ge (a := 1) (by omega) (by omega))]
    exact l_acc2 c5 hv hc1 hc2 hc3 (by omega) (by omega) (fun S6 bc6 bs6 c6 k6 b1 b2 => next S6 ow2 _ bc6 bs6 c6 (k15.trans k6) (by omega) (by omega))
end ACC
