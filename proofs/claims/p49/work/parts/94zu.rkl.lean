/-! households in four orders: the law's loops; one turn *(pure)* -/
section RKL
variable {adK : Nat → Nat} {L : Nat} {xs : Nat → Int32} {S S1 : PS} {ow ow1 : Ow} {A : Nat → Nat} {v : Vt} {hs : List Vt} {sv : Option Vt} {rr : Nat → Int32} {tx : List Nat} {fa : Int32} {ln : List Nat} {q : Nat} {r : Nat → Nat} {bc bs : Nat}
theorem l_rkl {g1723 : PS → Nat → Nat → Nat → Int32 → Int32 → Int32 → Prop} {kd : Nat} {l2 : Int32} (h : CI S ow A v hs sv rr tx fa ln) (hv : okV v) (hd : kd ≤ 3) (h1 : 40 ≤ bc) (h2 : 240 ≤ bs)
    (next : ∀ S1 bc1 bs1, CI S1 ow A v hs sv rr tx fa ln → bc ≤ bc1 + 32 → bs ≤ bs1 + 192 → g1723 S1 bc1 bs1 (A 12) l2 (nI (v 0)) (nI (kd + 1))) :
    f_L_law_L1748 adK L xs g1723 4096 S bc bs (A 12) l2 (nI (v 0)) (nI kd) 1 := by
  have h9 := hv.1
  have W : ∀ k fuel, k ≤ v 0 - 1 → v 0 - 1 - k < fuel → ∀ (S1 : PS) (bc1 bs1 : Nat), CI S1 ow A v hs sv rr tx fa ln → bc ≤ bc1 + 4 * k → bs ≤ bs1 + 24 * k → f_L_law_L1748 adK L xs g1723 fuel S1 bc1 bs1 (A 12) l2 (nI (v 0)) (nI kd) (nI (k + 1)) := by
    refine lp_im (L := fun fuel k => ∀ (S1 : PS) (bc1 bs1 : Nat), CI S1 ow A v hs sv rr tx fa ln → bc ≤ bc1 + 4 * k → bs ≤ bs1 + 24 * k → f_L_law_L1748 adK L xs g1723 fuel S1 bc1 bs1 (A 12) l2 (nI (v 0)) (nI kd) (nI (k + 1))) (fun fuel k hk ih S1 bc1 bs1 c1 b1 b2 => ?_) (fun fuel S1 bc1 bs1 c1 b1 b2 => ?_)
    · have hk2 : k + 1 < v 0 := by omega
      have r0 := rk_lt (v := v) (kd := kd) (show k < v 0 by omega)
      have r1 := rk_lt (v := v) (kd := kd) hk2
      rw [f_L_law_L1748, if_neg (nI_ge hk2 (by omega)), G_O c1, nI_pred]
      refine ⟨1, 6, by omega, by omega, x_ranked c1 hv (Nat.le_refl _) (Nat.le_refl _) (fun S2 c2 k2 => ?_)⟩
      rw [oRnk_e hv hd (show k < v 0 by omega)]
      simp only [rs]
      rw [G_O c2]
      refine ⟨1, 6, by omega, by omega, x_ranked c2 hv (Nat.le_refl _) (Nat.le_refl _) (fun S3 c3 k3 => ?_)⟩
      rw [oRnk_e hv hd hk2]
      simp only [rs]
      rcases (show kd = 0 ∨ kd = 1 ∨ kd = 2 ∨ kd = 3 by omega) with rfl | rfl | rfl | rfl
      · rw [if_neg (show ¬ (3 : Int32) ≤ nI 0 by decide), if_pos (show nI 0 = 0 from rfl)]
        unfold f_L_law_J1806
        rw [G_O c3]
        refine ⟨1, 6, by omega, by omega, x_householdOf c3 hv (Nat.le_refl _) (Nat.le_refl _) ?_⟩
        rw [oH2 h9 r0]
        simp only [rs]
        rw [if_pos (show nI 0 = 0 from rfl)]
        unfold f_L_law_J1832
        rw [G_O c3]
        refine ⟨1, 6, by omega, by omega, x_householdOf c3 hv (Nat.le_refl _) (Nat.le_refl _) ?_⟩
        rw [oH2 h9 r1]
        simp only [rs]
        obtain ⟨o1, o2⟩ := ky_ord hv (kd := 0) (by omega) hk2
        have y0 := ky_lt hv (kd := 0) r0
        refine l_more (x := ky v 0 (rk v 0 k)) (y := ky v 0 (rk v 0 (k + 1))) o1 y0 o2 (by omega) ?_
        rw [nI_1]
        exact ih _ _ _ c3 (by omega) (by omega)
      · rw [if_neg (show ¬ (3 : Int32) ≤ nI 1 by decide), if_neg (show ¬ nI 1 = 0 by decide), if_pos (show nI 1 = 1 from rfl)]
        unfold f_L_law_J1806
        rw [G_O c3]
        refine ⟨1, 6, by omega, by omega, x_householdOf c3 hv (Nat.le_refl _) (Nat.le_refl _) ?_⟩
        rw [oH1 h9 r0]
        simp only [rs]
        rw [if_neg (show ¬ nI 1 = 0 by decide), if_pos (show nI 1 = 1 from rfl)]
        unfold f_L_law_J1832
        rw [G_O c3]
        refine ⟨1, 6, by omega, by omega, x_householdOf c3 hv (Nat.le_refl _) (Nat.le_refl _) ?_⟩
        rw [oH1 h9 r1]
        simp only [rs]
        obtain ⟨o1, o2⟩ := ky_ord hv (kd := 1) (by omega) hk2
        have y0 := ky_lt hv (kd := 1) r0
        refine l_more (x := ky v 1 (rk v 1 k)) (y := ky v 1 (rk v 1 (k + 1))) o1 y0 o2 (by omega) ?_
        rw [nI_1]
        exact ih _ _ _ c3 (by omega) (by omega)
      · rw [if_neg (show ¬ (3 : Int32) ≤ nI 2 by decide), if_neg (show ¬ nI 2 = 0 by decide), if_neg (show ¬ nI 2 = 1 by decide)]
        unfold f_L_law_J1806
        rw [G_O c3]
        refine ⟨1, 6, by omega, by omega, x_householdOf c3 hv (Nat.le_refl _) (Nat.le_refl _) ?_⟩
        rw [oH4 h9 r0]
        simp only [rs]
        rw [if_neg (show ¬ nI 2 = 0 by decide), if_neg (show ¬ nI 2 = 1 by decide)]
        unfold f_L_law_J1832
        rw [G_O c3]
        refine ⟨1, 6, by omega, by omega, x_householdOf c3 hv (Nat.le_refl _) (Nat.le_refl _) ?_⟩
        rw [oH4 h9 r1]
        simp only [rs]
        obtain ⟨o1, o2⟩ := ky_ord hv (kd := 2) (by omega) hk2
        have y0 := ky_lt hv (kd := 2) r0
        refine l_more (x := ky v 2 (rk v 2 k)) (y := ky v 2 (rk v 2 (k + 1))) o1 y0 o2 (by omega) ?_
        rw [nI_1]
        exact ih _ _ _ c3 (by omega) (by omega)
      · rw [if_pos (show (3 : Int32) ≤ nI 3 by decide)]
        obtain ⟨o1, o2⟩ := kx_ord hv hk2
        have y1 := kx_lt hv r1
        have fin : ∀ (S5 : PS) (bc5 bs5 : Nat), CI S5 ow A v hs sv rr tx fa ln → bc ≤ bc5 + 4 * (k + 1) → bs ≤ bs5 + 24 * (k + 1) → f_L_law_J1873 adK L xs (f_L_law_L1748 adK L xs g1723 fuel) S5 bc5 bs5 (A 12) l2 (nI (v 0)) (nI 3) (nI (k + 1)) (nI (rk v 3 k)) (nI (rk v 3 (k + 1))) (nI (kx v (rk v 3 k))) (nI (kx v (rk v 3 (k + 1)))) := fun S5 bc5 bs5 c5 b3 b4 => by
          unfold f_L_law_J1873
          refine l_more o1 y1 o2 (by omega) ?_
          rw [nI_1]
          exact ih _ _ _ c5 b3 b4
        have mid : ∀ (S4 : PS) (bc4 bs4 : Nat), CI S4 ow A v hs sv rr tx fa ln → bc ≤ bc4 + 4 * k + 3 → bs ≤ bs4 + 24 * k + 18 → f_L_law_J1856 adK L xs (f_L_law_L1748 adK L xs g1723 fuel) S4 bc4 bs4 (A 12) l2 (nI (v 0)) (nI 3) (nI (k + 1)) (nI (rk v 3 k)) (nI (rk v 3 (k + 1))) (nI (kx v (rk v 3 (k + 1)))) := fun S4 bc4 bs4 c4 b3 b4 => by
          unfold f_L_law_J1856
          by_cases e : rk v 3 k = 0
          · rw [if_pos (show nI (rk v 3 k) = 0 by rw [e]; rfl)]
            have z := fin S4 bc4 bs4 c4 (by omega) (by omega)
            have ex : nI (kx v (rk v 3 k)) = 100000000 := by unfold kx; rw [if_pos e]; rfl
            rw [ex] at z
            exact z
          · rw [if_neg (nI_ne0 (by omega) (by omega)), G_O c4]
            refine ⟨1, 6, by omega, by omega, x_between c4 hv (Nat.le_refl _) (Nat.le_refl _) (fun S5 c5 k5 => ?_)⟩
            rw [oB0 hv r0 e]
            simp only [rs]
            exact fin S5 _ _ c5 (by omega) (by omega)
        by_cases e : rk v 3 (k + 1) = 0
        · rw [if_pos (show nI (rk v 3 (k + 1)) = 0 by rw [e]; rfl)]
          have z := mid S3 _ _ c3 (show bc ≤ bc1 - 1 - 1 + 4 * k + 3 by omega) (show bs ≤ bs1 - 6 - 6 + 24 * k + 18 by omega)
          have ex : nI (kx v (rk v 3 (k + 1))) = 100000000 := by unfold kx; rw [if_pos e]; rfl
          rw [ex] at z
          exact z
        · rw [if_neg (nI_ne0 (by omega) (by omega)), G_O c3]
          refine ⟨1, 6, by omega, by omega, x_between c3 hv (Nat.le_refl _) (Nat.le_refl _) (fun S4 c4 k4 => ?_)⟩
          rw [oB0 hv r1 e]
          simp only [rs]
          exact mid S4 _ _ c4 (by omega) (by omega)
    · rw [f_L_law_L1748, if_pos (nI_le (by omega) (by omega))]
      unfold f_L_law_J1901
      rw [nI_1]
      exact next S1 bc1 bs1 c1 (by omega) (by omega)
  exact W 0 4096 (Nat.zero_le _) (by omega) S bc bs h (by omega) (by omega)
theorem l_orders {g15 : PS → Nat → Nat → Nat → Int32 → Prop} {l2 : Int32} (h : CI S ow A v hs sv rr tx fa ln) (hv : okV v) (h1 : 200 ≤ bc) (h2 : 1200 ≤ bs)
    (next : ∀ S1 bc1 bs1, CI S1 ow A v hs sv rr tx fa ln → bc ≤ bc1 + 132 → bs ≤ bs1 + 792 → f_L_law_J1907 adK L xs g15 S1 bc1 bs1 (A 12) l2) :
    f_L_law_L1723 adK L xs g15 4096 S bc bs (A 12) l2 (nI (v 0)) 0 := by
  have h9 := hv.1
  have W : ∀ kd fuel, kd ≤ 4 → 4 - kd < fuel → ∀ (S1 : PS) (bc1 bs1 : Nat), CI S1 ow A v hs sv rr tx fa ln → bc ≤ bc1 + 33 * kd → bs ≤ bs1 + 198 * kd → f_L_law_L1723 adK L xs g15 fuel S1 bc1 bs1 (A 12) l2 (nI (v 0)) (nI kd) := by
    refine lp_im (L := fun fuel kd => ∀ (S1 : PS) (bc1 bs1 : Nat), CI S1 ow A v hs sv rr tx fa ln → bc ≤ bc1 + 33 * kd → bs ≤ bs1 + 198 * kd → f_L_law_L1723 adK L xs g15 fuel S1 bc1 bs1 (A 12) l2 (nI (v 0)) (nI kd)) (fun fuel kd hd ih S1 bc1 bs1 c1 b1 b2 => ?_) (fun fuel S1 bc1 bs1 c1 b1 b2 => ?_)
    · rw [f_L_law_L1723, if_neg (show ¬ (4 : Int32) ≤ nI kd from nI_ge (b := 4) hd (by omega))]
      refine ⟨1, 6, by omega, by omega, l_ranked2 c1 hv (Nat.le_refl _) (Nat.le_refl _) (oRnk_n h9 (by omega)) (fun S2 c2 k2 => ?_)⟩
      rw [if_pos rfl]
      refine l_rkl c2 hv (by omega) (by omega) (by omega) (fun S3 bc3 bs3 c3 b3 b4 => ?_)
      exact ih S3 bc3 bs3 c3 (by omega) (by omega)
    · rw [f_L_law_L1723, if_pos (show (4 : Int32) ≤ nI 4 from Int32.le_refl _)]
      exact next S1 bc1 bs1 c1 (by omega) (by omega)
  exact W 0 4096 (by omega) (by omega) S bc bs h (by omega) (by omega)
end RKL
