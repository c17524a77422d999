/-! the law's loop, and the whole *out of its start* -/
section LOOP
variable {adK : Nat → Nat} {L : Nat} {xs : Nat → Int32} {A : Nat → Nat}
theorem end_ge {i : Nat} (hL : L ≤ 2048) (hi : i ≤ 512) (h : ¬ (Int32.ofNat L) - 4 < nI (4 * i)) : 4 * i + 4 ≤ L := by
  have h1 : (nI L - nI 4).toInt = (L : Int) - (4 : Nat) := pk_sub_toInt (by omega) (by omega)
  have h2 : (nI (4 * i) - nI 0).toInt = ((4 * i : Nat) : Int) - (0 : Nat) := pk_sub_toInt (by omega) (by omega)
  have h3 : nI (4 * i) - nI 0 = nI (4 * i) := by rw [pk_sub (Nat.zero_le _), Nat.sub_zero]
  rw [h3] at h2
  have h4 : ¬ (nI L - nI 4).toInt < (nI (4 * i)).toInt := fun z => h (Int32.lt_iff_toInt_lt.mpr z)
  rw [h1, h2] at h4
  omega
theorem law_loop (hL : L ≤ 2048) : ∀ (fuel i : Nat) (S : PS) (ow : Ow) (v : Vt) (hs : List Vt) (sv : Option Vt) (r : Nat → Int32) (tx : List Nat) (fa : Int32) (ln : List Nat) (bc bs : Nat), LIv S ow A v hs sv r tx fa ln → LB i v hs sv tx ln → 512 < fuel + i → i ≤ 512 → 70 * (512 - i) ≤ bc → 2100 * (512 - i) ≤ bs → f_L_law_L28 adK L xs fuel S bc bs (A 12) (A 15) (A 13) (A 14) (nI (4 * i))
  | 0, i, _, _, _, _, _, _, _, _, _, _, _, _, _, h1, h2, _, _ => by omega
  | n + 1, i, S, ow, v, hs, sv, r, tx, fa, ln, bc, bs, hI, hB, h1, h2, h3, h4 => by
    rw [f_L_law_L28]
    by_cases he : (Int32.ofNat L) - 4 < nI (4 * i)
    · rw [if_pos he]; trivial
    · rw [if_neg he]
      have hl := end_ge hL h2 he
      refine ⟨vp_in_nI (by omega) (by omega), ?_⟩
      have cx : CX L (f_L_law_L28 adK L xs n) A S ow v hs sv r tx fa ln i (4 * i) bc bs := ⟨hI, hB, by omega, hl, hL, by omega, by omega, fun S1 ow1 v1 hs1 sv1 r1 tx1 fa1 ln1 bc1 bs1 q1 q2 q3 q4 => by
        rw [show nI (4 * i) + 4 = nI (4 * (i + 1)) from nI_add (4 * i) 4]
        exact law_loop hL n (i + 1) S1 ow1 v1 hs1 sv1 r1 tx1 fa1 ln1 bc1 bs1 q1 q2 (by omega) (by omega) (by omega) (by omega)⟩
      have cz := cx
      obtain ⟨-, -, -, -, -, -, -, kk⟩ := cz
      obtain ⟨x, hx⟩ : ∃ x, x = (xs (nI (4 * i)).toNatClampNeg) &&& 63 := ⟨_, rfl⟩
      rw [← hx]
      by_cases h_0 : x = 0
      · rw [if_pos h_0]; exact j_household cx
      rw [if_neg h_0]
      by_cases h_1 : x = 1
      · rw [if_pos h_1]; exact j_leave cx
      rw [if_neg h_1]
      by_cases h_2 : x = 2
      · rw [if_pos h_2]; exact j_bond cx
      rw [if_neg h_2]
      by_cases h_3 : x = 3
      · rw [if_pos h_3]; exact j_loosen cx
      rw [if_neg h_3]
      by_cases h_4 : x = 4
      · rw [if_pos h_4]; exact j_marry cx
      rw [if_neg h_4]
      by_cases h_5 : x = 5
      · rw [if_pos h_5]; exact j_stand cx
      rw [if_neg h_5]
      by_cases h_6 : x = 6
      · rw [if_pos h_6]; exact j_part cx
      rw [if_neg h_6]
      by_cases h_7 : x = 7
      · rw [if_pos h_7]; exact j_weight cx
      rw [if_neg h_7]
      by_cases h_8 : x = 8
      · rw [if_pos h_8]; exact j_householdOf cx
      rw [if_neg h_8]
      by_cases h_9 : x = 9
      · rw [if_pos h_9]; exact j_tied cx
      rw [if_neg h_9]
      by_cases h_10 : x = 10
      · rw [if_pos h_10]; exact j_feud cx
      rw [if_neg h_10]
      by_cases h_11 : x = 11
      · rw [if_pos h_11]; exact j_feudAgain cx
      rw [if_neg h_11]
      by_cases h_12 : x = 12
      · rw [if_pos h_12]; exact j_phases cx
      rw [if_neg h_12]
      by_cases h_13 : x = 13
      · rw [if_pos h_13]; exact j_phaseOf cx
      rw [if_neg h_13]
      by_cases h_14 : x = 14
      · rw [if_pos h_14]; exact j_joined cx
      rw [if_neg h_14]
      by_cases h_15 : x = 15
      · rw [if_pos h_15]; exact j_tieAt cx
      rw [if_neg h_15]
      by_cases h_16 : x = 16
      · rw [if_pos h_16]; exact j_least cx
      rw [if_neg h_16]
      by_cases h_17 : x = 17
      · rw [if_pos h_17]; exact j_leastAgain cx
      rw [if_neg h_17]
      by_cases h_18 : x = 18
      · rw [if_pos h_18]; exact j_met cx
      rw [if_neg h_18]
      by_cases h_19 : x = 19
      · rw [if_pos h_19]; exact j_leastSides cx
      rw [if_neg h_19]
      by_cases h_20 : x = 20
      · rw [if_pos h_20]; exact j_between cx
      rw [if_neg h_20]
      by_cases h_21 : x = 21
      · rw [if_pos h_21]; exact j_betweenAgain cx
      rw [if_neg h_21]
      by_cases h_22 : x = 22
      · rw [if_pos h_22]; exact j_bestMove cx
      rw [if_neg h_22]
      by_cases h_23 : x = 23
      · rw [if_pos h_23]; exact j_ifMoved cx
      rw [if_neg h_23]
      by_cases h_24 : x = 24
      · rw [if_pos h_24]; exact j_ifBond cx
      rw [if_neg h_24]
      by_cases h_25 : x = 25
      · rw [if_pos h_25]; exact j_isCritical cx
      rw [if_neg h_25]
      by_cases h_26 : x = 26
      · rw [if_pos h_26]; exact j_parts cx
      rw [if_neg h_26]
      by_cases h_27 : x = 27
      · rw [if_pos h_27]; exact j_partOf cx
      rw [if_neg h_27]
      by_cases h_28 : x = 28
      · rw [if_pos h_28]; exact j_bondAt cx
      rw [if_neg h_28]
      by_cases h_29 : x = 29
      · rw [if_pos h_29]; exact j_heaviest cx
      rw [if_neg h_29]
      by_cases h_30 : x = 30
      · rw [if_pos h_30]; exact j_ranked cx
      rw [if_neg h_30]
      by_cases h_31 : x = 31
      · rw [if_pos h_31]; exact j_isTold cx
      rw [if_neg h_31]
      by_cases h_32 : x = 32
      · rw [if_pos h_32]; exact j_append cx
      rw [if_neg h_32]
      by_cases h_33 : x = 33
      · rw [if_pos h_33]; exact j_run cx
      rw [if_neg h_33]
      by_cases h_34 : x = 34
      · rw [if_pos h_34]; exact j_fault cx
      rw [if_neg h_34]
      by_cases h_35 : x = 35
      · rw [if_pos h_35]; exact j_reason cx
      rw [if_neg h_35]
      by_cases h_36 : x = 36
      · rw [if_pos h_36]; exact j_tell cx
      rw [if_neg h_36]
      by_cases h_37 : x = 37
      · rw [if_pos h_37]; exact j_tellPhase cx
      rw [if_neg h_37]
      by_cases h_38 : x = 38
      · rw [if_pos h_38]; exact j_tellSides cx
      rw [if_neg h_38]
      by_cases h_39 : x = 39
      · rw [if_pos h_39]; exact j_character cx
      rw [if_neg h_39]
      by_cases h_40 : x = 40
      · rw [if_pos h_40]; exact j_account cx
      rw [if_neg h_40]
      by_cases h_41 : x = 41
      · rw [if_pos h_41]; exact j_mean cx
      rw [if_neg h_41]
      by_cases h_42 : x = 42
      · rw [if_pos h_42]; exact j_share cx
      rw [if_neg h_42]
      by_cases h_43 : x = 43
      · rw [if_pos h_43]; exact j_undo cx
      rw [if_neg h_43]
      by_cases h_44 : x = 44
      · rw [if_pos h_44]; exact j_save cx
      rw [if_neg h_44]
      by_cases h_45 : x = 45
      · rw [if_pos h_45]; exact j_restore cx
      rw [if_neg h_45]
      exact kk S ow v hs sv r tx fa ln bc bs hI (LB_up hB) (by omega) (by omega)
end LOOP
