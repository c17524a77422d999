/-! the three turns; the sides read; the law's feud and least *(pure)* -/
section TRN
variable {adK : Nat → Nat} {L : Nat} {xs : Nat → Int32}
/-- what one turn must do: from its matrix to its last act *(the room of a turn: 29800, 1919000)* -/
def TB (adK : Nat → Nat) (L : Nat) (xs : Nat → Int32) : Prop := ∀ (i : Nat) (g15 : PS → Nat → Nat → Nat → Int32 → Prop) (A : Nat → Nat) (S : PS) (ow : Ow) (v : Vt) (hs : List Vt) (sv : Option Vt) (rr : Nat → Int32) (tx : List Nat) (fa : Int32) (ln : List Nat) (q : Nat) (r : Nat → Nat) (bc bs : Nat), i < 3 → CI S ow A v hs sv rr tx fa ln → okV v → inC v (20 + i) → wM S ow q (v 0) r (fun a b => nI (wt v a b)) → 29800 ≤ bc → 1919000 ≤ bs → (∀ S1 bc1 bs1, LV (20 + i) S1 A v → bc ≤ bc1 + 29800 → bs ≤ bs1 + 1919000 → f_L_law_J1907 adK L xs g15 S1 bc1 bs1 (A 12) (nI i)) → f_L_law_L63 adK L xs g15 4096 S bc bs (A 12) (nI i) q (nI (v 0)) (nI (ev v)) 0 0 0 0 0 (-30000) 0 0
def tc (d : Nat) : Nat := d * 30000
def ts (d : Nat) : Nat := d * 1920000
theorem tc_s (d : Nat) : tc (d + 1) = tc d + 30000 := Nat.succ_mul d 30000
theorem ts_s (d : Nat) : ts (d + 1) = ts d + 1920000 := Nat.succ_mul d 1920000
theorem l_turns (hL : L ≤ 260) (tb : TB adK L xs) {A : Nat → Nat} : ∀ i fuel, i ≤ 3 → 3 - i < fuel → ∀ (S : PS) (v : Vt) (bc bs : Nat), LV (20 + i) S A v → tc (3 - i) ≤ bc → ts (3 - i) ≤ bs → f_L_law_L15 adK L xs fuel S bc bs (A 12) (nI i) := by
  refine lp_im (L := fun fuel i => ∀ (S : PS) (v : Vt) (bc bs : Nat), LV (20 + i) S A v → tc (3 - i) ≤ bc → ts (3 - i) ≤ bs → f_L_law_L15 adK L xs fuel S bc bs (A 12) (nI i)) (fun fuel i hi ih S v bc bs h h1 h2 => ?_) (fun fuel S v bc bs h h1 h2 => ?_)
  · obtain ⟨hv, hc, ow, hs, sv, rr, tx, fa, ln, hC⟩ := h
    have h9 := hv.1
    have t1 := tc_s (3 - (i + 1))
    have t2 := ts_s (3 - (i + 1))
    rw [show 3 - (i + 1) + 1 = 3 - i by omega] at t1 t2
    rw [f_L_law_L15, if_neg (show ¬ (3 : Int32) ≤ nI i from nI_ge (a := i) (b := 3) hi (by decide))]
    refine ⟨100, 600, by omega, by omega, l_weights hC hv (Nat.le_refl _) (Nat.le_refl _) (fun q r S1 ow1 k1 c1 w1 => ?_)⟩
    rw [MLen (wM_M w1 (fun _ _ _ _ => rfl)), b_all (v 0) (by omega)]
    refine tb i (f_L_law_L15 adK L xs fuel) A S1 ow1 v hs sv rr tx fa ln q r _ _ hi c1 hv hc w1 (by omega) (by omega) (fun S2 bc2 bs2 h3 h4 h5 => ?_)
    unfold f_L_law_J1907
    have e4 : (4 : Int32) * nI i = nI (4 * i) := (Int32.ofNat_mul 4 i).symm
    have e5 : (60 : Int32) + nI (4 * i) = nI (60 + 4 * i) := nI_add 60 (4 * i)
    rw [e4, e5]
    refine ⟨6, 126, by omega, by omega, l_acts hL (by omega) h3 (by omega) (Nat.le_refl _) (Nat.le_refl _) (fun S3 v3 hh => ?_)⟩
    rw [nI_1]
    exact ih S3 v3 _ _ hh (by omega) (by omega)
  · rw [f_L_law_L15, if_pos (show (3 : Int32) ≤ nI 3 from Int32.le_refl _)]
    trivial
/-- the claim, out of one turn, in any room that is large enough -/
theorem l_law {C Z : Nat} (hC : 90200 ≤ C) (hZ : 5766000 ≤ Z) (hL : L ≤ 260) (tb : TB adK L xs) : f_L_law adK L xs S_0 C Z := by
  have t1 : tc (3 - 0) = 90000 := by decide
  have t2 : ts (3 - 0) = 5760000 := by decide
  exact l_start hC hZ hL (fun A S v h => l_turns hL tb 0 4096 (by omega) (by omega) S v _ _ h (by rw [t1]; omega) (by rw [t2]; omega))
end TRN
section SID
variable {adK : Nat → Nat} {L : Nat} {xs : Nat → Int32} {g15 : PS → Nat → Nat → Nat → Int32 → Prop} {S : PS} {ow : Ow} {A : Nat → Nat} {v : Vt} {hs : List Vt} {sv : Option Vt} {rr : Nat → Int32} {tx : List Nat} {fa : Int32} {ln : List Nat} {q : Nat} {r : Nat → Nat} {bc bs : Nat} {l2 l5 l7 l8 l9 l10 l11 l12 : Int32}
theorem sds_cut (hv : okV v) : mk9 (fun k => v (4 + k)) (v 0) = sds v := (sm_cut hv.1 (fun k h1 h2 => by dsimp only; rw [hv.2.2.1 k h2 h1, Nat.zero_mul])).symm
theorem l_side (h : CI S ow A v hs sv rr tx fa ln) (hv : okV v) (h1 : 9 ≤ bc) (h2 : 54 ≤ bs) (next : ∀ bc1 bs1, bc ≤ bc1 + 9 → bs ≤ bs1 + 54 → f_L_law_J91 adK L xs g15 S bc1 bs1 (A 12) l2 q (nI (v 0)) l5 (nI (sds v)) l7 l8 l9 l10 l11 l12) : f_L_law_L63 adK L xs g15 4096 S bc bs (A 12) l2 q (nI (v 0)) l5 0 l7 l8 l9 l10 l11 l12 0 := by
  have h9 := hv.1
  have W : ∀ i fuel, i ≤ v 0 → v 0 - i < fuel → ∀ bc1 bs1 : Nat, bc ≤ bc1 + i → bs ≤ bs1 + 6 * i → f_L_law_L63 adK L xs g15 fuel S bc1 bs1 (A 12) l2 q (nI (v 0)) l5 (nI (mk9 (fun k => v (4 + k)) i)) l7 l8 l9 l10 l11 l12 (nI i) := by
    refine lp_im (L := fun fuel i => ∀ bc1 bs1 : Nat, bc ≤ bc1 + i → bs ≤ bs1 + 6 * i → f_L_law_L63 adK L xs g15 fuel S bc1 bs1 (A 12) l2 q (nI (v 0)) l5 (nI (mk9 (fun k => v (4 + k)) i)) l7 l8 l9 l10 l11 l12 (nI i)) (fun fuel i hi ih bc1 bs1 b1 b2 => ?_) (fun fuel bc1 bs1 b1 b2 => ?_)
    · have hs1 := hv.2.1 i (by omega)
      rw [f_L_law_L63, if_neg (nI_ge hi (show v 0 < 2 ^ 31 by omega)), G_O h]
      refine ⟨1, 6, by omega, by omega, x_householdOf h hv (Nat.le_refl _) (Nat.le_refl _) ?_⟩
      have e : oHou v (nI i) 0 = (0, nI (v (4 + i))) := by
        unfold oHou
        rw [if_pos (inb_nI h9 hi), if_pos rfl, ix_nI (show i < 2 ^ 31 by omega)]
      rw [e]
      simp only [rs]
      rw [b_sh hs1 (show i < 31 by omega), b_or, nI_1, ← mk9_or (f := fun k => v (4 + k)) (n := i) (fun k hk => hv.2.1 k (by omega))]
      exact ih _ _ (by omega) (by omega)
    · rw [f_L_law_L63, if_pos (nI_le (Nat.le_refl (v 0)) (show v 0 < 2 ^ 31 by omega)), sds_cut hv]
      exact next _ _ (by omega) (by omega)
  exact W 0 4096 (Nat.zero_le _) (by omega) bc bs (by omega) (by omega)
/-- the law's own least feud, or none -/
def lst (v : Vt) : Int32 := if v 0 ≤ 1 then -30000 else nI (lse v (fun _ => true))
theorem l_first (hM : isM S q r v) (hv : okV v) (next : f_L_law_J117 adK L xs g15 S bc bs (A 12) l2 q (nI (v 0)) l5 (nI (sds v)) l7 l8 l9 l10 l11 l12 (nI (fo v (sds v))) (lst v)) : f_L_law_J91 adK L xs g15 S bc bs (A 12) l2 q (nI (v 0)) l5 (nI (sds v)) l7 l8 l9 l10 l11 l12 := by
  have h9 := hv.1
  have hs1 := sds_lt hv
  unfold f_L_law_J91
  rw [l_feud hM h9 (show sds v < 2 ^ 31 by omega)]
  unfold lst at next
  by_cases h1 : v 0 ≤ 1
  · rw [if_pos h1] at next
    rw [if_pos (show nI (v 0) ≤ 1 from (nI_leI (a := v 0) (b := 1) (by omega) (by decide)).mpr h1)]
    exact next
  · rw [if_neg h1] at next
    rw [if_neg (show ¬ nI (v 0) ≤ 1 from fun z => h1 ((nI_leI (a := v 0) (b := 1) (by omega) (by decide)).mp z)), l_leastG hM hv (by omega) (P := fun _ => true) (fun g c s hs => by rw [if_pos (by decide), if_pos rfl])]
    exact next
/-- the least of the even divisions is the least of all *(v 0 ≥ 2)* -/
theorem lse_cut (hv : okV v) (h2 : 2 ≤ v 0) : lse v (fun _ => true) = lcut v := by
  obtain ⟨d1, d2⟩ := dcn_2 h2
  have hle : ∀ t, t < dcn v → t ≠ 0 → lcut v ≤ fo v (2 * t) := fun t ht h0 => lcut_le hv (by omega) (by omega)
  obtain ⟨s, s0, s1, s2⟩ := lcut_at hv h2
  have hex : ∃ t, t ≠ 0 ∧ t < dcn v ∧ fo v (2 * t) = lcut v := by
    by_cases he : s % 2 = 0
    · exact ⟨s / 2, by omega, by omega, by rw [show 2 * (s / 2) = s by omega]; exact s2⟩
    · refine ⟨(2 ^ v 0 - 1 - s) / 2, by omega, by omega, ?_⟩
      rw [show 2 * ((2 ^ v 0 - 1 - s) / 2) = 2 ^ v 0 - 1 - s by omega, fo_cpl hv (by omega)]
      exact s2
  obtain ⟨t, t0, t1, t2⟩ := hex
  have hp : ∀ t : Nat, t ≠ 0 → (decide (t ≠ 0) && true) = true := fun t h => by rw [decide_eq_true h]; rfl
  obtain ⟨j, j1, j2, j3⟩ := mnp_in (c := 100000000) (p := fun t => decide (t ≠ 0) && true) (f := fun t => fo v (2 * t)) t1 (hp t t0) (by have := fo_lt hv (s := 2 * t); omega)
  have j0 : j ≠ 0 := fun e => by rw [e] at j2; exact absurd j2 (by decide)
  have a1 := hle j j1 j0
  have a2 : mnp 100000000 (fun t => decide (t ≠ 0) && true) (fun t => fo v (2 * t)) (dcn v) ≤ fo v (2 * t) := mnp_le t1 (hp t t0)
  show mnp 100000000 (fun t => decide (t ≠ 0) && true) (fun t => fo v (2 * t)) (dcn v) = lcut v
  omega
end SID
