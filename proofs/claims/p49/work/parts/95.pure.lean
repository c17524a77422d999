/-! one turn; the pure claim *(pure)* -/
section PUR
variable {adK : Nat → Nat} {L : Nat} {xs : Nat → Int32}
theorem CE_all : ∀ c, c ∈ CC → c ∉ ([31, 33] : List Nat) := by decide
theorem l_TB : TB adK L xs := by
  intro i g15 A S ow v hs sv rr tx fa ln q r bc bs hi h hv hic hw h1 h2 next
  have h9 := hv.1
  obtain ⟨i1, i2, i3, i4⟩ := hic
  refine l_side h hv (by omega) (by omega) (fun bc1 bs1 b1 b2 => ?_)
  refine l_first (wM_M hw (fun _ _ _ _ => rfl)) hv ?_
  refine l_outer h hv hw (by omega) (by omega) (fun S1 ow1 u bc2 bs2 c1 k1 t1 b3 b4 => ?_)
  rw [pp_prs (v 0) (by omega)] at t1 ⊢
  refine l_sides (ow := ow1) hv (by omega) (by omega) (fun S2 ow2 u2 bc3 bs3 k2 t2 b5 b6 => ?_)
  have k12 := k1.trans (k2.mono CD_3133)
  have c2 := CI_fr c1 k2 CC3133
  have w2 := wM_fr hw k12 CD_30
  refine l_ways (wM_M w2 (fun _ _ _ _ => rfl)) hv ?_
  refine l_acc1 c2 hv i1 i2 (by omega) (txt_fr t1 k2 (by decide)) t2 (by omega) (by omega) (fun S3 ow3 ln3 bc4 bs4 c3 k3 b7 b8 => ?_)
  refine l_groups (ow := ow3) hv (by omega) (by omega) (fun S4 ow4 u4 bc5 bs5 k4 g4 b9 b10 => ?_)
  have k14 := ((k12.trans (k3.mono CD_C)).mono CE_D).trans (k4.mono CE_34)
  have w4 := wM_fr hw k14 CE_30
  refine l_phases (CI_fr c3 k4 CC34) hv w4 g4 (by omega) (by omega) (fun S5 ow5 ln5 bc6 bs6 c5 b11 b12 => ?_)
  refine l_orders c5 hv (by omega) (by omega) (fun S6 bc7 bs7 c6 b13 b14 => ?_)
  exact next S6 bc7 bs7 ⟨hv, ⟨i1, i2, i3, i4⟩, ow5, hs, sv, rr, tx, fa, ln5, c6⟩ (by omega) (by omega)
theorem room_ok : 90200 ≤ room_1.cells ∧ 5766000 ≤ room_1.slots := by decide
theorem pure_law : ∀ (adK : Nat → Nat) (L : Nat) (xs : Nat → Int32), L ≤ 260 → f_L_law adK L xs S_0 room_1.cells room_1.slots := fun _ _ _ hL => l_law room_ok.1 room_ok.2 hL l_TB
end PUR
