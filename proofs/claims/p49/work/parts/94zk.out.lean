/-! the law's loop over the households *(pure)* -/
section OUT
variable {adK : Nat → Nat} {L : Nat} {xs : Nat → Int32} {S : PS} {ow : Ow} {A : Nat → Nat} {v : Vt} {hs : List Vt} {sv : Option Vt} {rr : Nat → Int32} {tx : List Nat} {fa : Int32} {ln : List Nat} {q : Nat} {r : Nat → Nat} {bc bs : Nat}
/-- what a turn changes: the class's own, and the law's builders -/
def CD : List Nat := 33 :: 31 :: CC
theorem CD_31 : ∀ c, c ∈ ([31] : List Nat) → c ∈ CD := by decide
theorem CD_C : ∀ c, c ∈ CC → c ∈ CD := fun c hc => List.mem_cons_of_mem _ (List.mem_cons_of_mem _ hc)
theorem CD_30 : 30 ∉ CD := by decide
theorem CD_32 : 32 ∉ CD := by decide
theorem CC_32 : 32 ∉ CC := by decide
theorem low_I : ∀ x, x < 512 → ∀ a, a < 9 → ((nI x &&& (-nI x)) = nI (2 ^ a) ↔ x ≠ 0 ∧ low x = a) := by decide +kernel
theorem lowI_e (hv : okV v) {a : Nat} (ha : a < v 0) : lowI v a = nI (if low (rch v a) = a then 1 else 0) := by
  have h9 := hv.1
  obtain ⟨h1, h2⟩ := rch_b hv ha
  have h3 := low_I (rch v a) h2 a (by omega)
  unfold lowI
  by_cases e : low (rch v a) = a
  · rw [if_pos (h3.mpr ⟨h1, e⟩), if_pos e]; rfl
  · rw [if_neg (fun z => e (h3.mp z).2), if_neg e]; rfl
theorem aloI_e {a : Nat} : aloI v a = nI (if bo v a = 0 then 1 else 0) := by
  unfold aloI
  by_cases e : bo v a = 0
  · rw [if_pos e, if_pos e]; rfl
  · rw [if_neg e, if_neg e]; rfl
def bsI (v : Vt) (a : Nat) : Int32 := if a = 0 then -30000 else nI (bsm (amv v) a)
theorem bnx_e {a : Nat} (ha : a < 9) : bnx v a (bsI v a) = bsI v (a + 1) := by
  unfold bnx bsI
  rw [if_neg (show ¬ a + 1 = 0 by omega)]
  by_cases e : a = 0
  · subst e
    rw [if_pos rfl, if_pos rfl]
    rfl
  · have hb := bsm_lt (amv v) a (by omega)
    rw [if_neg e, if_neg (nI30 (by omega)), ix_nI (by omega)]
    have e2 : bsm (amv v) (a + 1) = if amv v (bsm (amv v) a) ≤ amv v a then bsm (amv v) a else a := if_neg e
    rw [e2]
    by_cases e3 : amv v (bsm (amv v) a) ≤ amv v a
    · rw [if_pos e3, if_pos e3]
    · rw [if_neg e3, if_neg e3]
theorem bsI_or {a : Nat} (ha : a < v 0) : bsI v a = -30000 ∨ ∃ b, b < v 0 ∧ bsI v a = nI b := by
  unfold bsI
  by_cases e : a = 0
  · exact Or.inl (if_pos e)
  · have hb := bsm_lt (amv v) a (by omega)
    exact Or.inr ⟨bsm (amv v) a, by omega, if_neg e⟩
theorem l_outer {g15 : PS → Nat → Nat → Nat → Int32 → Prop} {l2 l13 : Int32} (h : CI S ow A v hs sv rr tx fa ln) (hv : okV v) (hw : wM S ow q (v 0) r (fun i j => nI (wt v i j))) (h1 : 2000 ≤ bc) (h2 : 1217000 ≤ bs)
    (next : ∀ S1 ow1 u bc1 bs1, CI S1 ow1 A v hs sv rr tx fa ln → keeps CD S ow S1 ow1 → txt adK S1 ow1 u (tB v (pp (v 0) (v 0))) → bc ≤ bc1 + 1944 → bs ≤ bs1 + 1216944 → f_L_law_J777 adK L xs g15 S1 bc1 bs1 (A 12) l2 q (nI (v 0)) (nI (ev v)) (nI (sds v)) (nI (cB v (pp (v 0) (v 0)))) (nI (psl (wt v) (pp (v 0) (v 0)))) (nI (psl (acg v) (pp (v 0) (v 0)))) (nI (lon v)) (hI v (pp (v 0) (v 0))) (nI (ptn v (v 0))) l13 (lst v) 0 (bsI v (v 0)) u (adK 0)) :
    f_L_law_J117 adK L xs g15 S bc bs (A 12) l2 q (nI (v 0)) (nI (ev v)) (nI (sds v)) 0 0 0 0 (-30000) 0 l13 (lst v) := by
  have h9 := hv.1
  have W : ∀ a fuel, a ≤ v 0 → v 0 - a < fuel → ∀ (S1 : PS) (ow1 : Ow) (u bc1 bs1 : Nat), CI S1 ow1 A v hs sv rr tx fa ln → keeps CD S ow S1 ow1 → txt adK S1 ow1 u (tB v (pp (v 0) a)) → bc ≤ bc1 + 216 * a → bs ≤ bs1 + 135216 * a → f_L_law_L138 adK L xs g15 fuel S1 bc1 bs1 (A 12) l2 q (nI (v 0)) (nI (ev v)) (nI (sds v)) (nI (cB v (pp (v 0) a))) (nI (psl (wt v) (pp (v 0) a))) (nI (psl (acg v) (pp (v 0) a))) (nI (sm (fun k => if bo v k = 0 then 1 else 0) a)) (hI v (pp (v 0) a)) (nI (ptn v a)) l13 (lst v) 0 (bsI v a) u (adK 0) (nI a) := by
    refine lp_im (L := fun fuel a => ∀ (S1 : PS) (ow1 : Ow) (u bc1 bs1 : Nat), CI S1 ow1 A v hs sv rr tx fa ln → keeps CD S ow S1 ow1 → txt adK S1 ow1 u (tB v (pp (v 0) a)) → bc ≤ bc1 + 216 * a → bs ≤ bs1 + 135216 * a → f_L_law_L138 adK L xs g15 fuel S1 bc1 bs1 (A 12) l2 q (nI (v 0)) (nI (ev v)) (nI (sds v)) (nI (cB v (pp (v 0) a))) (nI (psl (wt v) (pp (v 0) a))) (nI (psl (acg v) (pp (v 0) a))) (nI (sm (fun k => if bo v k = 0 then 1 else 0) a)) (hI v (pp (v 0) a)) (nI (ptn v a)) l13 (lst v) 0 (bsI v a) u (adK 0) (nI a)) (fun fuel a ha ih S1 ow1 u bc1 bs1 c1 k1 t1 b1 b2 => ?_) (fun fuel S1 ow1 u bc1 bs1 c1 k1 t1 b1 b2 => ?_)
    · have w1 := wM_fr hw k1 CD_30
      rw [f_L_law_L138, if_neg (nI_ge ha (show v 0 < 2 ^ 31 by omega)), b_bit a (by omega)]
      refine l_row c1 hv w1 ha t1 (by omega) (by omega) (fun S2 ow2 u2 bc2 bs2 c2 k2 t2 b3 b4 => ?_)
      refine l_hh c2 hv (wM_fr w1 k2 (by decide)) ha (by omega) (by omega) (bsI_or ha) (fun S3 bc3 bs3 c3 k3 b5 b6 => ?_)
      rw [aloI_e, lowI_e hv ha, bnx_e (by omega), nI_add, nI_add]
      exact ih S3 ow2 u2 bc3 bs3 c3 ((k1.trans (k2.mono CD_31)).trans (k3.mono CD_C)) (txt_fr t2 k3 CC_32) (by omega) (by omega)
    · rw [f_L_law_L138, if_pos (nI_le (Nat.le_refl (v 0)) (show v 0 < 2 ^ 31 by omega))]
      exact next S1 ow1 u bc1 bs1 c1 k1 t1 (by omega) (by omega)
  unfold f_L_law_J117
  exact W 0 4096 (Nat.zero_le _) (by omega) S ow (adK 0) bc bs h keeps.refl (Or.inr ⟨0, by omega, rfl, rfl⟩) (by omega) (by omega)
end OUT
