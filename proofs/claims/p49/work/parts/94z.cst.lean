/-! a constant text appended; a text made of one that is built *(pure)* -/
section CST
variable {S S1 : PS} {ow ow1 : Ow} {c d a b cap bc bs k : Nat} {l m : List Nat} {adK : Nat → Nat}
/-- the law's constant texts, as letters -/
def tN (k : Nat) : List Nat := ([[], [32], [61], [124], [60]] : List (List Nat)).getD k []
theorem tN_L : ∀ k, k < 5 → txL.getD k 0 = (tN k).length ∧ (tN k).length ≤ 1 := by decide
theorem tN_B : ∀ k, k < 5 → ∀ j, j < (tN k).length → (txB.getD k []).getD j 0 = nI ((tN k).getD j 0) ∧ (tN k).getD j 0 < 128 := by
  intro k hk j hj
  have h1 := (tN_L k hk).2
  have : j = 0 := by omega
  subst this
  revert hj
  exact (show ∀ k, k < 5 → 0 < (tN k).length → (txB.getD k []).getD 0 0 = nI ((tN k).getD 0 0) ∧ (tN k).getD 0 0 < 128 by decide) k hk
theorem K_co (hk : k < 5) {post : Int32 → PS → Prop} (next : post 0 S) : f_J0_coder_7d493 adK S (adK k) post := by
  unfold f_J0_coder_7d493
  refine ⟨k, hk, rfl, ?_⟩
  rw [if_neg (by decide), nZb0]
  exact next
theorem K_len (hk : k < 5) {post : Int32 → PS → Prop} (next : post (nI (tN k).length) S) : f_J0_length_8abf5 adK S (adK k) post := by
  obtain ⟨h1, h2⟩ := tN_L k hk
  unfold f_J0_length_8abf5
  refine ⟨k, hk, rfl, hk, K_co hk ?_⟩
  rw [h1]
  rw [show Int32.ofNat (tN k).length >>> ((0 : Int32) &&& 31) = nI (tN k).length from shr0 (by omega)]
  exact next
theorem sb_cst {post : Nat → PS → Prop} (h : sb S ow c a cap l) (hk : k < 5) (hn : l.length + (tN k).length ≤ 500) (h1 : gk cap (l.length + (tN k).length) ≤ bc) (h2 : gsl cap (l.length + (tN k).length) ≤ bs) (next : ∀ S1 ow1, keeps [c] S ow S1 ow1 → sb S1 ow1 c a (gro cap (l.length + (tN k).length)) (l ++ tN k) → post a S1) : f_J4_append_15ec4 adK S a (adK k) bc bs post := by
  have h0 := h
  obtain ⟨hL, hL1⟩ := tN_L k hk
  have hB := tN_B k hk
  unfold f_J4_append_15ec4
  rw [sb_O h]
  refine ⟨bc, bs, Nat.le_refl _, Nat.le_refl _, ?_⟩
  unfold f_J5_append_cf1ce
  refine ⟨k, hk, rfl, K_len hk ?_⟩
  obtain ⟨ba, mm, f, ha, hba, hne, oa, oba, ea, eba, hlen, h16, h1000, hch, hfit⟩ := h
  rw [gI_eq ha ea rfl, isO_eq ha ea]
  refine ⟨bc, bs, Nat.le_refl _, Nat.le_refl _, ?_⟩
  rw [nI_add]
  refine sb_ens h0 hn h1 h2 (fun S1 ow1 k1 hs1 => ?_)
  have hge := gro_ge cap (l.length + (tN k).length)
  obtain ⟨ba1, m1, f1, ha1, hba1, hne1, oa1, oba1, ea1, eba1, hlen1, h161, h10001, hch1, hfit1⟩ := hs1
  rw [gI_eq ha1 ea1 rfl, isO_eq ha1 ea1]
  unfold f_J5_putStringAt_47b60 f_J5_inflateIfNeededFor_a7421
  rw [isO_eq ha1 ea1, if_neg (by decide), gI_eq ha1 ea1 rfl]
  refine ⟨k, hk, rfl, K_co hk ?_⟩
  rw [if_pos rfl]
  try dsimp only
  rw [gR_eq ha1 ea1 rfl, gI_eq ha1 ea1 rfl]
  refine ⟨k, hk, rfl, ?_⟩
  unfold f_J0_getBytes_840e7
  refine ⟨k, hk, rfl, K_co hk ?_⟩
  rw [if_pos rfl, shl0 (by omega), hL]
  refine ⟨hk, ?_⟩
  have c1 : (nI l.length).toNatClampNeg = l.length := nI_clamp (by omega)
  have c2 : (Int32.ofNat (tN k).length).toNatClampNeg = (tN k).length := nI_clamp (n := (tN k).length) (by omega)
  have c0 : (0 : Int32).toNatClampNeg = 0 := by decide
  unfold cpK
  rw [c0, c1, c2]
  refine ⟨hk, hba1, by decide, nI_nlt (a := l.length) (b := 0) (Nat.zero_le _) (by omega), nI_nlt (a := (tN k).length) (b := 0) (Nat.zero_le _) (by omega), _, f1, eba1, by omega, by omega, ?_⟩
  obtain ⟨S4, e4⟩ : ∃ S4, S4 = p_set S1 ba1 (.inl (1, gro cap (l.length + (tN k).length), .inl (va_cpy (fun j => (txB.getD k []).getD j 0) f1 0 l.length (tN k).length))) := ⟨_, rfl⟩
  rw [← e4]
  have k4 : keeps [c] S1 ow1 S4 ow1 := by rw [e4]; exact keeps_set oba1
  have ha4 : a ∈ S4.1 := by rw [e4]; exact ha1
  have ea4 : S4.2 a = .inr (1, [.ref ba1, .int 0, .int m1, .int (nI l.length)]) := by rw [e4, set_ne hne1]; exact ea1
  try dsimp only
  rw [gI_eq ha4 ea4 rfl, nI_add]
  refine pV_to ha4 ea4 (by show 3 < 4; decide) rfl (fun S3 c3 m3 e3 => ?_)
  have hb4 : ba1 ∈ S4.1 := by rw [e4]; exact hba1
  have eb3 : S3.2 ba1 = .inl (1, gro cap (l.length + (tN k).length), .inl (va_cpy (fun j => (txB.getD k []).getD j 0) f1 0 l.length (tN k).length)) := (c3.2 _ (Ne.symm hne1)).trans (by rw [e4]; exact set_at)
  refine next S3 ow1 ((k1.trans k4).trans (keeps_1 c3 oa1)) ⟨ba1, m1, _, m3, by rw [c3.1]; exact hb4, hne1, oa1, oba1, by rw [e3, List.length_append]; rfl, eb3, by rw [List.length_append]; omega, h161, h10001, fun i y hy => ?_, fun i => ?_⟩
  · unfold va_cpy
    by_cases hi : l.length ≤ i
    · rw [List.getElem?_append_right hi] at hy
      have hl := lt_len hy
      rw [if_pos (show l.length ≤ i ∧ i < l.length + (tN k).length by omega), Nat.zero_add]
      obtain ⟨x1, x2⟩ := hB (i - l.length) hl
      have e : (tN k).getD (i - l.length) 0 = y := by rw [List.getD_eq_getElem?_getD, hy]; rfl
      rw [e] at x1 x2
      exact ⟨x2, x1⟩
    · rw [List.getElem?_append_left (by omega)] at hy
      rw [if_neg (fun z => hi z.1)]
      exact hch1 i y hy
  · unfold va_cpy
    by_cases hi : l.length ≤ i ∧ i < l.length + (tN k).length
    · rw [if_pos hi, Nat.zero_add]
      obtain ⟨x1, x2⟩ := hB (i - l.length) (by omega)
      show fits .byte (.int ((txB.getD k []).getD (i - l.length) 0)) = true
      rw [x1]; exact b8f _ x2
    · rw [if_neg hi]; exact hfit1 i
end CST
