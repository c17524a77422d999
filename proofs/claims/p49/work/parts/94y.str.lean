/-! a pooled text: its length, its letters; a text appended to one being built *(pure)* -/
section STR
variable {S S1 : PS} {ow ow1 : Ow} {c d a b cap bc bs : Nat} {l m : List Nat}
/-- a text that was made: its letters *(all of one colour)* -/
def st (S : PS) (ow : Ow) (c a : Nat) (l : List Nat) : Prop := ∃ (ba : Nat) (h z : Int32) (f : Nat → Int32), a ∈ S.1 ∧ ba ∈ S.1 ∧ ow a = c ∧ ow ba = c ∧ S.2 a = .inr (0, [.ref ba, .int 0, .int h, .int z]) ∧ S.2 ba = .inl (1, l.length, .inl f) ∧ l.length ≤ 500 ∧ ∀ i x, l[i]? = some x → x < 128 ∧ f i = nI x
theorem st_fr {C : List Nat} (h : st S ow c a l) (hk : keeps C S ow S1 ow1) (hc : c ∉ C) : st S1 ow1 c a l := by
  obtain ⟨ba, hh, z, f, h1, h2, h3, h4, h5, h6, h7⟩ := h
  obtain ⟨a1, a2, a3⟩ := hk a h1
  obtain ⟨b1, b2, b3⟩ := hk ba h2
  exact ⟨ba, hh, z, f, a1, b1, a2.trans h3, b2.trans h4, by rw [a3 (by rw [h3]; exact hc)]; exact h5, by rw [b3 (by rw [h4]; exact hc)]; exact h6, h7⟩
theorem st_O (h : st S ow c a l) {P : Prop} : isO S a 0 P = P := by
  obtain ⟨ba, hh, z, f, h1, h2, h3, h4, h5, h6, h7⟩ := h
  exact isO_eq h1 h5
theorem nZb0 {P : Prop} : nZ .byte 0 P = P := propext ⟨fun z => z.2, fun z => ⟨by decide, z⟩⟩
theorem st_coder (h : st S ow c a l) {post : Int32 → PS → Prop} : f_J0_coder_7d493_p S a post = post 0 S := by
  obtain ⟨ba, hh, z, f, h1, h2, h3, h4, h5, h6, h7⟩ := h
  unfold f_J0_coder_7d493_p
  rw [if_neg (by decide), gI_eq h1 h5 rfl, nZb0]
theorem st_len (h : st S ow c a l) {post : Int32 → PS → Prop} : f_J0_length_8abf5_p S a post = post (nI l.length) S := by
  have h0 := h
  obtain ⟨ba, hh, z, f, h1, h2, h3, h4, h5, h6, h7⟩ := h
  unfold f_J0_length_8abf5_p
  rw [gR_eq h1 h5 rfl, lE_eq h2 h6 (by decide), st_O h0, st_coder h0, shr0 (by omega)]
theorem sb_str {post : Nat → PS → Prop} (h : sb S ow c a cap l) (hs : st S ow d b m) (hcd : d ≠ c) (hn : l.length + m.length ≤ 500) (h1 : gk cap (l.length + m.length) ≤ bc) (h2 : gsl cap (l.length + m.length) ≤ bs) (next : ∀ S1 ow1, keeps [c] S ow S1 ow1 → sb S1 ow1 c a (gro cap (l.length + m.length)) (l ++ m) → post a S1) : f_J4_append_15ec4_p S a b bc bs post := by
  have h0 := h
  unfold f_J4_append_15ec4_p
  rw [sb_O h]
  refine ⟨bc, bs, Nat.le_refl _, Nat.le_refl _, ?_⟩
  unfold f_J5_append_cf1ce_p
  rw [st_O hs, st_len hs]
  obtain ⟨ba, mm, f, ha, hba, hne, oa, oba, ea, eba, hlen, h16, h1000, hch, hfit⟩ := h
  rw [gI_eq ha ea rfl, isO_eq ha ea]
  refine ⟨bc, bs, Nat.le_refl _, Nat.le_refl _, ?_⟩
  rw [nI_add]
  refine sb_ens h0 hn h1 h2 (fun S1 ow1 k1 hs1 => ?_)
  have t1 : st S1 ow1 d b m := st_fr hs k1 (fun z => hcd (List.mem_singleton.mp z))
  have hge := gro_ge cap (l.length + m.length)
  obtain ⟨ba1, m1, f1, ha1, hba1, hne1, oa1, oba1, ea1, eba1, hlen1, h161, h10001, hch1, hfit1⟩ := hs1
  have t0 := t1
  obtain ⟨bb, hh, z, fb, g1, g2, g3, g4, g5, g6, g7, g8⟩ := t1
  rw [gI_eq ha1 ea1 rfl, isO_eq ha1 ea1]
  unfold f_J5_putStringAt_47b60_p f_J5_inflateIfNeededFor_a7421_p
  rw [isO_eq ha1 ea1, if_neg (by decide), gI_eq ha1 ea1 rfl, st_O t0, st_coder t0, if_pos rfl]
  dsimp only
  rw [gR_eq ha1 ea1 rfl, gI_eq ha1 ea1 rfl, st_O t0]
  unfold f_J0_getBytes_840e7_p
  rw [st_O t0, st_coder t0, if_pos rfl]
  try dsimp only
  rw [gR_eq g1 g5 rfl, gR_eq g1 g5 rfl, lE_eq g2 g6 (by decide), shl0 (by omega)]
  have c1 : (nI l.length).toNatClampNeg = l.length := nI_clamp (by omega)
  have c2 : (nI m.length).toNatClampNeg = m.length := nI_clamp (by omega)
  have c0 : (0 : Int32).toNatClampNeg = 0 := by decide
  unfold cpB
  rw [c0, c1, c2]
  refine ⟨g2, hba1, by decide, nI_nlt (a := l.length) (b := 0) (Nat.zero_le _) (by omega), nI_nlt (a := m.length) (b := 0) (Nat.zero_le _) (by omega), _, _, fb, f1, g6, eba1, by omega, by omega, fun i hi => ?_, ?_⟩
  · rw [Nat.zero_add]
    obtain ⟨x1, x2⟩ := g8 i m[i] (List.getElem?_eq_getElem hi)
    rw [x2]; exact b8f _ x1
  obtain ⟨S4, e4⟩ : ∃ S4, S4 = p_set S1 ba1 (.inl (1, gro cap (l.length + m.length), .inl (va_cpy fb f1 0 l.length m.length))) := ⟨_, rfl⟩
  rw [← e4]
  have k4 : keeps [c] S1 ow1 S4 ow1 := by rw [e4]; exact keeps_set oba1
  have ha4 : a ∈ S4.1 := by rw [e4]; exact ha1
  have ea4 : S4.2 a = .inr (1, [.ref ba1, .int 0, .int m1, .int (nI l.length)]) := by rw [e4, set_ne hne1]; exact ea1
  try dsimp only
  rw [gI_eq ha4 ea4 rfl, nI_add]
  refine pV_to ha4 ea4 (by show 3 < 4; decide) rfl (fun S3 c3 m3 e3 => ?_)
  have hb4 : ba1 ∈ S4.1 := by rw [e4]; exact hba1
  have eb3 : S3.2 ba1 = .inl (1, gro cap (l.length + m.length), .inl (va_cpy fb f1 0 l.length m.length)) := (c3.2 _ (Ne.symm hne1)).trans (by rw [e4]; exact set_at)
  refine next S3 ow1 ((k1.trans k4).trans (keeps_1 c3 oa1)) ⟨ba1, m1, _, m3, by rw [c3.1]; exact hb4, hne1, oa1, oba1, by rw [e3, List.length_append]; rfl, eb3, by rw [List.length_append]; omega, h161, h10001, fun i y hy => ?_, fun i => ?_⟩
  · unfold va_cpy
    by_cases hi : l.length ≤ i
    · rw [List.getElem?_append_right hi] at hy
      have hl := lt_len hy
      rw [if_pos (show l.length ≤ i ∧ i < l.length + m.length by omega), Nat.zero_add]
      exact g8 _ y hy
    · rw [List.getElem?_append_left (by omega)] at hy
      rw [if_neg (fun z => hi z.1)]
      exact hch1 i y hy
  · unfold va_cpy
    by_cases hi : l.length ≤ i ∧ i < l.length + m.length
    · rw [if_pos hi, Nat.zero_add]
      obtain ⟨x1, x2⟩ := g8 (i - l.length) m[i - l.length] (List.getElem?_eq_getElem (by omega))
      rw [x2]; exact b8f _ x1
    · rw [if_neg hi]; exact hfit1 i
end STR
