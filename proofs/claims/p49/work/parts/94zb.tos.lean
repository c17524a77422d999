/-! a text made of one that is built: toString *(pure)* -/
section TOS
variable {S S1 : PS} {ow ow1 : Ow} {c d a cap bc bs : Nat} {l : List Nat}
theorem to_end {S4 : PS} {ow4 : Ow} {q q3 : Nat} {f : Nat → Int32} {post : Nat → PS → Prop} (k4 : keeps [] S ow S4 ow4) (hqS : q ∉ S.1) (hq : q ∈ S4.1) (oq : ow4 q = d) (eq : S4.2 q = .inr (0, [.null, .int 0, .int 0, .int 0])) (hr : q3 ∈ S4.1) (or3 : ow4 q3 = d) (er : S4.2 q3 = .inl (1, l.length, .inl f)) (hl : l.length ≤ 500) (hf : ∀ i x, l[i]? = some x → x < 128 ∧ f i = nI x) (next : ∀ q S1 ow1, keeps [] S ow S1 ow1 → q ∉ S.1 → st S1 ow1 d q l → post q S1) : pV S4 q 0 0 (.ref q3) fun S12 => post q S12 := by
  have hne : q3 ≠ q := fun e => by rw [e, eq] at er; cases er
  refine pV_to hq eq (by show 0 < 4; decide) rfl (fun S5 c5 m5 e5 => ?_)
  refine next q S5 ow4 (fun x hx => ?_) hqS ⟨q3, 0, 0, f, m5, by rw [c5.1]; exact hr, oq, or3, e5, (c5.2 _ hne).trans er, hl, hf⟩
  obtain ⟨x1, x2, x3⟩ := k4 x hx
  exact ⟨by rw [c5.1]; exact x1, x2, fun hc => (c5.2 x (fun z => hqS (by rw [← z]; exact hx))).trans (x3 hc)⟩
theorem sb_to {post : Nat → PS → Prop} (h : sb S ow c a cap l) (h1 : 2 ≤ bc) (h2 : 1004 ≤ bs) (hl : l.length ≤ 500) (next : ∀ q S1 ow1, keeps [] S ow S1 ow1 → q ∉ S.1 → st S1 ow1 d q l → post q S1) : f_J4_toString_0e30d S a bc bs post := by
  unfold f_J4_toString_0e30d
  refine ⟨by omega, by omega, fun q hq => ?_⟩
  obtain ⟨S2, e2⟩ : ∃ S2, S2 = p_add S q (.inr (0, [.null, .int 0, .int 0, .int 0])) := ⟨_, rfl⟩
  rw [← e2]
  have k2 : keeps [] S ow S2 (un ow q d) := by rw [e2]; exact keeps_add hq
  have hs2 := sb_fr h k2 List.not_mem_nil
  have hs0 := hs2
  have hq2 : q ∈ S2.1 := by rw [e2]; exact List.mem_append_right _ (List.mem_singleton.mpr rfl)
  have eq2 : S2.2 q = .inr (0, [.null, .int 0, .int 0, .int 0]) := by rw [e2]; exact add_at
  obtain ⟨ba, mm, f, ha, hba, hne, oa, oba, ea, eba, hlen, h16, h1000, hch, hfit⟩ := hs2
  have hbq : ba ≠ q := fun e => by rw [e, eq2] at eba; cases eba
  refine ⟨bc - 1, bs - 4, Nat.le_refl _, Nat.le_refl _, ?_⟩
  unfold f_J0_init_81219_p
  refine ⟨bc - 1, bs - 4, Nat.le_refl _, Nat.le_refl _, ?_⟩
  unfold f_J0_init_db425_p
  rw [sb_O hs0]
  unfold f_J5_getValue_6d5f1
  rw [gR_eq ha ea rfl]
  try dsimp only
  rw [sb_O hs0, sb_len hs0]
  try dsimp only
  rw [sb_O hs0]
  unfold f_J5_isLatin1_aae02
  rw [if_neg (by decide), gI_eq ha ea rfl, if_pos rfl, nZ1]
  try dsimp only
  rw [if_neg (by decide)]
  refine pV_to hq2 eq2 (by show 1 < 4; decide) rfl (fun S3 c3 m3 e3 => ?_)
  have k3 : keeps [] S ow S3 (un ow q d) := fun x hx => by
    obtain ⟨x1, x2, x3⟩ := k2 x hx
    exact ⟨by rw [c3.1]; exact x1, x2, fun hc => (c3.2 x (fun z => hq (by rw [← z]; exact hx))).trans (x3 hc)⟩
  have hb3 : ba ∈ S3.1 := by rw [c3.1]; exact hba
  have eb3 : S3.2 ba = .inl (1, cap, .inl f) := (c3.2 _ hbq).trans eba
  have e3' : S3.2 q = .inr (0, [.null, .int 0, .int 0, .int 0]) := e3
  refine ⟨bc - 1, bs - 4, Nat.le_refl _, Nat.le_refl _, ?_⟩
  unfold f_J7_copyOfRange_39247
  rw [if_pos rfl, lE_eq hb3 eb3 (by decide)]
  by_cases hc : l.length = cap
  · rw [if_pos (by rw [hc])]
    refine ⟨hb3, cap, f, eb3, fun i _ => hfit i, by omega, by omega, fun q3 hq3 => ?_⟩
    obtain ⟨S4, e4⟩ : ∃ S4, S4 = p_add S3 q3 (.inl (1, cap, .inl f)) := ⟨_, rfl⟩
    rw [← e4]
    have k4 : keeps [] S3 (un ow q d) S4 (un (un ow q d) q3 d) := by rw [e4]; exact keeps_add hq3
    have hr : q3 ∈ S4.1 := by rw [e4]; exact List.mem_append_right _ (List.mem_singleton.mpr rfl)
    have er : S4.2 q3 = .inl (1, cap, .inl f) := by rw [e4]; exact add_at
    obtain ⟨y1, y2, y3⟩ := k4 q m3
    refine ⟨hr, ⟨cap, f, er⟩, ?_⟩
    exact to_end (l := l) (k3.trans k4) hq y1 (y2.trans un_at) ((y3 List.not_mem_nil).trans e3') hr un_at (by rw [hc]; exact er) hl hch next
  · rw [if_neg (fun e => hc ((nI_eq (by omega) (by omega)).mp e))]
    unfold f_J7_copyOfRange_39247_J10
    refine ⟨bc - 1, bs - 4, Nat.le_refl _, Nat.le_refl _, ?_⟩
    unfold f_J7_copyOfRangeByte_39247 f_J7_checkLength_df160
    rw [if_pos (show (0 : Int32) ≤ nI l.length from nI_le (a := 0) (Nat.zero_le _) (by omega))]
    try dsimp only
    have cl : (nI l.length).toNatClampNeg = l.length := nI_clamp (by omega)
    rw [Int32.sub_zero]
    refine ⟨nI_nlt (a := l.length) (b := 0) (Nat.zero_le _) (by omega), by rw [cl]; omega, by omega, by rw [cl]; omega, fun q3 hq3 => ?_⟩
    rw [cl]
    obtain ⟨S4, e4⟩ : ∃ S4, S4 = p_add S3 q3 (.inl (1, l.length, .inl (fun _ => 0))) := ⟨_, rfl⟩
    rw [← e4]
    have k4 : keeps [] S3 (un ow q d) S4 (un (un ow q d) q3 d) := by rw [e4]; exact keeps_add hq3
    have hr : q3 ∈ S4.1 := by rw [e4]; exact List.mem_append_right _ (List.mem_singleton.mpr rfl)
    have er : S4.2 q3 = .inl (1, l.length, .inl (fun _ => 0)) := by rw [e4]; exact add_at
    obtain ⟨b1, b2, b3⟩ := k4 ba hb3
    have eb4 := (b3 List.not_mem_nil).trans eb3
    rw [lE_eq b1 eb4 (by decide), Int32.sub_zero, if_pos (nI_lt (show l.length < cap by omega) (by omega))]
    have c0 : (0 : Int32).toNatClampNeg = 0 := by decide
    unfold cpB
    rw [c0, cl]
    refine ⟨b1, hr, by decide, by decide, nI_nlt (a := l.length) (b := 0) (Nat.zero_le _) (by omega), _, _, f, _, eb4, er, by omega, by omega, fun i _ => hfit _, ?_⟩
    obtain ⟨S5, e5⟩ : ∃ S5, S5 = p_set S4 q3 (.inl (1, l.length, .inl (va_cpy f (fun _ => 0) 0 0 l.length))) := ⟨_, rfl⟩
    rw [← e5]
    obtain ⟨y1, y2, y3⟩ := k4 q m3
    have hqq : q ≠ q3 := fun e => hq3 (by rw [← e]; exact m3)
    have k5 : keeps [] S ow S5 (un (un ow q d) q3 d) := fun x hx => by
      obtain ⟨x1, x2, x3⟩ := (k3.trans k4) x hx
      have hx3 : x ≠ q3 := fun z => hq3 (by rw [← z]; exact (k3 x hx).1)
      exact ⟨by rw [e5]; exact x1, x2, fun hc => by rw [e5, set_ne hx3]; exact x3 hc⟩
    refine to_end (l := l) k5 hq (by rw [e5]; exact y1) (y2.trans un_at) (by rw [e5, set_ne hqq]; exact (y3 List.not_mem_nil).trans e3') (by rw [e5]; exact hr) un_at (by rw [e5]; exact set_at) hl (fun i x hx => ?_) next
    have hi := lt_len hx
    unfold va_cpy
    rw [if_pos (show 0 ≤ i ∧ i < 0 + l.length by omega), Nat.zero_add, Nat.sub_zero]
    exact hch i x hx
end TOS
