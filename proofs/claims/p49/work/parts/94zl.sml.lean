/-! short texts: builders of any colour, little room *(pure)* -/
section SML
variable {adK : Nat → Nat} {S S1 : PS} {ow ow1 : Ow} {c d a b cap bc bs : Nat} {l m m2 : List Nat}
theorem gsl_s {cap need : Nat} (h2 : need ≤ 70) : gsl cap need ≤ 140 := by unfold gsl; split <;> omega
theorem sb_txs {post : Nat → PS → Prop} (h : sb S ow c a cap l) (hc : 32 ≠ c) (ht : txt adK S ow b m) (hn : l.length + m.length ≤ 70) (h1 : 1 ≤ bc) (h2 : 140 ≤ bs) (next : ∀ S1 ow1 cap1, keeps [c] S ow S1 ow1 → sb S1 ow1 c a cap1 (l ++ m) → post a S1) : f_J4_append_15ec4_u adK S a b bc bs post := by
  rcases ht with ⟨d, e, h0⟩ | ⟨k, hk, rfl, rfl⟩
  · exact Or.inr (sb_str h h0 (by rw [e]; exact hc) (by omega) (Nat.le_trans gk_1 h1) (Nat.le_trans (gsl_s hn) h2) (fun S1 ow1 k1 s1 => next S1 ow1 _ k1 s1))
  · exact Or.inl (sb_cst h hk (by omega) (Nat.le_trans gk_1 h1) (Nat.le_trans (gsl_s hn) h2) (fun S1 ow1 k1 s1 => next S1 ow1 _ k1 s1))
theorem sb_nms {w : Nat} {post : Nat → PS → Prop} (h : sb S ow c a cap l) (hw : w < 100000000) (hn : l.length + (dg w).length ≤ 70) (h1 : 1 ≤ bc) (h2 : 140 ≤ bs) (next : ∀ S1 ow1 cap1, keeps [c] S ow S1 ow1 → sb S1 ow1 c a cap1 (l ++ dg w) → post a S1) : f_J4_append_bf812 S a (nI w) bc bs post :=
  sb_num h hw (by omega) (Nat.le_trans gk_1 h1) (Nat.le_trans (gsl_s hn) h2) (fun S1 ow1 k1 s1 => next S1 ow1 _ k1 s1)
theorem sb_tos {post : Nat → PS → Prop} (h : sb S ow c a cap l) (h1 : 2 ≤ bc) (h2 : 80 ≤ bs) (hl : l.length ≤ 70) (next : ∀ q S1 ow1, keeps [] S ow S1 ow1 → q ∉ S.1 → st S1 ow1 d q l → post q S1) : f_J4_toString_0e30d S a bc bs post := by
  unfold f_J4_toString_0e30d
  refine ⟨by omega, by omega, fun q hq => ?_⟩
  obtain ⟨S2, e2⟩ : ∃ S2, S2 = p_add S q (.inr (0, [.null, .int 0, .int 0, .int 0])) := ⟨_, rfl⟩
  rw [← e2]
  have k2 : keeps [] S ow S2 (un ow q d) := by rw [e2]; exact keeps_add hq
  have hs2 := sb_fr h k2 List.not_mem_nil
  have hs0 := hs2
  have hq2 : q ∈ S2.1 := by rw [e2]; exact List.mem_append_right _ (List.mem_singleton.mpr rfl)
  have eq2 : S2.2 q = .inr (0, [.null, .int 0, .int 0, .int 0]) := by rw [e2]; exact add_at
  obtain ⟨ba, mm, f, ha, hba, hne, oa, oba, ea, eba, hlen, h16, h1000, hch, hfit⟩ := hs2
  have hbq : ba ≠ q := fun e => by rw [e, eq2] at eba; cases eba
  refine ⟨bc - 1, bs - 4, Nat.le_refl _, Nat.le_refl _, ?_⟩
  unfold f_J0_init_81219_p
  refine ⟨bc - 1, bs - 4, Nat.le_refl _, Nat.le_refl _, ?_⟩
  unfold f_J0_init_db425_p
  rw [sb_O hs0]
  unfold f_J5_getValue_6d5f1
  rw [gR_eq ha ea rfl]
  try dsimp only
  rw [sb_O hs0, sb_len hs0]
  try dsimp only
  rw [sb_O hs0]
  unfold f_J5_isLatin1_aae02
  rw [if_neg (by decide), gI_eq ha ea rfl, if_pos rfl, nZ1]
  try dsimp only
  rw [if_neg (by decide)]
  refine pV_to hq2 eq2 (by show 1 < 4; decide) rfl (fun S3 c3 m3 e3 => ?_)
  have k3 : keeps [] S ow S3 (un ow q d) := fun x hx => by
    obtain ⟨x1, x2, x3⟩ := k2 x hx
    exact ⟨by rw [c3.1]; exact x1, x2, fun hc => (c3.2 x (fun z => hq (by rw [← z]; exact hx))).trans (x3 hc)⟩
  have hb3 : ba ∈ S3.1 := by rw [c3.1]; exact hba
  have eb3 : S3.2 ba = .inl (1, cap, .inl f) := (c3.2 _ hbq).trans eba
  have e3' : S3.2 q = .inr (0, [.null, .int 0, .int 0, .int 0]) := e3
  refine ⟨bc - 1, bs - 4, Nat.le_refl _, Nat.le_refl _, ?_⟩
  unfold f_J7_copyOfRange_39247
  rw [if_pos rfl, lE_eq hb3 eb3 (by decide)]
  by_cases hc : l.length = cap
  · rw [if_pos (by rw [hc])]
    refine ⟨hb3, cap, f, eb3, fun i _ => hfit i, by omega, by omega, fun q3 hq3 => ?_⟩
    obtain ⟨S4, e4⟩ : ∃ S4, S4 = p_add S3 q3 (.inl (1, cap, .inl f)) := ⟨_, rfl⟩
    rw [← e4]
    have k4 : keeps [] S3 (un ow q d) S4 (un (un ow q d) q3 d) := by rw [e4]; exact keeps_add hq3
    have hr : q3 ∈ S4.1 := by rw [e4]; exact List.mem_append_right _ (List.mem_singleton.mpr rfl)
    have er : S4.2 q3 = .inl (1, cap, .inl f) := by rw [e4]; exact add_at
    obtain ⟨y1, y2, y3⟩ := k4 q m3
    refine ⟨hr, ⟨cap, f, er⟩, ?_⟩
    exact to_end (l := l) (k3.trans k4) hq y1 (y2.trans un_at) ((y3 List.not_mem_nil).trans e3') hr un_at (by rw [hc]; exact er) (by omega) hch next
  · rw [if_neg (fun e => hc ((nI_eq (by omega) (by omega)).mp e))]
    unfold f_J7_copyOfRange_39247_J10
    refine ⟨bc - 1, bs - 4, Nat.le_refl _, Nat.le_refl _, ?_⟩
    unfold f_J7_copyOfRangeByte_39247 f_J7_checkLength_df160
    rw [if_pos (show (0 : Int32) ≤ nI l.length from nI_le (a := 0) (Nat.zero_le _) (by omega))]
    try dsimp only
    have cl : (nI l.length).toNatClampNeg = l.length := nI_clamp (by omega)
    rw [Int32.sub_zero]
    refine ⟨nI_nlt (a := l.length) (b := 0) (Nat.zero_le _) (by omega), by rw [cl]; omega, by omega, by rw [cl]; omega, fun q3 hq3 => ?_⟩
    rw [cl]
    obtain ⟨S4, e4⟩ : ∃ S4, S4 = p_add S3 q3 (.inl (1, l.length, .inl (fun _ => 0))) := ⟨_, rfl⟩
    rw [← e4]
    have k4 : keeps [] S3 (un ow q d) S4 (un (un ow q d) q3 d) := by rw [e4]; exact keeps_add hq3
    have hr : q3 ∈ S4.1 := by rw [e4]; exact List.mem_append_right _ (List.mem_singleton.mpr rfl)
    have er : S4.2 q3 = .inl (1, l.length, .inl (fun _ => 0)) := by rw [e4]; exact add_at
    obtain ⟨b1, b2, b3⟩ := k4 ba hb3
    have eb4 := (b3 List.not_mem_nil).trans eb3
    rw [lE_eq b1 eb4 (by decide), Int32.sub_zero, if_pos (nI_lt (show l.length < cap by omega) (by omega))]
    have c0 : (0 : Int32).toNatClampNeg = 0 := by decide
    unfold cpB
    rw [c0, cl]
    refine ⟨b1, hr, by decide, by decide, nI_nlt (a := l.length) (b := 0) (Nat.zero_le _) (by omega), _, _, f, _, eb4, er, by omega, by omega, fun i _ => hfit _, ?_⟩
    obtain ⟨S5, e5⟩ : ∃ S5, S5 = p_set S4 q3 (.inl (1, l.length, .inl (va_cpy f (fun _ => 0) 0 0 l.length))) := ⟨_, rfl⟩
    rw [← e5]
    obtain ⟨y1, y2, y3⟩ := k4 q m3
    have hqq : q ≠ q3 := fun e => hq3 (by rw [← e]; exact m3)
    have k5 : keeps [] S ow S5 (un (un ow q d) q3 d) := fun x hx => by
      obtain ⟨x1, x2, x3⟩ := (k3.trans k4) x hx
      have hx3 : x ≠ q3 := fun z => hq3 (by rw [← z]; exact (k3 x hx).1)
      exact ⟨by rw [e5]; exact x1, x2, fun hc => by rw [e5, set_ne hx3]; exact x3 hc⟩
    refine to_end (l := l) k5 hq (by rw [e5]; exact y1) (y2.trans un_at) (by rw [e5, set_ne hqq]; exact (y3 List.not_mem_nil).trans e3') (by rw [e5]; exact hr) un_at (by rw [e5]; exact set_at) (by omega) (fun i x hx => ?_) next
    have hi := lt_len hx
    unfold va_cpy
    rw [if_pos (show 0 ≤ i ∧ i < 0 + l.length by omega), Nat.zero_add, Nat.sub_zero]
    exact hch i x hx
theorem sb_nwc {c : Nat} {kk : Nat → PS → Nat → Nat → Prop} (h1 : 2 ≤ bc) (h2 : 20 ≤ bs) (next : ∀ q S1 ow1, keeps [c] S ow S1 ow1 → sb S1 ow1 c q 16 [] → kk q S1 (bc - 1 - 1) (bs - 4 - 16)) : nO S 1 [.null, .int 0, .int 0, .int 0] 4 bc bs fun q1 S2 bc3 bs4 => ∃ mc6 ms6 : Nat, mc6 ≤ bc3 ∧ ms6 ≤ bs4 ∧ (f_J4_init_da8c8 S2 q1 mc6 ms6 fun S5 => kk q1 S5 (bc3 - mc6) (bs4 - ms6)) := by
  refine ⟨by omega, by omega, fun q hq => ⟨1, 16, by omega, by omega, ?_⟩⟩
  obtain ⟨S2, e2⟩ : ∃ S2, S2 = p_add S q (.inr (1, [.null, .int 0, .int 0, .int 0])) := ⟨_, rfl⟩
  rw [← e2]
  have k2 : keeps [] S ow S2 (un ow q c) := by rw [e2]; exact keeps_add hq
  have hq2 : q ∈ S2.1 := by rw [e2]; exact List.mem_append_right _ (List.mem_singleton.mpr rfl)
  have eq2 : S2.2 q = .inr (1, [.null, .int 0, .int 0, .int 0]) := by rw [e2]; exact add_at
  refine i_sb (ow := un ow q c) (c := c) ⟨hq2, un_at, eq2, List.nodup_cons.mpr ⟨List.not_mem_nil, List.nodup_nil⟩, fun p hp => (List.not_mem_nil hp).elim⟩ (Nat.le_refl _) (Nat.le_refl _) (fun S3 ow3 k3 s3 => ?_)
  exact next q S3 ow3 ((k2.mono (fun c hc => (List.not_mem_nil hc).elim)).trans k3) s3
/-- a new builder, a text appended -/
theorem l_nb {K : PS → Nat → Nat → Nat → Prop} (hc : 32 ≠ c) (ht : txt adK S ow b m) (hm : m.length ≤ 70) (h1 : 3 ≤ bc) (h2 : 160 ≤ bs) (next : ∀ S1 ow1 u cap bc1 bs1, keeps [c] S ow S1 ow1 → sb S1 ow1 c u cap m → bc ≤ bc1 + 3 → bs ≤ bs1 + 160 → K S1 bc1 bs1 u) : nO S 1 [.null, .int 0, .int 0, .int 0] 4 bc bs fun q1 S2 bc3 bs4 => ∃ mc6 ms6 : Nat, mc6 ≤ bc3 ∧ ms6 ≤ bs4 ∧ (f_J4_init_da8c8 S2 q1 mc6 ms6 fun S5 => isO S5 q1 1 (∃ mc9 ms9 : Nat, mc9 ≤ (bc3 - mc6) ∧ ms9 ≤ (bs4 - ms6) ∧ (f_J4_append_15ec4_u adK S5 q1 b mc9 ms9 fun v10 S8 => K S8 ((bc3 - mc6) - mc9) ((bs4 - ms6) - ms9) v10))) := by
  refine sb_nwc (c := c) (ow := ow) (kk := fun q1 S5 b5 s5 => isO S5 q1 1 (∃ mc9 ms9 : Nat, mc9 ≤ b5 ∧ ms9 ≤ s5 ∧ (f_J4_append_15ec4_u adK S5 q1 b mc9 ms9 fun v10 S8 => K S8 (b5 - mc9) (s5 - ms9) v10))) (by omega) (by omega) (fun u S1 ow1 k1 s1 => ?_)
  try dsimp only
  rw [sb_O s1]
  refine ⟨1, 140, by omega, by omega, sb_txs s1 hc (txt_fr ht k1 (fun z => hc (List.mem_singleton.mp z))) (by simp only [List.length_nil]; omega) (Nat.le_refl _) (Nat.le_refl _) (fun S2 ow2 c2 k2 s2 => ?_)⟩
  rw [List.nil_append] at s2
  exact next S2 ow2 u c2 _ _ (k1.trans k2) s2 (by omega) (by omega)
/-- a text appended, and the whole made a text -/
theorem l_app {K : PS → Nat → Nat → Nat → Prop} {t0 t1 : Nat} (hs : sb S ow c t1 cap m) (hc : 32 ≠ c) (ht : txt adK S ow t0 m2) (hn : m.length + m2.length ≤ 70) (h1 : 3 ≤ bc) (h2 : 220 ≤ bs) (next : ∀ S1 ow1 u bc1 bs1, keeps [c] S ow S1 ow1 → txt adK S1 ow1 u (m ++ m2) → bc ≤ bc1 + 3 → bs ≤ bs1 + 220 → K S1 bc1 bs1 u) : isO S t1 1 (∃ mc2 ms2 : Nat, mc2 ≤ bc ∧ ms2 ≤ bs ∧ (f_J4_append_15ec4_u adK S t1 t0 mc2 ms2 fun v3 S1 => isO S1 v3 1 (∃ mc5 ms5 : Nat, mc5 ≤ (bc - mc2) ∧ ms5 ≤ (bs - ms2) ∧ (f_J4_toString_0e30d S1 v3 mc5 ms5 fun v6 S4 => K S4 ((bc - mc2) - mc5) ((bs - ms2) - ms5) v6)))) := by
  rw [sb_O hs]
  refine ⟨1, 140, by omega, by omega, sb_txs hs hc ht hn (Nat.le_refl _) (Nat.le_refl _) (fun S1 ow1 c1 k1 s1 => ?_)⟩
  rw [sb_O s1]
  refine ⟨2, 80, by omega, by omega, sb_tos (d := 32) s1 (Nat.le_refl _) (Nat.le_refl _) (by rw [List.length_append]; exact hn) (fun q6 S6 ow6 k6 n6 s6 => ?_)⟩
  exact next S6 ow6 q6 _ _ (k1.trans (k6.mono (fun c hc => (List.not_mem_nil hc).elim))) (Or.inl ⟨32, rfl, s6⟩) (by omega) (by omega)
/-- the law's piece for one household: its digit, or nothing, behind a text *(the outer builder: 31; the inner one: 33)* -/
theorem l_dig {x y : Int32} {w : Nat} {K : PS → Nat → Nat → Nat → Nat → Prop} (hw : w < 10) (ht : txt adK S ow b m) (hm : m.length ≤ 60) (h1 : 20 ≤ bc) (h2 : 1000 ≤ bs) (next : ∀ S1 ow1 u t0 cap bc1 bs1, keeps [31, 33] S ow S1 ow1 → sb S1 ow1 31 u cap m → txt adK S1 ow1 t0 (if x = y then [48 + w] else []) → bc ≤ bc1 + 15 → bs ≤ bs1 + 700 → K S1 bc1 bs1 t0 u) :
    nO S 1 [.null, .int 0, .int 0, .int 0] 4 bc bs fun q2 S3 bc4 bs5 => ∃ mc7 ms7 : Nat, mc7 ≤ bc4 ∧ ms7 ≤ bs5 ∧ (f_J4_init_da8c8 S3 q2 mc7 ms7 fun S6 => isO S6 q2 1 (∃ mc10 ms10 : Nat, mc10 ≤ (bc4 - mc7) ∧ ms10 ≤ (bs5 - ms7) ∧ (f_J4_append_15ec4_u adK S6 q2 b mc10 ms10 fun v11 S9 =>
      if x = y then
        nO S9 1 [.null, .int 0, .int 0, .int 0] 4 ((bc4 - mc7) - mc10) ((bs5 - ms7) - ms10) fun q13 S14 bc15 bs16 => ∃ mc18 ms18 : Nat, mc18 ≤ bc15 ∧ ms18 ≤ bs16 ∧ (f_J4_init_da8c8 S14 q13 mc18 ms18 fun S17 => isO S17 q13 1 (∃ mc21 ms21 : Nat, mc21 ≤ (bc15 - mc18) ∧ ms21 ≤ (bs16 - ms18) ∧ (f_J4_append_15ec4_u adK S17 q13 (adK 0) mc21 ms21 fun v22 S20 => isO S20 v22 1 (∃ mc24 ms24 : Nat, mc24 ≤ ((bc15 - mc18) - mc21) ∧ ms24 ≤ ((bs16 - ms18) - ms21) ∧ (f_J4_append_bf812 S20 v22 (nI w) mc24 ms24 fun v25 S23 => isO S23 v25 1 (∃ mc27 ms27 : Nat, mc27 ≤ (((bc15 - mc18) - mc21) - mc24) ∧ ms27 ≤ (((bs16 - ms18) - ms21) - ms24) ∧ (f_J4_toString_0e30d S23 v25 mc27 ms27 fun v28 S26 => K S26 ((((bc15 - mc18) - mc21) - mc24) - mc27) ((((bs16 - ms18) - ms21) - ms24) - ms27) v28 v11)))))))
      else
        K S9 ((bc4 - mc7) - mc10) ((bs5 - ms7) - ms10) (adK 0) v11))) := by
  refine l_nb (c := 31) (ow := ow) (m := m) (K := fun S9 b9 s9 v11 => if x = y then
        nO S9 1 [.null, .int 0, .int 0, .int 0] 4 b9 s9 fun q13 S14 bc15 bs16 => ∃ mc18 ms18 : Nat, mc18 ≤ bc15 ∧ ms18 ≤ bs16 ∧ (f_J4_init_da8c8 S14 q13 mc18 ms18 fun S17 => isO S17 q13 1 (∃ mc21 ms21 : Nat, mc21 ≤ (bc15 - mc18) ∧ ms21 ≤ (bs16 - ms18) ∧ (f_J4_append_15ec4_u adK S17 q13 (adK 0) mc21 ms21 fun v22 S20 => isO S20 v22 1 (∃ mc24 ms24 : Nat, mc24 ≤ ((bc15 - mc18) - mc21) ∧ ms24 ≤ ((bs16 - ms18) - ms21) ∧ (f_J4_append_bf812 S20 v22 (nI w) mc24 ms24 fun v25 S23 => isO S23 v25 1 (∃ mc27 ms27 : Nat, mc27 ≤ (((bc15 - mc18) - mc21) - mc24) ∧ ms27 ≤ (((bs16 - ms18) - ms21) - ms24) ∧ (f_J4_toString_0e30d S23 v25 mc27 ms27 fun v28 S26 => K S26 ((((bc15 - mc18) - mc21) - mc24) - mc27) ((((bs16 - ms18) - ms21) - ms24) - ms27) v28 v11)))))))
      else
        K S9 b9 s9 (adK 0) v11) (by decide) ht (by omega) (by omega) (by omega) (fun S1 ow1 u cap bc1 bs1 k1 s1 b1 b2 => ?_)
  have e31 : ∀ c, c ∈ ([31] : List Nat) → c ∈ ([31, 33] : List Nat) := by decide
  have e33 : ∀ c, c ∈ ([33] : List Nat) → c ∈ ([31, 33] : List Nat) := by decide
  try dsimp only
  by_cases hxy : x = y
  · rw [if_pos hxy]
    rw [if_pos hxy] at next
    refine l_nb (c := 33) (ow := ow1) (m := []) (K := fun S20 b20 s20 v22 => isO S20 v22 1 (∃ mc24 ms24 : Nat, mc24 ≤ b20 ∧ ms24 ≤ s20 ∧ (f_J4_append_bf812 S20 v22 (nI w) mc24 ms24 fun v25 S23 => isO S23 v25 1 (∃ mc27 ms27 : Nat, mc27 ≤ (b20 - mc24) ∧ ms27 ≤ (s20 - ms24) ∧ (f_J4_toString_0e30d S23 v25 mc27 ms27 fun v28 S26 => K S26 ((b20 - mc24) - mc27) ((s20 - ms24) - ms27) v28 u))))) (by decide) (Or.inr ⟨0, by omega, rfl, rfl⟩) (Nat.zero_le _) (by omega) (by omega) (fun S2 ow2 u2 cap2 bc2 bs2 k2 s2 b3 b4 => ?_)
    try dsimp only
    have ed : (dg w).length = 1 := by rw [dg_1 hw]; rfl
    rw [sb_O s2]
    refine ⟨1, 140, by omega, by omega, sb_nms s2 (by omega) (by rw [ed]; decide) (Nat.le_refl _) (Nat.le_refl _) (fun S3 ow3 cap3 k3 s3 => ?_)⟩
    rw [List.nil_append] at s3
    rw [sb_O s3]
    refine ⟨2, 80, by omega, by omega, sb_tos (d := 32) s3 (Nat.le_refl _) (Nat.le_refl _) (by rw [ed]; decide) (fun q6 S6 ow6 k6 n6 s6 => ?_)⟩
    have k36 := (k2.trans k3).trans (k6.mono (D := [33]) (fun c hc => (List.not_mem_nil hc).elim))
    rw [dg_1 hw] at s6
    exact next S6 ow6 u q6 cap _ _ ((k1.mono e31).trans (k36.mono e33)) (sb_fr s1 k36 (by decide)) (Or.inl ⟨32, rfl, s6⟩) (by omega) (by omega)
  · rw [if_neg hxy]
    rw [if_neg hxy] at next
    exact next S1 ow1 u (adK 0) cap _ _ (k1.mono e31) s1 (Or.inr ⟨0, by omega, rfl, rfl⟩) (by omega) (by omega)
end SML
