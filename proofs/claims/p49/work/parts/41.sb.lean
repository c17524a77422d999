/-! texts being built: letters, lengths, growth, numbers told in digits -/
theorem shr0 {s : Nat} (hs : s < 2 ^ 31) : nI s >>> ((0 : Int32) &&& 31) = nI s := by
  have h := b_shr (s := s) (k := 0) hs (by omega)
  rw [Nat.pow_zero, Nat.div_one] at h
  exact h
theorem shl0 {s : Nat} (hs : s < 2 ^ 31) : nI s <<< ((0 : Int32) &&& 31) = nI s := by
  have h := pk_shlN (n := s) ((0 : Int32) &&& 31) 0 (by decide) (by omega)
  rw [Nat.pow_zero, Nat.mul_one] at h
  exact h
theorem b8 : ∀ q, q < 128 → (nI q).toInt8.toInt32 = nI q := by decide
theorem b8n {q : Nat} (h : q < 128) : vp_nar .byte (nI q) = nI q := by rw [vp_nar_byte, b8 q h]
theorem b8f : ∀ q, q < 128 → fits .byte (.int (nI q)) = true := by decide
theorem c16 {q : Nat} (h : q < 65536) : ((nI q).toUInt32 % 65536).toInt32 = nI q := by
  rw [pk_char, pk_tn (by omega), Nat.mod_eq_of_lt h]
theorem c16n {q : Nat} (h : q < 65536) : vp_nar .char (nI q) = nI q := by
  rw [← c16 h]; exact pk_vc _
theorem nZc {q : Nat} (h : q < 65536) {P : Prop} : nZ .char (nI q) P = P := propext ⟨fun z => z.2, fun z => ⟨(pk_charN h).1, z⟩⟩
theorem a255 {q : Nat} (h : q < 128) : nI q &&& 255 = nI q := by
  rw [pk_andN (by omega) (k := 8) (by decide), Nat.mod_eq_of_lt (by omega)]
def gro (cap need : Nat) : Nat := if need ≤ cap then cap else max need (2 * cap + 2)
def gk (cap need : Nat) : Nat := if need ≤ cap then 0 else 1
def gsl (cap need : Nat) : Nat := if need ≤ cap then 0 else max need (2 * cap + 2)
theorem gro_ge (cap need : Nat) : cap ≤ gro cap need ∧ need ≤ gro cap need := by unfold gro; split <;> omega
theorem gro_b {cap need : Nat} (h : need ≤ 500) (h2 : cap ≤ 1000) : gro cap need ≤ 1000 := by unfold gro; split <;> omega
theorem gk_b {cap need : Nat} (h : 16 ≤ cap) : 16 * gk cap need ≤ gro cap need - cap := by unfold gk gro; split <;> omega
theorem gsl_b {cap need : Nat} : gsl cap need ≤ 2 * (gro cap need - cap) := by unfold gsl gro; split <;> omega
section SB
variable {S : PS} {ow : Ow} {c a cap : Nat} {l : List Nat}
theorem sb_O (h : sb S ow c a cap l) {P : Prop} : isO S a 1 P = P := by
  obtain ⟨ba, m, f, ha, hba, hne, oa, oba, ea, eba, -⟩ := h
  exact isO_eq ha ea
theorem sb_len {post : Int32 → PS → Prop} (h : sb S ow c a cap l) : f_J4_length_8abf5 S a post = post (nI l.length) S := by
  obtain ⟨ba, m, f, ha, hba, hne, oa, oba, ea, eba, -⟩ := h
  unfold f_J4_length_8abf5 f_J5_length_8abf5
  rw [isO_eq ha ea, gI_eq ha ea rfl]
theorem sb_cA {i x : Nat} {post : Int32 → PS → Prop} (h : sb S ow c a cap l) (hx : l[i]? = some x) : f_J4_charAt_5068e S a (nI i) post = post (nI x) S := by
  obtain ⟨ba, m, f, ha, hba, hne, oa, oba, ea, eba, hlen, h16, h1000, hch, hfit⟩ := h
  have hi := lt_len hx
  obtain ⟨x1, x2⟩ := hch i x hx
  unfold f_J4_charAt_5068e f_J5_charAt_5068e f_J0_checkIndex_df160 f_J3_checkIndex_8e157
  rw [isO_eq ha ea, gI_eq ha ea rfl, gR_eq ha ea rfl, gI_eq ha ea rfl, lE_eq hba eba (by decide), shr0 (by omega), nI_min (by omega) (by omega), Nat.min_eq_right hlen]
  apply propext
  constructor
  · intro z
    have z := z none
    rw [if_neg (nI_pos (by omega)), if_pos (nI_lt hi (by omega))] at z
    dsimp only at z
    rw [if_pos rfl, aI_nI hba eba (show i < cap by omega) (by omega), x2, a255 x1, c16 (by omega), nZc (by omega)] at z
    try dsimp only at z
    rw [nZc (by omega)] at z
    exact z
  · intro z o1
    rw [if_neg (nI_pos (by omega)), if_pos (nI_lt hi (by omega))]
    dsimp only
    rw [if_pos rfl, aI_nI hba eba (show i < cap by omega) (by omega), x2, a255 x1, c16 (by omega), nZc (by omega)]
    try dsimp only
    rw [nZc (by omega)]
    exact z
theorem sb_ens {need bc bs : Nat} {post : PS → Prop} (h : sb S ow c a cap l) (hn : need ≤ 500) (h1 : gk cap need ≤ bc) (h2 : gsl cap need ≤ bs) (next : ∀ S1 ow1, keeps [c] S ow S1 ow1 → sb S1 ow1 c a (gro cap need) l → post S1) : f_J5_ensureCapacityInternal_d00df S a (nI need) bc bs post := by
  have h0 := h
  obtain ⟨ba, m, f, ha, hba, hne, oa, oba, ea, eba, hlen, h16, h1000, hch, hfit⟩ := h
  unfold f_J5_ensureCapacityInternal_d00df
  rw [gR_eq ha ea rfl, lE_eq hba eba (by decide), gI_eq ha ea rfl, shr0 (by omega)]
  by_cases e : need ≤ cap
  · have hle : nI need - nI cap ≤ 0 := by
      by_cases e2 : need = cap
      · rw [e2, Int32.sub_self]; exact Int32.le_refl _
      · exact Int32.le_of_lt (pk_sneg (by omega) (by omega))
    rw [if_pos hle]
    have e3 : gro cap need = cap := if_pos e
    exact next S ow keeps.refl (by rw [e3]; exact h0)
  · obtain ⟨N, hN⟩ : ∃ N, N = gro cap need := ⟨_, rfl⟩
    have hN1 : N = max need (2 * cap + 2) := by rw [hN]; exact if_neg e
    have hk : gk cap need = 1 := if_neg e
    have hs : gsl cap need = N := by rw [hN1]; exact if_neg e
    have hb := gro_b hn h1000
    rw [pk_sub (by omega), if_neg (nI_nle (by omega) (by omega)), gR_eq ha ea rfl, isO_eq ha ea]
    unfold f_J5_newCapacity_0f7a4 f_J8_newLength_cabcc
    rw [gR_eq ha ea rfl, lE_eq hba eba (by decide), gI_eq ha ea rfl, gI_eq ha ea rfl, shl0 (by omega), pk_sub (by omega), show (2 : Int32) <<< ((0 : Int32) &&& 31) = nI 2 by decide, nI_add, nI_max (by omega) (by omega), nI_add, show cap + max (need - cap) (cap + 2) = N by omega, if_neg (nI_nle (by omega) (by omega)), if_neg (show ¬ (2147483639 : Int32) < nI N from nI_nlt (b := N) (a := 2147483639) (by omega) (by omega))]
    dsimp only
    rw [if_neg (show ¬ nI N = 2147483647 from fun z => by have := (nI_eq (a := N) (b := 2147483647) (by omega) (by omega)).mp z; omega), gI_eq ha ea rfl, shr0 (by omega), gI_eq ha ea rfl, shl0 (by omega)]
    refine ⟨1, N, by omega, by omega, ?_⟩
    unfold f_J7_copyOf_9075b
    rw [lE_eq hba eba (by decide), if_neg (show ¬ nI N = nI cap from fun z => by have := (nI_eq (a := N) (b := cap) (by omega) (by omega)).mp z; omega)]
    have hclN : (nI N).toNatClampNeg = N := nI_clamp (by omega)
    have hclc : (nI cap).toNatClampNeg = cap := nI_clamp (by omega)
    refine ⟨nI_pos (by omega), by rw [hclN]; omega, Nat.le_refl _, by rw [hclN]; exact Nat.le_refl _, fun q hq => ?_⟩
    rw [hclN]
    obtain ⟨S4, e4⟩ : ∃ S4, S4 = p_add S q (.inl (1, N, .inl (fun _ => 0))) := ⟨_, rfl⟩
    rw [← e4]
    have k4 : keeps [] S ow S4 (un ow q c) := by rw [e4]; exact keeps_add hq
    have hqa : a ≠ q := fun z => hq (by rw [← z]; exact ha)
    have hqb : ba ≠ q := fun z => hq (by rw [← z]; exact hba)
    have eba4 : S4.2 ba = .inl (1, cap, .inl f) := ((k4 ba hba).2.2 (by simp)).trans eba
    have ea4 : S4.2 a = .inr (1, [.ref ba, .int 0, .int m, .int (nI l.length)]) := ((k4 a ha).2.2 (by simp)).trans ea
    have hba4 := (k4 ba hba).1
    have ha4 := (k4 a ha).1
    have hq4 : q ∈ S4.1 := by rw [e4]; exact add_mem
    have eq4 : S4.2 q = .inl (1, N, .inl (fun _ => 0)) := by rw [e4]; exact add_at
    rw [lE_eq hba4 eba4 (by decide), if_neg (nI_nlt (by omega) (by omega))]
    refine ⟨hba4, hq4, by decide, by decide, nI_pos (by omega), cap, N, f, fun _ => 0, eba4, eq4, by rw [hclc]; show 0 + cap ≤ cap; omega, by rw [hclc]; show 0 + cap ≤ N; omega, fun i _ => hfit _, ?_⟩
    obtain ⟨g, hg⟩ : ∃ g : Nat → Int32, g = va_cpy f (fun _ => 0) (0 : Int32).toNatClampNeg (0 : Int32).toNatClampNeg (nI cap).toNatClampNeg := ⟨_, rfl⟩
    rw [← hg]
    obtain ⟨S8, e8⟩ : ∃ S8, S8 = p_set S4 q (.inl (1, N, .inl g)) := ⟨_, rfl⟩
    rw [← e8]
    have oq : un ow q c q = c := un_at
    have k8 : keeps [c] S4 (un ow q c) S8 (un ow q c) := by rw [e8]; exact keeps_set oq
    have ea8 : S8.2 a = .inr (1, [.ref ba, .int 0, .int m, .int (nI l.length)]) := by rw [e8, set_ne hqa]; exact ea4
    have eq8 : S8.2 q = .inl (1, N, .inl g) := by rw [e8]; exact set_at
    try dsimp only
    refine pV_to (by rw [e8]; exact ha4) ea8 (by show 0 < 4; decide) rfl (fun S9 c9 m9 e9 => ?_)
    have oa4 : un ow q c a = c := (un_ne hqa).trans oa
    have hg0 : ∀ i, g i = if i < cap then f i else 0 := fun i => by
      rw [hg, hclc, show (0 : Int32).toNatClampNeg = 0 from rfl]
      by_cases q1 : i < cap
      · rw [pk_cpy_in (by omega) (by omega), if_pos q1, show 0 + (i - 0) = i by omega]
      · rw [pk_cpy_out (by omega), if_neg q1]
    rw [← hN] at next
    refine next S9 (un ow q c) ((keeps_nil k4).trans (k8.trans (keeps_1 c9 oa4))) ⟨q, m, g, m9, by rw [c9.1, e8]; exact hq4, hqa, oa4, oq, e9, by rw [c9.2 q (Ne.symm hqa)]; exact eq8, by omega, by omega, by omega, fun i x hx => ?_, fun i => ?_⟩
    · have := lt_len hx
      rw [hg0, if_pos (by omega)]; exact hch i x hx
    · rw [hg0]
      split
      · exact hfit i
      · decide
theorem ap_at {l : List Nat} {x y i : Nat} (h : (l ++ [x])[i]? = some y) : (i < l.length ∧ l[i]? = some y) ∨ (i = l.length ∧ y = x) := by
  rcases Nat.lt_trichotomy i l.length with q | q | q
  · rw [List.getElem?_append_left q] at h; exact Or.inl ⟨q, h⟩
  · rw [q, List.getElem?_append_right (Nat.le_refl _), Nat.sub_self] at h
    exact Or.inr ⟨q, by cases h; rfl⟩
  · rw [List.getElem?_eq_none (by rw [List.length_append]; show l.length + 1 ≤ i; omega)] at h; cases h
/-- a letter behind -/
theorem sb_put {x bc bs : Nat} {post : Nat → PS → Prop} (h : sb S ow c a cap l) (hx : x < 128) (hn : l.length + 1 ≤ 500) (h1 : gk cap (l.length + 1) ≤ bc) (h2 : gsl cap (l.length + 1) ≤ bs) (next : ∀ S1 ow1, keeps [c] S ow S1 ow1 → sb S1 ow1 c a (gro cap (l.length + 1)) (l ++ [x]) → post a S1) : f_J4_append_cf468 S a (nI x) bc bs post := by
  have h0 := h
  obtain ⟨ba, m, f, ha, hba, hne, oa, oba, ea, eba, hlen, h16, h1000, hch, hfit⟩ := h
  unfold f_J4_append_cf468
  rw [isO_eq ha ea]
  refine ⟨bc, bs, Nat.le_refl _, Nat.le_refl _, ?_⟩
  unfold f_J5_append_3fe6f
  rw [gI_eq ha ea rfl, isO_eq ha ea]
  refine ⟨bc, bs, Nat.le_refl _, Nat.le_refl _, ?_⟩
  rw [nI_1]
  refine sb_ens h0 hn h1 h2 (fun S1 ow1 k1 hs1 => ?_)
  have hge := gro_ge cap (l.length + 1)
  obtain ⟨ba1, m1, f1, ha1, hba1, hne1, oa1, oba1, ea1, eba1, hlen1, h161, h10001, hch1, hfit1⟩ := hs1
  rw [isO_eq ha1 ea1]
  unfold f_J5_isLatin1_aae02 f_J1_canEncode_fc78d
  rw [if_neg (by decide), gI_eq ha1 ea1 rfl, if_pos rfl, nZ1]
  try dsimp only
  rw [if_neg (by decide), if_neg (show ¬ (255 : Int32) < nI x from nI_nlt (b := x) (a := 255) (by omega) (by omega)), nZ1]
  try dsimp only
  rw [if_neg (by decide), gR_eq ha1 ea1 rfl, gI_eq ha1 ea1 rfl, nI_1]
  refine pV_to ha1 ea1 (by show 3 < 4; decide) rfl (fun S3 c3 m3 e3 => ?_)
  have eb3 : S3.2 ba1 = .inl (1, gro cap (l.length + 1), .inl f1) := (c3.2 _ (Ne.symm hne1)).trans eba1
  have hb3 : ba1 ∈ S3.1 := by rw [c3.1]; exact hba1
  rw [sI_nI hb3 eb3 (show l.length < gro cap (l.length + 1) by omega) (by omega), b8 x hx, b8n hx]
  obtain ⟨S4, e4⟩ : ∃ S4, S4 = p_set S3 ba1 (.inl (1, gro cap (l.length + 1), .inl (upd f1 l.length (nI x)))) := ⟨_, rfl⟩
  rw [← e4]
  have k4 : keeps [c] S3 ow1 S4 ow1 := by rw [e4]; exact keeps_set oba1
  refine next S4 ow1 ((k1.trans (keeps_1 c3 oa1)).trans k4) ⟨ba1, m1, upd f1 l.length (nI x), by rw [e4]; exact m3, by rw [e4]; exact hb3, hne1, oa1, oba1, ?_, by rw [e4]; exact set_at, by rw [List.length_append]; show l.length + 1 ≤ _; omega, h161, h10001, fun i y hy => ?_, fun i => ?_⟩
  · rw [e4, set_ne hne1, e3, List.length_append]; rfl
  · rcases ap_at hy with ⟨q1, q2⟩ | ⟨q1, q2⟩
    · rw [pk_un (by omega)]; exact hch1 i y q2
    · rw [q1, q2, pk_us]; exact ⟨hx, rfl⟩
  · by_cases q : i = l.length
    · rw [q, pk_us]; exact b8f x hx
    · rw [pk_un q]; exact hfit1 i
/-- nothing is left -/
theorem sb_clr {bc bs : Nat} {post : PS → Prop} (h : sb S ow c a cap l) (next : ∀ S1, keeps [c] S ow S1 ow → sb S1 ow c a cap [] → post S1) : f_J4_setLength_d00df S a 0 bc bs post := by
  have h0 := h
  obtain ⟨ba, m, f, ha, hba, hne, oa, oba, ea, eba, hlen, h16, h1000, hch, hfit⟩ := h
  unfold f_J4_setLength_d00df
  rw [isO_eq ha ea]
  refine ⟨bc, bs, Nat.le_refl _, Nat.le_refl _, ?_⟩
  unfold f_J5_setLength_d00df
  rw [if_pos (by decide), isO_eq ha ea]
  refine ⟨bc, bs, Nat.le_refl _, Nat.le_refl _, ?_⟩
  unfold f_J5_ensureCapacityInternal_d00df
  have hle : nI 0 - nI cap ≤ 0 := Int32.le_of_lt (pk_sneg (by omega) (by omega))
  rw [gR_eq ha ea rfl, lE_eq hba eba (by decide), gI_eq ha ea rfl, shr0 (by omega), if_pos (show (0 : Int32) - nI cap ≤ 0 from hle)]
  dsimp only
  rw [gI_eq ha ea rfl, if_pos (nI_pos' (by omega)), gI_eq ha ea rfl]
  have fin : ∀ (S2 : PS) (m2 : Int32), ch1 a S S2 → a ∈ S2.1 → S2.2 a = .inr (1, [.ref ba, .int 0, .int m2, .int (nI l.length)]) → f_J5_setLength_d00df_J76 post S2 (bc - bc) (bs - bs) a 0 := fun S2 m2 c2 m2' e2 => by
    unfold f_J5_setLength_d00df_J76
    refine pV_to m2' e2 (by show 3 < 4; decide) rfl (fun S3 c3 m3 e3 => ?_)
    have c23 := c2.trans c3
    exact next S3 (keeps_1 c23 oa) ⟨ba, m2, f, m3, by rw [c23.1]; exact hba, hne, oa, oba, e3, by rw [c23.2 _ (Ne.symm hne)]; exact eba, by show 0 ≤ cap; omega, h16, h1000, fun i y hy => (by cases hy), hfit⟩
  have fin2 : ∀ (S2 : PS) (m2 : Int32) (x y : Nat), ch1 a S S2 → a ∈ S2.1 → S2.2 a = .inr (1, [.ref ba, .int 0, .int m2, .int (nI l.length)]) → f_J5_setLength_d00df_J76 post S2 x y a 0 := fun S2 m2 x y c2 m2' e2 => fin S2 m2 c2 m2' e2
  by_cases e : nI l.length ≤ 0
  · rw [if_pos e]
    exact fin2 S m _ _ ⟨rfl, fun _ _ => rfl⟩ ha ea
  · rw [if_neg e]
    exact pV_to ha ea (by show 2 < 4; decide) rfl (fun S2 c2 m2 e2 => fin2 S2 1 _ _ c2 m2 e2)
end SB
/-! digits -/
def dg (n : Nat) : List Nat := if h : n < 10 then [48 + n] else dg (n / 10) ++ [48 + n % 10]
termination_by n
decreasing_by omega
theorem dg_1 {n : Nat} (h : n < 10) : dg n = [48 + n] := by rw [dg, dif_pos h]
theorem dg_s {n : Nat} (h : 10 ≤ n) : dg n = dg (n / 10) ++ [48 + n % 10] := by rw [dg, dif_neg (by omega)]
theorem dg_2 {n : Nat} (h : 10 ≤ n) (h2 : n < 100) : dg n = [48 + n / 10, 48 + n % 10] := by rw [dg_s h, dg_1 (by omega)]; rfl
theorem dg_h {n : Nat} (h : 100 ≤ n) : dg n = dg (n / 100) ++ [48 + n % 100 / 10, 48 + n % 100 % 10] := by
  rw [dg_s (by omega), dg_s (show 10 ≤ n / 10 by omega), List.append_assoc, show n / 10 / 10 = n / 100 by omega, show n / 10 % 10 = n % 100 / 10 by omega, show n % 10 = n % 100 % 10 by omega]
  rfl
theorem dg_lt : ∀ (f n : Nat), n < 10 ^ f → ∀ (i x : Nat), (dg n)[i]? = some x → x < 58 ∧ 48 ≤ x
  | 0, n, h, i, x, hx => by
    rw [dg_1 (by omega)] at hx
    cases i with
    | zero => cases hx; omega
    | succ i => cases hx
  | f + 1, n, h, i, x, hx => by
    by_cases e : n < 10
    · rw [dg_1 e] at hx
      cases i with
      | zero => cases hx; omega
      | succ i => cases hx
    · rw [dg_s (by omega)] at hx
      rcases ap_at hx with ⟨q1, q2⟩ | ⟨q1, q2⟩
      · exact dg_lt f (n / 10) (by rw [Nat.pow_succ] at h; omega) i x q2
      · omega
theorem dg_len : ∀ (i n : Nat), 1 ≤ i → n < 10 ^ i → (i = 1 ∨ 10 ^ (i - 1) ≤ n) → (dg n).length = i
  | 0, _, h, _, _ => by omega
  | 1, n, _, h, _ => by rw [dg_1 (by omega)]; rfl
  | i + 2, n, _, h, h2 => by
    have h3 : 10 ^ (i + 1) ≤ n := by rcases h2 with h2 | h2; omega; exact h2
    have h4 : 10 ^ (i + 1) = 10 ^ i * 10 := Nat.pow_succ ..
    have h5 : 10 ^ (i + 2) = 10 ^ (i + 1) * 10 := Nat.pow_succ ..
    have h6 := Nat.pow_pos (n := i) (show 0 < 10 by omega)
    rw [dg_s (by omega), List.length_append, dg_len (i + 1) (n / 10) (by omega) (by omega) (Or.inr (by rw [Nat.add_sub_cancel]; omega))]
    rfl
theorem nN_i {w : Nat} (h : w < 2 ^ 31) : (-nI w).toInt = -(w : Int) := by
  rw [Int32.toInt_neg, nI_toInt h]
  exact Int.bmod_eq_of_le (by omega) (by omega)
theorem nN_100 {w : Nat} (h : w < 2 ^ 31) : (-100 < -nI w) ↔ w < 100 := by
  rw [Int32.lt_iff_toInt_lt, nN_i h, show (-100 : Int32).toInt = -100 by decide]; omega
theorem nN_9 {w : Nat} (h : w < 2 ^ 31) : (-9 ≤ -nI w) ↔ w ≤ 9 := by
  rw [Int32.le_iff_toInt_le, nN_i h, show (-9 : Int32).toInt = -9 by decide]; omega
theorem nN_le {w x : Nat} (h : w < 2 ^ 31) (hx : x < 2 ^ 31) : (-nI w ≤ -nI x) ↔ x ≤ w := by
  rw [Int32.le_iff_toInt_le, nN_i h, nN_i hx]; omega
theorem nN_div {w : Nat} (h : w < 2 ^ 31) : -nI w / 100 = -nI (w / 100) := by
  apply Int32.toInt_inj.mp
  rw [Int32.toInt_div_of_ne_right _ _ (by decide), nN_i h, nN_i (by omega), show (100 : Int32).toInt = 100 by decide, Int.neg_tdiv]
  rfl
theorem nN_rem {w : Nat} : -nI (w / 100) * 100 - -nI w = nI (w % 100) := by
  rw [Int32.neg_mul, Int32.sub_eq_add_neg, Int32.neg_neg, Int32.add_comm, ← Int32.sub_eq_add_neg, show (100 : Int32) = nI 100 from rfl, pk_mul, pk_sub (by omega)]
  congr 1; omega
theorem nM1 {p : Nat} (h : 1 ≤ p) : nI p + (-1) = nI (p - 1) := by
  obtain ⟨q, rfl⟩ : ∃ q, p = q + 1 := ⟨p - 1, by omega⟩
  rw [pk_m1, Nat.add_sub_cancel]
theorem dgOn {j : Nat} (h : j < 100) : vp_nar .byte (dgO j) = nI (48 + j % 10) := b8n (by omega)
theorem dgTn {j : Nat} (h : j < 100) : vp_nar .byte (dgT j) = nI (48 + j / 10) := b8n (by omega)
theorem g_get {ba cap : Nat} {post : Int32 → PS → Prop} : ∀ (f w pos : Nat) (S : PS) (g : Nat → Int32), w < 10 ^ f → (dg w).length ≤ pos → pos ≤ cap → cap < 2 ^ 31 → w < 2 ^ 31 → ba ∈ S.1 → S.2 ba = .inl (1, cap, .inl g) → ∀ fuel, f < fuel → (∀ S1 g', ch1 ba S S1 → S1.2 ba = .inl (1, cap, .inl g') → ((∀ i, i < pos - (dg w).length ∨ pos ≤ i → g' i = g i) ∧ ∀ j x, (dg w)[j]? = some x → g' (pos - (dg w).length + j) = nI x) → post (nI (pos - (dg w).length)) S1) → f_J6_getChars_ba4f3_L22 post fuel S (-nI w) ba (nI pos) 0 := by
  intro f
  induction f with
  | zero =>
    intro w pos S g hw hl hp hcap hw31 hb eb fuel hf next
    obtain ⟨n, rfl⟩ : ∃ n, fuel = n + 1 := ⟨fuel - 1, by omega⟩
    have hw0 : w = 0 := by omega
    subst hw0
    have hl1 : (dg 0).length = 1 := by rw [dg_1 (by omega)]; rfl
    simp only [f_J6_getChars_ba4f3_L22]
    rw [if_pos ((nN_100 (by omega)).mpr (by omega))]
    unfold f_J6_getChars_ba4f3_J72 f_J6_getChars_ba4f3_J104
    rw [Int32.neg_neg, nI_clamp (by omega), nM1 (by omega)]
    refine ⟨vp_in_nI (by omega) (by omega), ?_⟩
    rw [sI_nI hb eb (show pos - 1 < cap by omega) (by omega), dgOn (by omega), if_pos ((nN_9 (by omega)).mpr (by omega)), if_pos rfl]
    rw [hl1] at next
    refine next _ _ ⟨rfl, fun q hq => set_ne hq⟩ set_at ⟨fun i hi => pk_un (by omega), fun j x hx => ?_⟩
    rw [dg_1 (by omega)] at hx
    cases j with
    | zero => cases hx; exact pk_us
    | succ j => cases hx
  | succ f ih =>
    intro w pos S g hw hl hp hcap hw31 hb eb fuel hf next
    obtain ⟨n, rfl⟩ : ∃ n, fuel = n + 1 := ⟨fuel - 1, by omega⟩
    simp only [f_J6_getChars_ba4f3_L22]
    by_cases h100 : w < 100
    · rw [if_pos ((nN_100 hw31).mpr h100)]
      unfold f_J6_getChars_ba4f3_J72 f_J6_getChars_ba4f3_J104
      rw [Int32.neg_neg, nI_clamp hw31]
      by_cases h10 : w < 10
      · have hl1 : (dg w).length = 1 := by rw [dg_1 h10]; rfl
        rw [nM1 (by omega)]
        refine ⟨vp_in_nI h100 (by omega), ?_⟩
        rw [sI_nI hb eb (show pos - 1 < cap by omega) (by omega), dgOn h100, if_pos ((nN_9 hw31).mpr (by omega)), if_pos rfl]
        rw [hl1] at next
        refine next _ _ ⟨rfl, fun q hq => set_ne hq⟩ set_at ⟨fun i hi => pk_un (by omega), fun j x hx => ?_⟩
        rw [dg_1 h10] at hx
        cases j with
        | zero => cases hx; rw [Nat.add_zero, pk_us, Nat.mod_eq_of_lt h10]
        | succ j => cases hx
      · have hl2 : (dg w).length = 2 := by rw [dg_2 (by omega) h100]; rfl
        rw [nM1 (by omega)]
        refine ⟨vp_in_nI h100 (by omega), ?_⟩
        rw [sI_nI hb eb (show pos - 1 < cap by omega) (by omega), dgOn h100, if_neg (fun z => h10 (by have := (nN_9 hw31).mp z; omega))]
        refine ⟨vp_in_nI h100 (by omega), ?_⟩
        rw [nM1 (by omega), sI_nI (S := p_set S ba (.inl (1, cap, .inl (upd g (pos - 1) _)))) hb set_at (show pos - 1 - 1 < cap by omega) (by omega), dgTn h100, if_pos rfl, show pos - 1 - 1 = pos - 2 by omega]
        rw [hl2] at next
        refine next _ _ ⟨rfl, fun q hq => (set_ne hq).trans (set_ne hq)⟩ set_at ⟨fun i hi => by rw [pk_un (by omega), pk_un (by omega)], fun j x hx => ?_⟩
        rw [dg_2 (by omega) h100] at hx
        cases j with
        | zero => cases hx; exact pk_us
        | succ j =>
          cases j with
          | zero => cases hx; rw [pk_un (by omega), show pos - 2 + (0 + 1) = pos - 1 by omega, pk_us]
          | succ j => cases hx
    · have hh := dg_h (n := w) (by omega)
      have hlen : (dg w).length = (dg (w / 100)).length + 2 := by rw [hh, List.length_append]; rfl
      rw [if_neg (fun z => h100 ((nN_100 hw31).mp z)), nN_div hw31, nN_rem, nI_clamp (by omega), nM1 (by omega)]
      refine ⟨by decide, vp_in_nI (by omega) (by omega), ?_⟩
      rw [sI_nI hb eb (show pos - 1 < cap by omega) (by omega), dgOn (by omega)]
      refine ⟨vp_in_nI (by omega) (by omega), ?_⟩
      rw [nM1 (by omega), sI_nI (S := p_set S ba (.inl (1, cap, .inl (upd g (pos - 1) _)))) hb set_at (show pos - 1 - 1 < cap by omega) (by omega), dgTn (by omega), show pos - 1 - 1 = pos - 2 by omega]
      refine ih (w / 100) (pos - 2) (p_set (p_set S ba _) ba (.inl (1, cap, .inl _))) _ (by rw [Nat.pow_succ] at hw; omega) (by omega) (by omega) hcap (by omega) hb set_at n (by omega) (fun S1 g' c1 e1 hg => ?_)
      rw [show pos - 2 - (dg (w / 100)).length = pos - (dg w).length by omega] at hg ⊢
      refine next S1 g' ⟨c1.1, fun q hq => ((c1.2 q hq).trans (set_ne hq)).trans (set_ne hq)⟩ e1 ⟨fun i hi => ?_, fun j x hx => ?_⟩
      · rw [hg.1 i (by omega), pk_un (by omega), pk_un (by omega)]
      · rw [hh] at hx
        rcases Nat.lt_or_ge j (dg (w / 100)).length with q | q
        · rw [List.getElem?_append_left q] at hx
          exact hg.2 j x hx
        · rw [List.getElem?_append_right q] at hx
          obtain ⟨t, ht⟩ : ∃ t, t = j - (dg (w / 100)).length := ⟨_, rfl⟩
          rw [← ht] at hx
          rw [hg.1 _ (by omega)]
          cases t with
          | zero => cases hx; rw [show pos - (dg w).length + j = pos - 2 by omega, pk_us]
          | succ t =>
            cases t with
            | zero => cases hx; rw [show pos - (dg w).length + j = pos - 1 by omega, pk_un (by omega), pk_us]
            | succ t => cases hx
theorem g_size {S : PS} {w : Nat} {post : Int32 → PS → Prop} (hw : w < 100000000) : f_J6_stringSize_0f7a4 S (nI w) post = post (nI (dg w).length) S := by
  have key : ∀ (d i fuel : Nat), i + d = 8 → 1 ≤ i → d < fuel → (i = 1 ∨ 10 ^ (i - 1) ≤ w) → f_J6_stringSize_0f7a4_L16 post fuel S (-nI w) 0 (-nI (10 ^ i)) (nI i) = post (nI (dg w).length) S := by
    intro d
    induction d with
    | zero =>
      intro i fuel hi h1 hf hw2
      obtain ⟨n, rfl⟩ : ∃ n, fuel = n + 1 := ⟨fuel - 1, by omega⟩
      have : i = 8 := by omega
      subst this
      simp only [f_J6_stringSize_0f7a4_L16, f_J6_stringSize_0f7a4_J27]
      rw [if_neg (show ¬ (10 : Int32) ≤ nI 8 by decide), if_neg (fun z => by have := (nN_le (by omega) (show 10 ^ 8 < 2 ^ 31 by decide)).mp z; omega), dg_len 8 w (by omega) (by omega) hw2, Int32.add_zero]
    | succ d ih =>
      intro i fuel hi h1 hf hw2
      obtain ⟨n, rfl⟩ : ∃ n, fuel = n + 1 := ⟨fuel - 1, by omega⟩
      have hp : 10 ^ i ≤ 10 ^ 8 := Nat.pow_le_pow_right (by omega) (by omega)
      have hp2 : (10 : Nat) ^ 8 = 100000000 := rfl
      simp only [f_J6_stringSize_0f7a4_L16, f_J6_stringSize_0f7a4_J27]
      rw [if_neg (show ¬ (10 : Int32) ≤ nI i from nI_ge (b := 10) (by omega) (by omega))]
      by_cases e : 10 ^ i ≤ w
      · rw [if_pos ((nN_le (by omega) (by omega)).mpr e), nI_1, show (10 : Int32) * -nI (10 ^ i) = -nI (10 ^ (i + 1)) by
          rw [Int32.mul_neg, show (10 : Int32) = nI 10 from rfl, pk_mul, Nat.pow_succ, Nat.mul_comm]]
        exact ih (i + 1) n (by omega) (by omega) (by omega) (Or.inr (by rw [Nat.add_sub_cancel]; exact e))
      · rw [if_neg (fun z => e ((nN_le (by omega) (by omega)).mp z)), dg_len i w h1 (by omega) hw2, Int32.add_zero]
  unfold f_J6_stringSize_0f7a4 f_J6_stringSize_0f7a4_J11
  rw [if_neg (nI_pos (by omega))]
  exact key 7 1 4096 (by omega) (by omega) (by omega) (Or.inl rfl)
/-- a number behind -/
theorem sb_num {S : PS} {ow : Ow} {c a cap w bc bs : Nat} {l : List Nat} {post : Nat → PS → Prop} (h : sb S ow c a cap l) (hw : w < 100000000) (hn : l.length + (dg w).length ≤ 500) (h1 : gk cap (l.length + (dg w).length) ≤ bc) (h2 : gsl cap (l.length + (dg w).length) ≤ bs) (next : ∀ S1 ow1, keeps [c] S ow S1 ow1 → sb S1 ow1 c a (gro cap (l.length + (dg w).length)) (l ++ dg w) → post a S1) : f_J4_append_bf812 S a (nI w) bc bs post := by
  have h0 := h
  obtain ⟨ba, m, f, ha, hba, hne, oa, oba, ea, eba, hlen, h16, h1000, hch, hfit⟩ := h
  unfold f_J4_append_bf812
  rw [isO_eq ha ea]
  refine ⟨bc, bs, Nat.le_refl _, Nat.le_refl _, ?_⟩
  unfold f_J5_append_c97b9
  rw [gI_eq ha ea rfl, g_size hw, isO_eq ha ea]
  refine ⟨bc, bs, Nat.le_refl _, Nat.le_refl _, ?_⟩
  rw [nI_add]
  refine sb_ens h0 hn h1 h2 (fun S1 ow1 k1 hs1 => ?_)
  have hge := gro_ge cap (l.length + (dg w).length)
  obtain ⟨ba1, m1, f1, ha1, hba1, hne1, oa1, oba1, ea1, eba1, hlen1, h161, h10001, hch1, hfit1⟩ := hs1
  rw [isO_eq ha1 ea1]
  unfold f_J5_isLatin1_aae02
  rw [if_neg (by decide), gI_eq ha1 ea1 rfl, if_pos rfl, nZ1]
  try dsimp only
  rw [if_neg (by decide), gR_eq ha1 ea1 rfl]
  unfold f_J6_getChars_ba4f3 f_J6_getChars_ba4f3_J12
  rw [if_pos (nI_pos' (by omega)), if_pos rfl]
  refine g_get 8 w (l.length + (dg w).length) S1 f1 hw (by omega) hge.2 (by omega) (by omega) hba1 eba1 4096 (by omega) (fun S2 g' c2 e2 hg => ?_)
  rw [Nat.add_sub_cancel] at hg
  have ea2 : S2.2 a = .inr (1, [.ref ba1, .int 0, .int m1, .int (nI l.length)]) := (c2.2 a hne1).trans ea1
  refine pV_to (by rw [c2.1]; exact ha1) ea2 (by show 3 < 4; decide) rfl (fun S3 c3 m3 e3 => ?_)
  refine next S3 ow1 ((k1.trans (keeps_1 c2 oba1)).trans (keeps_1 c3 oa1)) ⟨ba1, m1, g', m3, by rw [c3.1, c2.1]; exact hba1, hne1, oa1, oba1, by rw [e3, List.length_append]; rfl, by rw [c3.2 _ (Ne.symm hne1)]; exact e2, by rw [List.length_append]; exact hge.2, h161, h10001, fun i y hy => ?_, fun i => ?_⟩
  · rcases Nat.lt_or_ge i l.length with q | q
    · rw [List.getElem?_append_left q] at hy
      rw [hg.1 i (by omega)]; exact hch1 i y hy
    · rw [List.getElem?_append_right q] at hy
      have h3 := hg.2 _ y hy
      rw [show l.length + (i - l.length) = i by omega] at h3
      exact ⟨by have := (dg_lt 8 w hw _ y hy).1; omega, h3⟩
  · by_cases q : l.length ≤ i ∧ i < l.length + (dg w).length
    · obtain ⟨y, hy⟩ : ∃ y, (dg w)[i - l.length]? = some y := ⟨_, List.getElem?_eq_getElem (by omega)⟩
      have h3 := hg.2 _ y hy
      rw [show l.length + (i - l.length) = i by omega] at h3
      rw [h3]
      exact b8f y (by have := (dg_lt 8 w hw _ y hy).1; omega)
    · rw [hg.1 i (by omega)]; exact hfit1 i

