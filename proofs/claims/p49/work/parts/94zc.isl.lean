/-! a text of the law, constant or made: its length, its letters; it is the line *(pure)* -/
section ISL
variable {adK : Nat → Nat} {S S1 : PS} {ow ow1 : Ow} {A : Nat → Nat} {v : Vt} {hs : List Vt} {sv : Option Vt} {rr : Nat → Int32} {tx : List Nat} {fa : Int32} {a bc bs : Nat} {l : List Nat}
def txt (adK : Nat → Nat) (S : PS) (ow : Ow) (a : Nat) (l : List Nat) : Prop := (∃ d, d = 32 ∧ st S ow d a l) ∨ ∃ k, k < 5 ∧ a = adK k ∧ l = tN k
theorem t_len (h : txt adK S ow a l) {post : Int32 → PS → Prop} (next : post (nI l.length) S) : f_J0_length_8abf5_u adK S a post := by
  rcases h with ⟨d, -, h⟩ | ⟨k, hk, rfl, rfl⟩
  · refine Or.inr ?_
    rw [st_O h, st_len h]
    exact next
  · exact Or.inl ⟨k, hk, rfl, K_len hk next⟩
theorem ck_idx {i n : Nat} {post : PS → Prop} (hi : i < n) (hn : n < 2 ^ 31) (next : post S) : f_J0_checkIndex_df160 S (nI i) (nI n) post := by
  unfold f_J0_checkIndex_df160 f_J3_checkIndex_8e157
  intro o1
  rw [if_neg (nI_pos (by omega)), if_pos (nI_lt hi (by omega))]
  exact next
theorem t_char {i x : Nat} (h : txt adK S ow a l) (hx : l[i]? = some x) {post : Int32 → PS → Prop} (next : post (nI x) S) : f_J0_charAt_5068e_u adK S a (nI i) post := by
  have hi := lt_len hx
  rcases h with ⟨d, -, h⟩ | ⟨k, hk, rfl, rfl⟩
  · refine Or.inr ?_
    have h0 := h
    obtain ⟨ba, hh, z, f, h1, h2, h3, h4, h5, h6, h7, h8⟩ := h
    obtain ⟨x1, x2⟩ := h8 i x hx
    rw [st_O h0]
    unfold f_J0_charAt_5068e_p
    rw [st_O h0]
    unfold f_J0_isLatin1_aae02_p
    rw [if_neg (by decide), gI_eq h1 h5 rfl, if_pos rfl, nZ1]
    try dsimp only
    rw [if_neg (by decide), gR_eq h1 h5 rfl]
    unfold f_J1_charAt_3b067_p
    rw [lE_eq h2 h6 (by decide)]
    refine ck_idx hi (by omega) ?_
    rw [aI_nI h2 h6 hi (by omega), x2, a255 x1, c16 (by omega), nZc (by omega)]
    try dsimp only
    rw [nZc (by omega)]
    exact next
  · obtain ⟨hL, hL1⟩ := tN_L k hk
    obtain ⟨x1, x2⟩ := tN_B k hk i hi
    have e : (tN k).getD i 0 = x := by rw [List.getD_eq_getElem?_getD, hx]; rfl
    rw [e] at x1 x2
    refine Or.inl ⟨k, hk, rfl, k, hk, rfl, k, hk, rfl, ?_⟩
    rw [if_neg (by decide), if_pos rfl, nZ1]
    try dsimp only
    rw [if_neg (by decide)]
    refine ⟨hk, ?_⟩
    rw [hL]
    refine ck_idx hi (by omega) ⟨hk, nI_in (by omega) (by omega), ?_⟩
    rw [nI_clamp (show i < 2 ^ 31 by omega), x1, a255 x2, c16 (by omega), nZc (by omega)]
    try dsimp only
    rw [nZc (by omega)]
    exact next
theorem l_isLine {post : Int32 → PS → Prop} (h : CI S ow A v hs sv rr tx fa l) (ht : txt adK S ow a l) (hl : l.length ≤ 500) (h1 : 500 ≤ bc) (h2 : 3000 ≤ bs) (next : post 1 S) : f_L_isLine adK S (A 12) (nI l.length) a bc bs post := by
  unfold f_L_isLine
  refine t_len ht ?_
  rw [if_pos rfl]
  have W : ∀ i fuel, i ≤ l.length → l.length - i < fuel → ∀ bc1 bs1 : Nat, bc ≤ bc1 + i → bs ≤ bs1 + 6 * i → f_L_isLine_L12 adK post fuel S bc1 bs1 (A 12) (nI l.length) a (nI i) := by
    refine lp_im (L := fun fuel i => ∀ bc1 bs1 : Nat, bc ≤ bc1 + i → bs ≤ bs1 + 6 * i → f_L_isLine_L12 adK post fuel S bc1 bs1 (A 12) (nI l.length) a (nI i)) (fun fuel i hi ih bc1 bs1 b1 b2 => ?_) (fun fuel bc1 bs1 b1 b2 => ?_)
    · rw [f_L_isLine_L12, if_neg (nI_ge hi (by omega)), G_O h]
      refine ⟨1, 6, by omega, by omega, x_character h (Nat.le_refl _) (Nat.le_refl _) hl (fun no => no i rfl hi) (fun j c e hc hc2 => ?_)⟩
      have ej : i = j := by
        have hj := lt_len hc
        exact (nI_eq (by omega) (by omega)).mp e
      subst ej
      refine t_char ht hc ?_
      rw [if_pos rfl, nI_1]
      exact ih _ _ (by omega) (by omega)
    · rw [f_L_isLine_L12, if_pos (nI_le (Nat.le_refl _) (by omega)), nZ1]
      exact next
  exact W 0 4096 (Nat.zero_le _) (by omega) bc bs (by omega) (by omega)
end ISL
