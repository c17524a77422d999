/-! the law's text of a bond: built, and made a text *(pure)* -/
section BLN
variable {adK : Nat → Nat} {S S1 : PS} {ow ow1 : Ow} {a b cap bc bs : Nat} {l m : List Nat}
theorem txt_fr {C : List Nat} (h : txt adK S ow a l) (hk : keeps C S ow S1 ow1) (hc : 32 ∉ C) : txt adK S1 ow1 a l := by
  rcases h with ⟨d, e, h⟩ | h
  · exact Or.inl ⟨d, e, st_fr h hk (by rw [e]; exact hc)⟩
  · exact Or.inr h
theorem gk_1 {cap need : Nat} : gk cap need ≤ 1 := by unfold gk; split <;> omega
theorem gsl_1 {cap need : Nat} (h : cap ≤ 1000) (h2 : need ≤ 500) : gsl cap need ≤ 2002 := by unfold gsl; split <;> omega
theorem sb_cpB {c : Nat} (h : sb S ow c a cap l) : cap ≤ 1000 := by
  obtain ⟨ba, m, f, ha, hba, hne, oa, oba, ea, eba, hlen, h16, h1000, -⟩ := h
  exact h1000
/-- any text appended *(the builder's colour: 31)* -/
theorem sb_txt {post : Nat → PS → Prop} (h : sb S ow 31 a cap l) (ht : txt adK S ow b m) (hn : l.length + m.length ≤ 500) (h1 : 1 ≤ bc) (h2 : 2002 ≤ bs) (next : ∀ S1 ow1 cap1, keeps [31] S ow S1 ow1 → sb S1 ow1 31 a cap1 (l ++ m) → post a S1) : f_J4_append_15ec4_u adK S a b bc bs post := by
  have hcap := sb_cpB h
  rcases ht with ⟨d, e, h0⟩ | ⟨k, hk, rfl, rfl⟩
  · exact Or.inr (sb_str h h0 (by omega) hn (Nat.le_trans gk_1 h1) (Nat.le_trans (gsl_1 hcap hn) h2) (fun S1 ow1 k1 s1 => next S1 ow1 _ k1 s1))
  · exact Or.inl (sb_cst h hk hn (Nat.le_trans gk_1 h1) (Nat.le_trans (gsl_1 hcap hn) h2) (fun S1 ow1 k1 s1 => next S1 ow1 _ k1 s1))
theorem sb_nm {w : Nat} {post : Nat → PS → Prop} (h : sb S ow 31 a cap l) (hw : w < 100000000) (hn : l.length + (dg w).length ≤ 500) (h1 : 1 ≤ bc) (h2 : 2002 ≤ bs) (next : ∀ S1 ow1 cap1, keeps [31] S ow S1 ow1 → sb S1 ow1 31 a cap1 (l ++ dg w) → post a S1) : f_J4_append_bf812 S a (nI w) bc bs post :=
  sb_num h hw hn (Nat.le_trans gk_1 h1) (Nat.le_trans (gsl_1 (sb_cpB h) hn) h2) (fun S1 ow1 k1 s1 => next S1 ow1 _ k1 s1)
/-- a new builder *(its colour: 31)* -/
theorem sb_nw {kk : Nat → PS → Nat → Nat → Prop} (h1 : 2 ≤ bc) (h2 : 20 ≤ bs) (next : ∀ q S1 ow1, keeps [31] S ow S1 ow1 → sb S1 ow1 31 q 16 [] → kk q S1 (bc - 1 - 1) (bs - 4 - 16)) : nO S 1 [.null, .int 0, .int 0, .int 0] 4 bc bs fun q1 S2 bc3 bs4 => ∃ mc6 ms6 : Nat, mc6 ≤ bc3 ∧ ms6 ≤ bs4 ∧ (f_J4_init_da8c8 S2 q1 mc6 ms6 fun S5 => kk q1 S5 (bc3 - mc6) (bs4 - ms6)) := by
  refine ⟨by omega, by omega, fun q hq => ⟨1, 16, by omega, by omega, ?_⟩⟩
  obtain ⟨S2, e2⟩ : ∃ S2, S2 = p_add S q (.inr (1, [.null, .int 0, .int 0, .int 0])) := ⟨_, rfl⟩
  rw [← e2]
  have k2 : keeps [] S ow S2 (un ow q 31) := by rw [e2]; exact keeps_add hq
  have hq2 : q ∈ S2.1 := by rw [e2]; exact List.mem_append_right _ (List.mem_singleton.mpr rfl)
  have eq2 : S2.2 q = .inr (1, [.null, .int 0, .int 0, .int 0]) := by rw [e2]; exact add_at
  refine i_sb (ow := un ow q 31) (c := 31) ⟨hq2, un_at, eq2, List.nodup_cons.mpr ⟨List.not_mem_nil, List.nodup_nil⟩, fun p hp => (List.not_mem_nil hp).elim⟩ (Nat.le_refl _) (Nat.le_refl _) (fun S3 ow3 k3 s3 => ?_)
  exact next q S3 ow3 ((k2.mono (fun c hc => (List.not_mem_nil hc).elim)).trans k3) s3
end BLN
