/-! the law's array of groups; its pick *(pure)* -/
section PCK
variable {adK : Nat → Nat} {L : Nat} {xs : Nat → Int32} {S S1 : PS} {ow ow1 : Ow} {A : Nat → Nat} {v : Vt} {hs : List Vt} {sv : Option Vt} {rr : Nat → Int32} {tx : List Nat} {fa : Int32} {ln : List Nat} {q : Nat} {r : Nat → Nat} {bc bs : Nat}
def gA (S : PS) (ow : Ow) (a n : Nat) (G : Nat → Nat) : Prop := a ∈ S.1 ∧ ow a = 34 ∧ ∃ f : Nat → Int32, S.2 a = .inl (0, n, .inl f) ∧ ∀ i, i < n → f i = nI (G i)
theorem gA_fr {C : List Nat} {a n : Nat} {G : Nat → Nat} (h : gA S ow a n G) (hk : keeps C S ow S1 ow1) (hc : 34 ∉ C) : gA S1 ow1 a n G := by
  obtain ⟨h1, h2, f, h3, h4⟩ := h
  obtain ⟨a1, a2, a3⟩ := hk a h1
  exact ⟨a1, a2.trans h2, f, by rw [a3 (by rw [h2]; exact hc)]; exact h3, h4⟩
theorem gA_ext {a n : Nat} {G G1 : Nat → Nat} (h : gA S ow a n G) (e : ∀ i, i < n → G1 i = G i) : gA S ow a n G1 := by
  obtain ⟨h1, h2, f, h3, h4⟩ := h
  exact ⟨h1, h2, f, h3, fun i hi => by rw [e i hi]; exact h4 i hi⟩
theorem gA_get {a n i : Nat} {G : Nat → Nat} (h : gA S ow a n G) (hn : n ≤ 9) (hi : i < n) {kk : Int32 → Prop} : aI S a 0 (nI i) kk = kk (nI (G i)) := by
  obtain ⟨h1, h2, f, h3, h4⟩ := h
  rw [aI_nI h1 h3 hi (by omega), h4 i hi]
theorem gA_set {a n i x : Nat} {G : Nat → Nat} (h : gA S ow a n G) (hn : n ≤ 9) (hi : i < n) {kk : PS → Prop} (next : ∀ S1, keeps [34] S ow S1 ow → gA S1 ow a n (fun j => if j = i then x else G j) → kk S1) : sI S a 0 (nI i) (nI x) kk := by
  obtain ⟨h1, h2, f, h3, h4⟩ := h
  rw [sI_nI h1 h3 hi (by omega)]
  refine next _ (keeps_set h2) ⟨h1, h2, upd f i (nI x), set_at, fun j hj => ?_⟩
  show (if j = i then nI x else f j) = nI (if j = i then x else G j)
  by_cases e : j = i
  · rw [if_pos e, if_pos e]
  · rw [if_neg e, if_neg e]; exact h4 j hj
theorem gA_new {n : Nat} (hn : n ≤ 9) (h1 : 1 ≤ bc) (h2 : 9 ≤ bs) {kk : Nat → PS → Nat → Nat → Prop} (next : ∀ q S1 ow1, keeps [] S ow S1 ow1 → gA S1 ow1 q n (fun _ => 0) → kk q S1 (bc - 1) (bs - n)) : nA S 0 (nI n) bc bs kk := by
  have hc : (nI n).toNatClampNeg = n := nI_clamp (by omega)
  unfold nA
  rw [hc]
  refine ⟨nI_nlt (a := n) (b := 0) (Nat.zero_le n) (by omega), by omega, h1, by omega, fun q hq => ?_⟩
  exact next q _ (un ow q 34) (keeps_add hq) ⟨List.mem_append_right _ (List.mem_singleton.mpr rfl), un_at, fun _ => 0, add_at, fun _ _ => rfl⟩
/-- the groups at first -/
theorem l_groups {g15 : PS → Nat → Nat → Nat → Int32 → Prop} {l1 : Nat} {l2 l14 : Int32} (hv : okV v) (h1 : 1 ≤ bc) (h2 : 9 ≤ bs) (next : ∀ S1 ow1 u bc1 bs1, keeps [34] S ow S1 ow1 → gA S1 ow1 u (v 0) (fun i => 2 ^ i) → bc ≤ bc1 + 1 → bs ≤ bs1 + 9 → f_L_law_J1217 adK L xs g15 S1 bc1 bs1 l1 l2 q (nI (v 0)) l14 u) : f_L_law_J1186 adK L xs g15 S bc bs l1 l2 q (nI (v 0)) l14 := by
  have h9 := hv.1
  unfold f_L_law_J1186
  refine gA_new (ow := ow) h9 h1 h2 (fun u S1 ow1 k1 g1 => ?_)
  have W : ∀ i fuel, i ≤ v 0 → v 0 - i < fuel → ∀ (S2 : PS), keeps [34] S1 ow1 S2 ow1 → gA S2 ow1 u (v 0) (fun j => if j < i then 2 ^ j else 0) → f_L_law_L1195 adK L xs g15 fuel S2 (bc - 1) (bs - v 0) l1 l2 q (nI (v 0)) l14 u (nI i) := by
    refine lp_im (L := fun fuel i => ∀ (S2 : PS), keeps [34] S1 ow1 S2 ow1 → gA S2 ow1 u (v 0) (fun j => if j < i then 2 ^ j else 0) → f_L_law_L1195 adK L xs g15 fuel S2 (bc - 1) (bs - v 0) l1 l2 q (nI (v 0)) l14 u (nI i)) (fun fuel i hi ih S2 k2 g2 => ?_) (fun fuel S2 k2 g2 => ?_)
    · rw [f_L_law_L1195, if_neg (nI_ge hi (show v 0 < 2 ^ 31 by omega)), b_bit i (by omega)]
      refine gA_set g2 h9 hi (fun S3 k3 g3 => ?_)
      rw [nI_1]
      refine ih S3 (k2.trans k3) (gA_ext g3 (fun j hj => ?_))
      show (if j < i + 1 then 2 ^ j else 0) = if j = i then 2 ^ i else if j < i then 2 ^ j else 0
      by_cases e : j = i
      · rw [if_pos (by omega), if_pos e, e]
      · rw [if_neg e]
        by_cases e2 : j < i
        · rw [if_pos (by omega), if_pos e2]
        · rw [if_neg (by omega), if_neg e2]
    · rw [f_L_law_L1195, if_pos (nI_le (Nat.le_refl (v 0)) (show v 0 < 2 ^ 31 by omega))]
      exact next S2 ow1 u _ _ ((keeps_nil k1).trans k2) (gA_ext g2 (fun j hj => (if_pos hj).symm)) (by omega) (by omega)
  exact W 0 4096 (Nat.zero_le _) (by omega) S1 keeps.refl (gA_ext g1 (fun j hj => if_neg (Nat.not_lt_zero j)))
theorem dn_b {G : Nat → Nat} {J n : Nat} (hb : ∀ i, i < n → G i < 2 ^ 9) : ∀ d, d ≤ n → dn v G J n d < 2 ^ 9
  | 0, _ => by show 0 < 2 ^ 9; omega
  | d + 1, hd => by
    have ih := dn_b (J := J) hb d (by omega)
    have h1 := hb (n - (d + 1)) (by omega)
    simp only [dn]
    split
    · exact ih
    · split
      · split
        · exact h1
        · split
          · exact ih
          · exact h1
      · exact ih
theorem nI_m1 : ∀ k, k < 10 → nI (k + 1) + (-1) = nI k := by decide
theorem nI_s1 : ∀ k, k < 10 → nI k - 1 = nI k + (-1) := by decide
theorem l_pick {g1270 : PS → Nat → Nat → Nat → Int32 → Nat → Int32 → Int32 → Nat → Int32 → Int32 → Int32 → Int32 → Int32 → Int32 → Nat → Int32 → Prop} {G : Nat → Nat} {J l1 l19 l26 : Nat} {l2 l14 l20 l21 l23 l27 : Int32} (hM : isM S q r v) (hv : okV v) (hg : gA S ow l19 (v 0) G) (hb : ∀ i, i < v 0 → G i < 2 ^ 9) (hJ : J < 2 ^ 9) :
    f_L_law_L1289 adK L xs g1270 4096 S bc bs l1 l2 q (nI (v 0)) l14 l19 l20 l21 (nI J) l23 l26 l27 0 (nI (v 0) - 1) = f_L_law_J1353 adK L xs g1270 S bc bs l1 l2 q (nI (v 0)) l14 l19 l20 l21 (nI J) l23 l26 l27 (nI (dn v G J (v 0) (v 0))) := by
  have h9 := hv.1
  have W : ∀ d fuel, d ≤ v 0 → v 0 - d < fuel → f_L_law_L1289 adK L xs g1270 fuel S bc bs l1 l2 q (nI (v 0)) l14 l19 l20 l21 (nI J) l23 l26 l27 (nI (dn v G J (v 0) d)) (nI (v 0 - d) + (-1)) = f_L_law_J1353 adK L xs g1270 S bc bs l1 l2 q (nI (v 0)) l14 l19 l20 l21 (nI J) l23 l26 l27 (nI (dn v G J (v 0) (v 0))) := by
    refine lp_eq (L := fun fuel d => f_L_law_L1289 adK L xs g1270 fuel S bc bs l1 l2 q (nI (v 0)) l14 l19 l20 l21 (nI J) l23 l26 l27 (nI (dn v G J (v 0) d)) (nI (v 0 - d) + (-1))) (n := v 0) (fun fuel d hd => ?_) (fun fuel => ?_)
    · have hG := hb (v 0 - (d + 1)) (by omega)
      have hD := dn_b (v := v) (J := J) hb d (by omega)
      have e1 : nI (v 0 - d) + (-1) = nI (v 0 - (d + 1)) := by
        rw [show v 0 - d = v 0 - (d + 1) + 1 by omega]
        exact nI_m1 _ (by omega)
      have ha : (nI (G (v 0 - (d + 1))) &&& nI J = 0) = (G (v 0 - (d + 1)) &&& J = 0) := by
        rw [b_and, nIe0 (Nat.lt_of_le_of_lt Nat.and_le_left (by omega))]
      rw [f_L_law_L1289, e1, if_neg (nI_pos (by omega))]
      simp only [gA_get hg h9 (show v 0 - (d + 1) < v 0 by omega), f_L_law_J1340, f_L_law_J1347, dn, ha, nIe0 (show G (v 0 - (d + 1)) < 2 ^ 31 by omega), nIe0 (show dn v G J (v 0) d < 2 ^ 31 by omega), l_tie hM h9 (show G (v 0 - (d + 1)) < 2 ^ 31 by omega) (show J < 2 ^ 31 by omega), l_tie hM h9 (show dn v G J (v 0) d < 2 ^ 31 by omega) (show J < 2 ^ 31 by omega)]
      have t1 := tT_lt hv (r := G (v 0 - (d + 1))) (s := J)
      have t2 := tT_lt hv (r := dn v G J (v 0) d) (s := J)
      by_cases c1 : G (v 0 - (d + 1)) = 0
      · rw [if_pos c1, if_pos c1]
      · rw [if_neg c1, if_neg c1]
        by_cases c2 : G (v 0 - (d + 1)) &&& J = 0
        · rw [if_pos c2, if_pos c2]
          by_cases c3 : dn v G J (v 0) d = 0
          · rw [if_pos c3, if_pos c3]
          · rw [if_neg c3, if_neg c3]
            by_cases c4 : tT v (G (v 0 - (d + 1))) J < tT v (dn v G J (v 0) d) J
            · rw [if_pos c4, if_pos (nI_lt c4 (by omega))]
            · rw [if_neg c4, if_neg (nI_nlt (by omega) (by omega))]
        · rw [if_neg c2, if_neg c2]
    · rw [f_L_law_L1289, if_pos (by rw [Nat.sub_self]; decide)]
  have z := W 0 4096 (Nat.zero_le _) (by omega)
  rw [Nat.sub_zero, ← nI_s1 (v 0) (by omega)] at z
  exact z
end PCK
