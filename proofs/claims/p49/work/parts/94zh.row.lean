/-! one place of the law's row: symmetric, many, most *(pure)* -/
section RWA
variable {adK : Nat → Nat} {L : Nat} {xs : Nat → Int32} {S : PS} {ow : Ow} {A : Nat → Nat} {v : Vt} {hs : List Vt} {sv : Option Vt} {rr : Nat → Int32} {tx : List Nat} {fa : Int32} {ln : List Nat} {q : Nat} {r : Nat → Nat} {bc bs : Nat}
def nE (o : Nat × Int32) : Int32 := if o.1 = 0 then o.2 else -30000
theorem rs_n {o : Nat × Int32} {X : String} {post : Int32 → PS → Prop} (ho : o.1 ≤ 1) (next : post (nE o) S) : rs (eE "java/util/NoSuchElementException" X) o (fun v S1 => post v S1) (fun E4 S4 => E4 = "java/util/NoSuchElementException" ∧ post (-30000) S4) S := by
  obtain ⟨c, x⟩ := o
  rcases (show c = 0 ∨ c = 1 by have : c ≤ 1 := ho; omega) with rfl | rfl
  · exact next
  · exact ⟨rfl, next⟩
theorem oBat_1 {x : Int32} : (oBat v x).1 ≤ 1 := by
  unfold oBat
  split
  · split
    · exact Nat.zero_le 1
    · exact Nat.le_refl 1
  · exact Nat.le_refl 1
theorem l_bondAt {x : Int32} {post : Int32 → PS → Prop} (h : CI S ow A v hs sv rr tx fa ln) (hv : okV v) (h1 : 1 ≤ bc) (h2 : 6 ≤ bs) (next : post (nE (oBat v x)) S) : f_L_bondAt S (A 12) x bc bs post := by
  unfold f_L_bondAt
  rw [G_O h]
  exact ⟨1, 6, h1, h2, x_bondAt h hv (Nat.le_refl _) (Nat.le_refl _) (rs_n oBat_1 next)⟩
theorem clo_i {x : Nat} : ∀ {i : Nat}, ((clo v x i).1 = -1 ∧ (clo v x i).2 = 0) ∨ ∃ b, b < i ∧ (clo v x i).1 = nI b ∧ (clo v x i).2 = wt v x b
  | 0 => Or.inl ⟨rfl, rfl⟩
  | i + 1 => by
    simp only [clo]
    split
    · exact Or.inr ⟨i, by omega, rfl, rfl⟩
    · rcases clo_i (x := x) (i := i) with h | ⟨b, h1, h2⟩
      · exact Or.inl h
      · exact Or.inr ⟨b, by omega, h2⟩
theorem l_r1 {g : PS → Nat → Nat → Nat → Int32 → Nat → Int32 → Int32 → Int32 → Int32 → Int32 → Int32 → Int32 → Int32 → Int32 → Int32 → Int32 → Int32 → Int32 → Nat → Nat → Int32 → Int32 → Int32 → Int32 → Int32 → Prop} {a b m l1 l17 l18 : Nat} {l2 l4 l5 l6 l7 l8 l9 l10 l11 l12 l13 l14 l15 l16 l22 : Int32} (hM : isM S q r v) (hv : okV v) (ha : a < v 0) (hb : b < v 0) :
    f_L_law_J203 adK L xs g S bc bs l1 l2 q l4 l5 l6 l7 l8 l9 l10 l11 l12 l13 l14 l15 l16 l17 l18 (nI a) (nI m) (clo v a b).1 l22 (nI b) = f_L_law_J253 adK L xs g S bc bs l1 l2 q l4 l5 l6 l7 l8 l9 l10 l11 l12 l13 l14 l15 l16 l17 l18 (nI a) (nI (m + if 0 < wt v a b then 1 else 0)) (clo v a (b + 1)).1 l22 (nI b) := by
  have h9 := hv.1
  have hw := hv.lt (i := a) (j := b) (by omega) (by omega)
  have e1 : ∀ t : Nat, f_L_law_J220 adK L xs g S bc bs l1 l2 q l4 l5 l6 l7 l8 l9 l10 l11 l12 l13 l14 l15 l16 l17 l18 (nI a) (clo v a b).1 l22 (nI b) (nI t) (nI m) = f_L_law_J253 adK L xs g S bc bs l1 l2 q l4 l5 l6 l7 l8 l9 l10 l11 l12 l13 l14 l15 l16 l17 l18 (nI a) (nI (m + t)) (clo v a (b + 1)).1 l22 (nI b) := fun t => by
    unfold f_L_law_J220
    rw [MRow hM h9 ha, MAt hM h9 ha hb]
    rcases clo_i (v := v) (x := a) (i := b) with ⟨c1, c2⟩ | ⟨k, hk, c1, c2⟩
    · rw [c1, if_neg (show ¬ (0 : Int32) ≤ -1 by decide)]
      unfold f_L_law_J246
      by_cases h0 : 0 < wt v a b
      · rw [if_neg (nI_nle h0 (by omega)), nI_add, show (clo v a (b + 1)).1 = nI b by simp only [clo]; rw [if_pos (by omega)]]
      · rw [if_pos (show nI (wt v a b) ≤ 0 from nI_le (a := wt v a b) (b := 0) (by omega) (by omega)), nI_add, show (clo v a (b + 1)).1 = -1 by simp only [clo]; rw [if_neg (by omega)]; exact c1]
    · rw [c1, if_pos (nI_pos' (by omega)), MRow hM h9 ha, MAt hM h9 ha (show k < v 0 by omega)]
      have hwk := hv.lt (i := a) (j := k) (by omega) (by omega)
      unfold f_L_law_J246
      by_cases h0 : wt v a k < wt v a b
      · rw [if_neg (nI_ge h0 (by omega)), nI_add, show (clo v a (b + 1)).1 = nI b by simp only [clo]; rw [if_pos (by omega)]]
      · rw [if_pos (nI_le (by omega) (by omega)), nI_add, show (clo v a (b + 1)).1 = nI k by simp only [clo]; rw [if_neg (by omega)]; exact c1]
  unfold f_L_law_J203
  rw [MRow hM h9 ha, MAt hM h9 ha hb]
  by_cases h0 : 0 < wt v a b
  · rw [if_neg (nI_nle h0 (by omega)), if_pos h0]
    exact e1 1
  · rw [if_pos (show nI (wt v a b) ≤ 0 from nI_le (a := wt v a b) (b := 0) (by omega) (by omega)), if_neg h0]
    exact e1 0
end RWA
