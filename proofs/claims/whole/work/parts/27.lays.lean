/-! the reference lays its phases -/
theorem nI_far : (100000000 : Int32) = nI 100000000 := rfl
/-- what laying leaves: groups, ties, cuts, the place of the least cut and that cut -/
def laid (v : Nat → Nat) (F : Nat → Int32) (h : Nat → Nat → Int32) (F1 : Nat → Int32) (h1 : Nat → Nat → Int32) : Prop :=
  (∀ i, i ≠ 13 → i ≠ 14 → F1 i = F i) ∧ (∀ k, k ≠ 2 → k ≠ 3 → k ≠ 4 → k ≠ 5 → h1 k = h k) ∧ (∀ p q, p < v 0 - 1 → q < v 0 - p → h1 2 (9 * p + q) = nI (gr v p q) ∧ h1 3 (9 * p + q) = nI (pl v p q)) ∧ (∀ p, p < v 0 - 1 → h1 4 p = nI (cut v p)) ∧ F1 13 = nI (lph v (v 0 - 2)) ∧ (2 ≤ v 0 → F1 14 = nI (cut v (lph v (v 0 - 2))))
theorem cut_lt {v : Nat → Nat} (hv : okV v) {p : Nat} : cut v p < 10000000 := tT_lt hv
section RLY
variable {S0 S : PS} {B : Nat → Nat} {F : Nat → Int32} {h : Nat → Nat → Int32} {v : Nat → Nat}
theorem r_lays {post : PS → Prop} (hB : oB 10 S0 B) (H : RS S0 B F h S) (hr : rowV h 0 v) (hv : okV v)
    (next : ∀ (S1 : PS) (F1 : Nat → Int32) (h1 : Nat → Nat → Int32), RS S0 B F1 h1 S1 → laid v F h F1 h1 → post S1) : f_X8_laysPhases S (B 0) post := by
  have h0 := hv.1
  have hR := RS_isR hB H hr
  unfold f_X8_laysPhases
  rw [R0 hR, RA0 hR]
  -- the phases
  have ph : ∀ (d p fuel : Nat) (S1 : PS) (F1 : Nat → Int32) (h1 : Nat → Nat → Int32), p + d = v 0 - 1 → d < fuel → RS S0 B F1 h1 S1 → (∀ i, i ≠ 13 → i ≠ 14 → F1 i = F i) → (∀ k, k ≠ 2 → k ≠ 3 → k ≠ 4 → k ≠ 5 → h1 k = h k) → (p < v 0 → ∀ k, k < v 0 - p → h1 5 k = nI (phs v p k)) → (∀ p' q, p' < p → q < v 0 - p' → h1 2 (9 * p' + q) = nI (gr v p' q) ∧ h1 3 (9 * p' + q) = nI (pl v p' q)) → (∀ p', p' < p → h1 4 p' = nI (cut v p')) → F1 13 = nI (lph v (p - 1)) → F1 14 = (if p = 0 then nI 100000000 else nI (cut v (lph v (p - 1)))) → f_X8_laysPhases_L42 post fuel S1 (B 0) (nI (v 0)) (nI p) := by
    intro d
    induction d with
    | zero =>
      intro p fuel S1 F1 h1 hp hf H1 c1 c2 c3 c4 c5 c6 c7
      obtain ⟨f, rfl⟩ : ∃ f, fuel = f + 1 := ⟨fuel - 1, by omega⟩
      simp only [f_X8_laysPhases_L42]
      have e : nI (v 0) - 1 ≤ nI p := by
        by_cases hz : v 0 = 0
        · rw [hz, show p = 0 by omega]; decide
        · rw [n1, pk_sub (by omega)]; exact nI_le (by omega) (by omega)
      rw [if_pos e]
      have hpe : p = v 0 - 1 := by omega
      refine next S1 F1 h1 H1 ⟨c1, c2, fun p' q h1 h2 => c4 p' q (by omega) h2, fun p' h1 => c5 p' (by omega), ?_, fun h2 => ?_⟩
      · rw [c6, show p - 1 = v 0 - 2 by omega]
      · rw [c7, if_neg (by omega), show p - 1 = v 0 - 2 by omega]
    | succ d ih =>
      intro p fuel S1 F1 h1 hp hf H1 c1 c2 c3 c4 c5 c6 c7
      obtain ⟨f, rfl⟩ : ∃ f, fuel = f + 1 := ⟨fuel - 1, by omega⟩
      have hprt := phs_prt hv (p := p) (by omega)
      have hr1 : rowV h1 0 v := by rw [rowV, c2 1 (by decide) (by decide) (by decide) (by decide)]; exact hr
      simp only [f_X8_laysPhases_L42, f_X8_laysPhases_J85]
      rw [n1, pk_sub (show 1 ≤ v 0 by omega), if_neg (nI_ge (show p < v 0 - 1 by omega) (by omega)), OS_isO hB (by omega) H1, pk_sub (show p ≤ v 0 by omega)]
      refine r_joins hB H1 hr1 hv (now := phs v p) (m := v 0 - p) (by omega) (by omega) (by omega) hprt (c3 (by omega)) (fun S2 h2 H2 hj => ?_)
      rw [OS_gR hB (by omega) H2 (k := 4) (f := 11) rfl, OS_aI hB H2 (k := 4) (by omega) (show p < 9 by omega) (by decide), hu_at, OS_gI hB (by omega) H2 (f := 14) (x := F1 14) rfl, c7]
      have hcut : pq v (phs v p) (v 0 - p) (v 0 - p - 1) = cut v p := rfl
      have hcl := cut_lt hv (p := p)
      rw [hcut] at H2 ⊢
      -- merging, then the rest
      have mrg : ∀ (S3 : PS) (F3 : Nat → Int32), RS S0 B F3 (hu h2 4 p (nI (cut v p))) S3 → (∀ i, i ≠ 13 → i ≠ 14 → F3 i = F1 i) → F3 13 = nI (lph v p) → F3 14 = nI (cut v (lph v p)) → isO S3 (B 0) 12 (f_X8_merges S3 (B 0) (nI p) (nI (v 0 - p)) fun S1 => f_X8_laysPhases_L42 post f S1 (B 0) (nI (v 0)) (nI p + nI 1)) := by
        intro S3 F3 H3 d1 d2 d3
        rw [OS_isO hB (by omega) H3, nI_add]
        refine r_merges hB H3 hv (now := phs v p) (m := v 0 - p) (by omega) (by omega) hprt (fun k hk => ?_) (fun i hi => ?_) (fun S4 h4 H4 e1 e2 => ?_)
        · rw [hu_ne (by decide), hj.1 5 (by decide) (by decide)]; exact c3 (by omega) k hk
        · rw [hu_ne (by decide)]; exact (hj.2.1 i hi).1
        · refine ih (p + 1) f S4 F3 h4 (by omega) (by omega) H4 (fun i i1 i2 => by rw [d1 i i1 i2, c1 i i1 i2]) (fun k k2 k3 k4 k5 => by rw [e1 k k5, hu_ne k4, hj.1 k k2 k3, c2 k k2 k3 k4 k5]) (fun _ k hk => ?_) (fun p' q hp' hq => ?_) (fun p' hp' => ?_) d2 (by rw [if_neg (by omega)]; exact d3)
          · rw [e2 k (by omega)]; rfl
          · rw [e1 2 (by decide), e1 3 (by decide), hu_ne (by decide), hu_ne (by decide)]
            by_cases hpp : p' = p
            · subst hpp; exact hj.2.1 q hq
            · obtain ⟨a1, a2⟩ := hj.2.2 (9 * p' + q) (by omega)
              rw [a1, a2]; exact c4 p' q (by omega) hq
          · rw [e1 4 (by decide)]
            by_cases hpp : p' = p
            · subst hpp; rw [hu_at]
            · rw [hu_off hpp, hj.1 4 (by decide) (by decide)]; exact c5 p' (by omega)
      -- whether this cut is the least
      have hlt : ∃ x, F1 14 = nI x ∧ x < 2 ^ 31 ∧ (x ≤ cut v p → p ≠ 0 ∧ x = cut v (lph v (p - 1))) ∧ (p ≠ 0 → x = cut v (lph v (p - 1))) := by
        by_cases hz : p = 0
        · exact ⟨100000000, by rw [c7, if_pos hz], by decide, fun h => by omega, fun h => absurd hz h⟩
        · exact ⟨cut v (lph v (p - 1)), by rw [c7, if_neg hz], by have := cut_lt hv (p := lph v (p - 1)); omega, fun _ => ⟨hz, rfl⟩, fun _ => rfl⟩
      obtain ⟨x, x1, x2, x3, x4⟩ := hlt
      rw [← c7, x1]
      by_cases hle : x ≤ cut v p
      · rw [if_pos (nI_le hle (by omega))]
        obtain ⟨y1, y2⟩ := x3 hle
        have el : lph v p = lph v (p - 1) := by
          obtain ⟨r, rfl⟩ : ∃ r, p = r + 1 := ⟨p - 1, by omega⟩
          rw [Nat.add_sub_cancel] at y2 ⊢
          simp only [lph]
          rw [if_neg (by omega)]
        exact mrg S2 F1 H2 (fun _ _ _ => rfl) (by rw [c6, el]) (by rw [x1, el, y2])
      · have el : lph v p = p := by
          by_cases hz : p = 0
          · rw [hz]; rfl
          · obtain ⟨r, rfl⟩ : ∃ r, p = r + 1 := ⟨p - 1, by omega⟩
            have := x4 hz
            rw [Nat.add_sub_cancel] at this
            simp only [lph]
            rw [if_pos (by omega)]
        rw [if_neg (nI_ge (by omega) (by omega)), OS_gR hB (by omega) H2 (k := 4) (f := 11) rfl, OS_aI hB H2 (k := 4) (by omega) (show p < 9 by omega) (by decide), hu_at]
        refine OS_pV hB (by omega) H2 (f := 14) rfl (by show 14 < 25; decide) (fun S3 H3 => ?_)
        refine OS_pV hB (by omega) H3 (f := 13) rfl (by show 13 < 25; decide) (fun S4 H4 => ?_)
        exact mrg S4 _ H4 (fun i i1 i2 => by rw [Fu_ne i1, Fu_ne i2]) (by rw [Fu_at, el]) (by rw [Fu_ne (by decide), Fu_at, el])
  -- the first groups
  have fi : ∀ (d i fuel : Nat) (S1 : PS) (h1 : Nat → Nat → Int32), i + d = v 0 → d < fuel → RS S0 B F h1 S1 → (∀ k, k ≠ 5 → h1 k = h k) → (∀ k, k < i → h1 5 k = nI (2 ^ k)) → f_X8_laysPhases_L9 post fuel S1 (B 0) (nI (v 0)) (nI i) := by
    intro d
    induction d with
    | zero =>
      intro i fuel S1 h1 hi hf H1 c1 c2
      obtain ⟨f, rfl⟩ : ∃ f, fuel = f + 1 := ⟨fuel - 1, by omega⟩
      simp only [f_X8_laysPhases_L9, f_X8_laysPhases_J29]
      rw [if_pos (nI_le (by omega) (by omega))]
      refine OS_pV hB (by omega) H1 (f := 13) rfl (by show 13 < 25; decide) (fun S2 H2 => ?_)
      refine OS_pV hB (by omega) H2 (f := 14) rfl (by show 14 < 25; decide) (fun S3 H3 => ?_)
      refine ph (v 0 - 1) 0 4096 S3 _ h1 (by omega) (by omega) H3 (fun i i1 i2 => by rw [Fu_ne i2, Fu_ne i1]) (fun k _ _ _ k5 => c1 k k5) (fun _ k hk => c2 k (by omega)) (fun p' q hp' => by omega) (fun p' hp' => by omega) (by rw [Fu_ne (by decide), Fu_at]; rfl) (by rw [Fu_at, if_pos rfl, nI_far])
    | succ d ih =>
      intro i fuel S1 h1 hi hf H1 c1 c2
      obtain ⟨f, rfl⟩ : ∃ f, fuel = f + 1 := ⟨fuel - 1, by omega⟩
      simp only [f_X8_laysPhases_L9]
      rw [if_neg (nI_ge (show i < v 0 by omega) (by omega)), OS_gR hB (by omega) H1 (k := 5) (f := 12) rfl, b_bit i (by omega), nI_1]
      refine OS_sI hB (by omega) H1 (k := 5) (by omega) (show i < 9 by omega) (by decide) (fun S2 H2 => ?_)
      refine ih (i + 1) f S2 _ (by omega) (by omega) H2 (fun k hk => by rw [hu_ne hk]; exact c1 k hk) (fun k hk => ?_)
      by_cases e : k = i
      · rw [e, hu_at]
      · rw [hu_off e]; exact c2 k (by omega)
  exact fi (v 0) 0 4096 S h (by omega) (by omega) H (fun _ _ => rfl) (fun k hk => by omega)
end RLY
