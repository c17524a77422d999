/-! the law's own matrix of weights: what is between two sets, a division's feud, the least over the even divisions *(pure)* -/
section MAT
variable {S : PS} {q : Nat} {r : Nat → Nat} {v : Nat → Nat} {post : Int32 → PS → Prop}
/-- the law's matrix of the weights of v: n rows of n -/
def isM (S : PS) (q : Nat) (r : Nat → Nat) (v : Nat → Nat) : Prop := (q ∈ S.1 ∧ ∃ f : Nat → Option Nat, S.2 q = .inl (4, v 0, .inr (.inr (.inr (.inr f)))) ∧ ∀ i, i < v 0 → f i = some (r i)) ∧ ∀ i, i < v 0 → r i ∈ S.1 ∧ ∃ f : Nat → Int32, S.2 (r i) = .inl (0, v 0, .inl f) ∧ ∀ j, j < v 0 → f j = nI (wt v i j)
theorem MLen (h : isM S q r v) {kk : Int32 → Prop} : lEQ S q kk = kk (nI (v 0)) := by
  obtain ⟨⟨h1, f, h2, h3⟩, -⟩ := h
  refine propext ⟨fun k => ?_, fun k => ⟨h1, _, f, h2, k⟩⟩
  obtain ⟨-, n, g, e, k⟩ := k
  rw [h2] at e
  cases e
  exact k
theorem MRow (h : isM S q r v) (h9 : v 0 ≤ 9) {i : Nat} (hi : i < v 0) {kk : Nat → Prop} : aQ S q (nI i) kk = kk (r i) := by
  obtain ⟨⟨h1, f, h2, h3⟩, -⟩ := h
  have hc : (nI i).toNatClampNeg = i := nI_clamp (by omega)
  refine propext ⟨fun k => ?_, fun k => ⟨h1, _, f, r i, h2, nI_in hi (by omega), by rw [hc]; exact h3 i hi, k⟩⟩
  obtain ⟨-, n, g, b, e, hin, hb, k⟩ := k
  rw [h2] at e
  cases e
  rw [hc, h3 i hi] at hb
  cases hb
  exact k
theorem MAt (h : isM S q r v) (h9 : v 0 ≤ 9) {i j : Nat} (hi : i < v 0) (hj : j < v 0) {kk : Int32 → Prop} : aI S (r i) 0 (nI j) kk = kk (nI (wt v i j)) := by
  obtain ⟨h1, f, h2, h3⟩ := h.2 i hi
  have hc : (nI j).toNatClampNeg = j := nI_clamp (by omega)
  refine propext ⟨fun k => ?_, fun k => ⟨h1, _, f, h2, nI_in hj (by omega), by rw [hc, h3 j hj]; exact k⟩⟩
  obtain ⟨-, n, g, e, hin, k⟩ := k
  rw [h2] at e
  cases e
  rw [hc, h3 j hj] at k
  exact k
theorem l_tieR (h : isM S q r v) (h9 : v 0 ≤ 9) {g : PS → Nat → Int32 → Int32 → Int32 → Int32 → Prop} {a b c i : Nat} (ha : a < 2 ^ 31) (hb : b < 2 ^ 31) (hi : i < v 0) : f_L_tie_L15 post g 4096 S q (nI a) (nI b) (nI c) (nI i) 0 = g S q (nI a) (nI b) (nI (c + if a.testBit i = true then tS v i b else 0)) (nI (i + 1)) := by
  have e : (if a.testBit i = true then tS v i b else 0) = sm (fun j => if a.testBit i = true then (if b.testBit j = true then wt v i j else 0) else 0) (v 0) := by
    by_cases ht : a.testBit i = true
    · simp only [if_pos ht]; rfl
    · simp only [if_neg ht]; exact (sm_zero (fun _ _ => rfl)).symm
  rw [e]
  refine lp_eq (L := fun fu j => f_L_tie_L15 post g fu S q (nI a) (nI b) (nI (c + sm (fun j => if a.testBit i = true then (if b.testBit j = true then wt v i j else 0) else 0) j)) (nI i) (nI j)) (n := v 0) (fun fu j hj => ?_) (fun fu => ?_) 0 4096 (by omega) (by omega)
  · simp only [f_L_tie_L15, f_L_tie_J54, f_L_tie_J53, MLen h, if_neg (nI_ge hj (show v 0 < 2 ^ 31 by omega)), b_in ha (show i < 31 by omega), b_in hb (show j < 31 by omega), sm, nI_1]
    by_cases h1 : a.testBit i = true
    · by_cases h2 : b.testBit j = true
      · simp only [if_pos h1, if_pos h2, MRow h h9 hi, MAt h h9 hi hj, nI_add, Nat.add_assoc]
      · simp only [if_pos h1, if_neg h2, Nat.add_zero, Int32.add_zero]
    · simp only [if_neg h1, Nat.add_zero, Int32.add_zero]
  · simp only [f_L_tie_L15, f_L_tie_J62, MLen h, if_pos (nI_le (Nat.le_refl (v 0)) (show v 0 < 2 ^ 31 by omega)), nI_1]
theorem l_tie (h : isM S q r v) (h9 : v 0 ≤ 9) {a b : Nat} (ha : a < 2 ^ 31) (hb : b < 2 ^ 31) : f_L_tie S q (nI a) (nI b) post = post (nI (tT v a b)) S := by
  refine lp_eq (L := fun fuel i => f_L_tie_L5 post fuel S q (nI a) (nI b) (nI (sm (fun k => if a.testBit k = true then tS v k b else 0) i)) (nI i)) (n := v 0) (fun fuel i hi => ?_) (fun fuel => ?_) 0 4096 (by omega) (by omega)
  · simp only [f_L_tie_L5, MLen h, if_neg (nI_ge hi (show v 0 < 2 ^ 31 by omega)), l_tieR h h9 ha hb hi, sm]
  · simp only [f_L_tie_L5, MLen h, if_pos (nI_le (Nat.le_refl (v 0)) (show v 0 < 2 ^ 31 by omega))]
    rfl
theorem l_feud (h : isM S q r v) (h9 : v 0 ≤ 9) {s : Nat} (hs : s < 2 ^ 31) : f_L_feud S q (nI s) post = post (nI (fo v s)) S := by
  have hp := Nat.pow_le_pow_right (show 0 < 2 by omega) (show v 0 ≤ 30 by omega)
  have hb : bn (ev v) s < 2 ^ 31 := Nat.lt_of_lt_of_le (bn_lt (n := v 0) (by unfold ev; have := Nat.pow_pos (n := v 0) (show 0 < 2 by omega); omega)) (by omega)
  simp only [f_L_feud, MLen h, b_all (v 0) (by omega), b_bn]
  exact l_tie h h9 hs hb
/-- the least feud over the even divisions that P names *(the law counts 2, 4, .. below 2^n)* -/
def lse (v : Nat → Nat) (P : Nat → Bool) : Nat := mnp 100000000 (fun t => decide (t ≠ 0) && P (2 * t)) (fun t => fo v (2 * t)) (dcn v)
theorem l_minI {x y : Nat} (hx : x < 2 ^ 31) (hy : y < 2 ^ 31) : (if nI x < nI y then nI x else nI y) = nI (min x y) := by
  by_cases h : x < y
  · rw [if_pos ((nI_ltI hx hy).mpr h), Nat.min_eq_left (by omega)]
  · rw [if_neg (fun k => h ((nI_ltI hx hy).mp k)), Nat.min_eq_right (by omega)]
/-- the law's loop, with any test of a division in its place -/
theorem l_leastG (h : isM S q r v) (hv : okV v) (h1 : 1 ≤ v 0) {a b : Int32} {P : Nat → Bool} (hP : ∀ (g : PS → Nat → Int32 → Int32 → Int32 → Int32 → Prop) (c s : Nat), s < 2 ^ v 0 → (if a < 0 then f_L_least__J34 post g S q a b (nI c) (nI s) else if ((nI s >>> (a &&& 31)) &&& 1) = ((nI s >>> (b &&& 31)) &&& 1) then f_L_least__J45 post g S q a b (nI c) (nI s) else f_L_least__J34 post g S q a b (nI c) (nI s)) = if P s = true then f_L_least__J34 post g S q a b (nI c) (nI s) else f_L_least__J45 post g S q a b (nI c) (nI s)) : f_L_least_ S q a b post = post (nI (lse v P)) S := by
  have h9 := hv.1
  have hd : 2 * dcn v = 2 ^ v 0 := by
    obtain ⟨k, e⟩ : ∃ k, v 0 = k + 1 := ⟨v 0 - 1, by omega⟩
    unfold dcn
    rw [e, show k + 1 - 1 = k by omega, Nat.pow_succ]
    omega
  have hd1 : 1 ≤ dcn v := Nat.pow_pos (by omega)
  have hd2 := dcn_le hv
  refine lp_eqm (L := fun fuel t => f_L_least__L6 post fuel S q a b (nI (mnp 100000000 (fun t => decide (t ≠ 0) && P (2 * t)) (fun t => fo v (2 * t)) t)) (nI (2 * t))) (m := 1) (n := dcn v) (fun fuel t ht1 ht => ?_) (fun fuel => ?_) 1 4096 (by omega) hd1 (by omega)
  · have hs : 2 * t < 2 ^ v 0 := by omega
    have hc : mnp 100000000 (fun t => decide (t ≠ 0) && P (2 * t)) (fun t => fo v (2 * t)) t ≤ 100000000 := mnp_c
    have hn : nI (2 * t) + 2 = nI (2 * (t + 1)) := nI_add (2 * t) 2
    simp only [f_L_least__L6, MLen h, b_bit (v 0) (by omega), if_neg (nI_ge hs (show 2 ^ v 0 < 2 ^ 31 by omega)), mnp]
    rw [hP _ _ _ hs]
    by_cases hp : P (2 * t) = true
    · have ht0 : (decide (t ≠ 0) && P (2 * t)) = true := by rw [hp, decide_eq_true (show t ≠ 0 by omega)]; rfl
      simp only [if_pos hp, if_pos ht0, f_L_least__J34, f_L_least__J45, l_feud h h9 (show 2 * t < 2 ^ 31 by omega), l_minI (show fo v (2 * t) < 2 ^ 31 by have := fo_lt hv (s := 2 * t); omega) (show mnp 100000000 (fun t => decide (t ≠ 0) && P (2 * t)) (fun t => fo v (2 * t)) t < 2 ^ 31 by omega), hn]
    · have ht0 : ¬ (decide (t ≠ 0) && P (2 * t)) = true := fun k => hp (Bool.and_eq_true_iff.mp k).2
      simp only [if_neg hp, if_neg ht0, f_L_least__J45, hn]
  · simp only [f_L_least__L6, MLen h, b_bit (v 0) (by omega), hd, if_pos (nI_le (Nat.le_refl (2 ^ v 0)) (show 2 ^ v 0 < 2 ^ 31 by omega))]
    rfl
end MAT
