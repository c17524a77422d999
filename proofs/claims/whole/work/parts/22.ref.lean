/-! the reference's row 0, what its methods tell *of* it -/
def isR (S : PS) (m al : Nat) (v : Nat → Nat) : Prop := m ∈ S.1 ∧ al ∈ S.1 ∧ (∃ fs : List Value, S.2 m = .inr (12, fs) ∧ fs[1]? = some (.ref al)) ∧ ∃ f : Nat → Int32, S.2 al = .inl (0, 1128, .inl f) ∧ ∀ k, k < 94 → f k = nI (v k)
def fo (v : Nat → Nat) (s : Nat) : Nat := tT v s (bn (ev v) s)
theorem n13 : (13 : Int32) = nI 13 := rfl
theorem n4 : (4 : Int32) = nI 4 := rfl
section REF
variable {S : PS} {m al : Nat} {v : Nat → Nat} {post : Int32 → PS → Prop}
theorem R0 (h : isR S m al v) {kk : Nat → Prop} : gR S m 12 1 kk = kk al := by
  obtain ⟨h1, h2, ⟨fs, h3, h4⟩, h5⟩ := h
  exact gR_eq h1 h3 h4
theorem RO (h : isR S m al v) {P : Prop} : isO S m 12 P = P := by
  obtain ⟨h1, h2, ⟨fs, h3, h4⟩, h5⟩ := h
  exact isO_eq h1 h3
theorem RA (h : isR S m al v) {k : Nat} (hk : k < 94) {kk : Int32 → Prop} : aI S al 0 (nI k) kk = kk (nI (v k)) := by
  obtain ⟨h1, h2, h3, f, h4, h5⟩ := h
  rw [aI_nI h2 h4 (show k < 1128 by omega) (by decide), h5 k hk]
theorem RA0 (h : isR S m al v) {kk : Int32 → Prop} : aI S al 0 0 kk = kk (nI (v 0)) := RA h (k := 0) (by omega)
theorem r_holds {s k : Nat} (hs : s < 2 ^ 31) (hk : k < 31) : f_X8_holds S (nI s) (nI k) post = post (if s.testBit k = true then 1 else 0) S := by
  unfold f_X8_holds
  by_cases h : s.testBit k = true
  · rw [if_pos (by rw [b_in hs hk]; exact h), if_pos h, nZ1]
  · rw [if_neg (by rw [b_in hs hk]; exact h), if_neg h, nZ0]
theorem r_w (h : isR S m al v) {i j : Nat} (hi : i < 9) (hj : j < 9) : f_X8_w S m (nI i) (nI j) post = post (nI (wt v i j)) S := by
  unfold f_X8_w
  rw [R0 h, n13, n9, pk_mul, nI_add, nI_add, show 13 + 9 * i + j = 13 + (9 * i + j) by omega, RA h (by omega)]
  rfl
theorem r_every (h : isR S m al v) (hv : okV v) : f_X8_everyone S m post = post (nI (ev v)) S := by
  have h0 := hv.1
  unfold f_X8_everyone
  rw [R0 h, RA0 h, b_all _ (by omega)]
  rfl
theorem r_tie (h : isR S m al v) (hv : okV v) {r s : Nat} (hr : r < 2 ^ 31) (hs : s < 2 ^ 31) : f_X8_tie S m (nI r) (nI s) post = post (nI (tT v r s)) S := by
  have h0 := hv.1
  refine lp_eq (L := fun fuel i => f_X8_tie_L5 post fuel S m (nI r) (nI s) (nI (sm (fun k => if r.testBit k = true then tS v k s else 0) i)) (nI i)) (n := v 0) (fun fuel i hi => ?_) (fun fuel => ?_) 0 4096 (by omega) (by omega)
  · simp only [f_X8_tie_L5, R0 h, RA0 h, if_neg (nI_ge hi (show v 0 < 2 ^ 31 by omega)), sm]
    generalize sm (fun k => if r.testBit k = true then tS v k s else 0) i = c
    have hin := lp_eq (L := fun fu j => f_X8_tie_L19 post (f_X8_tie_L5 post fuel) fu S m (nI r) (nI s) (nI (c + sm (fun j => if r.testBit i = true then (if s.testBit j = true then wt v i j else 0) else 0) j)) (nI i) (nI j)) (n := v 0) (P := f_X8_tie_L5 post fuel S m (nI r) (nI s) (nI (c + sm (fun j => if r.testBit i = true then (if s.testBit j = true then wt v i j else 0) else 0) (v 0))) (nI (i + 1))) (fun fu j hj => ?_) (fun fu => ?_) 0 4096 (by omega) (by omega)
    · refine Eq.trans hin ?_
      by_cases hb : r.testBit i = true
      · simp only [if_pos hb]; rfl
      · simp only [if_neg hb]
        rw [sm_zero (fun _ _ => rfl)]
    · simp only [f_X8_tie_L19, f_X8_tie_J60, f_X8_tie_J61, R0 h, RA0 h, if_neg (nI_ge hj (show v 0 < 2 ^ 31 by omega)), r_holds hr (show i < 31 by omega), r_holds hs (show j < 31 by omega), sm, nI_1]
      by_cases hb : r.testBit i = true
      · simp only [if_pos hb, z10, if_false]
        by_cases hc : s.testBit j = true
        · simp only [if_pos hc, z10, if_false, RO h, r_w h (show i < 9 by omega) (show j < 9 by omega), nI_add, Nat.add_assoc]
        · simp only [if_neg hc, if_true, n0, nI_add, Nat.add_zero]
      · simp only [if_neg hb, if_true, n0, nI_add, Nat.add_zero]
    · simp only [f_X8_tie_L19, f_X8_tie_J69, R0 h, RA0 h, if_pos (nI_le (Nat.le_refl (v 0)) (show v 0 < 2 ^ 31 by omega)), nI_1]
  · simp only [f_X8_tie_L5, R0 h, RA0 h, if_pos (nI_le (Nat.le_refl (v 0)) (show v 0 < 2 ^ 31 by omega))]
    rfl
theorem mk9_or {f : Nat → Nat} {n : Nat} (h : ∀ k, k < n + 1 → f k ≤ 1) : mk9 f (n + 1) = mk9 f n ||| (f n * 2 ^ n) := by
  have h1 := mk9_lt (n := n) (f := f) (fun k hk => h k (by omega))
  show mk9 f n + f n * 2 ^ n = _
  rw [Nat.or_comm, Nat.mul_comm, Nat.add_comm]
  exact Nat.two_pow_add_eq_or_of_lt h1 _
theorem b_sh {x k : Nat} (hx : x ≤ 1) (hk : k < 31) : nI x <<< (nI k &&& 31) = nI (x * 2 ^ k) := by
  rcases (show x = 0 ∨ x = 1 by omega) with rfl | rfl
  · rw [Nat.zero_mul]
    have : ∀ k, k < 31 → nI 0 <<< (nI k &&& 31) = nI 0 := by decide
    exact this k hk
  · rw [Nat.one_mul]; exact b_bit k hk
theorem r_sideSet (h : isR S m al v) (hv : okV v) : f_X8_sideSet S m post = post (nI (sds v)) S := by
  have h0 := hv.1
  have hs : mk9 (fun k => v (4 + k)) (v 0) = sds v := (sm_cut h0 (fun k h1 h2 => by show v (4 + k) * 2 ^ k = 0; rw [hv.2.2.1 k h2 h1, Nat.zero_mul])).symm
  rw [← hs]
  refine lp_eq (L := fun fuel i => f_X8_sideSet_L4 post fuel S m (nI (mk9 (fun k => v (4 + k)) i)) (nI i)) (n := v 0) (fun fuel i hi => ?_) (fun fuel => ?_) 0 4096 (by omega) (by omega)
  · rw [mk9_or (fun k hk => hv.2.1 k (by omega))]
    simp only [f_X8_sideSet_L4, R0 h, RA0 h, if_neg (nI_ge hi (show v 0 < 2 ^ 31 by omega)), n4, nI_add, RA h (show 4 + i < 94 by omega), b_sh (hv.2.1 i (by omega)) (show i < 31 by omega), b_or, nI_1]
  · simp only [f_X8_sideSet_L4, R0 h, RA0 h, if_pos (nI_le (Nat.le_refl (v 0)) (show v 0 < 2 ^ 31 by omega))]
theorem r_feudOf (h : isR S m al v) (hv : okV v) {s : Nat} (hs : s < 2 ^ 31) : f_X8_feudOf S m (nI s) post = post (nI (fo v s)) S := by
  have he := ev_lt hv
  have hb : bn (ev v) s < 2 ^ 9 := bn_lt he
  unfold f_X8_feudOf
  rw [RO h, r_every h hv, RO h, b_bn, r_tie h hv hs (by omega)]
  rfl
theorem r_bondsOf (h : isR S m al v) (hv : okV v) {x : Nat} (hx : x < 9) : f_X8_bondsOf S m (nI x) post = post (nI (bo v x)) S := by
  have h0 := hv.1
  refine lp_eq (L := fun fuel i => f_X8_bondsOf_L4 post fuel S m (nI x) (nI (sm (fun j => if 0 < wt v x j then 1 else 0) i)) (nI i)) (n := v 0) (fun fuel i hi => ?_) (fun fuel => ?_) 0 4096 (by omega) (by omega)
  · have hw := hv.lt hx (show i < 9 by omega)
    simp only [f_X8_bondsOf_L4, f_X8_bondsOf_J29, R0 h, RA0 h, if_neg (nI_ge hi (show v 0 < 2 ^ 31 by omega)), RO h, r_w h hx (show i < 9 by omega), sm, nI_1]
    by_cases hb : 0 < wt v x i
    · simp only [if_neg (nI_nle hb (show wt v x i < 2 ^ 31 by omega)), if_pos hb, nI_1]
    · simp only [show wt v x i = 0 by omega, n0, if_pos (Int32.le_refl _), Nat.lt_irrefl, if_false, nI_add]
  · simp only [f_X8_bondsOf_L4, R0 h, RA0 h, if_pos (nI_le (Nat.le_refl (v 0)) (show v 0 < 2 ^ 31 by omega))]
    rfl
theorem r_bondMany (h : isR S m al v) (hv : okV v) : f_X8_bondMany S m post = post (nI (bm v)) S := by
  have h0 := hv.1
  refine lp_eq (L := fun fuel i => f_X8_bondMany_L4 post fuel S m (nI (sm (bo v) i)) (nI i)) (n := v 0) (fun fuel i hi => ?_) (fun fuel => ?_) 0 4096 (by omega) (by omega)
  · simp only [f_X8_bondMany_L4, R0 h, RA0 h, if_neg (nI_ge hi (show v 0 < 2 ^ 31 by omega)), RO h, r_bondsOf h hv (show i < 9 by omega), sm, nI_1, nI_add]
  · have hb : sm (bo v) (v 0) ≤ v 0 * 9 := sm_bd (fun k _ => Nat.le_trans bo_le h0)
    simp only [f_X8_bondMany_L4, f_X8_bondMany_J28, R0 h, RA0 h, if_pos (nI_le (Nat.le_refl (v 0)) (show v 0 < 2 ^ 31 by omega)), n2, c2n, true_and]
    rw [pk_div (by omega) (by omega) (by omega)]
    rfl
theorem r_onSide (h : isR S m al v) (hv : okV v) {k : Nat} (hk : k < 9) (b : Bool) : f_X8_onSide S m (nI k) (if b then 1 else 0) post = post (nI (if b then os v k else ss v k)) S := by
  have h1 := hv.2.1 k hk
  have hos : os v k = if v (4 + k) = 1 then bn (ev v) (sds v) else sds v := by
    unfold os ss
    by_cases h2 : v (4 + k) = 1
    · rw [if_pos h2, if_pos h2]
    · rw [if_neg h2, if_neg h2]
      refine b_ext 9 (bn_lt (ev_lt hv)) (sds_lt hv) (fun j hj => ?_)
      rw [bn_tb, bn_tb, ev_tb]
      by_cases hj2 : j < v 0
      · simp [hj2]
      · rw [sds_tb hv hj, hv.2.2.1 j hj (by omega)]; simp [hj2]
  unfold f_X8_onSide
  simp only [R0 h, n4, nI_add, RA h (show 4 + k < 94 by omega)]
  cases b
  · simp only [if_true, Bool.false_eq_true, if_false]
    unfold f_X8_onSide_J17 ss
    by_cases h2 : v (4 + k) = 1
    · rw [if_pos (by rw [nIe1 (by omega)]; exact h2), if_pos h2, RO h, r_sideSet h hv]
    · rw [if_neg (by rw [nIe1 (by omega)]; exact h2), if_neg h2, RO h, r_every h hv, RO h, r_sideSet h hv, b_bn]
  · simp only [z10, if_true, if_false]
    rw [hos]
    unfold f_X8_onSide_J17
    by_cases h2 : v (4 + k) = 1
    · rw [if_neg (by rw [nIe0 (by omega)]; omega), if_pos h2, RO h, r_every h hv, RO h, r_sideSet h hv, b_bn]
    · rw [if_pos (by rw [nIe0 (by omega)]; omega), if_neg h2, RO h, r_sideSet h hv]
theorem r_isSetY (h : isR S m al v) (hv : okV v) {s : Nat} (hs : s < 2 ^ v 0) : f_X8_isSet S m (nI s) post = post 1 S := by
  have hp := Nat.pow_le_pow_right (show 0 < 2 by omega) hv.1
  unfold f_X8_isSet
  rw [if_neg (nI_pos (by omega)), RO h, r_every h hv, b_bn, if_pos, nZ1]
  rw [show bn s (ev v) = 0 from Nat.eq_of_testBit_eq (fun k => by
    rw [bn_tb, ev_tb, Nat.zero_testBit]
    by_cases hk : k < v 0
    · simp [hk]
    · rw [b_hi hs (by omega)]; rfl)]
  rfl
theorem r_isSetN (h : isR S m al v) (hv : okV v) {x : Int32} (hx : ¬ inS v x) : f_X8_isSet S m x post = post 0 S := by
  unfold f_X8_isSet
  by_cases h1 : x < 0
  · rw [if_pos h1, nZ0]
  · obtain ⟨j, hj, rfl⟩ := nI_of h1
    have hb : bn j (ev v) < 2 ^ 31 := bn_lt hj
    rw [if_neg h1, RO h, r_every h hv, b_bn, if_neg, nZ0]
    · rw [nIe0 hb]
      intro hz
      refine hx ⟨j, b_lt_of (fun k hk => ?_), rfl⟩
      have h2 := bn_tb j (ev v) k
      rw [hz, Nat.zero_testBit, ev_tb] at h2
      simpa [show ¬ k < v 0 by omega] using h2.symm
theorem r_weights (h : isR S m al v) (hv : okV v) : f_X8_weights S m post = post (nI (tT v (ev v) (ev v) / 2)) S := by
  have he := ev_lt hv
  have hb : tT v (ev v) (ev v) < 10000000 := by
    have h1 := tSum_lt hv (s := fun _ => ev v)
    have h2 : tT v (ev v) (ev v) ≤ sm (fun k => tS v k (ev v)) (v 0) := sm_le (fun k _ => by split <;> omega)
    omega
  unfold f_X8_weights
  simp only [RO h, r_every h hv, r_tie h hv (show ev v < 2 ^ 31 by omega) (show ev v < 2 ^ 31 by omega), n2, c2n, true_and]
  rw [pk_div (by omega) (by omega) (by omega)]
theorem r_onOne (h : isR S m al v) (hv : okV v) : f_X8_onOne S m post = post (nI (sm (fun k => v (4 + k)) (v 0))) S := by
  have h0 := hv.1
  refine lp_eq (L := fun fuel i => f_X8_onOne_L4 post fuel S m (nI (sm (fun k => v (4 + k)) i)) (nI i)) (n := v 0) (fun fuel i hi => ?_) (fun fuel => ?_) 0 4096 (by omega) (by omega)
  · simp only [f_X8_onOne_L4, R0 h, RA0 h, if_neg (nI_ge hi (show v 0 < 2 ^ 31 by omega)), n4, nI_add, RA h (show 4 + i < 94 by omega), sm, nI_1]
  · simp only [f_X8_onOne_L4, R0 h, RA0 h, if_pos (nI_le (Nat.le_refl (v 0)) (show v 0 < 2 ^ 31 by omega))]
theorem clo_inv {v : Nat → Nat} {x : Nat} : ∀ {i : Nat}, i ≤ 9 → ((clo v x i).1 = -1 ∧ (clo v x i).2 = 0) ∨ ∃ b, b < 9 ∧ (clo v x i).1 = nI b ∧ (clo v x i).2 = wt v x b
  | 0, _ => Or.inl ⟨rfl, rfl⟩
  | i + 1, h => by
    simp only [clo]
    split
    · exact Or.inr ⟨i, by omega, rfl, rfl⟩
    · exact clo_inv (by omega)
theorem nIm1 {b : Nat} (hb : b < 1000) : (nI b = -1) = False := by
  have : ∀ b, b < 1000 → nI b ≠ -1 := fun b hb q => by
    have h1 := congrArg Int32.toInt q
    rw [nI_toInt (by omega)] at h1
    have h2 : (-1 : Int32).toInt = -1 := by decide
    omega
  exact propext ⟨this b hb, False.elim⟩
theorem r_tiedMost (h : isR S m al v) (hv : okV v) {x : Nat} (hx : x < 9) : f_X8_tiedMost S m (nI x) post = post (clo v x (v 0)).1 S := by
  have h0 := hv.1
  refine lp_eq (L := fun fuel i => f_X8_tiedMost_L4 post fuel S m (nI x) (clo v x i).1 (nI i)) (n := v 0) (fun fuel i hi => ?_) (fun fuel => ?_) 0 4096 (by omega) (by omega)
  · have hw := hv.lt hx (show i < 9 by omega)
    have hc := clo_lt hv hx (show i ≤ 9 by omega)
    simp only [f_X8_tiedMost_L4, f_X8_tiedMost_J35, f_X8_tiedMost_J43, R0 h, RA0 h, if_neg (nI_ge hi (show v 0 < 2 ^ 31 by omega)), RO h, r_w h hx (show i < 9 by omega), clo, nI_1]
    rcases clo_inv (v := v) (x := x) (show i ≤ 9 by omega) with ⟨h1, h2⟩ | ⟨b, h1, h2, h3⟩
    · rw [h1, h2, if_pos rfl]
      by_cases hb : 0 < wt v x i
      · simp only [if_neg (nI_nle hb (show wt v x i < 2 ^ 31 by omega)), if_pos hb]
      · simp only [show wt v x i = 0 by omega, n0, if_pos (Int32.le_refl _), Nat.lt_irrefl, if_false, h1]
    · rw [h2, if_neg (by rw [nIm1 (by omega)]; exact id), r_w h hx h1, ← h3]
      by_cases hb : (clo v x i).2 < wt v x i
      · simp only [if_neg (nI_ge hb (show wt v x i < 2 ^ 31 by omega)), if_pos hb]
      · simp only [if_pos (nI_le (Nat.not_lt.mp hb) (show (clo v x i).2 < 2 ^ 31 by omega)), if_neg hb, h2]
  · simp only [f_X8_tiedMost_L4, R0 h, RA0 h, if_pos (nI_le (Nat.le_refl (v 0)) (show v 0 < 2 ^ 31 by omega))]
end REF
