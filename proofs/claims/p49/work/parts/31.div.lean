/-! all divisions: the least feud, how often, the least between two *(class and reference)* -/
/-- the least of f over those k below n that p names, not above c -/
def mnp (c : Nat) (p : Nat → Bool) (f : Nat → Nat) : Nat → Nat
  | 0 => c
  | n + 1 => if p n = true then min (f n) (mnp c p f n) else mnp c p f n
theorem mnp_le {c : Nat} {p : Nat → Bool} {f : Nat → Nat} {k : Nat} : ∀ {n : Nat}, k < n → p k = true → mnp c p f n ≤ f k
  | 0, h, _ => by omega
  | n + 1, h, hp => by
    simp only [mnp]
    by_cases e : k = n
    · subst e; rw [if_pos hp]; omega
    · have := mnp_le (c := c) (f := f) (n := n) (by omega) hp
      split <;> omega
theorem mnp_c {c : Nat} {p : Nat → Bool} {f : Nat → Nat} : ∀ {n : Nat}, mnp c p f n ≤ c
  | 0 => Nat.le_refl _
  | n + 1 => by
    have := mnp_c (c := c) (p := p) (f := f) (n := n)
    simp only [mnp]; split <;> omega
theorem mnp_at {c : Nat} {p : Nat → Bool} {f : Nat → Nat} : ∀ {n : Nat}, mnp c p f n = c ∨ ∃ k, k < n ∧ p k = true ∧ mnp c p f n = f k
  | 0 => Or.inl rfl
  | n + 1 => by
    simp only [mnp]
    by_cases hp : p n = true
    · rw [if_pos hp]
      rcases Nat.lt_or_ge (f n) (mnp c p f n) with h | h
      · exact Or.inr ⟨n, by omega, hp, by omega⟩
      · rcases mnp_at (c := c) (p := p) (f := f) (n := n) with e | ⟨k, k1, k2, k3⟩
        · exact Or.inl (by omega)
        · exact Or.inr ⟨k, by omega, k2, by omega⟩
    · rw [if_neg hp]
      rcases mnp_at (c := c) (p := p) (f := f) (n := n) with e | ⟨k, k1, k2, k3⟩
      · exact Or.inl e
      · exact Or.inr ⟨k, by omega, k2, k3⟩
/-- below c if a value is -/
theorem mnp_in {c : Nat} {p : Nat → Bool} {f : Nat → Nat} {n k : Nat} (hk : k < n) (hp : p k = true) (hf : f k < c) : ∃ j, j < n ∧ p j = true ∧ mnp c p f n = f j := by
  have := mnp_le (c := c) (f := f) hk hp
  rcases mnp_at (c := c) (p := p) (f := f) (n := n) with e | h
  · omega
  · exact h
def dcn (v : Nat → Nat) : Nat := 2 ^ (v 0 - 1)
theorem dcn_le {v : Nat → Nat} (hv : okV v) : dcn v ≤ 256 := by
  have h := Nat.pow_le_pow_right (show 0 < 2 by omega) (show v 0 - 1 ≤ 8 by have := hv.1; omega)
  unfold dcn; omega
theorem dcn_2 {v : Nat → Nat} (h2 : 2 ≤ v 0) : 2 * dcn v = 2 ^ v 0 ∧ 2 ≤ dcn v := by
  obtain ⟨k, e⟩ : ∃ k, v 0 = k + 2 := ⟨v 0 - 2, by omega⟩
  unfold dcn
  rw [e, show k + 2 - 1 = k + 1 by omega, Nat.pow_succ, Nat.pow_succ, Nat.pow_succ]
  have := Nat.pow_pos (n := k) (show 0 < 2 by omega)
  omega
def lfd (v : Nat → Nat) : Nat := mnp 2147483647 (fun s => decide (s ≠ 0)) (fo v) (dcn v)
theorem lfd_eq {v : Nat → Nat} (hv : okV v) (h2 : 2 ≤ v 0) : lfd v = lcut v := by
  obtain ⟨e1, e2⟩ := dcn_2 h2
  obtain ⟨s, s1, s2, s3⟩ := lcut_at hv h2
  have hl := fo_lt hv (s := s)
  have key : ∃ s', s' ≠ 0 ∧ s' < dcn v ∧ fo v s' = lcut v := by
    by_cases h : s < dcn v
    · exact ⟨s, s1, h, s3⟩
    · exact ⟨2 ^ v 0 - 1 - s, by omega, by omega, by rw [fo_cpl hv (by omega), s3]⟩
  obtain ⟨s', t1, t2, t3⟩ := key
  have h1 := mnp_le (c := 2147483647) (p := fun s => decide (s ≠ 0)) (f := fo v) t2 (decide_eq_true t1)
  obtain ⟨j, j1, j2, j3⟩ := mnp_in (c := 2147483647) (p := fun s => decide (s ≠ 0)) (f := fo v) t2 (decide_eq_true t1) (by omega)
  have h3 := lcut_le hv (s := j) (of_decide_eq_true j2) (by omega)
  unfold lfd
  omega
/-- the feud between two households -/
def btp (i j : Nat) (s : Nat) : Bool := s.testBit i && !s.testBit j
def bt (v : Nat → Nat) (i j : Nat) : Nat := mnp 100000000 (btp i j) (fo v) (2 ^ v 0)
theorem bt_at {v : Nat → Nat} (hv : okV v) {i j : Nat} (hi : i < v 0) (hij : i ≠ j) : ∃ s, s < 2 ^ v 0 ∧ s.testBit i = true ∧ s.testBit j = false ∧ bt v i j = fo v s := by
  have hl := fo_lt hv (s := 2 ^ i)
  obtain ⟨s, s1, s2, s3⟩ := mnp_in (c := 100000000) (p := btp i j) (f := fo v) (n := 2 ^ v 0) (k := 2 ^ i) (Nat.pow_lt_pow_right (by omega) hi) (by
    unfold btp
    rw [Nat.testBit_two_pow, Nat.testBit_two_pow]
    simp [hij]) (by omega)
  unfold btp at s2
  rw [Bool.and_eq_true] at s2
  exact ⟨s, s1, s2.1, by simpa using s2.2, s3⟩
theorem bt_le {v : Nat → Nat} {i j s : Nat} (hs : s < 2 ^ v 0) (h1 : s.testBit i = true) (h2 : s.testBit j = false) : bt v i j ≤ fo v s :=
  mnp_le hs (by unfold btp; rw [h1, h2]; rfl)
theorem cpl_tb {n s i : Nat} (hs : s < 2 ^ n) (hi : i < n) : (2 ^ n - 1 - s).testBit i = !s.testBit i := by
  rw [show 2 ^ n - 1 - s = 2 ^ n - (s + 1) by omega, Nat.testBit_two_pow_sub_succ hs]
  simp [hi]
def lap (v : Nat → Nat) (i j : Nat) : Nat := mnp 2147483647 (fun s => decide (s ≠ 0) && (s.testBit i != s.testBit j)) (fo v) (dcn v)
theorem lap_eq {v : Nat → Nat} (hv : okV v) {i j : Nat} (hi : i < v 0) (hj : j < v 0) (hij : i ≠ j) : lap v i j = bt v i j := by
  obtain ⟨e1, e2⟩ := dcn_2 (v := v) (by omega)
  obtain ⟨s, s1, s2, s3, s4⟩ := bt_at hv hi hij
  have hl := fo_lt hv (s := s)
  have key : ∃ s', (decide (s' ≠ 0) && (s'.testBit i != s'.testBit j)) = true ∧ s' < dcn v ∧ fo v s' = bt v i j := by
    by_cases h : s < dcn v
    · have hne : s ≠ 0 := fun z => by rw [z, Nat.zero_testBit] at s2; cases s2
      exact ⟨s, by rw [s2, s3, decide_eq_true hne]; rfl, h, s4.symm⟩
    · have h1 := cpl_tb (n := v 0) s1 hi
      have h2 := cpl_tb (n := v 0) s1 hj
      refine ⟨2 ^ v 0 - 1 - s, ?_, by omega, by rw [fo_cpl hv (by omega), s4]⟩
      have hne : 2 ^ v 0 - 1 - s ≠ 0 := fun z => by rw [z, Nat.zero_testBit, s3] at h2; cases h2
      rw [h1, h2, s2, s3, decide_eq_true hne]; rfl
  obtain ⟨s', t1, t2, t3⟩ := key
  have h1 := mnp_le (c := 2147483647) (p := fun s => decide (s ≠ 0) && (s.testBit i != s.testBit j)) (f := fo v) t2 t1
  obtain ⟨z, z1, z2, z3⟩ := mnp_in (c := 2147483647) (p := fun s => decide (s ≠ 0) && (s.testBit i != s.testBit j)) (f := fo v) t2 t1 (by omega)
  have h3 : bt v i j ≤ fo v z := by
    have hzz : (z.testBit i != z.testBit j) = true := (Bool.and_eq_true _ _ ▸ z2).2
    cases hzi : z.testBit i with
    | true =>
      refine bt_le (by omega) hzi ?_
      rw [hzi] at hzz
      cases hzj : z.testBit j with
      | false => rfl
      | true => rw [hzj] at hzz; cases hzz
    | false =>
      rw [← fo_cpl hv (s := z) (by omega)]
      refine bt_le (by omega) (by rw [cpl_tb (by omega) hi, hzi]; rfl) ?_
      rw [cpl_tb (by omega) hj]
      rw [hzi] at hzz
      cases hzj : z.testBit j with
      | true => rfl
      | false => rw [hzj] at hzz; cases hzz
  unfold lap
  omega
/-! how many divisions have the least feud -/
theorem sm_rev (f : Nat → Nat) : ∀ n, sm f n = sm (fun k => f (n - 1 - k)) n := by
  have hsucc : ∀ (g : Nat → Nat) n, sm g (n + 1) = g 0 + sm (fun k => g (k + 1)) n := fun g n => by
    induction n with
    | zero => simp [sm]
    | succ n ih => rw [sm, ih, sm]; omega
  intro n
  induction n with
  | zero => rfl
  | succ n ih =>
    rw [hsucc (fun k => f (n + 1 - 1 - k)) n, sm, ih, Nat.add_comm]
    show f n + _ = f (n + 1 - 1 - 0) + _
    rw [show n + 1 - 1 - 0 = n by omega]
    congr 1
    exact sm_ext (fun k _ => by show f (n - 1 - k) = f (n + 1 - 1 - (k + 1)); congr 1; omega)
theorem sm_cat (f : Nat → Nat) (a : Nat) : ∀ b, sm f (a + b) = sm f a + sm (fun k => f (a + k)) b
  | 0 => rfl
  | b + 1 => by rw [← Nat.add_assoc, sm, sm_cat f a b, sm]; omega
theorem sm_eo (f : Nat → Nat) : ∀ n, sm f (2 * n) = sm (fun t => f (2 * t)) n + sm (fun t => f (2 * t + 1)) n
  | 0 => rfl
  | n + 1 => by
    rw [show 2 * (n + 1) = 2 * n + 1 + 1 by omega, sm, sm, sm_eo f n, sm, sm]; omega
def lg1 (v : Nat → Nat) (s : Nat) : Nat := if s ≠ 0 ∧ s < 2 ^ v 0 - 1 ∧ fo v s = lcut v then 1 else 0
theorem lg1_c {v : Nat → Nat} (hv : okV v) {s : Nat} (hs : s < 2 ^ v 0) : lg1 v (2 ^ v 0 - 1 - s) = lg1 v s := by
  unfold lg1
  rw [fo_cpl hv hs]
  by_cases h : s ≠ 0 ∧ s < 2 ^ v 0 - 1 ∧ fo v s = lcut v
  · rw [if_pos h, if_pos ⟨by omega, by omega, h.2.2⟩]
  · rw [if_neg h, if_neg (fun z => h ⟨by omega, by omega, z.2.2⟩)]
theorem lg1_half {v : Nat → Nat} (hv : okV v) (h2 : 2 ≤ v 0) : sm (lg1 v) (dcn v) = sm (fun t => lg1 v (2 * t)) (dcn v) := by
  obtain ⟨e1, e2⟩ := dcn_2 h2
  have a1 : sm (lg1 v) (2 * dcn v) = sm (lg1 v) (dcn v) + sm (lg1 v) (dcn v) := by
    rw [show 2 * dcn v = dcn v + dcn v by omega, sm_cat]
    congr 1
    rw [sm_rev]
    refine sm_ext (fun k hk => ?_)
    show lg1 v (dcn v + (dcn v - 1 - k)) = lg1 v k
    rw [show dcn v + (dcn v - 1 - k) = 2 ^ v 0 - 1 - k by omega, lg1_c hv (by omega)]
  have a2 : sm (lg1 v) (2 * dcn v) = sm (fun t => lg1 v (2 * t)) (dcn v) + sm (fun t => lg1 v (2 * t)) (dcn v) := by
    rw [sm_eo]
    congr 1
    rw [sm_rev]
    refine sm_ext (fun k hk => ?_)
    show lg1 v (2 * (dcn v - 1 - k) + 1) = lg1 v (2 * k)
    rw [show 2 * (dcn v - 1 - k) + 1 = 2 ^ v 0 - 1 - 2 * k by omega, lg1_c hv (by omega)]
  omega
/-! the class's divisions: cells 0 itself, 1 feuds (field 1: count) -/
def dfs (B : Nat → Nat) (F : Nat → Int32) : List Value := [.ref (B 1), .int (F 1)]
abbrev DS (S0 : PS) (B : Nat → Nat) (F : Nat → Int32) (h : Nat → Nat → Int32) (S : PS) : Prop := OS 2 4 (dfs B) (fun _ => 0) (fun _ => 256) S0 B F h S
theorem OS_lE {n ci : Nat} {fl : (Nat → Int32) → List Value} {rk rl : Nat → Nat} {S0 S : PS} {B : Nat → Nat} {F : Nat → Int32} {h : Nat → Nat → Int32} (hB : oB n S0 B) (H : OS n ci fl rk rl S0 B F h S) {k : Nat} {kk : Int32 → Prop} (hk : 0 < k ∧ k < n) (hr : rk k < 3) : lE S (B k) kk = kk (nI (rl k)) :=
  lE_eq (by rw [H.1]; exact hB.2 k hk.2) (H.2.2.2 k hk.1 hk.2) hr
def dmeas (v : Nat → Nat) (F : Nat → Int32) (h : Nat → Nat → Int32) : Prop := h 1 0 = 0 ∧ F 1 = nI (if v 0 < 2 then 0 else dcn v) ∧ (2 ≤ v 0 → ∀ s, s < dcn v → h 1 s = nI (fo v s))
theorem nI_mx : (2147483647 : Int32) = nI 2147483647 := rfl
section DIV
variable {S0 S : PS} {B : Nat → Nat} {F : Nat → Int32} {h : Nat → Nat → Int32} {v : Nat → Nat}
theorem d_measure {a t : Nat} {post : PS → Prop} (hB : oB 2 S B) (H : DS S B F h S) (hz : h 1 0 = 0) (hV : isV S a t v) (hv : okV v) (hd : ∀ k, k < 2 → a ≠ B k ∧ t ≠ B k)
    (next : ∀ (S1 : PS) (F1 : Nat → Int32) (h1 : Nat → Nat → Int32), DS S B F1 h1 S1 → dmeas v F1 h1 → post S1) : f_X0_measure S (B 0) a post := by
  have h0 := hv.1
  unfold f_X0_measure
  rw [V1 hV]
  by_cases h2 : 2 ≤ v 0
  · obtain ⟨e1, e2⟩ := dcn_2 h2
    have e3 := dcn_le hv
    rw [if_pos (by rw [n2]; exact nI_le h2 (by omega)), V1 hV, show nI (v 0) - 1 = nI (v 0 - 1) from by rw [n1, pk_sub (by omega)], b_bit _ (by omega)]
    unfold f_X0_measure_J21
    refine OS_pV hB (by omega) H (f := 1) rfl (by show 1 < 2; decide) (fun S2 H2 => ?_)
    have hF : Fu F 1 (nI (2 ^ (v 0 - 1))) 1 = nI (dcn v) := Fu_at
    generalize Fu F 1 (nI (2 ^ (v 0 - 1))) = F2 at H2 hF
    have key := loop_i (W := fun fuel i (s : PS × (Nat → Nat → Int32)) => f_X0_measure_L26 post fuel s.1 (B 0) a (nI i))
      (I := fun i s => DS S B F2 s.2 s.1 ∧ 1 ≤ i ∧ s.2 1 0 = 0 ∧ ∀ x, x < i → s.2 1 x = nI (fo v x)) (dcn v) (fun n s hI => ?_) (fun n i s hi hI ih => ?_) 4096 1 (S2, h) (by omega) (by omega) ⟨H2, by omega, hz, fun x hx => by rw [show x = 0 by omega]; show h 1 0 = _; rw [hz, fo_0]; rfl⟩
    · exact key
    · obtain ⟨c1, c2, c3, c4⟩ := hI
      show f_X0_measure_L26 post (n + 1) s.1 (B 0) a (nI (dcn v))
      simp only [f_X0_measure_L26]
      rw [OS_gI hB (by omega) c1 (f := 1) (x := F2 1) rfl, hF, if_pos (Int32.le_refl _)]
      exact next s.1 F2 s.2 c1 ⟨c3, by rw [if_neg (by omega)]; exact hF, fun _ => c4⟩
    · obtain ⟨c1, c2, c3, c4⟩ := hI
      have hV1 := OS_isV c1 hV hd
      have hi0 : i ≠ 0 := by omega
      have hi9 : i < 2 ^ 9 := by omega
      obtain ⟨l1, l2, l3⟩ := low_spec hi0 hi9
      have hlk : low i < v 0 := by
        rcases Nat.lt_or_ge (low i) (v 0) with q | q
        · exact q
        · rw [b_hi (show i < 2 ^ v 0 by omega) q] at l2; cases l2
      have ho : bn i (2 ^ low i) ≤ i := Nat.and_le_left
      have ho2 : (bn i (2 ^ low i)).testBit (low i) = false := by rw [bn_tb, Nat.testBit_two_pow]; simp
      have ho3 : bn i (2 ^ low i) ≠ i := fun z => by rw [z, l2] at ho2; cases ho2
      have ho4 : bn i (2 ^ low i) ||| 2 ^ low i = i := Nat.eq_of_testBit_eq (fun k => by
        rw [or_tb, bn_tb, Nat.testBit_two_pow]
        by_cases e : k = low i
        · subst e; rw [l2]; simp
        · simp [e, show ¬ low i = k by omega])
      have hadd := fo_add hv (s := bn i (2 ^ low i)) (k := low i) (by omega) hlk ho2
      rw [ho4] at hadd
      have hev := ev_lt hv
      show f_X0_measure_L26 post (n + 1) s.1 (B 0) a (nI i)
      simp only [f_X0_measure_L26]
      have he2 : ∀ post', f_X6_everyone s.1 a post' = post' (nI (ev v)) s.1 := fun post' => e_every hV1 hv
      rw [OS_gI hB (by omega) c1 (f := 1) (x := F2 1) rfl, hF, if_neg (nI_ge hi (by omega)), OS_gR hB (by omega) c1 (k := 1) (f := 0) rfl, OS_lE hB c1 (k := 1) (by omega) (by decide), if_neg (show ¬ nI 256 ≤ nI i from nI_ge (by omega) (by omega)), e_low1 hi0 hi9, OS_gR hB (by omega) c1 (k := 1) (f := 0) rfl, OS_gR hB (by omega) c1 (k := 1) (f := 0) rfl, b_bit (low i) (by omega), b_bn, OS_aI hB c1 (k := 1) (by omega) (show bn i (2 ^ low i) < 256 by omega) (by decide), c4 _ (by omega), VO hV1, he2, VO hV1, e_tieToSet hV1 hv l1 (by omega), VO hV1, e_tieToSet hV1 hv l1 (by omega), n2, pk_mul, nI_add, ← hadd, pk_sub (by omega), Nat.add_sub_cancel, nI_1]
      refine OS_sI hB (by omega) c1 (k := 1) (by omega) (show i < 256 by omega) (by decide) (fun S3 H3 => ?_)
      refine ih (S3, _) ⟨H3, by omega, ?_, fun x hx => ?_⟩
      · show hu s.2 1 i _ 1 0 = 0
        rw [hu_off (by omega)]; exact c3
      · show hu s.2 1 i _ 1 x = _
        rw [hu_if]
        by_cases e : x = i
        · rw [if_pos e, e]
        · rw [if_neg e]; exact c4 x (by omega)
  · rw [if_neg (by rw [n2]; exact nI_ge (by omega) (by omega))]
    unfold f_X0_measure_J21
    refine OS_pV hB (by omega) H (f := 1) rfl (by show 1 < 2; decide) (fun S2 H2 => ?_)
    suffices key : ∀ n, f_X0_measure_L26 post (n + 1) S2 (B 0) a 1 from key 4095
    intro n
    simp only [f_X0_measure_L26]
    rw [OS_gI hB (by omega) H2 (f := 1) (x := 0) rfl, if_pos (by decide)]
    exact next S2 _ h H2 ⟨hz, by rw [if_pos (by omega)]; exact Fu_at, fun q => by omega⟩
theorem d_least {post : Int32 → PS → Prop} (hB : oB 2 S0 B) (H : DS S0 B F h S) (hm : dmeas v F h) (hv : okV v) (h2 : 2 ≤ v 0) : f_X0_leastFeud S (B 0) post = post (nI (lcut v)) S := by
  have h0 := hv.1
  obtain ⟨e1, e2⟩ := dcn_2 h2
  have e3 := dcn_le hv
  obtain ⟨m1, m2, m3⟩ := hm
  rw [if_neg (by omega)] at m2
  rw [← lfd_eq hv h2]
  refine lp_eqm (L := fun fuel i => f_X0_leastFeud_L5 post fuel S (B 0) (nI (mnp 2147483647 (fun s => decide (s ≠ 0)) (fo v) i)) (nI i)) (m := 1) (n := dcn v) (fun fuel i h1 hi => ?_) (fun fuel => ?_) 1 4096 (by omega) (by omega) (by omega)
  · have hf := fo_lt hv (s := i)
    have hc := mnp_c (c := 2147483647) (p := fun s => decide (s ≠ 0)) (f := fo v) (n := i)
    simp only [f_X0_leastFeud_L5]
    rw [OS_gI hB (by omega) H (f := 1) (x := F 1) rfl, m2, if_neg (nI_ge hi (by omega)), OS_gR hB (by omega) H (k := 1) (f := 0) rfl, OS_lE hB H (k := 1) (by omega) (by decide), if_neg (show ¬ nI 256 ≤ nI i from nI_ge (by omega) (by omega)), OS_gR hB (by omega) H (k := 1) (f := 0) rfl, OS_aI hB H (k := 1) (by omega) (show i < 256 by omega) (by decide), m3 h2 i hi, nI_min (by omega) (by omega), nI_1]
    simp only [mnp]
    rw [if_pos (decide_eq_true (show i ≠ 0 by omega))]
  · simp only [f_X0_leastFeud_L5]
    rw [OS_gI hB (by omega) H (f := 1) (x := F 1) rfl, m2, if_pos (Int32.le_refl _)]
    rfl
theorem d_count {post : Int32 → PS → Prop} (hB : oB 2 S0 B) (H : DS S0 B F h S) (hm : dmeas v F h) (hv : okV v) (h2 : 2 ≤ v 0) : f_X0_leastCount S (B 0) post = post (nI (sm (lg1 v) (dcn v))) S := by
  have h0 := hv.1
  obtain ⟨e1, e2⟩ := dcn_2 h2
  have e3 := dcn_le hv
  have hcl : lcut v < 10000000 := cut_lt hv
  unfold f_X0_leastCount
  rw [OS_isO hB (by omega) H, d_least hB H hm hv h2]
  obtain ⟨m1, m2, m3⟩ := hm
  rw [if_neg (by omega)] at m2
  have e0 : sm (lg1 v) 1 = 0 := by show 0 + lg1 v 0 = 0; unfold lg1; rw [if_neg (fun z => z.1 rfl)]
  have key := lp_eqm (L := fun fuel i => f_X0_leastCount_L9 post fuel S (B 0) (nI (lcut v)) (nI (sm (lg1 v) i)) (nI i)) (P := post (nI (sm (lg1 v) (dcn v))) S) (m := 1) (n := dcn v) (fun fuel i h1 hi => ?_) (fun fuel => ?_) 1 4096 (by omega) (by omega) (by omega)
  · rw [e0] at key; exact key
  · have hf := fo_lt hv (s := i)
    simp only [f_X0_leastCount_L9, f_X0_leastCount_J39]
    rw [OS_gI hB (by omega) H (f := 1) (x := F 1) rfl, m2, if_neg (nI_ge hi (by omega)), OS_gR hB (by omega) H (k := 1) (f := 0) rfl, OS_lE hB H (k := 1) (by omega) (by decide), if_neg (show ¬ nI 256 ≤ nI i from nI_ge (by omega) (by omega)), OS_gR hB (by omega) H (k := 1) (f := 0) rfl, OS_aI hB H (k := 1) (by omega) (show i < 256 by omega) (by decide), m3 h2 i hi, nI_1, nI_1]
    simp only [sm]
    by_cases e : fo v i = lcut v
    · rw [if_pos (by rw [e]), show lg1 v i = 1 from if_pos ⟨by omega, by omega, e⟩]
    · rw [if_neg (by rw [nI_eq (by omega) (by omega)]; exact e), show lg1 v i = 0 from if_neg (fun z => e z.2.2), Nat.add_zero (sm (lg1 v) i)]
  · simp only [f_X0_leastCount_L9]
    rw [OS_gI hB (by omega) H (f := 1) (x := F 1) rfl, m2, if_pos (Int32.le_refl _)]
theorem d_apart {i j : Nat} {post : Int32 → PS → Prop} (hB : oB 2 S0 B) (H : DS S0 B F h S) (hm : dmeas v F h) (hv : okV v) (hi : i < v 0) (hj : j < v 0) (hij : i ≠ j) : f_X0_leastApart S (B 0) (nI i) (nI j) post = post (nI (bt v i j)) S := by
  have h0 := hv.1
  have h2 : 2 ≤ v 0 := by omega
  obtain ⟨e1, e2⟩ := dcn_2 h2
  have e3 := dcn_le hv
  obtain ⟨m1, m2, m3⟩ := hm
  rw [if_neg (by omega)] at m2
  rw [← lap_eq hv hi hj hij]
  refine lp_eqm (L := fun fuel s => f_X0_leastApart_L6 post fuel S (B 0) (nI i) (nI j) (nI (mnp 2147483647 (fun s => decide (s ≠ 0) && (s.testBit i != s.testBit j)) (fo v) s)) (nI s)) (m := 1) (n := dcn v) (fun fuel s h1 hs => ?_) (fun fuel => ?_) 1 4096 (by omega) (by omega) (by omega)
  · have hf := fo_lt hv (s := s)
    have hc := mnp_c (c := 2147483647) (p := fun s => decide (s ≠ 0) && (s.testBit i != s.testBit j)) (f := fo v) (n := s)
    simp only [f_X0_leastApart_L6, f_X0_leastApart_J52]
    rw [OS_gI hB (by omega) H (f := 1) (x := F 1) rfl, m2, if_neg (nI_ge hs (by omega)), OS_gR hB (by omega) H (k := 1) (f := 0) rfl, OS_lE hB H (k := 1) (by omega) (by decide), if_neg (show ¬ nI 256 ≤ nI s from nI_ge (by omega) (by omega)), e_isIn (by omega) (by omega), e_isIn (by omega) (by omega)]
    simp only [mnp, decide_eq_true (show s ≠ 0 by omega), Bool.true_and]
    by_cases e : s.testBit i = s.testBit j
    · rw [if_pos (by rw [e]), if_neg (by rw [e]; cases s.testBit j <;> decide), nI_1]
    · rw [if_neg (by cases hx : s.testBit i <;> cases hy : s.testBit j <;> simp_all), if_pos (by cases hx : s.testBit i <;> cases hy : s.testBit j <;> simp_all), OS_gR hB (by omega) H (k := 1) (f := 0) rfl, OS_aI hB H (k := 1) (by omega) (show s < 256 by omega) (by decide), m3 h2 s hs, nI_min (by omega) (by omega), nI_1]
  · simp only [f_X0_leastApart_L6]
    rw [OS_gI hB (by omega) H (f := 1) (x := F 1) rfl, m2, if_pos (Int32.le_refl _)]
    rfl
end DIV
/-! the reference's own ways -/
section RDV
variable {S : PS} {m al : Nat} {v : Nat → Nat} {post : Int32 → PS → Prop}
end RDV

