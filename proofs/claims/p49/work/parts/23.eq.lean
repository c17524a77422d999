/-! sums over pairs, feuds, what both sides tell of them -/
theorem sm_pick {f : Nat → Nat} {i : Nat} : ∀ {n : Nat}, i < n → sm (fun j => if j = i then f j else 0) n = f i
  | n + 1, h => by
    rw [sm]
    by_cases hi : i = n
    · rw [hi, sm_zero (fun k hk => if_neg (by omega)), if_pos rfl, Nat.zero_add]
    · rw [sm_pick (n := n) (by omega), if_neg (by omega), Nat.add_zero]
def dbl (x : Nat → Nat → Nat) (n : Nat) : Nat := sm (fun i => sm (fun j => x i j) n) n
theorem dbl_ext {x y : Nat → Nat → Nat} {n : Nat} (h : ∀ i j, i < n → j < n → x i j = y i j) : dbl x n = dbl y n := sm_ext (fun i hi => sm_ext (fun j hj => h i j hi hj))
theorem dbl_add (x y : Nat → Nat → Nat) (n : Nat) : dbl (fun i j => x i j + y i j) n = dbl x n + dbl y n := by
  unfold dbl
  rw [← sm_add]
  exact sm_ext (fun i _ => sm_add _ _ _)
theorem dbl_row {y : Nat → Nat → Nat} {k n : Nat} (hk : k < n) : dbl (fun i j => if i = k then y i j else 0) n = sm (fun j => y k j) n := by
  unfold dbl
  rw [show sm (fun i => sm (fun j => if i = k then y i j else 0) n) n = sm (fun i => if i = k then sm (fun j => y i j) n else 0) n from sm_ext (fun i _ => by
    by_cases h : i = k
    · simp only [if_pos h]
    · simp only [if_neg h]; exact sm_zero (fun _ _ => rfl))]
  exact sm_pick hk
theorem dbl_col {y : Nat → Nat → Nat} {k n : Nat} (hk : k < n) : dbl (fun i j => if j = k then y i j else 0) n = sm (fun i => y i k) n := by
  unfold dbl
  exact sm_ext (fun i _ => sm_pick hk)
theorem dbl_pr {x : Nat → Nat → Nat} {n : Nat} (h0 : ∀ i, i < n → x i i = 0) : dbl x n = pr n (fun i j => x i j + x j i) := by
  have e1 : dbl x n = dbl (fun i j => (if i < j then x i j else 0) + (if j < i then x i j else 0)) n := dbl_ext (fun i j hi hj => by
    rcases Nat.lt_trichotomy i j with h | h | h
    · rw [if_pos h, if_neg (by omega)]; omega
    · subst h; rw [if_neg (by omega), h0 i hi]
    · rw [if_neg (by omega), if_pos h]; omega)
  have e2 : dbl (fun i j => if j < i then x i j else 0) n = dbl (fun i j => if i < j then x j i else 0) n := sm_swap (fun i j => if j < i then x i j else 0) n n
  rw [e1, dbl_add, e2, ← dbl_add]
  exact dbl_ext (fun i j _ _ => by split <;> rfl)
theorem pr_ext {n : Nat} {f g : Nat → Nat → Nat} (h : ∀ i j, i < j → j < n → f i j = g i j) : pr n f = pr n g := sm_ext (fun i _ => sm_ext (fun j hj => by
  by_cases hij : i < j
  · rw [if_pos hij, if_pos hij, h i j hij hj]
  · rw [if_neg hij, if_neg hij]))
theorem pr_dbl {x : Nat → Nat → Nat} {n : Nat} (h0 : ∀ i, i < n → x i i = 0) (hs : ∀ i j, i < n → j < n → x i j = x j i) : dbl x n = 2 * pr n x := by
  have e : ∀ f : Nat → Nat → Nat, pr n f = dbl (fun i j => if i < j then f i j else 0) n := fun _ => rfl
  rw [dbl_pr h0, pr_ext (g := fun i j => x i j + x i j) (fun i j hij hj => by rw [hs j i hj (by omega)]), e, e, Nat.two_mul, ← dbl_add]
  exact dbl_ext (fun i j _ _ => by split <;> rfl)
/-- what is between the two sides of a set -/
def cg (v : Nat → Nat) (s i j : Nat) : Nat := if s.testBit i = s.testBit j then 0 else wt v i j
theorem fo_pr {v : Nat → Nat} (hv : okV v) (s : Nat) : fo v s = pr (v 0) (cg v s) := by
  have h0 := hv.1
  unfold fo tT tS
  rw [show sm (fun k => if s.testBit k = true then sm (fun j => if (bn (ev v) s).testBit j = true then wt v k j else 0) (v 0) else 0) (v 0) = dbl (fun k j => if s.testBit k = true ∧ s.testBit j = false then wt v k j else 0) (v 0) from sm_ext (fun k hk => by
    by_cases hb : s.testBit k = true
    · simp only [if_pos hb]
      refine sm_ext (fun j hj => ?_)
      rw [bn_tb, ev_tb, decide_eq_true hj]
      cases s.testBit j <;> simp [hb]
    · simp only [if_neg hb]
      exact (sm_zero (fun j _ => if_neg (fun q => hb q.1))).symm)]
  rw [dbl_pr (fun i _ => if_neg (fun q => by rw [q.1] at q; exact absurd q.2 (by decide)))]
  refine pr_ext (fun i j hij hj => ?_)
  unfold cg
  rw [hv.2.2.2.1 j i (by omega) (by omega)]
  cases s.testBit i <;> cases s.testBit j <;> simp
theorem fb_fo {v : Nat → Nat} (hv : okV v) : fb v = fo v (sds v) := by
  have h0 := hv.1
  rw [fo_pr hv]
  refine pr_ext (fun i j hij hj => ?_)
  unfold fbg cg
  have h1 := hv.2.1 i (by omega)
  have h2 := hv.2.1 j (by omega)
  rw [sds_tb hv (by omega), sds_tb hv (by omega)]
  rcases (show v (4 + i) = 0 ∨ v (4 + i) = 1 by omega) with a | a <;> rcases (show v (4 + j) = 0 ∨ v (4 + j) = 1 by omega) with b | b <;> simp [a, b]
theorem cg_dbl {v : Nat → Nat} (hv : okV v) (s : Nat) : dbl (cg v s) (v 0) = 2 * fo v s := by
  have h0 := hv.1
  rw [fo_pr hv]
  exact pr_dbl (fun i _ => if_pos rfl) (fun i j hi hj => by unfold cg; rw [hv.2.2.2.1 i j (by omega) (by omega)]; simp only [eq_comm])
theorem os_tb {v : Nat → Nat} (hv : okV v) {k j : Nat} (hk : k < 9) (hj : j < v 0) : (os v k).testBit j = true ↔ ¬ (sds v).testBit k = (sds v).testBit j := by
  have h0 := hv.1
  unfold os ss
  rw [bn_tb, ev_tb, decide_eq_true hj]
  rw [sds_tb hv hk]
  by_cases h2 : v (4 + k) = 1
  · rw [if_pos h2]; simp [h2]
  · rw [if_neg h2, bn_tb, ev_tb, decide_eq_true hj]; simp [h2]
theorem ss_tb {v : Nat → Nat} (hv : okV v) {k j : Nat} (hk : k < 9) (hj : j < v 0) : (ss v k).testBit j = true ↔ (sds v).testBit k = (sds v).testBit j := by
  have h0 := hv.1
  unfold ss
  rw [sds_tb hv hk]
  by_cases h2 : v (4 + k) = 1
  · rw [if_pos h2]; simp [h2]
  · rw [if_neg h2, bn_tb, ev_tb, decide_eq_true hj]; simp [h2]
theorem tS_os {v : Nat → Nat} (hv : okV v) {k : Nat} (hk : k < 9) : tS v k (os v k) = sm (fun j => cg v (sds v) k j) (v 0) := sm_ext (fun j hj => by
  unfold cg
  by_cases h : (sds v).testBit k = (sds v).testBit j
  · rw [if_pos h, if_neg (fun q => ((os_tb hv hk hj).mp q) h)]
  · rw [if_neg h, if_pos ((os_tb hv hk hj).mpr h)])
theorem tS_ss {v : Nat → Nat} (hv : okV v) {k : Nat} (hk : k < 9) : tS v k (ss v k) = sm (fun j => if (sds v).testBit k = (sds v).testBit j then wt v k j else 0) (v 0) := sm_ext (fun j hj => by
  by_cases h : (sds v).testBit k = (sds v).testBit j
  · rw [if_pos h, if_pos ((ss_tb hv hk hj).mpr h)]
  · rw [if_neg h, if_neg (fun q => h ((ss_tb hv hk hj).mp q))])
theorem fh_fo {v : Nat → Nat} (hv : okV v) : fh v = fo v (sds v) := by
  have h0 := hv.1
  unfold fh
  rw [show sm (fun k => tS v k (os v k)) (v 0) = dbl (cg v (sds v)) (v 0) from sm_ext (fun k hk => tS_os hv (by omega)), cg_dbl hv]
  omega
theorem xor_tb (s k i : Nat) : (s ^^^ 2 ^ k).testBit i = if i = k then !s.testBit i else s.testBit i := by
  rw [Nat.testBit_xor, Nat.testBit_two_pow]
  by_cases h : i = k
  · subst h; simp
  · rw [if_neg h]; simp [show ¬ k = i by omega]
theorem fo_move {v : Nat → Nat} (hv : okV v) {k : Nat} (hk : k < v 0) : fo v (sds v ^^^ 2 ^ k) + tS v k (os v k) = fo v (sds v) + tS v k (ss v k) := by
  have h0 := hv.1
  have key : dbl (fun i j => cg v (sds v ^^^ 2 ^ k) i j + ((if i = k then cg v (sds v) i j else 0) + (if j = k then cg v (sds v) i j else 0))) (v 0) = dbl (fun i j => cg v (sds v) i j + ((if i = k then (if (sds v).testBit i = (sds v).testBit j then wt v i j else 0) else 0) + (if j = k then (if (sds v).testBit i = (sds v).testBit j then wt v i j else 0) else 0))) (v 0) := dbl_ext (fun i j hi hj => by
    unfold cg
    rw [xor_tb, xor_tb]
    by_cases h1 : i = k
    · by_cases h2 : j = k
      · rw [h1, h2]; simp [hv.2.2.2.2.1 k (by omega)]
      · simp only [if_pos h1, if_neg h2]
        cases (sds v).testBit i <;> cases (sds v).testBit j <;> simp
    · by_cases h2 : j = k
      · simp only [if_neg h1, if_pos h2]
        cases (sds v).testBit i <;> cases (sds v).testBit j <;> simp
      · simp only [if_neg h1, if_neg h2])
  rw [dbl_add, dbl_add, dbl_add, dbl_add, dbl_row hk, dbl_col hk, dbl_row hk, dbl_col hk, cg_dbl hv, cg_dbl hv] at key
  have e1 : sm (fun i => cg v (sds v) i k) (v 0) = sm (fun j => cg v (sds v) k j) (v 0) := sm_ext (fun i hi => by unfold cg; rw [hv.2.2.2.1 i k (by omega) (by omega)]; simp only [eq_comm])
  have e2 : sm (fun i => if (sds v).testBit i = (sds v).testBit k then wt v i k else 0) (v 0) = sm (fun j => if (sds v).testBit k = (sds v).testBit j then wt v k j else 0) (v 0) := sm_ext (fun i hi => by rw [hv.2.2.2.1 i k (by omega) (by omega)]; simp only [eq_comm])
  rw [e1, e2, ← tS_os hv (by omega), ← tS_ss hv (by omega)] at key
  omega
theorem tT_ev {v : Nat → Nat} : tT v (ev v) (ev v) = sm (fun k => tS v k (ev v)) (v 0) := sm_ext (fun k hk => if_pos (by rw [ev_tb, decide_eq_true hk]))
theorem tT_le {v : Nat → Nat} {r s : Nat} : tT v r s ≤ sm (fun k => tS v k s) (v 0) := sm_le (fun k _ => by split <;> omega)
theorem tT_lt {v : Nat → Nat} (hv : okV v) {r s : Nat} : tT v r s < 10000000 := by
  have h1 := tSum_lt hv (s := fun _ => s)
  have h2 := tT_le (v := v) (r := r) (s := s)
  omega
theorem fo_lt {v : Nat → Nat} (hv : okV v) {s : Nat} : fo v s < 10000000 := tT_lt hv
theorem tT_bit {v : Nat → Nat} {k s : Nat} (hk : k < v 0) : tT v (2 ^ k) s = tS v k s := by
  unfold tT
  refine (sm_ext (g := fun i => if i = k then tS v i s else 0) (fun i _ => ?_)).trans (sm_pick hk)
  rw [Nat.testBit_two_pow]
  by_cases h : k = i
  · subst h; simp
  · simp [h, show ¬ i = k by omega]
section EQ
variable {S : PS} {a t m al : Nat} {v : Nat → Nat} {post : Int32 → PS → Prop}
theorem e_after' (h : isV S a t v) (hv : okV v) {k : Nat} (hk : k < v 0) : f_X6_feudAfterMove S a (nI k) post = post (nI (fo v (sds v ^^^ 2 ^ k))) S := by
  have h0 := hv.1
  rw [e_after h hv (by omega), nI_add, pk_sub, fb_fo hv, ← fo_move hv hk, Nat.add_sub_cancel]
  rw [fb_fo hv, ← fo_move hv hk]; omega
/-- the lowest household of a set -/
def lowF (s : Nat) : Nat → Nat → Nat
  | 0, k => k
  | d + 1, k => if s.testBit k = true then k else lowF s d (k + 1)
def low (s : Nat) : Nat := lowF s 9 0
theorem lowF_spec {s : Nat} : ∀ (d k : Nat), (lowF s d k = k + d ∧ ∀ i, k ≤ i → i < k + d → s.testBit i = false) ∨ (lowF s d k < k + d ∧ k ≤ lowF s d k ∧ s.testBit (lowF s d k) = true ∧ ∀ i, k ≤ i → i < lowF s d k → s.testBit i = false)
  | 0, k => Or.inl ⟨rfl, fun i h1 h2 => by omega⟩
  | d + 1, k => by
    simp only [lowF]
    by_cases hb : s.testBit k = true
    · simp only [if_pos hb]
      exact Or.inr ⟨by omega, by omega, hb, fun i h1 h2 => by omega⟩
    · simp only [if_neg hb]
      have hb' : s.testBit k = false := by simpa using hb
      rcases lowF_spec (s := s) d (k + 1) with ⟨h1, h2⟩ | ⟨h1, h2, h3, h4⟩
      · exact Or.inl ⟨by omega, fun i h3 h4 => by
          by_cases hk : i = k
          · rw [hk]; exact hb'
          · exact h2 i (by omega) (by omega)⟩
      · exact Or.inr ⟨by omega, by omega, h3, fun i h5 h6 => by
          by_cases hk : i = k
          · rw [hk]; exact hb'
          · exact h4 i (by omega) h6⟩
theorem low_spec {s : Nat} (h0 : s ≠ 0) (hs : s < 2 ^ 9) : low s < 9 ∧ s.testBit (low s) = true ∧ ∀ i, i < low s → s.testBit i = false := by
  rcases lowF_spec (s := s) 9 0 with ⟨h1, h2⟩ | ⟨h1, h2, h3, h4⟩
  · refine absurd (Nat.eq_of_testBit_eq (fun k => ?_)) h0
    rw [Nat.zero_testBit]
    by_cases hk : k < 9
    · exact h2 k (by omega) (by omega)
    · exact b_hi hs (by omega)
  · exact ⟨by show lowF s 9 0 < 9; omega, h3, fun i hi => h4 i (by omega) hi⟩
theorem e_low {s : Nat} (hs : s < 2 ^ 31) : f_X7_lowestOf S (nI s) post = post (if low s < 9 then nI (low s) else -1) S := by
  have : ∀ (d k fuel : Nat), d + k = 9 → d < fuel → f_X7_lowestOf_L2 post fuel S (nI s) (nI k) = post (if lowF s d k < 9 then nI (lowF s d k) else -1) S := by
    intro d
    induction d with
    | zero =>
      intro k fuel h1 h2
      obtain ⟨f, rfl⟩ : ∃ f, fuel = f + 1 := ⟨fuel - 1, by omega⟩
      have : k = 9 := by omega
      subst this
      simp only [f_X7_lowestOf_L2, lowF, Nat.lt_irrefl, if_false]
      exact if_pos (by decide)
    | succ d ih =>
      intro k fuel h1 h2
      obtain ⟨f, rfl⟩ : ∃ f, fuel = f + 1 := ⟨fuel - 1, by omega⟩
      simp only [f_X7_lowestOf_L2, n9, if_neg (nI_ge (show k < 9 by omega) (by omega)), e_isIn hs (show k < 31 by omega), lowF]
      by_cases hb : s.testBit k = true
      · simp only [if_pos hb, z10, if_false, if_pos (show k < 9 by omega)]
      · simp only [if_neg hb, if_true, nI_1]
        exact ih (k + 1) f (by omega) (by omega)
  exact this 9 0 4096 (by omega) (by omega)
theorem e_low1 {s : Nat} (h0 : s ≠ 0) (hs : s < 2 ^ 9) : f_X7_lowestOf S (nI s) post = post (nI (low s)) S := by
  rw [e_low (by omega), if_pos (low_spec h0 hs).1]
theorem prs_len : ∀ n, n < 10 → (prs n n).length < 100 := by decide
def hvB (v : Nat → Nat) (post : Int32 → PS → Prop) (S : PS) (i j : Nat) (s : Nat × hvT v) (k : Nat × hvT v → Prop) : Prop := if wt v i j = 0 then k s else if nI s.1 = -1 then post (nI (10 * i + j)) S else k (s.1 + 1, hvS v i j s.2)
theorem hvB_fold {v : Nat → Nat} {post : Int32 → PS → Prop} {S : PS} : ∀ (l : List (Nat × Nat)) (c : Nat) (s : hvT v), c + l.length < 1000 → (∀ q ∈ l, q.1 < 9 ∧ q.2 < 9) → kp (hvB v post S) (fun s => post s.2.1.1 S) l (c, s) = post (l.foldl (fun s q => hvS v q.1 q.2 s) s).1.1 S
  | [], _, _, _, _ => rfl
  | q :: l, c, s, h, hq => by
    rw [List.length_cons] at h
    show hvB v post S q.1 q.2 (c, s) (kp (hvB v post S) (fun s => post s.2.1.1 S) l) = _
    unfold hvB
    by_cases hw : wt v q.1 q.2 = 0
    · rw [if_pos hw]
      have e : hvS v q.1 q.2 s = s := dif_neg (fun z => by omega)
      rw [List.foldl_cons, e]
      exact hvB_fold l c s (by omega) (fun z hz => hq z (List.mem_cons_of_mem _ hz))
    · rw [if_neg hw, if_neg (by rw [nIm1 (by show c < 1000; omega)]; exact id)]
      exact hvB_fold l (c + 1) _ (by omega) (fun z hz => hq z (List.mem_cons_of_mem _ hz))
theorem acr_eq {v : Nat → Nat} (hv : okV v) : acr v = sm (fun k => sm (fun j => acg v k j) k) (v 0) := by
  have h0 := hv.1
  have e1 : sm (fun k => sm (fun j => acg v k j) k) (v 0) = sm (fun k => sm (fun j => if j < k then acg v k j else 0) (v 0)) (v 0) := sm_ext (fun k hk => by
    rw [sm_cut (f := fun j => if j < k then acg v k j else 0) (n := k) (m := v 0) (by omega) (fun j h1 h2 => if_neg (by omega))]
    exact sm_ext (fun j hj => (if_pos hj).symm))
  rw [e1, sm_swap (fun k j => if j < k then acg v k j else 0)]
  refine pr_ext (fun i j hij hj => ?_)
  unfold acg
  rw [hv.2.2.2.1 j i (by omega) (by omega)]
  simp only [eq_comm]
end EQ

