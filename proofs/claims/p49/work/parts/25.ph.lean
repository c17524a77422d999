/-! phases as numbers tell them: groups are masks, in the order of their lowest households *(now 0, now 1 ..)* -/
theorem tS_add {v : Nat → Nat} {i s t : Nat} (h : s &&& t = 0) : tS v i (s ||| t) = tS v i s + tS v i t := by
  unfold tS
  rw [← sm_add]
  refine sm_ext (fun k _ => ?_)
  have h1 : (s &&& t).testBit k = false := by rw [h, Nat.zero_testBit]
  rw [Nat.testBit_and] at h1
  rw [Nat.testBit_or]
  cases hs : s.testBit k <;> cases ht : t.testBit k <;> simp_all
theorem tT_addR {v : Nat → Nat} {r s t : Nat} (h : s &&& t = 0) : tT v r (s ||| t) = tT v r s + tT v r t := by
  unfold tT
  rw [← sm_add]
  refine sm_ext (fun k _ => ?_)
  rw [tS_add h]
  split <;> rfl
theorem tT_dbl (v : Nat → Nat) (r s : Nat) : tT v r s = dbl (fun k j => if r.testBit k = true ∧ s.testBit j = true then wt v k j else 0) (v 0) := sm_ext (fun k _ => by
  by_cases h : r.testBit k = true
  · rw [if_pos h]; exact sm_ext (fun j _ => by simp [h])
  · rw [if_neg h]; exact (sm_zero (fun j _ => if_neg (fun q => h q.1))).symm)
theorem tT_sym {v : Nat → Nat} (hv : okV v) (r s : Nat) : tT v r s = tT v s r := by
  have h0 := hv.1
  rw [tT_dbl, tT_dbl]
  unfold dbl
  rw [sm_swap (fun k j => if r.testBit k = true ∧ s.testBit j = true then wt v k j else 0)]
  exact sm_ext (fun j hj => sm_ext (fun k hk => by rw [hv.2.2.2.1 k j (by omega) (by omega)]; simp only [and_comm]))
theorem tT_addL {v : Nat → Nat} (hv : okV v) {r s t : Nat} (h : r &&& s = 0) : tT v (r ||| s) t = tT v r t + tT v s t := by
  rw [tT_sym hv, tT_addR h, tT_sym hv t r, tT_sym hv t s]
theorem tT_0 {v : Nat → Nat} {r : Nat} : tT v r 0 = 0 := sm_zero (fun k _ => by
  rw [show tS v k 0 = 0 from sm_zero (fun j _ => if_neg (by rw [Nat.zero_testBit]; decide)), ite_self])
theorem and_or0 {a b c : Nat} (h1 : a &&& b = 0) (h2 : a &&& c = 0) : a &&& (b ||| c) = 0 := by rw [Nat.and_or_distrib_left, h1, h2]; rfl
theorem or_and0 {a b c : Nat} (h1 : a &&& c = 0) (h2 : b &&& c = 0) : (a ||| b) &&& c = 0 := by rw [Nat.and_comm]; exact and_or0 (by rw [Nat.and_comm]; exact h1) (by rw [Nat.and_comm]; exact h2)
theorem or_and0_l {a b c : Nat} (h : a &&& (b ||| c) = 0) : a &&& b = 0 := by
  rw [Nat.and_or_distrib_left] at h
  exact (Nat.or_eq_zero_iff.mp h).1
theorem or_and0_r {a b c : Nat} (h : a &&& (b ||| c) = 0) : a &&& c = 0 := by
  rw [Nat.and_or_distrib_left] at h
  exact (Nat.or_eq_zero_iff.mp h).2
theorem and_self_ne {a : Nat} (h : a ≠ 0) : a &&& a ≠ 0 := by rw [Nat.and_self]; exact h
/-- the first of the first i groups that joined nobody yet and is tied the most -/
def pk1 (v now : Nat → Nat) (J : Nat) : Nat → Option Nat
  | 0 => none
  | i + 1 => if now i &&& J = 0 then (match pk1 v now J i with
    | none => some i
    | some b => if tT v (now b) J < tT v (now i) J then some i else some b) else pk1 v now J i
theorem pk1_none {v now : Nat → Nat} {J : Nat} : ∀ {i : Nat}, pk1 v now J i = none → ∀ k, k < i → now k &&& J ≠ 0
  | 0, _, k, hk => by omega
  | i + 1, h, k, hk => by
    simp only [pk1] at h
    split at h
    · split at h
      · cases h
      · split at h <;> cases h
    · rename_i h1
      by_cases hki : k = i
      · rw [hki]; exact h1
      · exact pk1_none h k (by omega)
theorem pk1_some {v now : Nat → Nat} {J b : Nat} : ∀ {i : Nat}, pk1 v now J i = some b → b < i ∧ now b &&& J = 0 ∧ ∀ k, k < i → now k &&& J = 0 → tT v (now k) J ≤ tT v (now b) J
  | 0, h => by cases h
  | i + 1, h => by
    simp only [pk1] at h
    split at h
    · rename_i h1
      split at h
      · rename_i h2
        cases h
        exact ⟨by omega, h1, fun k hk hd => by
          by_cases hki : k = b
          · rw [hki]; exact Nat.le_refl _
          · exact absurd hd (pk1_none h2 k (by omega))⟩
      · rename_i c h2
        obtain ⟨a1, a2, a3⟩ := pk1_some h2
        split at h
        · rename_i h3
          cases h
          exact ⟨by omega, h1, fun k hk hd => by
            by_cases hki : k = b
            · rw [hki]; exact Nat.le_refl _
            · have := a3 k (by omega) hd; omega⟩
        · rename_i h3
          cases h
          exact ⟨by omega, a2, fun k hk hd => by
            by_cases hki : k = i
            · rw [hki]; omega
            · exact a3 k (by omega) hd⟩
    · rename_i h1
      obtain ⟨a1, a2, a3⟩ := pk1_some h
      exact ⟨by omega, a2, fun k hk hd => by
        by_cases hki : k = i
        · rw [hki] at hd; exact absurd hd h1
        · exact a3 k (by omega) hd⟩
def pick (v now : Nat → Nat) (m J : Nat) : Nat := (pk1 v now J m).getD 0
def Jn (v now : Nat → Nat) (m : Nat) : Nat → Nat
  | 0 => 0
  | p + 1 => Jn v now m p ||| now (pick v now m (Jn v now m p))
def sq (v now : Nat → Nat) (m p : Nat) : Nat := pick v now m (Jn v now m p)
def gq (v now : Nat → Nat) (m p : Nat) : Nat := now (sq v now m p)
def pq (v now : Nat → Nat) (m p : Nat) : Nat := tT v (gq v now m p) (Jn v now m p)
def mg (now : Nat → Nat) (a b : Nat) : Nat → Nat := fun k => if k < b then (if k = a then now a ||| now b else now k) else now (k + 1)
def nxt (v now : Nat → Nat) (m : Nat) : Nat → Nat := mg now (min (sq v now m (m - 2)) (sq v now m (m - 1))) (max (sq v now m (m - 2)) (sq v now m (m - 1)))
def phs (v : Nat → Nat) : Nat → Nat → Nat
  | 0 => fun k => 2 ^ k
  | p + 1 => nxt v (phs v p) (v 0 - p)
/-- groups: not empty, of the village's households, apart, in the order of their lowest -/
def prt (n : Nat) (now : Nat → Nat) (m : Nat) : Prop := (∀ k, k < m → now k ≠ 0 ∧ now k < 2 ^ n) ∧ (∀ j k, j < m → k < m → j ≠ k → now j &&& now k = 0) ∧ (∀ j k, j < k → k < m → low (now j) < low (now k)) ∧ ∀ i, i < n → ∃ k, k < m ∧ (now k).testBit i = true
theorem prt_lt {n : Nat} {now : Nat → Nat} {m : Nat} (h : prt n now m) (hn : n ≤ 9) {k : Nat} (hk : k < m) : now k < 2 ^ 9 := Nat.lt_of_lt_of_le (h.1 k hk).2 (Nat.pow_le_pow_right (by omega) hn)
theorem prt_low {n : Nat} {now : Nat → Nat} {m : Nat} (h : prt n now m) (hn : n ≤ 9) {k : Nat} (hk : k < m) : low (now k) < n ∧ (now k).testBit (low (now k)) = true := by
  obtain ⟨h1, h2⟩ := h.1 k hk
  obtain ⟨a1, a2, a3⟩ := low_spec h1 (prt_lt h hn hk)
  refine ⟨?_, a2⟩
  rcases Nat.lt_or_ge (low (now k)) n with h3 | h3
  · exact h3
  · rw [b_hi h2 h3] at a2; cases a2
theorem prt_ge {n : Nat} {now : Nat → Nat} {m : Nat} (h : prt n now m) : ∀ k, k < m → k ≤ low (now k)
  | 0, _ => Nat.zero_le _
  | k + 1, hk => by
    have h1 := prt_ge h k (by omega)
    have h2 := h.2.2.1 k (k + 1) (by omega) hk
    omega
theorem prt_inj {n : Nat} {now : Nat → Nat} {m : Nat} (h : prt n now m) {j k : Nat} (hj : j < m) (hk : k < m) (e : now j = now k) : j = k := by
  refine Classical.byContradiction fun hne => ?_
  have := h.2.1 j k hj hk hne
  rw [e, Nat.and_self] at this
  exact (h.1 k hk).1 this
theorem prt_linj {n : Nat} {now : Nat → Nat} {m : Nat} (h : prt n now m) {j k : Nat} (hj : j < m) (hk : k < m) (e : low (now j) = low (now k)) : j = k := by
  rcases Nat.lt_trichotomy j k with h1 | h1 | h1
  · have := h.2.2.1 j k h1 hk; omega
  · exact h1
  · have := h.2.2.1 k j h1 hj; omega
/-- what joined after p picks: the union of picked groups; pk p tells which were picked -/
def pkd (v now : Nat → Nat) (m : Nat) : Nat → Nat
  | 0 => 0
  | p + 1 => pkd v now m p ||| 2 ^ sq v now m p
theorem jn_spec {v now : Nat → Nat} {m : Nat} (h : prt (v 0) now m) : ∀ {p : Nat}, p ≤ m → (∀ k, k < m → (now k &&& Jn v now m p = 0 ↔ (pkd v now m p).testBit k = false)) ∧ (∀ k, m ≤ k → (pkd v now m p).testBit k = false) ∧ pc (pkd v now m p) m = p
  | 0, _ => ⟨fun k hk => by simp [Jn, pkd], fun k _ => by simp [pkd], sm_zero (fun k _ => by simp [pkd])⟩
  | p + 1, hp => by
    obtain ⟨h1, h2, h3⟩ := jn_spec h (p := p) (by omega)
    have hex : ∃ b, pk1 v now (Jn v now m p) m = some b := by
      cases hq : pk1 v now (Jn v now m p) m with
      | some b => exact ⟨b, rfl⟩
      | none =>
        exfalso
        have h4 := pk1_none hq
        have h5 : pc (pkd v now m p) m = m := by
          have : pc (pkd v now m p) m = sm (fun _ => 1) m := sm_ext (fun k hk => if_pos (by
            have := h4 k hk
            rw [Ne, h1 k hk] at this
            simpa using this))
          rw [this]
          have : ∀ n, sm (fun _ => 1) n = n := fun n => by induction n with
            | zero => rfl
            | succ n ih => rw [sm, ih]
          exact this m
        omega
    obtain ⟨b, hb⟩ := hex
    have hs : sq v now m p = b := by unfold sq pick; rw [hb]; rfl
    obtain ⟨b1, b2, b3⟩ := pk1_some hb
    have hbit : (pkd v now m p).testBit b = false := (h1 b b1).mp b2
    refine ⟨fun k hk => ?_, fun k hk => ?_, ?_⟩
    · rw [Jn, pkd, hs, or_tb]
      show now k &&& (Jn v now m p ||| now (sq v now m p)) = 0 ↔ _
      rw [hs]
      by_cases hkb : k = b
      · subst hkb
        simp only [decide_true, Bool.or_true]
        constructor
        · intro z
          exact absurd (or_and0_r z) (and_self_ne (h.1 k hk).1)
        · intro z; cases z
      · simp only [hkb, decide_false, Bool.or_false]
        rw [← h1 k hk]
        exact ⟨fun z => or_and0_l z, fun z => and_or0 z (h.2.1 k b hk b1 hkb)⟩
    · rw [pkd, hs, or_tb, h2 k hk]; simp; omega
    · rw [pkd, hs]
      have : pc (pkd v now m p ||| 2 ^ b) m = pc (pkd v now m p) m + 1 := by
        conv => rhs; rw [← sm_pick (f := fun _ => 1) b1]
        unfold pc
        rw [← sm_add]
        refine sm_ext (fun k _ => ?_)
        rw [or_tb]
        by_cases hkb : k = b
        · subst hkb; rw [hbit]; simp
        · simp [hkb]
      omega
/-- the pick of a step: there is one, it is a group that hasn't joined, and none that hasn't joined is tied more -/
theorem sq_spec {v now : Nat → Nat} {m : Nat} (h : prt (v 0) now m) {p : Nat} (hp : p < m) : pk1 v now (Jn v now m p) m = some (sq v now m p) ∧ sq v now m p < m ∧ gq v now m p &&& Jn v now m p = 0 ∧ ∀ k, k < m → now k &&& Jn v now m p = 0 → tT v (now k) (Jn v now m p) ≤ pq v now m p := by
  obtain ⟨h1, h2, h3⟩ := jn_spec h (p := p) (by omega)
  cases hq : pk1 v now (Jn v now m p) m with
  | none =>
    exfalso
    have h4 := pk1_none hq
    have h5 := jn_spec h (p := p + 1) (by omega)
    have hs : sq v now m p = 0 := by unfold sq pick; rw [hq]; rfl
    have h6 := h1 0 (by omega)
    have h7 : (pkd v now m p).testBit 0 = true := by
      have := h4 0 (by omega)
      rw [Ne, h6] at this
      simpa using this
    have h8 : pkd v now m (p + 1) = pkd v now m p := by
      rw [pkd, hs]
      exact Nat.eq_of_testBit_eq (fun k => by
        rw [or_tb]
        by_cases hk : k = 0
        · subst hk; rw [h7]; rfl
        · simp [hk])
    rw [h8] at h5
    omega
  | some b =>
    have hs : sq v now m p = b := by unfold sq pick; rw [hq]; rfl
    obtain ⟨b1, b2, b3⟩ := pk1_some hq
    unfold pq gq
    rw [hs]
    exact ⟨rfl, b1, b2, b3⟩
/-- picks of two steps are two groups -/
theorem sq_ne {v now : Nat → Nat} {m : Nat} (h : prt (v 0) now m) {p q : Nat} (hpq : p < q) (hq : q < m) : sq v now m p ≠ sq v now m q := by
  intro e
  obtain ⟨-, a1, a2, -⟩ := sq_spec h hq
  have h1 : ∀ d, now (sq v now m p) &&& Jn v now m (p + 1 + d) ≠ 0 := by
    intro d
    induction d with
    | zero =>
      intro z
      rw [Nat.add_zero, Jn] at z
      have h5 := (sq_spec h (show p < m by omega)).2.1
      exact absurd (or_and0_r z) (and_self_ne (h.1 _ h5).1)
    | succ d ih =>
      intro z
      rw [← Nat.add_assoc, Jn] at z
      exact ih (or_and0_l z)
  have h2 := h1 (q - (p + 1))
  rw [show p + 1 + (q - (p + 1)) = q by omega, e] at h2
  exact h2 a2
theorem low_min {s t : Nat} (h1 : s ≠ 0) (h2 : s < 2 ^ 9) (h3 : t ≠ 0) (h4 : t < 2 ^ 9) (h : low s < low t) : low (s ||| t) = low s := by
  obtain ⟨a1, a2, a3⟩ := low_spec h1 h2
  obtain ⟨b1, b2, b3⟩ := low_spec h3 h4
  have h5 : s ||| t ≠ 0 := fun z => h1 (Nat.or_eq_zero_iff.mp z).1
  obtain ⟨c1, c2, c3⟩ := low_spec h5 (Nat.or_lt_two_pow h2 h4)
  rcases Nat.lt_trichotomy (low (s ||| t)) (low s) with q | q | q
  · rw [Nat.testBit_or, a3 _ q, b3 _ (by omega)] at c2; cases c2
  · exact q
  · have := c3 _ q
    rw [Nat.testBit_or, a2] at this; cases this
theorem prt_mg {n : Nat} {now : Nat → Nat} {m a b : Nat} (h : prt n now m) (hn : n ≤ 9) (hab : a < b) (hb : b < m) : prt n (mg now a b) (m - 1) := by
  have hd := h.2.1 a b (by omega) hb (by omega)
  have hl := low_min (h.1 a (by omega)).1 (prt_lt h hn (by omega)) (h.1 b hb).1 (prt_lt h hn hb) (h.2.2.1 a b hab hb)
  refine ⟨fun k hk => ?_, fun j k hj hk hne => ?_, fun j k hjk hk => ?_, fun i hi => ?_⟩
  · unfold mg
    split
    · split
      · exact ⟨fun z => (h.1 a (by omega)).1 (Nat.or_eq_zero_iff.mp z).1, Nat.or_lt_two_pow (h.1 a (by omega)).2 (h.1 b hb).2⟩
      · exact h.1 k (by omega)
    · exact h.1 (k + 1) (by omega)
  · unfold mg
    by_cases h1 : j < b <;> by_cases h2 : k < b
    · rw [if_pos h1, if_pos h2]
      by_cases h3 : j = a <;> by_cases h4 : k = a
      · omega
      · rw [if_pos h3, if_neg h4]; exact or_and0 (h.2.1 a k (by omega) (by omega) (by omega)) (h.2.1 b k (by omega) (by omega) (by omega))
      · rw [if_neg h3, if_pos h4]; exact and_or0 (h.2.1 j a (by omega) (by omega) (by omega)) (h.2.1 j b (by omega) (by omega) (by omega))
      · rw [if_neg h3, if_neg h4]; exact h.2.1 j k (by omega) (by omega) (by omega)
    · rw [if_pos h1, if_neg h2]
      by_cases h3 : j = a
      · rw [if_pos h3]; exact or_and0 (h.2.1 a (k + 1) (by omega) (by omega) (by omega)) (h.2.1 b (k + 1) (by omega) (by omega) (by omega))
      · rw [if_neg h3]; exact h.2.1 j (k + 1) (by omega) (by omega) (by omega)
    · rw [if_neg h1, if_pos h2]
      by_cases h4 : k = a
      · rw [if_pos h4]; exact and_or0 (h.2.1 (j + 1) a (by omega) (by omega) (by omega)) (h.2.1 (j + 1) b (by omega) (by omega) (by omega))
      · rw [if_neg h4]; exact h.2.1 (j + 1) k (by omega) (by omega) (by omega)
    · rw [if_neg h1, if_neg h2]; exact h.2.1 (j + 1) (k + 1) (by omega) (by omega) (by omega)
  · have e : ∀ k, k < b → low (mg now a b k) = low (now k) := fun k hk => by
      unfold mg
      rw [if_pos hk]
      by_cases h3 : k = a
      · rw [if_pos h3, h3, hl]
      · rw [if_neg h3]
    have e2 : ∀ k, ¬ k < b → low (mg now a b k) = low (now (k + 1)) := fun k hk => by unfold mg; rw [if_neg hk]
    by_cases h2 : k < b
    · rw [e j (by omega), e k h2]; exact h.2.2.1 j k hjk (by omega)
    · rw [e2 k h2]
      by_cases h1 : j < b
      · rw [e j h1]; exact h.2.2.1 j (k + 1) (by omega) (by omega)
      · rw [e2 j h1]; exact h.2.2.1 (j + 1) (k + 1) (by omega) (by omega)
  · obtain ⟨k, hk, ht⟩ := h.2.2.2 i hi
    by_cases h1 : k = b
    · refine ⟨a, by omega, ?_⟩
      unfold mg
      rw [if_pos hab, if_pos rfl, Nat.testBit_or, ← h1, ht, Bool.or_true]
    · by_cases h2 : k < b
      · refine ⟨k, by omega, ?_⟩
        unfold mg
        rw [if_pos h2]
        split
        · rename_i h3; rw [Nat.testBit_or, ← h3, ht, Bool.true_or]
        · exact ht
      · refine ⟨k - 1, by omega, ?_⟩
        unfold mg
        rw [if_neg (by omega), show k - 1 + 1 = k by omega]; exact ht
theorem nxt_prt {v now : Nat → Nat} {m : Nat} (h : prt (v 0) now m) (hn : v 0 ≤ 9) (hm : 2 ≤ m) : prt (v 0) (nxt v now m) (m - 1) := by
  have h1 := (sq_spec h (show m - 2 < m by omega)).2.1
  have h2 := (sq_spec h (show m - 1 < m by omega)).2.1
  have h3 := sq_ne h (show m - 2 < m - 1 by omega) (by omega)
  exact prt_mg h hn (by omega) (by omega)
theorem low_pow {k : Nat} (hk : k < 9) : low (2 ^ k) = k := by
  have : ∀ k, k < 9 → low (2 ^ k) = k := by decide
  exact this k hk
theorem phs_prt {v : Nat → Nat} (hv : okV v) : ∀ {p : Nat}, p < v 0 → prt (v 0) (phs v p) (v 0 - p)
  | 0, _ => by
    have h0 := hv.1
    refine ⟨fun k hk => ⟨Nat.ne_of_gt (Nat.pow_pos (by omega)), Nat.pow_lt_pow_right (by omega) hk⟩, fun j k hj hk hne => ?_, fun j k hjk hk => ?_, fun i hi => ⟨i, hi, ?_⟩⟩
    · refine Nat.eq_of_testBit_eq (fun i => ?_)
      show (2 ^ j &&& 2 ^ k).testBit i = _
      rw [Nat.testBit_and, Nat.testBit_two_pow, Nat.testBit_two_pow, Nat.zero_testBit]
      simp; omega
    · show low (2 ^ j) < low (2 ^ k)
      rw [low_pow (by omega), low_pow (by omega)]; exact hjk
    · show (2 ^ i).testBit i = true
      rw [Nat.testBit_two_pow]; simp
  | p + 1, hp => by
    have h := phs_prt hv (p := p) (by omega)
    have h2 := nxt_prt h hv.1 (by omega)
    rw [show v 0 - (p + 1) = v 0 - p - 1 by omega]
    exact h2
def gr (v : Nat → Nat) (p q : Nat) : Nat := gq v (phs v p) (v 0 - p) q
def pl (v : Nat → Nat) (p q : Nat) : Nat := pq v (phs v p) (v 0 - p) q
def cut (v : Nat → Nat) (p : Nat) : Nat := pl v p (v 0 - p - 1)
def lph (v : Nat → Nat) : Nat → Nat
  | 0 => 0
  | p + 1 => if cut v (p + 1) < cut v (lph v p) then p + 1 else lph v p
theorem lph_le {v : Nat → Nat} : ∀ p, lph v p ≤ p
  | 0 => Nat.le_refl _
  | p + 1 => by
    have := lph_le (v := v) p
    simp only [lph]; split <;> omega
theorem lph_min {v : Nat → Nat} : ∀ p q, q ≤ p → cut v (lph v p) ≤ cut v q
  | 0, q, h => by rw [show q = 0 by omega]; exact Nat.le_refl _
  | p + 1, q, h => by
    simp only [lph]
    by_cases hq : q = p + 1
    · rw [hq]; split <;> omega
    · have := lph_min (v := v) p q (by omega)
      split <;> omega
theorem gr_lt {v : Nat → Nat} (hv : okV v) {p q : Nat} (hp : p < v 0) (hq : q < v 0 - p) : gr v p q ≠ 0 ∧ gr v p q < 2 ^ 9 := by
  have h := phs_prt hv hp
  have h1 := (sq_spec h hq).2.1
  exact ⟨(h.1 _ h1).1, prt_lt h hv.1 h1⟩

