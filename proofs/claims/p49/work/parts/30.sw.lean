/-! the least cut of the phases is the least feud of all divisions *with no side empty* -/
def hf (J s : Nat) (b : Bool) : Nat := if b = true then J &&& s else bn J s
theorem hf_tb (J s : Nat) (b : Bool) (k : Nat) : (hf J s b).testBit k = (J.testBit k && (s.testBit k == b)) := by
  unfold hf
  cases b
  · rw [if_neg (by decide), bn_tb]; cases J.testBit k <;> cases s.testBit k <;> rfl
  · rw [if_pos rfl, Nat.testBit_and]; cases J.testBit k <;> cases s.testBit k <;> rfl
theorem hf_or (J g s : Nat) (b : Bool) : hf (J ||| g) s b = hf J s b ||| hf g s b := Nat.eq_of_testBit_eq (fun k => by
  rw [Nat.testBit_or, hf_tb, hf_tb, hf_tb, Nat.testBit_or]
  cases J.testBit k <;> cases g.testBit k <;> cases (s.testBit k == b) <;> rfl)
theorem hf_sp (J s : Nat) (b : Bool) : hf J s b ||| hf J s (!b) = J := Nat.eq_of_testBit_eq (fun k => by
  rw [Nat.testBit_or, hf_tb, hf_tb]
  cases J.testBit k <;> cases s.testBit k <;> cases b <;> rfl)
theorem hf_dis (J s : Nat) (b : Bool) : hf J s b &&& hf J s (!b) = 0 := Nat.eq_of_testBit_eq (fun k => by
  rw [Nat.testBit_and, hf_tb, hf_tb, Nat.zero_testBit]
  cases J.testBit k <;> cases s.testBit k <;> cases b <;> rfl)
/-- all of a group stands on one side -/
def gs (s g : Nat) (b : Bool) : Prop := ∀ k, g.testBit k = true → s.testBit k = b
theorem hf_own {s g : Nat} {b : Bool} (h : gs s g b) : hf g s b = g := Nat.eq_of_testBit_eq (fun k => by
  rw [hf_tb]
  cases hg : g.testBit k with
  | false => rfl
  | true => rw [h k hg]; cases b <;> rfl)
theorem hf_oth {s g : Nat} {b : Bool} (h : gs s g b) : hf g s (!b) = 0 := Nat.eq_of_testBit_eq (fun k => by
  rw [hf_tb, Nat.zero_testBit]
  cases hg : g.testBit k with
  | false => rfl
  | true => rw [h k hg]; cases b <;> rfl)
theorem hf_sub {J g s : Nat} {b : Bool} (h : J &&& g = 0) : hf J s b &&& g = 0 := Nat.eq_of_testBit_eq (fun k => by
  have h1 : (J &&& g).testBit k = false := by rw [h, Nat.zero_testBit]
  rw [Nat.testBit_and] at h1
  rw [Nat.testBit_and, hf_tb, Nat.zero_testBit]
  cases hj : J.testBit k with
  | false => rfl
  | true =>
    rw [hj] at h1
    cases hg : g.testBit k with
    | false => rw [Bool.and_false]
    | true => rw [hg] at h1; cases h1)
theorem tT_monoR {v : Nat → Nat} {r s t : Nat} (h : sub s t) : tT v r s ≤ tT v r t := sm_le (fun k _ => by
  split
  · exact tS_mono h
  · exact Nat.le_refl _)
def Cv (v : Nat → Nat) (J s : Nat) : Nat := tT v (hf J s true) (hf J s false)
theorem Cv_b {v : Nat → Nat} (hv : okV v) (J s : Nat) (b : Bool) : tT v (hf J s b) (hf J s (!b)) = Cv v J s := by
  cases b
  · exact tT_sym hv _ _
  · rfl
theorem Cv_add {v : Nat → Nat} (hv : okV v) {J g s : Nat} {b : Bool} (h : J &&& g = 0) (hg : gs s g b) : Cv v (J ||| g) s = Cv v J s + tT v g (hf J s (!b)) := by
  rw [← Cv_b hv (J ||| g) s b, hf_or, hf_or, hf_own hg, hf_oth hg, Nat.or_zero, tT_addL hv (hf_sub h), Cv_b hv]
theorem tT_hf {v : Nat → Nat} (g J s : Nat) (b : Bool) : tT v g J = tT v g (hf J s b) + tT v g (hf J s (!b)) := by
  rw [← tT_addR (hf_dis J s b), hf_sp]
def rsp (now : Nat → Nat) (m s : Nat) : Prop := ∀ k, k < m → ∃ b, gs s (now k) b
theorem Jn_s (v now : Nat → Nat) (m p : Nat) : Jn v now m (p + 1) = Jn v now m p ||| gq v now m p := rfl
theorem hf_z (s : Nat) (b : Bool) : hf 0 s b = 0 := Nat.eq_of_testBit_eq (fun k => by rw [hf_tb, Nat.zero_testBit]; rfl)
theorem sw_P {v now : Nat → Nat} {m s : Nat} (hv : okV v) (h : prt (v 0) now m) (hr : rsp now m s) : ∀ i, i + 1 < m → ∀ (x : Nat) (bx : Bool), x < m → now x &&& Jn v now m (i + 1) = 0 → gs s (now x) bx → gs s (gq v now m i) (!bx) → tT v (now x) (hf (Jn v now m (i + 1)) s bx) ≤ Cv v (Jn v now m (i + 1)) s
  | 0, him, x, bx, hx, hd, hgx, hgp => by
    have e : hf (Jn v now m (0 + 1)) s bx = 0 := by
      have h2 := hf_oth hgp
      rw [Bool.not_not] at h2
      rw [Jn_s, hf_or, h2, Nat.or_zero]
      exact hf_z s bx
    rw [e, tT_0]; exact Nat.zero_le _
  | i + 1, him, x, bx, hx, hd, hgx, hgp => by
    obtain ⟨-, q1, q2, q3⟩ := sq_spec h (show i + 1 < m by omega)
    have hxd : now x &&& Jn v now m (i + 1) = 0 := or_and0_l hd
    have hJg : Jn v now m (i + 1) &&& gq v now m (i + 1) = 0 := by rw [Nat.and_comm]; exact q2
    have e : hf (Jn v now m (i + 1 + 1)) s bx = hf (Jn v now m (i + 1)) s bx := by
      have h2 := hf_oth hgp
      rw [Bool.not_not] at h2
      rw [Jn_s, hf_or, h2, Nat.or_zero]
    rw [e, Jn_s v now m (i + 1), Cv_add hv hJg hgp, Bool.not_not]
    obtain ⟨bp, hbp⟩ := hr (sq v now m i) (sq_spec h (show i < m by omega)).2.1
    by_cases hb : bp = !bx
    · have := sw_P hv h hr i (by omega) x bx hx hxd hgx (by rw [← hb]; exact hbp)
      omega
    · have hb2 : bp = bx := by cases bp <;> cases bx <;> simp_all
      have h1 := sw_P hv h hr i (by omega) (sq v now m (i + 1)) (!bx) q1 q2 hgp (by rw [Bool.not_not, ← hb2]; exact hbp)
      have h2 : tT v (now x) (hf (Jn v now m (i + 1)) s bx) ≤ tT v (now x) (Jn v now m (i + 1)) := by
        rw [tT_hf (now x) (Jn v now m (i + 1)) s bx]; omega
      have h3 := q3 x hx hxd
      have h4 := tT_hf (v := v) (gq v now m (i + 1)) (Jn v now m (i + 1)) s bx
      have h5 : pq v now m (i + 1) = tT v (gq v now m (i + 1)) (Jn v now m (i + 1)) := rfl
      have h6 : tT v (now (sq v now m (i + 1))) (hf (Jn v now m (i + 1)) s (!bx)) = tT v (gq v now m (i + 1)) (hf (Jn v now m (i + 1)) s (!bx)) := rfl
      omega
theorem pkd_ex {v now : Nat → Nat} {m k : Nat} : ∀ {p : Nat}, (pkd v now m p).testBit k = true → ∃ q, q < p ∧ sq v now m q = k
  | 0, h => by rw [pkd, Nat.zero_testBit] at h; cases h
  | p + 1, h => by
    rw [pkd, or_tb, Bool.or_eq_true] at h
    rcases h with h | h
    · obtain ⟨q, q1, q2⟩ := pkd_ex h
      exact ⟨q, by omega, q2⟩
    · exact ⟨p, by omega, (of_decide_eq_true h).symm⟩
theorem sq_surj {v now : Nat → Nat} {m : Nat} (h : prt (v 0) now m) {k : Nat} (hk : k < m) : ∃ q, q < m ∧ sq v now m q = k := by
  obtain ⟨-, h2, h3⟩ := jn_spec h (Nat.le_refl m)
  refine pkd_ex ?_
  cases hb : (pkd v now m m).testBit k with
  | true => rfl
  | false =>
    have h4 := pc_lt (s := pkd v now m m) (t := 2 ^ m - 1) (n := m) (fun i hi => by
      rw [b_allt]
      rcases Nat.lt_or_ge i m with q | q
      · exact decide_eq_true q
      · rw [h2 i q] at hi; cases hi) hk hb (by rw [b_allt]; exact decide_eq_true hk)
    have h5 := pc_le (2 ^ m - 1) m
    omega
theorem Jn_mem {v now : Nat → Nat} {m q k : Nat} : ∀ {p : Nat}, q < p → (gq v now m q).testBit k = true → (Jn v now m p).testBit k = true
  | 0, h, _ => by omega
  | p + 1, h, hb => by
    rw [Jn_s, Nat.testBit_or, Bool.or_eq_true]
    by_cases e : q = p
    · subst e; exact Or.inr hb
    · exact Or.inl (Jn_mem (by omega) hb)
theorem Jn_lt0 {v now : Nat → Nat} {m : Nat} (hp : prt (v 0) now m) : ∀ {q : Nat}, q ≤ m → Jn v now m q < 2 ^ v 0
  | 0, _ => Nat.pow_pos (by omega)
  | q + 1, hq => Nat.or_lt_two_pow (Jn_lt0 hp (by omega)) (hp.1 _ (sq_spec hp (show q < m by omega)).2.1).2
theorem Jn_full {v now : Nat → Nat} {m : Nat} (h : prt (v 0) now m) : Jn v now m m = ev v := by
  refine Nat.eq_of_testBit_eq (fun i => ?_)
  rw [ev_tb]
  by_cases hi : i < v 0
  · rw [decide_eq_true hi]
    obtain ⟨k, k1, k2⟩ := h.2.2.2 i hi
    obtain ⟨q, q1, q2⟩ := sq_surj h k1
    exact Jn_mem q1 (by unfold gq; rw [q2]; exact k2)
  · rw [decide_eq_false hi]; exact b_hi (Jn_lt0 h (Nat.le_refl m)) (by omega)
theorem Cv_ev {v : Nat → Nat} {s : Nat} (hs : s < 2 ^ v 0) : Cv v (ev v) s = fo v s := by
  unfold Cv fo
  have e : hf (ev v) s true = s := Nat.eq_of_testBit_eq (fun k => by
    rw [hf_tb, ev_tb]
    by_cases hk : k < v 0
    · rw [decide_eq_true hk]; cases s.testBit k <;> rfl
    · rw [b_hi hs (by omega), decide_eq_false hk]; rfl)
  rw [e]; rfl
theorem sw_last {v now : Nat → Nat} {k s : Nat} (hv : okV v) (h : prt (v 0) now (k + 2)) (hs : s < 2 ^ v 0) (hr : rsp now (k + 2) s) {b : Bool} (hb : gs s (gq v now (k + 2) (k + 1)) b) (hb2 : gs s (gq v now (k + 2) k) (!b)) : pq v now (k + 2) (k + 1) ≤ fo v s := by
  obtain ⟨-, q1, q2, q3⟩ := sq_spec h (show k + 1 < k + 2 by omega)
  have hJg : Jn v now (k + 2) (k + 1) &&& gq v now (k + 2) (k + 1) = 0 := by rw [Nat.and_comm]; exact q2
  have h1 := sw_P hv h hr k (by omega) (sq v now (k + 2) (k + 1)) b q1 q2 hb hb2
  have h2 := Jn_full h
  rw [Jn_s v now (k + 2) (k + 1)] at h2
  rw [← Cv_ev hs, ← h2, Cv_add hv hJg hb]
  have h4 := tT_hf (v := v) (gq v now (k + 2) (k + 1)) (Jn v now (k + 2) (k + 1)) s b
  have h5 : pq v now (k + 2) (k + 1) = tT v (gq v now (k + 2) (k + 1)) (Jn v now (k + 2) (k + 1)) := rfl
  have h6 : tT v (now (sq v now (k + 2) (k + 1))) (hf (Jn v now (k + 2) (k + 1)) s b) = tT v (gq v now (k + 2) (k + 1)) (hf (Jn v now (k + 2) (k + 1)) s b) := rfl
  omega
theorem rsp_nxt {v now : Nat → Nat} {k s : Nat} (h : prt (v 0) now (k + 2)) (hr : rsp now (k + 2) s) {b : Bool} (hb : gs s (gq v now (k + 2) (k + 1)) b) (hb2 : gs s (gq v now (k + 2) k) b) : rsp (nxt v now (k + 2)) (k + 1) s := by
  have hi1 := (sq_spec h (show k < k + 2 by omega)).2.1
  have hj1 := (sq_spec h (show k + 1 < k + 2 by omega)).2.1
  have hor : ∀ g g' : Nat, gs s g b → gs s g' b → gs s (g ||| g') b := fun g g' h1 h2 i hi => by
    rw [Nat.testBit_or, Bool.or_eq_true] at hi
    rcases hi with hi | hi
    · exact h1 i hi
    · exact h2 i hi
  have hmm : ∀ x, x = sq v now (k + 2) k ∨ x = sq v now (k + 2) (k + 1) → gs s (now x) b := fun x hx => by
    rcases hx with e | e
    · rw [e]; exact hb2
    · rw [e]; exact hb
  intro i hi
  unfold nxt mg
  show ∃ b, gs s (if i < max (sq v now (k + 2) k) (sq v now (k + 2) (k + 1)) then (if i = min (sq v now (k + 2) k) (sq v now (k + 2) (k + 1)) then now (min (sq v now (k + 2) k) (sq v now (k + 2) (k + 1))) ||| now (max (sq v now (k + 2) k) (sq v now (k + 2) (k + 1))) else now i) else now (i + 1)) b
  split
  · split
    · exact ⟨b, hor _ _ (hmm _ (by omega)) (hmm _ (by omega))⟩
    · exact hr i (by omega)
  · exact hr (i + 1) (by omega)
theorem sw_all {v : Nat → Nat} (hv : okV v) {s : Nat} (hs : s < 2 ^ v 0) (h0 : s ≠ 0) (h1 : s ≠ ev v) : ∀ d p, p + d + 1 = v 0 → rsp (phs v p) (v 0 - p) s → ∃ q, q < v 0 - 1 ∧ cut v q ≤ fo v s
  | 0, p, hp, hr => by
    exfalso
    have h := phs_prt hv (p := p) (by omega)
    obtain ⟨b, hb⟩ := hr 0 (by omega)
    have hall : ∀ i, i < v 0 → s.testBit i = b := fun i hi => by
      obtain ⟨k, k1, k2⟩ := h.2.2.2 i hi
      rw [show k = 0 by omega] at k2
      exact hb i k2
    cases b
    · exact h0 (Nat.eq_of_testBit_eq (fun i => by
        rw [Nat.zero_testBit]
        by_cases hi : i < v 0
        · exact hall i hi
        · exact b_hi hs (by omega)))
    · exact h1 (Nat.eq_of_testBit_eq (fun i => by
        rw [ev_tb]
        by_cases hi : i < v 0
        · rw [hall i hi, decide_eq_true hi]
        · rw [b_hi hs (by omega), decide_eq_false hi]))
  | d + 1, p, hp, hr => by
    have h := phs_prt hv (p := p) (by omega)
    have em : v 0 - p = d + 2 := by omega
    rw [em] at h hr
    obtain ⟨b1, hb1⟩ := hr _ (sq_spec h (show d + 1 < d + 2 by omega)).2.1
    obtain ⟨b2, hb2⟩ := hr _ (sq_spec h (show d < d + 2 by omega)).2.1
    by_cases e : b2 = b1
    · rw [e] at hb2
      have h2 := rsp_nxt h hr hb1 hb2
      refine sw_all hv hs h0 h1 d (p + 1) (by omega) ?_
      show rsp (nxt v (phs v p) (v 0 - p)) (v 0 - (p + 1)) s
      rw [em, show v 0 - (p + 1) = d + 1 by omega]
      exact h2
    · have e2 : b2 = !b1 := by cases b1 <;> cases b2 <;> simp_all
      rw [e2] at hb2
      refine ⟨p, by omega, ?_⟩
      have := sw_last hv h hs hr hb1 hb2
      unfold cut pl
      rw [em]
      exact this
theorem rsp_0 {v : Nat → Nat} {s : Nat} : rsp (phs v 0) (v 0 - 0) s := fun k _ => ⟨s.testBit k, fun i hi => by
  have hi2 : (2 ^ k).testBit i = true := hi
  rw [Nat.testBit_two_pow] at hi2
  rw [of_decide_eq_true hi2]⟩
/-- a cut is the feud of the group that joined last -/
theorem cut_fo {v : Nat → Nat} (hv : okV v) {p : Nat} (hp : p < v 0 - 1) : cut v p = fo v (gr v p (v 0 - p - 1)) ∧ gr v p (v 0 - p - 1) ≠ 0 ∧ gr v p (v 0 - p - 1) < 2 ^ v 0 - 1 := by
  have h := phs_prt hv (p := p) (by omega)
  obtain ⟨k, em⟩ : ∃ k, v 0 - p = k + 2 := ⟨v 0 - p - 2, by omega⟩
  unfold cut pl gr
  rw [em] at h ⊢
  show pq v (phs v p) (k + 2) (k + 1) = fo v (gq v (phs v p) (k + 2) (k + 1)) ∧ gq v (phs v p) (k + 2) (k + 1) ≠ 0 ∧ gq v (phs v p) (k + 2) (k + 1) < 2 ^ v 0 - 1
  obtain ⟨-, q1, q2, -⟩ := sq_spec h (show k + 1 < k + 2 by omega)
  obtain ⟨-, r1, -, -⟩ := sq_spec h (show 0 < k + 2 by omega)
  have h2 := Jn_full h
  rw [Jn_s v (phs v p) (k + 2) (k + 1)] at h2
  have hg := h.1 _ q1
  have hg0 := h.1 _ r1
  have hJ : Jn v (phs v p) (k + 2) (k + 1) = bn (ev v) (gq v (phs v p) (k + 2) (k + 1)) := Nat.eq_of_testBit_eq (fun i => by
    have e1 : (gq v (phs v p) (k + 2) (k + 1) &&& Jn v (phs v p) (k + 2) (k + 1)).testBit i = false := by rw [q2, Nat.zero_testBit]
    rw [Nat.testBit_and] at e1
    rw [bn_tb, ← h2, Nat.testBit_or]
    cases ha : (Jn v (phs v p) (k + 2) (k + 1)).testBit i <;> cases hb : (gq v (phs v p) (k + 2) (k + 1)).testBit i <;> simp_all)
  refine ⟨?_, hg.1, ?_⟩
  · show tT v (gq v (phs v p) (k + 2) (k + 1)) (Jn v (phs v p) (k + 2) (k + 1)) = _
    rw [hJ]; rfl
  · have hlt : gq v (phs v p) (k + 2) (k + 1) < 2 ^ v 0 := hg.2
    have hne : gq v (phs v p) (k + 2) (k + 1) ≠ ev v := fun e => by
      obtain ⟨i, hi⟩ : ∃ i, (gq v (phs v p) (k + 2) 0).testBit i = true := by
        refine Classical.byContradiction fun hn => hg0.1 (Nat.eq_of_testBit_eq fun i => ?_)
        rw [Nat.zero_testBit]
        cases hc : (phs v p (sq v (phs v p) (k + 2) 0)).testBit i with
        | false => rfl
        | true => exact absurd ⟨i, hc⟩ hn
      have := Jn_mem (show 0 < k + 1 by omega) hi
      rw [hJ, e, bn_tb] at this
      cases hc : (ev v).testBit i <;> simp [hc] at this
    have : ev v = 2 ^ v 0 - 1 := rfl
    omega
def lcut (v : Nat → Nat) : Nat := cut v (lph v (v 0 - 2))
theorem lcut_le {v : Nat → Nat} (hv : okV v) {s : Nat} (h0 : s ≠ 0) (hs : s < 2 ^ v 0 - 1) : lcut v ≤ fo v s := by
  have hp := Nat.pow_pos (n := v 0) (show 0 < 2 by omega)
  by_cases hz : v 0 = 0
  · rw [hz] at hs; omega
  · obtain ⟨q, q1, q2⟩ := sw_all hv (s := s) (by omega) h0 (by unfold ev; omega) (v 0 - 1) 0 (by omega) rsp_0
    have := lph_min (v := v) (v 0 - 2) q (by omega)
    unfold lcut; omega
theorem lcut_at {v : Nat → Nat} (hv : okV v) (h2 : 2 ≤ v 0) : ∃ s, s ≠ 0 ∧ s < 2 ^ v 0 - 1 ∧ fo v s = lcut v := by
  have hl := lph_le (v := v) (v 0 - 2)
  obtain ⟨h1, h2, h3⟩ := cut_fo hv (p := lph v (v 0 - 2)) (by omega)
  exact ⟨_, h2, h3, h1.symm⟩
/-- feuds of a set with one household more, and of the other side -/
theorem fo_add {v : Nat → Nat} (hv : okV v) {s k : Nat} (hs : s < 2 ^ v 0) (hk : k < v 0) (hb : s.testBit k = false) : fo v (s ||| 2 ^ k) + 2 * tS v k s = fo v s + tS v k (ev v) := by
  have h0 := hv.1
  have d1 : s &&& 2 ^ k = 0 := Nat.eq_of_testBit_eq (fun i => by
    rw [Nat.testBit_and, Nat.testBit_two_pow, Nat.zero_testBit]
    by_cases e : k = i
    · subst e; rw [hb]; rfl
    · simp [e])
  have e1 : bn (ev v) s = bn (ev v) (s ||| 2 ^ k) ||| 2 ^ k := Nat.eq_of_testBit_eq (fun i => by
    rw [bn_tb, or_tb, bn_tb, or_tb, ev_tb]
    by_cases e : i = k
    · subst e; rw [hb]; simp [hk]
    · simp [e])
  have d2 : bn (ev v) (s ||| 2 ^ k) &&& 2 ^ k = 0 := Nat.eq_of_testBit_eq (fun i => by
    rw [Nat.testBit_and, bn_tb, or_tb, Nat.testBit_two_pow, Nat.zero_testBit]
    by_cases e : k = i
    · subst e; simp
    · simp [e])
  have e2 : ev v = (s ||| 2 ^ k) ||| bn (ev v) (s ||| 2 ^ k) := Nat.eq_of_testBit_eq (fun i => by
    rw [Nat.testBit_or, bn_tb, ev_tb]
    by_cases hi : i < v 0
    · rw [decide_eq_true hi]; cases (s ||| 2 ^ k).testBit i <;> rfl
    · rw [decide_eq_false hi, or_tb, b_hi hs (by omega)]; simp; omega)
  have d3 : (s ||| 2 ^ k) &&& bn (ev v) (s ||| 2 ^ k) = 0 := Nat.eq_of_testBit_eq (fun i => by
    rw [Nat.testBit_and, bn_tb, Nat.zero_testBit]
    cases (s ||| 2 ^ k).testBit i <;> cases (ev v).testBit i <;> rfl)
  have f1 : fo v s = tT v s (bn (ev v) (s ||| 2 ^ k)) + tS v k s := by
    unfold fo
    rw [e1, tT_addR d2, tT_sym hv s (2 ^ k), tT_bit hk]
  have f2 : fo v (s ||| 2 ^ k) = tT v s (bn (ev v) (s ||| 2 ^ k)) + tS v k (bn (ev v) (s ||| 2 ^ k)) := by
    unfold fo
    rw [tT_addL hv d1, tT_bit hk]
  have f3 : tS v k (ev v) = tS v k s + tS v k (bn (ev v) (s ||| 2 ^ k)) := by
    conv => lhs; rw [e2]
    rw [tS_add d3, tS_add d1, tS_bit hk, hv.2.2.2.2.1 k (by omega)]
    omega
  omega
theorem fo_0 {v : Nat → Nat} : fo v 0 = 0 := sm_zero (fun k _ => by rw [Nat.zero_testBit]; rfl)
theorem fo_cpl {v : Nat → Nat} (hv : okV v) {s : Nat} (hs : s < 2 ^ v 0) : fo v (2 ^ v 0 - 1 - s) = fo v s := by
  rw [fo_pr hv, fo_pr hv]
  refine pr_ext (fun i j hij hj => ?_)
  have e : ∀ i, i < v 0 → (2 ^ v 0 - 1 - s).testBit i = !s.testBit i := fun i hi => by
    rw [show 2 ^ v 0 - 1 - s = 2 ^ v 0 - (s + 1) by omega, Nat.testBit_two_pow_sub_succ hs]
    simp [hi]
  unfold cg
  rw [e i (by omega), e j hj]
  cases s.testBit i <;> cases s.testBit j <;> rfl

