/-! flows: what a push does to rooms, cuts and labels *(pure)* -/
def u2 (r : Nat → Nat → Nat) (f t m : Nat) : Nat → Nat → Nat := fun x y => if x = f ∧ y = t then r x y - m else if x = t ∧ y = f then r x y + m else r x y
def psh (c : Nat → Nat) (m : Nat) : Nat → Nat → (Nat → Nat → Nat) → (Nat → Nat → Nat)
  | 0, _, r => r
  | k + 1, g, r => psh c m k (c g) (u2 r (c g) g m)
def nrw (r : Nat → Nat → Nat) (c : Nat → Nat) : Nat → Nat → Nat → Nat
  | 0, _, a => a
  | k + 1, g, a => nrw r c k (c g) (min (r (c g) g) a)
/-- the k households that a way back from g passes, g itself the first -/
def onW (c : Nat → Nat) (P : Nat → Prop) : Nat → Nat → Prop
  | 0, _ => True
  | k + 1, g => P g ∧ onW c P k (c g)
theorem onW_mono {c : Nat → Nat} {P Q : Nat → Prop} (h : ∀ y, P y → Q y) : ∀ {k g : Nat}, onW c P k g → onW c Q k g
  | 0, _, _ => trivial
  | _ + 1, _, hw => ⟨h _ hw.1, onW_mono h hw.2⟩
theorem onW_and {c : Nat → Nat} {P Q : Nat → Prop} : ∀ {k g : Nat}, onW c P k g → onW c Q k g → onW c (fun y => P y ∧ Q y) k g
  | 0, _, _, _ => trivial
  | _ + 1, _, h1, h2 => ⟨⟨h1.1, h2.1⟩, onW_and h1.2 h2.2⟩
/-- labels fall by one a step -/
abbrev lbW (c d : Nat → Nat) (k g : Nat) : Prop := onW c (fun y => d y = d (c y) + 1) k g
theorem lb_next {c d : Nat → Nat} {k g : Nat} (h : lbW c d (k + 1) g) (hd : d g = k + 1) : d (c g) = k := by have := h.1; omega
theorem lb_le {c d : Nat → Nat} : ∀ {k g : Nat}, lbW c d k g → d g = k → onW c (fun y => d y ≤ k ∧ 0 < d y) k g
  | 0, _, _, _ => trivial
  | k + 1, g, h, hd => ⟨by omega, onW_mono (fun y hy => by omega) (lb_le h.2 (lb_next h hd))⟩
theorem u2_sum {r : Nat → Nat → Nat} {f t m : Nat} (hft : f ≠ t) (hm : m ≤ r f t) (x y : Nat) : u2 r f t m x y + u2 r f t m y x = r x y + r y x := by
  unfold u2
  by_cases h1 : x = f ∧ y = t
  · rw [if_pos h1, if_neg (by omega), if_pos (by omega)]
    obtain ⟨rfl, rfl⟩ := h1
    omega
  · rw [if_neg h1]
    by_cases h2 : x = t ∧ y = f
    · rw [if_pos h2, if_pos (by omega)]
      obtain ⟨rfl, rfl⟩ := h2
      omega
    · rw [if_neg h2, if_neg (by omega), if_neg (by omega)]
/-- entries with a label above the way's stay -/
theorem psh_off {c d : Nat → Nat} {m : Nat} : ∀ {k g : Nat} {r : Nat → Nat → Nat}, lbW c d k g → d g = k → ∀ x y, (k < d x ∨ k < d y) → psh c m k g r x y = r x y
  | 0, _, _, _, _, _, _, _ => rfl
  | k + 1, g, r, h, hd, x, y, hxy => by
    have h1 := lb_next h hd
    have h2 := psh_off (m := m) (r := u2 r (c g) g m) h.2 h1 x y (by omega)
    show psh c m k (c g) (u2 r (c g) g m) x y = _
    rw [h2]
    unfold u2
    rw [if_neg (fun z => by obtain ⟨rfl, rfl⟩ := z; omega), if_neg (fun z => by obtain ⟨rfl, rfl⟩ := z; omega)]
/-- the rest of the way keeps its rooms -/
theorem u2_rest {c d : Nat → Nat} {m k g : Nat} {r : Nat → Nat → Nat} {P : Nat → Nat → Prop} (h : lbW c d (k + 1) g) (hd : d g = k + 1) (hP : onW c (fun y => P y (r (c y) y)) k (c g)) : onW c (fun y => P y (u2 r (c g) g m (c y) y)) k (c g) := by
  have h1 := lb_next h hd
  refine onW_mono (fun y hy => ?_) (onW_and hP (onW_and h.2 (lb_le h.2 h1)))
  obtain ⟨a1, a2, a3, a4⟩ := hy
  have e : u2 r (c g) g m (c y) y = r (c y) y := by
    unfold u2
    rw [if_neg (fun z => by rw [z.2] at a3; omega), if_neg (fun z => by rw [z.1] at a2; omega)]
  rw [e]; exact a1
theorem psh_sum {c d : Nat → Nat} {m : Nat} : ∀ {k g : Nat} {r : Nat → Nat → Nat}, lbW c d k g → d g = k → onW c (fun y => m ≤ r (c y) y) k g → ∀ x y, psh c m k g r x y + psh c m k g r y x = r x y + r y x
  | 0, _, _, _, _, _, _, _ => rfl
  | k + 1, g, r, h, hd, hm, x, y => by
    have h1 := lb_next h hd
    have h2 := psh_sum (m := m) (r := u2 r (c g) g m) h.2 h1 (u2_rest (P := fun _ z => m ≤ z) h hd hm.2) x y
    have h3 := u2_sum (r := r) (f := c g) (t := g) (m := m) (fun z => by rw [z] at h1; omega) hm.1 x y
    show psh c m k (c g) (u2 r (c g) g m) x y + psh c m k (c g) (u2 r (c g) g m) y x = _
    omega
/-- what a cut lets through -/
def crm (r : Nat → Nat → Nat) (A : Nat) : Nat := dbl (fun x y => if A.testBit x = true ∧ A.testBit y = false then r x y else 0) 9
theorem dbl_one {f t n K : Nat} (hf : f < n) (ht : t < n) : dbl (fun x y => if x = f then (if y = t then K else 0) else 0) n = K := by
  rw [dbl_row (y := fun _ y => if y = t then K else 0) hf]
  exact sm_pick (f := fun _ => K) ht
theorem u2_cut {r : Nat → Nat → Nat} {f t m A : Nat} (hf : f < 9) (ht : t < 9) (hft : f ≠ t) (hm : m ≤ r f t) : crm (u2 r f t m) A + (if A.testBit f = true then m else 0) = crm r A + (if A.testBit t = true then m else 0) := by
  have key : dbl (fun x y => (if A.testBit x = true ∧ A.testBit y = false then u2 r f t m x y else 0) + (if x = f then (if y = t then (if A.testBit f = true ∧ A.testBit t = false then m else 0) else 0) else 0)) 9 = dbl (fun x y => (if A.testBit x = true ∧ A.testBit y = false then r x y else 0) + (if x = t then (if y = f then (if A.testBit t = true ∧ A.testBit f = false then m else 0) else 0) else 0)) 9 := dbl_ext (fun x y _ _ => by
    unfold u2
    by_cases h1 : x = f ∧ y = t
    · obtain ⟨rfl, rfl⟩ := h1
      rw [if_pos (show x = x ∧ y = y from ⟨rfl, rfl⟩), if_pos (show x = x from rfl), if_pos (show y = y from rfl), if_neg (show ¬ x = y from hft)]
      split <;> omega
    · by_cases h2 : x = t ∧ y = f
      · obtain ⟨rfl, rfl⟩ := h2
        rw [if_neg (show ¬ (x = y ∧ y = x) from fun z => hft z.2), if_pos (show x = x ∧ y = y from ⟨rfl, rfl⟩), if_neg (show ¬ x = y from fun z => hft z.symm), if_pos (show x = x from rfl), if_pos (show y = y from rfl)]
        split <;> omega
      · rw [if_neg h1, if_neg h2]
        have e1 : (if x = f then (if y = t then (if A.testBit f = true ∧ A.testBit t = false then m else 0) else 0) else 0) = 0 := by
          by_cases a : x = f
          · rw [if_pos a, if_neg (fun z => h1 ⟨a, z⟩)]
          · rw [if_neg a]
        have e2 : (if x = t then (if y = f then (if A.testBit t = true ∧ A.testBit f = false then m else 0) else 0) else 0) = 0 := by
          by_cases a : x = t
          · rw [if_pos a, if_neg (fun z => h2 ⟨a, z⟩)]
          · rw [if_neg a]
        rw [e1, e2])
  rw [dbl_add, dbl_add, dbl_one hf ht, dbl_one ht hf] at key
  unfold crm
  cases ha : A.testBit f <;> cases hb : A.testBit t <;> simp only [ha, hb, true_and, false_and, and_true, and_false, if_true, if_false, Bool.false_eq_true, Bool.true_eq_false] at key ⊢ <;> omega
theorem psh_cut {c d : Nat → Nat} {m s A : Nat} (hs : ∀ y, d y = 0 → onW c (fun _ => True) 0 y → True) : ∀ {k g : Nat} {r : Nat → Nat → Nat}, lbW c d k g → d g = k → onW c (fun y => m ≤ r (c y) y ∧ c y < 9 ∧ y < 9 ∧ (d (c y) = 0 → c y = s)) k g → (k = 0 → g = s) → crm (psh c m k g r) A + (if A.testBit s = true then m else 0) = crm r A + (if A.testBit g = true then m else 0)
  | 0, g, r, _, _, _, hg => by rw [hg rfl]; rfl
  | k + 1, g, r, h, hd, hm, _ => by
    have h1 := lb_next h hd
    obtain ⟨m1, m2, m3, m4⟩ := hm.1
    have h2 := psh_cut (m := m) (s := s) (A := A) hs (r := u2 r (c g) g m) h.2 h1 (u2_rest (P := fun y z => m ≤ z ∧ c y < 9 ∧ y < 9 ∧ (d (c y) = 0 → c y = s)) h hd hm.2) (fun z => m4 (by omega))
    have h3 := u2_cut (A := A) m2 m3 (fun z => by rw [z] at h1; omega) m1
    show crm (psh c m k (c g) (u2 r (c g) g m)) A + _ = _
    omega
/-- labels that hold: over a room they rise by one at most -/
def okL (r : Nat → Nat → Nat) (e : Nat → Nat) : Prop := ∀ x y, x < 9 → y < 9 → 0 < r x y → e y ≤ e x + 1
theorem psh_lab {c d e : Nat → Nat} {m : Nat} : ∀ {k g : Nat} {r : Nat → Nat → Nat}, lbW c d k g → d g = k → onW c (fun y => m ≤ r (c y) y) k g → onW c (fun y => e y = e (c y) + 1) k g → okL r e → okL (psh c m k g r) e ∧ ∀ x y, 0 < psh c m k g r x y → e y = e x + 1 → 0 < r x y
  | 0, _, _, _, _, _, _, hr => ⟨hr, fun _ _ h _ => h⟩
  | k + 1, g, r, h, hd, hm, he, hr => by
    have h1 := lb_next h hd
    have hu : okL (u2 r (c g) g m) e := fun x y hx hy h0 => by
      unfold u2 at h0
      by_cases a : x = c g ∧ y = g
      · rw [if_pos a] at h0; exact hr x y hx hy (by omega)
      · rw [if_neg a] at h0
        by_cases b : x = g ∧ y = c g
        · have := he.1
          obtain ⟨rfl, rfl⟩ := b
          omega
        · rw [if_neg b] at h0; exact hr x y hx hy h0
    obtain ⟨q1, q2⟩ := psh_lab (m := m) (r := u2 r (c g) g m) h.2 h1 (u2_rest (P := fun _ z => m ≤ z) h hd hm.2) he.2 hu
    refine ⟨q1, fun x y h0 hxy => ?_⟩
    have h3 := q2 x y h0 hxy
    unfold u2 at h3
    by_cases a : x = c g ∧ y = g
    · rw [if_pos a] at h3; omega
    · rw [if_neg a] at h3
      by_cases b : x = g ∧ y = c g
      · have := he.1
        obtain ⟨rfl, rfl⟩ := b
        omega
      · rw [if_neg b] at h3; exact h3
/-- the narrowest room of a way: not above any of it, and one of it if it is below the start -/
theorem nrw_le {r : Nat → Nat → Nat} {c : Nat → Nat} : ∀ {k g a : Nat}, nrw r c k g a ≤ a ∧ onW c (fun y => nrw r c k g a ≤ r (c y) y) k g
  | 0, _, _ => ⟨Nat.le_refl _, trivial⟩
  | k + 1, g, a => by
    obtain ⟨h1, h2⟩ := nrw_le (r := r) (c := c) (k := k) (g := c g) (a := min (r (c g) g) a)
    show nrw r c k (c g) (min (r (c g) g) a) ≤ a ∧ (nrw r c k (c g) (min (r (c g) g) a) ≤ r (c g) g ∧ onW c (fun y => nrw r c k (c g) (min (r (c g) g) a) ≤ r (c y) y) k (c g))
    exact ⟨by omega, by omega, h2⟩
/-- what is left of the narrowest room: nothing -/
theorem nrw_at {r : Nat → Nat → Nat} {c d : Nat → Nat} : ∀ {k g a : Nat}, lbW c d k g → d g = k → nrw r c k g a = a ∨ ∃ y, 0 < d y ∧ d y ≤ k ∧ d y = d (c y) + 1 ∧ nrw r c k g a = r (c y) y ∧ (∀ P : Nat → Prop, onW c P k g → P y)
  | 0, _, _, _, _ => Or.inl rfl
  | k + 1, g, a, h, hd => by
    have h1 := lb_next h hd
    show nrw r c k (c g) (min (r (c g) g) a) = a ∨ ∃ y, 0 < d y ∧ d y ≤ k + 1 ∧ d y = d (c y) + 1 ∧ nrw r c k (c g) (min (r (c g) g) a) = r (c y) y ∧ _
    rcases nrw_at (r := r) (a := min (r (c g) g) a) h.2 h1 with e | ⟨y, y1, y2, y3, y4, y5⟩
    · rcases Nat.lt_or_ge (r (c g) g) a with q | q
      · exact Or.inr ⟨g, by omega, by omega, h.1, by omega, fun P hP => hP.1⟩
      · exact Or.inl (by omega)
    · exact Or.inr ⟨y, y1, by omega, y3, y4, fun P hP => y5 P hP.2⟩
theorem psh_zero {c d : Nat → Nat} {m : Nat} : ∀ {k g : Nat} {r : Nat → Nat → Nat}, lbW c d k g → d g = k → onW c (fun y => m ≤ r (c y) y) k g → onW c (fun y => psh c m k g r (c y) y + m = r (c y) y) k g
  | 0, _, _, _, _, _ => trivial
  | k + 1, g, r, h, hd, hm => by
    have h1 := lb_next h hd
    have h2 := psh_zero (m := m) (r := u2 r (c g) g m) h.2 h1 (u2_rest (P := fun _ z => m ≤ z) h hd hm.2)
    have h3 := psh_off (m := m) (r := u2 r (c g) g m) h.2 h1 (c g) g (by omega)
    refine ⟨?_, ?_⟩
    · show psh c m k (c g) (u2 r (c g) g m) (c g) g + m = r (c g) g
      rw [h3]
      unfold u2
      rw [if_pos ⟨rfl, rfl⟩]
      have := hm.1; omega
    · refine onW_mono (fun y hy => ?_) (onW_and h2 (onW_and h.2 (lb_le h.2 h1)))
      obtain ⟨a1, a2, a3, a4⟩ := hy
      show psh c m k (c g) (u2 r (c g) g m) (c y) y + m = r (c y) y
      rw [a1]
      unfold u2
      rw [if_neg (fun z => by rw [z.2] at a3; omega), if_neg (fun z => by rw [z.1] at a2; omega)]
/-- how many rooms the labels call tight -/
def tgt (r : Nat → Nat → Nat) (e : Nat → Nat) : Nat := dbl (fun x y => if 0 < r x y ∧ e y = e x + 1 then 1 else 0) 9
theorem dbl_le {x y : Nat → Nat → Nat} {n : Nat} (h : ∀ i j, i < n → j < n → x i j ≤ y i j) : dbl x n ≤ dbl y n := sm_le (fun i hi => sm_le (fun j hj => h i j hi hj))
theorem tgt_le {r : Nat → Nat → Nat} {e : Nat → Nat} : tgt r e ≤ 81 := by
  have : tgt r e ≤ dbl (fun _ _ => 1) 9 := dbl_le (fun i j _ _ => by split <;> omega)
  have e2 : dbl (fun _ _ => 1) 9 = 81 := by decide
  omega
theorem tgt_lt {r r' : Nat → Nat → Nat} {e : Nat → Nat} {f t : Nat} (hf : f < 9) (ht : t < 9) (h : ∀ x y, 0 < r' x y → e y = e x + 1 → 0 < r x y) (h1 : 0 < r f t) (h2 : e t = e f + 1) (h3 : r' f t = 0) : tgt r' e + 1 ≤ tgt r e := by
  have h4 := dbl_one (K := 1) hf ht
  have key : dbl (fun x y => if 0 < r' x y ∧ e y = e x + 1 then 1 else 0) 9 + dbl (fun x y => if x = f then (if y = t then 1 else 0) else 0) 9 ≤ dbl (fun x y => if 0 < r x y ∧ e y = e x + 1 then 1 else 0) 9 := by
    rw [← dbl_add]
    refine dbl_le (fun i j _ _ => ?_)
    by_cases a : i = f ∧ j = t
    · obtain ⟨rfl, rfl⟩ := a
      rw [if_neg (fun z => by omega), if_pos rfl, if_pos rfl, if_pos ⟨h1, h2⟩]
      exact Nat.le_refl _
    · have e1 : (if i = f then (if j = t then 1 else 0) else 0) = 0 := by
        by_cases b : i = f
        · rw [if_pos b, if_neg (fun z => a ⟨b, z⟩)]
        · rw [if_neg b]
      rw [e1, Nat.add_zero]
      by_cases b : 0 < r' i j ∧ e j = e i + 1
      · rw [if_pos b, if_pos ⟨h i j b.1 b.2, b.2⟩]; exact Nat.le_refl _
      · rw [if_neg b]; exact Nat.zero_le _
  rw [h4] at key
  exact key
/-- what a search finds: who is reached, from where, in how many steps -/
def srch (r : Nat → Nat → Nat) (s R : Nat) (c d : Nat → Nat) : Prop :=
  R < 2 ^ 9 ∧ R.testBit s = true ∧ d s = 0 ∧ (∀ x, R.testBit x = true → d x ≤ 8) ∧ (∀ x, R.testBit x = true → x ≠ s → c x < 9 ∧ R.testBit (c x) = true ∧ 0 < r (c x) x ∧ d x = d (c x) + 1) ∧ (∀ x y, R.testBit x = true → y < 9 → 0 < r x y → R.testBit y = true ∧ d y ≤ d x + 1)
theorem R9 {R x : Nat} (h : R < 2 ^ 9) (hx : R.testBit x = true) : x < 9 := by
  rcases Nat.lt_or_ge x 9 with q | q
  · exact q
  · rw [b_hi h q] at hx; cases hx
theorem srch_w {r : Nat → Nat → Nat} {s R : Nat} {c d : Nat → Nat} (h : srch r s R c d) : ∀ {k g : Nat}, R.testBit g = true → d g = k → onW c (fun y => (R.testBit y = true ∧ y ≠ s) ∧ c y < 9 ∧ R.testBit (c y) = true ∧ 0 < r (c y) y ∧ d y = d (c y) + 1) k g
  | 0, _, _, _ => trivial
  | k + 1, g, hg, hd => by
    have hne : g ≠ s := fun z => by rw [z, h.2.2.1] at hd; omega
    obtain ⟨a1, a2, a3, a4⟩ := h.2.2.2.2.1 g hg hne
    exact ⟨⟨⟨hg, hne⟩, a1, a2, a3, a4⟩, srch_w h a2 (by omega)⟩
theorem srch_0 {r : Nat → Nat → Nat} {s R : Nat} {c d : Nat → Nat} (h : srch r s R c d) {x : Nat} (hx : R.testBit x = true) (hd : d x = 0) : x = s := Classical.byContradiction fun hne => by
  have := (h.2.2.2.2.1 x hx hne).2.2.2; omega
/-- labels that hold aren't above the steps -/
theorem lab_le {r : Nat → Nat → Nat} {s R : Nat} {c d e : Nat → Nat} (h : srch r s R c d) (he : okL r e) (h0 : e s = 0) : ∀ {k x : Nat}, R.testBit x = true → d x = k → e x ≤ k
  | 0, x, hx, hd => by rw [srch_0 h hx hd, h0]; exact Nat.le_refl _
  | k + 1, x, hx, hd => by
    have hne : x ≠ s := fun z => by rw [z, h.2.2.1] at hd; omega
    obtain ⟨a1, a2, a3, a4⟩ := h.2.2.2.2.1 x hx hne
    have h1 := lab_le h he h0 (k := k) a2 (by omega)
    have h2 := he (c x) x a1 (R9 h.1 hx) a3
    omega
theorem lab_t {r : Nat → Nat → Nat} {s R : Nat} {c d e : Nat → Nat} (h : srch r s R c d) (he : okL r e) (h0 : e s = 0) : ∀ {k g : Nat}, R.testBit g = true → d g = k → e g = k → onW c (fun y => e y = e (c y) + 1) k g
  | 0, _, _, _, _ => trivial
  | k + 1, g, hg, hd, hk => by
    have hne : g ≠ s := fun z => by rw [z, h.2.2.1] at hd; omega
    obtain ⟨a1, a2, a3, a4⟩ := h.2.2.2.2.1 g hg hne
    have h1 := lab_le h he h0 (k := k) a2 (by omega)
    have h2 := he (c g) g a1 (R9 h.1 hg) a3
    exact ⟨by omega, lab_t h he h0 a2 (by omega) (by omega)⟩
/-- where a flow stands after l5 ways: rooms, the flow, a measure that ends it -/
def fst_ok (v : Nat → Nat) (s g : Nat) (r : Nat → Nat → Nat) (fl n : Nat) : Prop :=
  (∀ x y, x < 9 → y < 9 → r x y + r y x = wt v x y + wt v y x) ∧ (∀ A, A < 2 ^ v 0 → A.testBit s = true → A.testBit g = false → crm r A + fl = fo v A) ∧ ∃ e : Nat → Nat, okL r e ∧ e s = 0 ∧ e g ≤ 9 ∧ n + (9 - e g) * 82 + tgt r e ≤ 738
theorem crm_fo {v : Nat → Nat} (hv : okV v) {A : Nat} (hA : A < 2 ^ v 0) : crm (wt v) A = fo v A := by
  have h0 := hv.1
  have e1 : fo v A = dbl (fun x y => if A.testBit x = true ∧ A.testBit y = false then wt v x y else 0) (v 0) := by
    unfold fo
    rw [tT_dbl]
    refine dbl_ext (fun i j _ hj => ?_)
    rw [bn_tb, ev_tb, decide_eq_true hj]
    cases A.testBit j <;> simp
  rw [e1]
  unfold crm dbl
  rw [sm_cut h0 (fun i hi hi9 => sm_zero (fun j hj => by dsimp only; rw [hv.out hi9 hj (Or.inl hi), ite_self]))]
  refine sm_ext (fun i hi => ?_)
  exact sm_cut h0 (fun j hj hj9 => by dsimp only; rw [hv.out (by omega) hj9 (Or.inr hj), ite_self])
theorem fst_0 {v : Nat → Nat} (hv : okV v) {s g : Nat} : fst_ok v s g (wt v) 0 0 := by
  have e0 : tgt (wt v) (fun _ => 0) = 0 := sm_zero (fun i _ => sm_zero (fun j _ => if_neg (fun z => absurd z.2 (show ¬ (0 : Nat) = 0 + 1 by omega))))
  refine ⟨fun _ _ _ _ => rfl, fun A hA _ _ => by rw [crm_fo hv hA]; rfl, fun _ => 0, fun _ _ _ _ _ => show (0 : Nat) ≤ 0 + 1 by omega, rfl, show (0 : Nat) ≤ 9 by omega, ?_⟩
  show 0 + (9 - 0) * 82 + tgt (wt v) (fun _ => 0) ≤ 738
  rw [e0]; omega
theorem fst_step {v : Nat → Nat} (hv : okV v) {s g n fl R : Nat} {r : Nat → Nat → Nat} {c d : Nat → Nat} (hsg : s ≠ g) (hg : g < 9) (hs : s < 9) (h : fst_ok v s g r fl n) (hR : srch r s R c d) (hgR : R.testBit g = true) :
    0 < d g ∧ d g ≤ 8 ∧ nrw r c (d g) g 2147483647 < 100000000 ∧ onW c (fun y => nrw r c (d g) g 2147483647 ≤ r (c y) y) (d g) g ∧ fst_ok v s g (psh c (nrw r c (d g) g 2147483647) (d g) g r) (fl + nrw r c (d g) g 2147483647) (n + 1) := by
  obtain ⟨s1, s2, e, e1, e2, e3, e4⟩ := h
  have hw := srch_w hR hgR rfl
  have hlb : lbW c d (d g) g := onW_mono (fun y hy => hy.2.2.2.2) hw
  have hle := (nrw_le (r := r) (c := c) (k := d g) (g := g) (a := 2147483647)).2
  obtain ⟨m, hm⟩ : ∃ m, m = nrw r c (d g) g 2147483647 := ⟨_, rfl⟩
  rw [← hm] at hle ⊢
  have hd0 : 0 < d g := by
    rcases Nat.eq_zero_or_pos (d g) with q | q
    · exact absurd (srch_0 hR hgR q).symm hsg
    · exact q
  have hrlt : ∀ x y, x < 9 → y < 9 → r x y < 100000000 := fun x y hx hy => by
    have := s1 x y hx hy
    have := hv.lt hx hy
    have := hv.lt hy hx
    omega
  have hmlt : m < 100000000 := by
    obtain ⟨k, hk⟩ : ∃ k, d g = k + 1 := ⟨d g - 1, by omega⟩
    rw [hk] at hle hw
    have := hle.1
    have := hrlt (c g) g hw.1.2.1 hg
    omega
  obtain ⟨y, y1, y2, y3, y4, y5⟩ : ∃ y, 0 < d y ∧ d y ≤ d g ∧ d y = d (c y) + 1 ∧ m = r (c y) y ∧ (∀ P : Nat → Prop, onW c P (d g) g → P y) := by
    rcases nrw_at (r := r) (a := 2147483647) hlb rfl with q | q
    · omega
    · rw [← hm] at q; exact q
  have hy := y5 _ hw
  have hy9 := R9 hR.1 hy.1.1
  have hz := y5 _ (psh_zero (m := m) (r := r) hlb rfl hle)
  have hlabs : ∀ e' : Nat → Nat, okL r e' → e' s = 0 → e' g ≤ 9 → onW c (fun y => e' y = e' (c y) + 1) (d g) g → n + (9 - e' g) * 82 + tgt r e' ≤ 738 → ∃ e : Nat → Nat, okL (psh c m (d g) g r) e ∧ e s = 0 ∧ e g ≤ 9 ∧ n + 1 + (9 - e g) * 82 + tgt (psh c m (d g) g r) e ≤ 738 := fun e' a1 a2 a3 a4 a5 => by
    obtain ⟨b1, b2⟩ := psh_lab (m := m) (e := e') hlb rfl hle a4 a1
    have b3 := tgt_lt (e := e') hy.2.1 hy9 b2 hy.2.2.2.1 (y5 _ a4) (by omega)
    exact ⟨e', b1, a2, a3, by omega⟩
  refine ⟨hd0, hR.2.2.2.1 g hgR, hmlt, hle, fun x z hx hz => ?_, fun A hA hAs hAg => ?_, ?_⟩
  · rw [psh_sum hlb rfl hle]; exact s1 x z hx hz
  · have h1 := psh_cut (m := m) (s := s) (A := A) (d := d) (fun _ _ _ => trivial) (r := r) hlb rfl (onW_mono (fun y hy => ⟨hy.2, hy.1.2.1, R9 hR.1 hy.1.1.1, fun q => srch_0 hR hy.1.2.2.1 q⟩) (onW_and hw hle)) (fun q => absurd q (by omega))
    have h2 := s2 A hA hAs hAg
    rw [if_pos hAs, if_neg (by rw [hAg]; decide)] at h1
    omega
  · have hel := lab_le hR e1 e2 hgR rfl
    by_cases q : e g = d g
    · exact hlabs e e1 e2 e3 (lab_t hR e1 e2 hgR rfl q) e4
    · -- new labels: the steps, 9 where nothing comes
      have hd8 := hR.2.2.2.1 g hgR
      refine hlabs (fun x => if R.testBit x = true then d x else 9) (fun x y hx hy h0 => ?_) ?_ ?_ ?_ ?_
      · dsimp only
        by_cases hxR : R.testBit x = true
        · obtain ⟨z1, z2⟩ := hR.2.2.2.2.2 x y hxR hy h0
          rw [if_pos hxR, if_pos z1]; exact z2
        · rw [if_neg hxR]
          split
          · rename_i hyR
            have := hR.2.2.2.1 y hyR; omega
          · omega
      · rw [if_pos hR.2.1]; exact hR.2.2.1
      · rw [if_pos hgR]; omega
      · exact onW_mono (fun y hy => by rw [if_pos hy.1.1, if_pos hy.2.2.1]; exact hy.2.2.2.2) hw
      · rw [if_pos hgR]
        have := tgt_le (r := r) (e := fun x => if R.testBit x = true then d x else 9)
        omega
/-- no way is left: the flow is the feud between both -/
theorem fst_end {v : Nat → Nat} (hv : okV v) {s g n fl R : Nat} {r : Nat → Nat → Nat} {c d : Nat → Nat} (hsg : s ≠ g) (hg : g < v 0) (hs : s < v 0) (h : fst_ok v s g r fl n) (hR : srch r s R c d) (hgR : R.testBit g = false) : fl = bt v s g := by
  have h0 := hv.1
  obtain ⟨s1, s2, -⟩ := h
  have hA : (R &&& ev v) < 2 ^ v 0 := b_lt_of (fun k hk => by rw [Nat.testBit_and, ev_tb, decide_eq_false (by omega), Bool.and_false])
  have a1 : (R &&& ev v).testBit s = true := by rw [Nat.testBit_and, ev_tb, hR.2.1, decide_eq_true hs]; rfl
  have a2 : (R &&& ev v).testBit g = false := by rw [Nat.testBit_and, hgR]; rfl
  have hz : crm r (R &&& ev v) = 0 := sm_zero (fun x hx => sm_zero (fun y hy => by
    dsimp only
    by_cases q : (R &&& ev v).testBit x = true ∧ (R &&& ev v).testBit y = false
    · rw [if_pos q]
      rcases Nat.eq_zero_or_pos (r x y) with w | w
      · exact w
      · exfalso
        have hxR : R.testBit x = true := by have := q.1; rw [Nat.testBit_and, Bool.and_eq_true] at this; exact this.1
        have hyR := (hR.2.2.2.2.2 x y hxR hy w).1
        have q2 := q.2
        rw [Nat.testBit_and, hyR, ev_tb, Bool.true_and] at q2
        have hyv : v 0 ≤ y := by have := of_decide_eq_false q2; omega
        have := s1 x y hx hy
        rw [hv.out hx hy (Or.inr hyv), hv.out hy hx (Or.inl hyv)] at this
        omega
    · rw [if_neg q]))
  have h1 := s2 _ hA a1 a2
  have h2 := bt_le hA a1 a2
  obtain ⟨S, t1, t2, t3, t4⟩ := bt_at hv hs hsg
  have h3 := s2 S t1 t2 t3
  omega

