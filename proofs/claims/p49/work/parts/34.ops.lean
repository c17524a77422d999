/-! what changes make of a village -/
def mkV (n a b c : Nat) (sd : Nat → Nat) (w : Nat → Nat → Nat) : Nat → Nat := fun k => if k = 0 then n else if k = 1 then a else if k = 2 then b else if k = 3 then c else if k < 13 then sd (k - 4) else w ((k - 13) / 9) ((k - 13) % 9)
section MKV
variable {n a b c : Nat} {sd : Nat → Nat} {w : Nat → Nat → Nat}
theorem mk_0 : mkV n a b c sd w 0 = n := rfl
theorem mk_1 : mkV n a b c sd w 1 = a := rfl
theorem mk_2 : mkV n a b c sd w 2 = b := rfl
theorem mk_3 : mkV n a b c sd w 3 = c := rfl
theorem mk_s {k : Nat} (hk : k < 9) : mkV n a b c sd w (4 + k) = sd k := by
  unfold mkV
  rw [if_neg (by omega), if_neg (by omega), if_neg (by omega), if_neg (by omega), if_pos (by omega), show 4 + k - 4 = k by omega]
theorem mk_w {i j : Nat} (hj : j < 9) : wt (mkV n a b c sd w) i j = w i j := by
  unfold wt mkV
  rw [if_neg (by omega), if_neg (by omega), if_neg (by omega), if_neg (by omega), if_neg (by omega), show (13 + (9 * i + j) - 13) / 9 = i by omega, show (13 + (9 * i + j) - 13) % 9 = j by omega]
end MKV
def tot (v : Nat → Nat) : Nat := dbl (wt v) 9
def okS (v : Nat → Nat) : Prop := v 0 ≤ 9 ∧ (∀ k, k < 9 → v (4 + k) ≤ 1) ∧ (∀ k, k < 9 → v 0 ≤ k → v (4 + k) = 0) ∧ (∀ i j, i < 9 → j < 9 → wt v i j = wt v j i) ∧ (∀ i, i < 9 → wt v i i = 0) ∧ ∀ i j, i < 9 → j < 9 → v 0 ≤ i → wt v i j = 0
theorem okV_of {v : Nat → Nat} (h : okS v) (ht : tot v < 10000000) : okV v := ⟨h.1, h.2.1, h.2.2.1, h.2.2.2.1, h.2.2.2.2.1, h.2.2.2.2.2, ht⟩
theorem okV.S {v : Nat → Nat} (h : okV v) : okS v := ⟨h.1, h.2.1, h.2.2.1, h.2.2.2.1, h.2.2.2.2.1, h.2.2.2.2.2.1⟩
theorem okS.out {v : Nat → Nat} (h : okS v) {i j : Nat} (hi : i < 9) (hj : j < 9) (ho : v 0 ≤ i ∨ v 0 ≤ j) : wt v i j = 0 := by
  rcases ho with ho | ho
  · exact h.2.2.2.2.2 i j hi hj ho
  · rw [h.2.2.2.1 i j hi hj]; exact h.2.2.2.2.2 j i hj hi ho
theorem tot_n {v : Nat → Nat} (h : okS v) : tot v = dbl (wt v) (v 0) := by
  unfold tot dbl
  rw [sm_cut h.1 (fun i h1 h2 => sm_zero (fun j hj => h.out h2 hj (Or.inl h1)))]
  exact sm_ext (fun i hi => sm_cut h.1 (fun j h1 h2 => h.out (by have := h.1; omega) h2 (Or.inr h1)))
def sh (g x : Nat) : Nat := if x < g then x else x + 1
theorem sh_lt {g x n : Nat} (hx : x + 1 < n) : sh g x < n := by unfold sh; split <;> omega
theorem sh_ne {g x : Nat} : sh g x ≠ g := by unfold sh; split <;> omega
theorem sh_inj {g x y : Nat} (h : sh g x = sh g y) : x = y := by unfold sh at h; split at h <;> split at h <;> omega
theorem sm_sh (f : Nat → Nat) {g : Nat} : ∀ {m : Nat}, g ≤ m → sm (fun x => f (sh g x)) m + f g = sm f (m + 1)
  | 0, h => by rw [show g = 0 by omega]; rfl
  | m + 1, h => by
    by_cases e : g = m + 1
    · rw [e]
      show sm (fun x => f (sh (m + 1) x)) (m + 1) + f (m + 1) = sm f (m + 1) + f (m + 1)
      congr 1
      exact sm_ext (f := fun x => f (sh (m + 1) x)) (g := f) (fun x hx => by show f (sh (m + 1) x) = f x; unfold sh; rw [if_pos hx])
    · have := sm_sh f (m := m) (show g ≤ m by omega)
      rw [sm, sm, ← this]
      have e2 : sh g m = m + 1 := by unfold sh; rw [if_neg (by omega)]
      rw [e2]; omega
def vCom (v : Nat → Nat) : Nat → Nat := mkV (v 0 + 1) (v 1 + 1) (v 2) (v 3) (fun k => v (4 + k)) (wt v)
def vGo (v : Nat → Nat) (g : Nat) : Nat → Nat := mkV (v 0 - 1) (v 1) (v 2 + 1) (v 3) (fun k => if k + 1 < v 0 then v (4 + sh g k) else 0) (fun i j => if i + 1 < v 0 ∧ j + 1 < v 0 then wt v (sh g i) (sh g j) else 0)
def vBnd (v : Nat → Nat) (a b x : Nat) : Nat → Nat := mkV (v 0) (v 1) (v 2) (v 3) (fun k => v (4 + k)) (fun i j => if (i = a ∧ j = b) ∨ (i = b ∧ j = a) then x else wt v i j)
def vUni (v : Nat → Nat) (a b : Nat) : Nat → Nat := mkV (v 0) (v 1) (v 2) (v 3) (fun k => v (4 + k)) (fun i j => if i = a ∧ j ≠ a ∧ j ≠ b ∧ j < v 0 then wt v a j + wt v b j else if j = a ∧ i ≠ a ∧ i ≠ b ∧ i < v 0 then wt v a i + wt v b i else wt v i j)
def vWed (v : Nat → Nat) : Nat → Nat := mkV (v 0) (v 1) (v 2) (v 3 + 1) (fun k => v (4 + k)) (wt v)
def vMar (v : Nat → Nat) (a b : Nat) : Nat → Nat := vWed (vGo (vUni v a b) b)
def vSid (v : Nat → Nat) (h s : Nat) : Nat → Nat := mkV (v 0) (v 1) (v 2) (v 3) (fun k => if k = h then s else v (4 + k)) (wt v)
def vPar (v : Nat → Nat) (A : Nat) : Nat → Nat := mkV (v 0) (v 1) (v 2) (v 3) (fun k => if A.testBit k = true then 1 else 0) (wt v)
theorem ok_com {v : Nat → Nat} (h : okS v) (h9 : v 0 < 9) : okS (vCom v) ∧ tot (vCom v) = tot v := by
  refine ⟨⟨by show v 0 + 1 ≤ 9; omega, fun k hk => ?_, fun k hk hn => ?_, fun i j hi hj => ?_, fun i hi => ?_, fun i j hi hj hn => ?_⟩, dbl_ext (fun i j _ hj => mk_w hj)⟩
  · unfold vCom; rw [mk_s hk]; exact h.2.1 k hk
  · have hn2 : v 0 + 1 ≤ k := hn
    unfold vCom; rw [mk_s hk]; exact h.2.2.1 k hk (by omega)
  · unfold vCom; rw [mk_w hj, mk_w hi]; exact h.2.2.2.1 i j hi hj
  · unfold vCom; rw [mk_w hi]; exact h.2.2.2.2.1 i hi
  · have hn2 : v 0 + 1 ≤ i := hn
    unfold vCom; rw [mk_w hj]; exact h.out hi hj (Or.inl (by omega))
/-- what going needs of a village: also one whose bonds aren't all told both ways alike -/
def okG (v : Nat → Nat) : Prop := v 0 ≤ 9 ∧ (∀ k, k < 9 → v (4 + k) ≤ 1) ∧ (∀ k, k < 9 → v 0 ≤ k → v (4 + k) = 0) ∧ ∀ i j, i < 9 → j < 9 → v 0 ≤ i ∨ v 0 ≤ j → wt v i j = 0
theorem okS.G {v : Nat → Nat} (h : okS v) : okG v := ⟨h.1, h.2.1, h.2.2.1, fun _ _ hi hj ho => h.out hi hj ho⟩
theorem ok_go {v : Nat → Nat} (h : okG v) {g : Nat} (hg : g < v 0) (hs : ∀ i j, i < 9 → j < 9 → i ≠ g → j ≠ g → wt v i j = wt v j i) (hd : ∀ i, i < 9 → i ≠ g → wt v i i = 0) : okS (vGo v g) ∧ tot (vGo v g) = dbl (fun i j => wt v (sh g i) (sh g j)) (v 0 - 1) := by
  have h0 := h.1
  have hw : ∀ i j, j < 9 → wt (vGo v g) i j = if i + 1 < v 0 ∧ j + 1 < v 0 then wt v (sh g i) (sh g j) else 0 := fun i j hj => mk_w hj
  have hS : okS (vGo v g) := by
    refine ⟨by show v 0 - 1 ≤ 9; omega, fun k hk => ?_, fun k hk hn => ?_, fun i j hi hj => ?_, fun i hi => ?_, fun i j hi hj hn => ?_⟩
    · unfold vGo; rw [mk_s hk]
      split
      · exact h.2.1 _ (by have := sh_lt (g := g) (x := k) (n := v 0) (by omega); omega)
      · omega
    · have hn2 : v 0 - 1 ≤ k := hn
      unfold vGo; rw [mk_s hk, if_neg (by omega)]
    · rw [hw i j hj, hw j i hi]
      by_cases e : i + 1 < v 0 ∧ j + 1 < v 0
      · have h1 := sh_lt (g := g) e.1
        have h2 := sh_lt (g := g) e.2
        rw [if_pos e, if_pos ⟨e.2, e.1⟩]; exact hs _ _ (by omega) (by omega) sh_ne sh_ne
      · rw [if_neg e, if_neg (fun z => e ⟨z.2, z.1⟩)]
    · rw [hw i i hi]
      split
      · rename_i e
        have h1 := sh_lt (g := g) e.1
        exact hd _ (by omega) sh_ne
      · rfl
    · have hn2 : v 0 - 1 ≤ i := hn
      rw [hw i j hj, if_neg (by omega)]
  refine ⟨hS, ?_⟩
  rw [tot_n hS]
  show dbl (wt (vGo v g)) (v 0 - 1) = _
  exact dbl_ext (fun i j hi hj => by rw [hw i j (by omega), if_pos ⟨by omega, by omega⟩])
theorem ok_leave {v : Nat → Nat} (h : okS v) {g : Nat} (hg : g < v 0) : okS (vGo v g) ∧ tot (vGo v g) ≤ tot v := by
  obtain ⟨h1, h2⟩ := ok_go h.G hg (fun i j hi hj _ _ => h.2.2.2.1 i j hi hj) (fun i hi _ => h.2.2.2.2.1 i hi)
  refine ⟨h1, ?_⟩
  rw [h2, tot_n h]
  obtain ⟨m, hm⟩ : ∃ m, v 0 = m + 1 := ⟨v 0 - 1, by omega⟩
  rw [hm, Nat.add_sub_cancel]
  have a1 : dbl (fun i j => wt v (sh g i) (sh g j)) m ≤ sm (fun i => sm (fun j => wt v (sh g i) j) (m + 1)) m := sm_le (fun i _ => by
    show sm (fun j => wt v (sh g i) (sh g j)) m ≤ sm (fun j => wt v (sh g i) j) (m + 1)
    have : sm (fun j => wt v (sh g i) (sh g j)) m + wt v (sh g i) g = sm (fun j => wt v (sh g i) j) (m + 1) := sm_sh (fun j => wt v (sh g i) j) (g := g) (m := m) (by omega)
    omega)
  have a2 : sm (fun i => sm (fun j => wt v (sh g i) j) (m + 1)) m + sm (fun j => wt v g j) (m + 1) = sm (fun i => sm (fun j => wt v i j) (m + 1)) (m + 1) := sm_sh (fun i => sm (fun j => wt v i j) (m + 1)) (g := g) (m := m) (by omega)
  have a3 : dbl (wt v) (m + 1) = sm (fun i => sm (fun j => wt v i j) (m + 1)) (m + 1) := rfl
  omega
theorem ok_bnd {v : Nat → Nat} (h : okS v) {a b x : Nat} (ha : a < v 0) (hb : b < v 0) (hab : a ≠ b) : okS (vBnd v a b x) ∧ tot (vBnd v a b x) ≤ tot v + 2 * x := by
  have h0 := h.1
  have hw : ∀ i j, j < 9 → wt (vBnd v a b x) i j = if (i = a ∧ j = b) ∨ (i = b ∧ j = a) then x else wt v i j := fun i j hj => mk_w hj
  refine ⟨⟨h0, fun k hk => ?_, fun k hk hn => ?_, fun i j hi hj => ?_, fun i hi => ?_, fun i j hi hj hn => ?_⟩, ?_⟩
  · unfold vBnd; rw [mk_s hk]; exact h.2.1 k hk
  · unfold vBnd; rw [mk_s hk]; exact h.2.2.1 k hk hn
  · rw [hw i j hj, hw j i hi, h.2.2.2.1 i j hi hj]
    by_cases e : (i = a ∧ j = b) ∨ (i = b ∧ j = a)
    · rw [if_pos e, if_pos (by omega)]
    · rw [if_neg e, if_neg (by omega)]
  · rw [hw i i hi, if_neg (by omega)]; exact h.2.2.2.2.1 i hi
  · have hn2 : v 0 ≤ i := hn
    rw [hw i j hj, if_neg (by omega)]; exact h.out hi hj (Or.inl hn2)
  · have e : tot (vBnd v a b x) ≤ dbl (fun i j => wt v i j + ((if i = a then (if j = b then x else 0) else 0) + (if i = b then (if j = a then x else 0) else 0))) 9 := dbl_le (fun i j hi hj => by
      rw [hw i j hj]
      by_cases e1 : i = a ∧ j = b
      · rw [if_pos (Or.inl e1), if_pos e1.1, if_pos e1.2]; omega
      · by_cases e2 : i = b ∧ j = a
        · rw [if_pos (Or.inr e2), if_neg (by omega), if_pos e2.1, if_pos e2.2]; omega
        · rw [if_neg (by omega)]; omega)
    rw [dbl_add, dbl_add, dbl_one (by omega) (by omega), dbl_one (by omega) (by omega)] at e
    have e5 : tot (vBnd v a b x) ≤ tot v + (x + x) := e
    omega
theorem ok_wed {v : Nat → Nat} (h : okS v) : okS (vWed v) ∧ tot (vWed v) = tot v := by
  refine ⟨⟨h.1, fun k hk => ?_, fun k hk hn => ?_, fun i j hi hj => ?_, fun i hi => ?_, fun i j hi hj hn => ?_⟩, dbl_ext (fun i j _ hj => mk_w hj)⟩
  · unfold vWed; rw [mk_s hk]; exact h.2.1 k hk
  · unfold vWed; rw [mk_s hk]; exact h.2.2.1 k hk hn
  · unfold vWed; rw [mk_w hj, mk_w hi]; exact h.2.2.2.1 i j hi hj
  · unfold vWed; rw [mk_w hi]; exact h.2.2.2.2.1 i hi
  · unfold vWed; rw [mk_w hj]; exact h.out hi hj (Or.inl hn)
theorem uni_w {v : Nat → Nat} {a b i j : Nat} (hj : j < 9) : wt (vUni v a b) i j = if i = a ∧ j ≠ a ∧ j ≠ b ∧ j < v 0 then wt v a j + wt v b j else if j = a ∧ i ≠ a ∧ i ≠ b ∧ i < v 0 then wt v a i + wt v b i else wt v i j := mk_w hj
theorem ok_uni {v : Nat → Nat} (h : okS v) {a b : Nat} (ha : a < v 0) : okG (vUni v a b) := by
  have h0 := h.1
  refine ⟨h0, fun k hk => ?_, fun k hk hn => ?_, fun i j hi hj hn => ?_⟩
  · unfold vUni; rw [mk_s hk]; exact h.2.1 k hk
  · unfold vUni; rw [mk_s hk]; exact h.2.2.1 k hk hn
  · have hn2 : v 0 ≤ i ∨ v 0 ≤ j := hn
    rw [uni_w hj, if_neg (by omega), if_neg (by omega)]; exact h.out hi hj hn2
theorem ok_mar {v : Nat → Nat} (h : okS v) {a b : Nat} (ha : a < v 0) (hb : b < v 0) (hab : a ≠ b) : okS (vMar v a b) ∧ tot (vMar v a b) ≤ tot v := by
  have h0 := h.1
  obtain ⟨h1, h2⟩ := ok_go (ok_uni (b := b) h ha) (g := b) hb (fun i j hi hj hib hjb => by
    rw [uni_w hj, uni_w hi]
    by_cases e1 : i = a
    · subst e1
      by_cases e2 : j = i
      · rw [e2]
      · by_cases e3 : j < v 0
        · rw [if_pos ⟨rfl, e2, hjb, e3⟩, if_neg (fun z => e2 z.1), if_pos ⟨rfl, e2, hjb, e3⟩]
        · rw [if_neg (by omega), if_neg (by omega), if_neg (by omega), if_neg (by omega)]; exact h.2.2.2.1 i j hi hj
    · by_cases e2 : j = a
      · subst e2
        by_cases e3 : i < v 0
        · rw [if_neg (fun z => e1 z.1), if_pos ⟨rfl, e1, hib, e3⟩, if_pos ⟨rfl, e1, hib, e3⟩]
        · rw [if_neg (by omega), if_neg (by omega), if_neg (by omega), if_neg (by omega)]; exact h.2.2.2.1 i j hi hj
      · rw [if_neg (by omega), if_neg (by omega), if_neg (by omega), if_neg (by omega)]; exact h.2.2.2.1 i j hi hj) (fun i hi hib => by
    rw [uni_w hi, if_neg (by omega), if_neg (by omega)]; exact h.2.2.2.2.1 i hi)
  obtain ⟨h3, h4⟩ := ok_wed h1
  refine ⟨h3, ?_⟩
  show tot (vWed (vGo (vUni v a b) b)) ≤ _
  rw [h4, h2, tot_n h]
  show dbl (fun i j => wt (vUni v a b) (sh b i) (sh b j)) (v 0 - 1) ≤ _
  obtain ⟨m, hm⟩ : ∃ m, v 0 = m + 1 := ⟨v 0 - 1, by omega⟩
  rw [hm, Nat.add_sub_cancel]
  obtain ⟨a', ha1, ha2⟩ : ∃ a', sh b a' = a ∧ a' < m := by
    unfold sh
    by_cases e : a < b
    · exact ⟨a, by rw [if_pos e], by omega⟩
    · exact ⟨a - 1, by rw [if_neg (by omega)]; omega, by omega⟩
  have b1 : dbl (fun i j => wt (vUni v a b) (sh b i) (sh b j)) m ≤ dbl (fun i j => wt v (sh b i) (sh b j) + ((if i = a' then wt v b (sh b j) else 0) + (if j = a' then wt v b (sh b i) else 0))) m := dbl_le (fun i j hi hj => by
    have l1 := sh_lt (g := b) (x := i) (n := v 0) (by omega)
    have l2 := sh_lt (g := b) (x := j) (n := v 0) (by omega)
    rw [uni_w (by omega)]
    by_cases e1 : sh b i = a ∧ sh b j ≠ a ∧ sh b j ≠ b ∧ sh b j < v 0
    · rw [if_pos e1, if_pos (sh_inj (by rw [e1.1, ha1])), e1.1]; omega
    · rw [if_neg e1]
      by_cases e2 : sh b j = a ∧ sh b i ≠ a ∧ sh b i ≠ b ∧ sh b i < v 0
      · rw [if_pos e2, if_pos (show j = a' from sh_inj (by rw [e2.1, ha1])), e2.1, h.2.2.2.1 (sh b i) a (by omega) (by omega)]; omega
      · rw [if_neg e2]; omega)
  rw [dbl_add, dbl_add, dbl_row ha2, dbl_col ha2] at b1
  have b2 : sm (fun i => sm (fun j => wt v (sh b i) j) (m + 1)) m + sm (fun j => wt v b j) (m + 1) = sm (fun i => sm (fun j => wt v i j) (m + 1)) (m + 1) := sm_sh (fun i => sm (fun j => wt v i j) (m + 1)) (g := b) (m := m) (by omega)
  have b3 : sm (fun i => sm (fun j => wt v (sh b i) j) (m + 1)) m = sm (fun i => sm (fun j => wt v (sh b i) (sh b j)) m + wt v b (sh b i)) m := sm_ext (fun i hi => by
    have l1 := sh_lt (g := b) (x := i) (n := v 0) (by omega)
    have : sm (fun j => wt v (sh b i) (sh b j)) m + wt v (sh b i) b = sm (fun j => wt v (sh b i) j) (m + 1) := sm_sh (fun j => wt v (sh b i) j) (g := b) (m := m) (by omega)
    rw [← this, h.2.2.2.1 (sh b i) b (by omega) (by omega)])
  have b4 : sm (fun j => wt v b (sh b j)) m + wt v b b = sm (fun j => wt v b j) (m + 1) := sm_sh (fun j => wt v b j) (g := b) (m := m) (by omega)
  rw [sm_add] at b3
  have b5 : dbl (wt v) (m + 1) = sm (fun i => sm (fun j => wt v i j) (m + 1)) (m + 1) := rfl
  have b6 : dbl (fun i j => wt v (sh b i) (sh b j)) m = sm (fun i => sm (fun j => wt v (sh b i) (sh b j)) m) m := rfl
  omega
theorem ok_sid {v : Nat → Nat} (h : okS v) {k s : Nat} (hk : k < v 0) (hs : s ≤ 1) : okS (vSid v k s) ∧ tot (vSid v k s) = tot v := by
  refine ⟨⟨h.1, fun i hi => ?_, fun i hi hn => ?_, fun i j hi hj => ?_, fun i hi => ?_, fun i j hi hj hn => ?_⟩, dbl_ext (fun i j _ hj => mk_w hj)⟩
  · unfold vSid; rw [mk_s hi]; split
    · exact hs
    · exact h.2.1 i hi
  · have hn2 : v 0 ≤ i := hn
    unfold vSid; rw [mk_s hi]; rw [if_neg (by omega)]; exact h.2.2.1 i hi hn2
  · unfold vSid; rw [mk_w hj, mk_w hi]; exact h.2.2.2.1 i j hi hj
  · unfold vSid; rw [mk_w hi]; exact h.2.2.2.2.1 i hi
  · unfold vSid; rw [mk_w hj]; exact h.out hi hj (Or.inl hn)
theorem ok_par {v : Nat → Nat} (h : okS v) {A : Nat} (hA : A < 2 ^ v 0) : okS (vPar v A) ∧ tot (vPar v A) = tot v := by
  refine ⟨⟨h.1, fun i hi => ?_, fun i hi hn => ?_, fun i j hi hj => ?_, fun i hi => ?_, fun i j hi hj hn => ?_⟩, dbl_ext (fun i j _ hj => mk_w hj)⟩
  · unfold vPar; rw [mk_s hi]; split <;> omega
  · have hn2 : v 0 ≤ i := hn
    unfold vPar; rw [mk_s hi]; rw [if_neg (by rw [b_hi hA hn2]; decide)]
  · unfold vPar; rw [mk_w hj, mk_w hi]; exact h.2.2.2.1 i j hi hj
  · unfold vPar; rw [mk_w hi]; exact h.2.2.2.2.1 i hi
  · unfold vPar; rw [mk_w hj]; exact h.out hi hj (Or.inl hn)
/-! their sides as masks -/
theorem sds_t {v : Nat → Nat} (h : ∀ k, k < 9 → v (4 + k) ≤ 1) {k : Nat} (hk : k < 9) : (sds v).testBit k = decide (v (4 + k) = 1) := by
  unfold sds; rw [mk9_tb h]; simp [hk]
theorem sds_l {v : Nat → Nat} (h : ∀ k, k < 9 → v (4 + k) ≤ 1) : sds v < 2 ^ 9 := mk9_lt h
theorem sds_same {v w : Nat → Nat} (h : ∀ k, k < 9 → v (4 + k) = w (4 + k)) : sds v = sds w := sm_ext (fun k hk => by dsimp only; rw [h k hk])
theorem sds_com {v : Nat → Nat} : sds (vCom v) = sds v := sds_same (fun _ hk => mk_s hk)
theorem sds_bnd {v : Nat → Nat} {a b x : Nat} : sds (vBnd v a b x) = sds v := sds_same (fun _ hk => mk_s hk)
theorem sds_uni {v : Nat → Nat} {a b : Nat} : sds (vUni v a b) = sds v := sds_same (fun _ hk => mk_s hk)
theorem sds_wed {v : Nat → Nat} : sds (vWed v) = sds v := sds_same (fun _ hk => mk_s hk)
theorem sds_go {v : Nat → Nat} (h : okG v) {g : Nat} (hg : g < v 0) : sds (vGo v g) = (sds v &&& (2 ^ g - 1)) ||| bn (sds v / 2) (2 ^ g - 1) := by
  have h0 := h.1
  have hl := sds_l h.2.1
  have hs : ∀ k, k < 9 → vGo v g (4 + k) = if k + 1 < v 0 then v (4 + sh g k) else 0 := fun k hk => mk_s hk
  have hle : ∀ k, k < 9 → vGo v g (4 + k) ≤ 1 := fun k hk => by
    rw [hs k hk]
    split
    · exact h.2.1 _ (by have := sh_lt (g := g) (x := k) (n := v 0) (by omega); omega)
    · omega
  refine b_ext 9 (sds_l hle) (Nat.or_lt_two_pow (Nat.and_lt_two_pow _ (by have := Nat.pow_lt_pow_right (show 1 < 2 by omega) (show g < 9 by omega); omega)) (bn_lt (by omega))) (fun k hk => ?_)
  rw [sds_t hle hk, hs k hk, Nat.testBit_or, Nat.testBit_and, bn_tb, b_allt, Nat.testBit_div_two]
  by_cases e : k < g
  · rw [if_pos (by omega), decide_eq_true e, show sh g k = k from if_pos e, sds_t h.2.1 hk]
    simp
  · rw [decide_eq_false e]
    by_cases e2 : k + 1 < v 0
    · rw [if_pos e2, show sh g k = k + 1 from if_neg e, sds_t (k := k + 1) h.2.1 (by omega)]
      simp
    · rw [if_neg e2]
      by_cases e3 : k + 1 < 9
      · rw [sds_t h.2.1 e3, h.2.2.1 (k + 1) e3 (by omega)]
        simp
      · rw [b_hi (k := k + 1) hl (by omega)]
        simp
theorem sds_sid0 {v : Nat → Nat} (h : okS v) {k : Nat} (hk : k < v 0) : sds (vSid v k 0) = bn (sds v) (2 ^ k) := by
  have h0 := h.1
  have hl := sds_l h.2.1
  have h1 := (ok_sid h hk (show 0 ≤ 1 by omega)).1.2.1
  refine b_ext 9 (sds_l h1) (bn_lt hl) (fun i hi => ?_)
  rw [sds_t h1 hi, bn_tb, Nat.testBit_two_pow, sds_t h.2.1 hi, show vSid v k 0 (4 + i) = if i = k then 0 else v (4 + i) from mk_s hi]
  by_cases e : i = k
  · rw [if_pos e]; simp [e]
  · rw [if_neg e]; simp [show ¬ k = i by omega]
theorem sds_sid1 {v : Nat → Nat} (h : okS v) {k : Nat} (hk : k < v 0) : sds (vSid v k 1) = bn (sds v) (2 ^ k) ||| 2 ^ k := by
  have h0 := h.1
  have hl := sds_l h.2.1
  have h1 := (ok_sid h hk (show 1 ≤ 1 by omega)).1.2.1
  refine b_ext 9 (sds_l h1) (Nat.or_lt_two_pow (bn_lt hl) (Nat.pow_lt_pow_right (by omega) (by omega))) (fun i hi => ?_)
  rw [sds_t h1 hi, or_tb, bn_tb, Nat.testBit_two_pow, sds_t h.2.1 hi, show vSid v k 1 (4 + i) = if i = k then 1 else v (4 + i) from mk_s hi]
  by_cases e : i = k
  · rw [if_pos e]; simp [e]
  · rw [if_neg e]; simp [e, show ¬ k = i by omega]
theorem sds_par {v : Nat → Nat} (h : okS v) {A : Nat} (hA : A < 2 ^ v 0) : sds (vPar v A) = A := by
  have h1 := (ok_par h hA).1.2.1
  refine b_ext 9 (sds_l h1) (Nat.lt_of_lt_of_le hA (Nat.pow_le_pow_right (by omega) h.1)) (fun i hi => ?_)
  rw [sds_t h1 hi, show vPar v A (4 + i) = if A.testBit i = true then 1 else 0 from mk_s hi]
  cases A.testBit i <;> rfl

