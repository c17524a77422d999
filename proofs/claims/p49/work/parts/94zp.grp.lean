/-! groups as the law holds them: an array by the lowest household; its pick is the phase's *(pure)* -/
theorem pk1_first {v now : Nat → Nat} {J : Nat} : ∀ {i b : Nat}, pk1 v now J i = some b → ∀ k, k < b → now k &&& J = 0 → tT v (now k) J < tT v (now b) J
  | 0, b, h, _, _, _ => by cases h
  | i + 1, b, h, k, hk, hd => by
    simp only [pk1] at h
    split at h
    · split at h
      · rename_i h2
        cases h
        exact absurd hd (pk1_none h2 k hk)
      · rename_i c h2
        obtain ⟨a1, a2, a3⟩ := pk1_some h2
        split at h
        · rename_i h3
          cases h
          have := a3 k hk hd
          omega
        · cases h
          exact pk1_first h2 k hk hd
    · exact pk1_first h k hk hd
/-- the law's array of groups: a group at its lowest household, 0 elsewhere -/
def isG (n : Nat) (now : Nat → Nat) (m : Nat) (G : Nat → Nat) : Prop := ∀ i, i < n → (∃ k, k < m ∧ low (now k) = i ∧ G i = now k) ∨ (G i = 0 ∧ ∀ k, k < m → low (now k) ≠ i)
/-- the law's pick, from the last household down -/
def dn (v : Nat → Nat) (G : Nat → Nat) (J n : Nat) : Nat → Nat
  | 0 => 0
  | d + 1 => if G (n - (d + 1)) = 0 then dn v G J n d else if G (n - (d + 1)) &&& J = 0 then (if dn v G J n d = 0 then G (n - (d + 1)) else if tT v (G (n - (d + 1))) J < tT v (dn v G J n d) J then dn v G J n d else G (n - (d + 1))) else dn v G J n d
theorem isG_k {n m : Nat} {now G : Nat → Nat} (hG : isG n now m G) (hp : prt n now m) (hn : n ≤ 9) {k : Nat} (hk : k < m) : G (low (now k)) = now k := by
  have h1 := (prt_low hp hn hk).1
  rcases hG _ h1 with ⟨j, hj, e1, e2⟩ | ⟨-, h2⟩
  · rw [e2, prt_linj hp hj hk e1]
  · exact absurd rfl (h2 k hk)
theorem dn_inv {v now G : Nat → Nat} {m J : Nat} (hG : isG (v 0) now m G) (hp : prt (v 0) now m) (hn : v 0 ≤ 9) : ∀ d, d ≤ v 0 → (dn v G J (v 0) d = 0 ∧ ∀ k, k < m → v 0 - d ≤ low (now k) → now k &&& J ≠ 0) ∨ (∃ b, b < m ∧ dn v G J (v 0) d = now b ∧ now b &&& J = 0 ∧ v 0 - d ≤ low (now b) ∧ ∀ k, k < m → v 0 - d ≤ low (now k) → now k &&& J = 0 → tT v (now k) J ≤ tT v (now b) J ∧ (k < b → tT v (now k) J < tT v (now b) J))
  | 0, _ => Or.inl ⟨rfl, fun k hk h => by have := (prt_low hp hn hk).1; omega⟩
  | d + 1, hd => by
    have ih := dn_inv (J := J) hG hp hn d (by omega)
    have hi : v 0 - (d + 1) < v 0 := by omega
    have up : ∀ k, v 0 - (d + 1) ≤ low (now k) → low (now k) = v 0 - (d + 1) ∨ v 0 - d ≤ low (now k) := fun k h => by omega
    simp only [dn]
    rcases hG _ hi with ⟨j, hj, e1, e2⟩ | ⟨e1, e2⟩
    · rw [e2]
      have hne := (hp.1 j hj).1
      have same : ∀ k, k < m → low (now k) = v 0 - (d + 1) → k = j := fun k hk h => prt_linj hp hk hj (by omega)
      rw [if_neg hne]
      by_cases hJ : now j &&& J = 0
      · rw [if_pos hJ]
        rcases ih with ⟨z0, z1⟩ | ⟨b, b1, b2, b3, b4, b5⟩
        · rw [if_pos z0]
          refine Or.inr ⟨j, hj, rfl, hJ, by omega, fun k hk h1 h2 => ?_⟩
          rcases up k h1 with h3 | h3
          · have := same k hk h3
            subst this
            exact ⟨Nat.le_refl _, fun z => by omega⟩
          · exact absurd h2 (z1 k hk h3)
        · rw [if_neg (by rw [b2]; exact (hp.1 b b1).1), b2]
          have hjb : j < b := by
            rcases Nat.lt_trichotomy j b with z | z | z
            · exact z
            · subst z; omega
            · have := hp.2.2.1 b j z hj; omega
          by_cases hlt : tT v (now j) J < tT v (now b) J
          · rw [if_pos hlt]
            refine Or.inr ⟨b, b1, rfl, b3, by omega, fun k hk h1 h2 => ?_⟩
            rcases up k h1 with h3 | h3
            · have := same k hk h3
              subst this
              exact ⟨by omega, fun _ => hlt⟩
            · exact b5 k hk h3 h2
          · rw [if_neg hlt]
            refine Or.inr ⟨j, hj, rfl, hJ, by omega, fun k hk h1 h2 => ?_⟩
            rcases up k h1 with h3 | h3
            · have := same k hk h3
              subst this
              exact ⟨Nat.le_refl _, fun z => by omega⟩
            · have h4 := b5 k hk h3 h2
              refine ⟨by omega, fun z => ?_⟩
              have := hp.2.2.1 k j z hj
              omega
      · rw [if_neg hJ]
        rcases ih with ⟨z0, z1⟩ | ⟨b, b1, b2, b3, b4, b5⟩
        · refine Or.inl ⟨z0, fun k hk h1 => ?_⟩
          rcases up k h1 with h3 | h3
          · rw [same k hk h3]; exact hJ
          · exact z1 k hk h3
        · refine Or.inr ⟨b, b1, b2, b3, by omega, fun k hk h1 h2 => ?_⟩
          rcases up k h1 with h3 | h3
          · rw [same k hk h3] at h2; exact absurd h2 hJ
          · exact b5 k hk h3 h2
    · rw [if_pos e1]
      rcases ih with ⟨z0, z1⟩ | ⟨b, b1, b2, b3, b4, b5⟩
      · refine Or.inl ⟨z0, fun k hk h1 => ?_⟩
        rcases up k h1 with h3 | h3
        · exact absurd h3 (e2 k hk)
        · exact z1 k hk h3
      · refine Or.inr ⟨b, b1, b2, b3, by omega, fun k hk h1 h2 => ?_⟩
        rcases up k h1 with h3 | h3
        · exact absurd h3 (e2 k hk)
        · exact b5 k hk h3 h2
theorem dn_end {v now G : Nat → Nat} {m p : Nat} (hG : isG (v 0) now m G) (hp : prt (v 0) now m) (hn : v 0 ≤ 9) (hq : p < m) : dn v G (Jn v now m p) (v 0) (v 0) = gq v now m p := by
  obtain ⟨s1, s2, s3, s4⟩ := sq_spec hp hq
  obtain ⟨t1, t2, t3⟩ := pk1_some s1
  rcases dn_inv (J := Jn v now m p) hG hp hn (v 0) (Nat.le_refl _) with ⟨z0, z1⟩ | ⟨b, b1, b2, b3, b4, b5⟩
  · exact absurd t2 (z1 _ t1 (by omega))
  · rw [b2]
    have e : b = sq v now m p := by
      rcases Nat.lt_trichotomy b (sq v now m p) with z | z | z
      · have h1 := pk1_first s1 b z b3
        have h2 := (b5 _ t1 (by omega) t2).1
        omega
      · exact z
      · have h1 := (b5 _ t1 (by omega) t2).2 z
        have h2 := t3 b b1 b3
        omega
    rw [e]
    rfl
/-- the array behind a phase -/
def Gn (G : Nat → Nat) (a b : Nat) : Nat → Nat := fun i => if i = low (a ||| b) then a ||| b else if i = low b then 0 else if i = low a then 0 else G i
theorem isG_nxt {v now G : Nat → Nat} {m : Nat} (hG : isG (v 0) now m G) (hp : prt (v 0) now m) (hn : v 0 ≤ 9) (hm : 2 ≤ m) : isG (v 0) (nxt v now m) (m - 1) (Gn G (gq v now m (m - 1)) (gq v now m (m - 2))) := by
  have h1 := (sq_spec hp (show m - 2 < m by omega)).2.1
  have h2 := (sq_spec hp (show m - 1 < m by omega)).2.1
  have h3 := sq_ne hp (show m - 2 < m - 1 by omega) (by omega)
  have key : ∀ lo hi, lo < hi → hi < m → (∀ i, Gn G (gq v now m (m - 1)) (gq v now m (m - 2)) i = if i = low (now lo) then now lo ||| now hi else if i = low (now hi) then 0 else G i) → isG (v 0) (mg now lo hi) (m - 1) (Gn G (gq v now m (m - 1)) (gq v now m (m - 2))) := fun lo hi hlh hhi hg => by
    have hl := low_min (hp.1 lo (by omega)).1 (prt_lt hp hn (by omega)) (hp.1 hi hhi).1 (prt_lt hp hn hhi) (hp.2.2.1 lo hi hlh hhi)
    have e : ∀ k, k < hi → low (mg now lo hi k) = low (now k) := fun k hk => by
      unfold mg
      rw [if_pos hk]
      by_cases h3 : k = lo
      · rw [if_pos h3, h3, hl]
      · rw [if_neg h3]
    have e2 : ∀ k, ¬ k < hi → low (mg now lo hi k) = low (now (k + 1)) := fun k hk => by unfold mg; rw [if_neg hk]
    intro i hi9
    rw [hg i]
    by_cases i1 : i = low (now lo)
    · rw [if_pos i1]
      refine Or.inl ⟨lo, by omega, by rw [e lo hlh]; exact i1.symm, ?_⟩
      unfold mg
      rw [if_pos hlh, if_pos rfl]
    · rw [if_neg i1]
      by_cases i2 : i = low (now hi)
      · rw [if_pos i2]
        refine Or.inr ⟨rfl, fun k hk z => ?_⟩
        by_cases hk2 : k < hi
        · rw [e k hk2, i2] at z
          have := prt_linj hp (by omega) hhi z
          omega
        · rw [e2 k hk2, i2] at z
          have := prt_linj hp (show k + 1 < m by omega) hhi z
          omega
      · rw [if_neg i2]
        rcases hG i hi9 with ⟨k, hk, d1, d2⟩ | ⟨d1, d2⟩
        · have n1 : k ≠ lo := fun z => i1 (by rw [← d1, z])
          have n2 : k ≠ hi := fun z => i2 (by rw [← d1, z])
          by_cases hk2 : k < hi
          · refine Or.inl ⟨k, by omega, by rw [e k hk2]; exact d1, ?_⟩
            unfold mg
            rw [if_pos hk2, if_neg n1]
            exact d2
          · refine Or.inl ⟨k - 1, by omega, by rw [e2 (k - 1) (by omega), show k - 1 + 1 = k by omega]; exact d1, ?_⟩
            unfold mg
            rw [if_neg (by omega), show k - 1 + 1 = k by omega]
            exact d2
        · refine Or.inr ⟨d1, fun k hk => ?_⟩
          by_cases hk2 : k < hi
          · rw [e k hk2]; exact d2 k (by omega)
          · rw [e2 k hk2]; exact d2 (k + 1) (by omega)
  have c1 := hp.1 _ h1
  have c2 := hp.1 _ h2
  unfold nxt
  rcases Nat.lt_or_ge (sq v now m (m - 2)) (sq v now m (m - 1)) with z | z
  · rw [Nat.min_eq_left (by omega), Nat.max_eq_right (by omega)]
    refine key _ _ z h2 (fun i => ?_)
    have hl := low_min c1.1 (prt_lt hp hn h1) c2.1 (prt_lt hp hn h2) (hp.2.2.1 _ _ z h2)
    have hne := hp.2.2.1 _ _ z h2
    unfold Gn gq
    rw [Nat.or_comm (now (sq v now m (m - 1))), hl]
    by_cases i1 : i = low (now (sq v now m (m - 2)))
    · rw [if_pos i1, if_pos i1]
    · rw [if_neg i1, if_neg i1, if_neg i1]
  · have z2 : sq v now m (m - 1) < sq v now m (m - 2) := by omega
    rw [Nat.min_eq_right (by omega), Nat.max_eq_left (by omega)]
    refine key _ _ z2 h1 (fun i => ?_)
    have hl := low_min c2.1 (prt_lt hp hn h2) c1.1 (prt_lt hp hn h1) (hp.2.2.1 _ _ z2 h1)
    unfold Gn gq
    rw [hl]
    by_cases i1 : i = low (now (sq v now m (m - 1)))
    · rw [if_pos i1, if_pos i1]
    · rw [if_neg i1, if_neg i1, if_neg i1]
theorem isG_0 {v : Nat → Nat} (hn : v 0 ≤ 9) : isG (v 0) (phs v 0) (v 0) (fun i => 2 ^ i) := fun i hi => Or.inl ⟨i, hi, low_pow (by omega), rfl⟩
/-- the first phase with the least cut -/
theorem lph_first {v : Nat → Nat} : ∀ p q, q < lph v p → cut v (lph v p) < cut v q
  | 0, q, h => absurd h (Nat.not_lt_zero q)
  | p + 1, q, h => by
    simp only [lph] at h ⊢
    split at h
    · rename_i h1
      rw [if_pos h1]
      have := lph_min (v := v) p q (by omega)
      omega
    · rename_i h1
      rw [if_neg h1]
      exact lph_first p q h
/-- numbers of trailing zeros -/
def nt74 (l0 l1 : Int32) : Int32 := l1 + (((l0).toUInt32 >>> (((1 : Int32)).toUInt32 &&& Int32.toUInt32 31)).toInt32)
def nt62 (l0 l1 : Int32) : Int32 := if l0 ≤ 4 then nt74 l0 l1 else nt74 (((l0).toUInt32 >>> (((2 : Int32)).toUInt32 &&& Int32.toUInt32 31)).toInt32) (l1 + 2)
def nt49 (l0 l1 : Int32) : Int32 := if l0 ≤ 16 then nt62 l0 l1 else nt62 (((l0).toUInt32 >>> (((4 : Int32)).toUInt32 &&& Int32.toUInt32 31)).toInt32) (l1 + 4)
def nt34 (l0 l1 : Int32) : Int32 := if l0 ≤ 256 then nt49 l0 l1 else nt49 (((l0).toUInt32 >>> (((8 : Int32)).toUInt32 &&& Int32.toUInt32 31)).toInt32) (l1 + 8)
def ntF (a : Int32) : Int32 := if 0 < ((a ^^^ (-1)) &&& (a - 1)) then (if ((a ^^^ (-1)) &&& (a - 1)) ≤ 65536 then nt34 ((a ^^^ (-1)) &&& (a - 1)) 1 else nt34 (((((a ^^^ (-1)) &&& (a - 1))).toUInt32 >>> (((16 : Int32)).toUInt32 &&& Int32.toUInt32 31)).toInt32) (1 + 16)) else (((a ^^^ (-1)) &&& (a - 1)) &&& 32)
section NTZ
variable {S : PS} {post : Int32 → PS → Prop} {l0 l1 : Int32}
theorem nt_62 : f_J6_numberOfTrailingZeros_0f7a4_J62 post S l0 l1 = post (nt62 l0 l1) S := by
  unfold f_J6_numberOfTrailingZeros_0f7a4_J62 nt62
  split <;> rfl
theorem nt_49 : f_J6_numberOfTrailingZeros_0f7a4_J49 post S l0 l1 = post (nt49 l0 l1) S := by
  unfold f_J6_numberOfTrailingZeros_0f7a4_J49 nt49
  split <;> exact nt_62
theorem nt_34 : f_J6_numberOfTrailingZeros_0f7a4_J34 post S l0 l1 = post (nt34 l0 l1) S := by
  unfold f_J6_numberOfTrailingZeros_0f7a4_J34 nt34
  split <;> exact nt_49
theorem nt_F (a : Int32) : f_J6_numberOfTrailingZeros_0f7a4 S a post = post (ntF a) S := by
  unfold f_J6_numberOfTrailingZeros_0f7a4 ntF
  split
  · split <;> exact nt_34
  · rfl
theorem ntF_s : ∀ s, s < 512 → s ≠ 0 → ntF (nI s) = nI (low s) := by decide +kernel
theorem nt_low {s : Nat} (h0 : s ≠ 0) (hs : s < 2 ^ 9) : f_J6_numberOfTrailingZeros_0f7a4 S (nI s) post = post (nI (low s)) S := by
  rw [nt_F, ntF_s s hs h0]
end NTZ
