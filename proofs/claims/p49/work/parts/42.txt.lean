/-! a text of orders, read: as a pure matter, and by the class -/
def fmL : List (List Nat) := [[104, 111, 117, 115, 101], [103, 111, 32, 35], [98, 111, 110, 100, 32, 35, 32, 35, 32, 37], [108, 111, 111, 115, 101, 32, 35, 32, 35], [109, 97, 114, 114, 121, 32, 35, 32, 35], [115, 105, 100, 101, 32, 35, 32, 35], [112, 97, 114, 116]]
def fm (k : Nat) : List Nat := fmL.getD k []
def dgt (tx : List Nat) (p : Nat) : Option Nat := match tx[p]? with
  | some x => if 48 ≤ x ∧ x ≤ 57 then some (x - 48) else none
  | none => none
def pN (tx : List Nat) : Nat → Nat → Nat → Nat × Nat
  | 0, p, v => (p, v)
  | k + 1, p, v => match dgt tx p with
    | some d => pN tx k (p + 1) (10 * v + d)
    | none => (p, v)
def many (c : Nat) : Nat := if c = 35 then 1 else 2
abbrev Rs : Type := Nat × Bool × List Nat
def e1 (tx : List Nat) (s : Rs) (c : Nat) : Rs :=
  if s.2.1 = false then s else
  if c = 35 ∨ c = 37 then (match dgt tx s.1 with
    | none => (s.1, false, s.2.2)
    | some _ => ((pN tx (many c) s.1 0).1, true, s.2.2 ++ [(pN tx (many c) s.1 0).2]))
  else if tx[s.1]? = some c then (s.1 + 1, true, s.2.2) else (s.1, false, s.2.2)
def nn : List Nat → Nat
  | [] => 0
  | c :: cs => (if c = 35 ∨ c = 37 then 1 else 0) + nn cs
def kd (x : Option Nat) : Option Nat :=
  if x = some 104 then some 0 else if x = some 103 then some 1 else if x = some 98 then some 2 else if x = some 108 then some 3 else if x = some 109 then some 4 else if x = some 115 then some 5 else if x = some 112 then some 6 else none
abbrev Od : Type := Nat × List Nat
def po (tx : List Nat) (p : Nat) : Nat × Bool × Od := match kd tx[p]? with
  | none => (p, false, 0, [])
  | some k => (((fm k).foldl (e1 tx) (p, true, [])).1, ((fm k).foldl (e1 tx) (p, true, [])).2.1, k, ((fm k).foldl (e1 tx) (p, true, [])).2.2)
abbrev Rt : Type := Nat × Bool × List Od
def oS (tx : List Nat) (os : List Od) (p : Nat) : Rt := ((po tx p).1, (po tx p).2.1, os ++ [(po tx p).2.2])
def pa (tx : List Nat) : Nat → Rt → Rt
  | 0, s => s
  | f + 1, s => if s.2.1 = false then s else if tx[s.1]? = some 59 then pa tx f (oS tx s.2.2 (s.1 + 1)) else if s.1 = tx.length then s else (s.1, false, s.2.2)
/-- what a text says: the place where reading ends, whether it says orders, the orders -/
def rdT (tx : List Nat) : Rt := pa tx 61 (oS tx [] 0)
theorem dgt_some {tx : List Nat} {p d : Nat} (h : dgt tx p = some d) : tx[p]? = some (d + 48) ∧ d ≤ 9 ∧ p < tx.length := by
  unfold dgt at h
  cases e : tx[p]? with
  | none => rw [e] at h; cases h
  | some x =>
    rw [e] at h
    dsimp only at h
    by_cases q : 48 ≤ x ∧ x ≤ 57
    · rw [if_pos q] at h
      injection h with h
      exact ⟨by rw [show d + 48 = x by omega], by omega, lt_len e⟩
    · rw [if_neg q] at h; cases h
theorem pN_fact {tx : List Nat} : ∀ (k p v : Nat), p ≤ tx.length → p ≤ (pN tx k p v).1 ∧ (pN tx k p v).1 ≤ tx.length ∧ (pN tx k p v).2 + 1 ≤ 10 ^ k * (v + 1)
  | 0, p, v, h => by
    show p ≤ p ∧ p ≤ _ ∧ v + 1 ≤ 1 * (v + 1)
    omega
  | k + 1, p, v, h => by
    unfold pN
    cases e : dgt tx p with
    | none =>
      have h1 := Nat.pow_pos (n := k + 1) (show 0 < 10 by omega)
      exact ⟨Nat.le_refl _, h, Nat.le_mul_of_pos_left _ h1⟩
    | some d =>
      obtain ⟨-, e2, e3⟩ := dgt_some e
      obtain ⟨i1, i2, i3⟩ := pN_fact (tx := tx) k (p + 1) (10 * v + d) (by omega)
      refine ⟨Nat.le_trans (by omega) i1, i2, Nat.le_trans i3 ?_⟩
      rw [Nat.pow_succ, Nat.mul_assoc]
      exact Nat.mul_le_mul_left _ (by omega)
theorem pN_gt {tx : List Nat} {k p d : Nat} (e : dgt tx p = some d) (hk : 1 ≤ k) : p + 1 ≤ (pN tx k p 0).1 := by
  obtain ⟨j, rfl⟩ : ∃ j, k = j + 1 := ⟨k - 1, by omega⟩
  unfold pN
  rw [e]
  have := (dgt_some e).2.2
  exact (pN_fact j (p + 1) (10 * 0 + d) (by omega)).1
theorem many_b (c : Nat) : 1 ≤ many c ∧ many c ≤ 2 := by unfold many; split <;> omega
theorem e1_no {tx : List Nat} {s : Rs} {c : Nat} (h : s.2.1 = false) : e1 tx s c = s := if_pos h
theorem e1_d {tx : List Nat} {s : Rs} {c : Nat} (h : s.2.1 = true) (hc : c = 35 ∨ c = 37) : e1 tx s c = (match dgt tx s.1 with
    | none => (s.1, false, s.2.2)
    | some _ => ((pN tx (many c) s.1 0).1, true, s.2.2 ++ [(pN tx (many c) s.1 0).2])) := by
  unfold e1; rw [if_neg (by rw [h]; decide), if_pos hc]
theorem e1_l {tx : List Nat} {s : Rs} {c : Nat} (h : s.2.1 = true) (hc : ¬ (c = 35 ∨ c = 37)) : e1 tx s c = if tx[s.1]? = some c then (s.1 + 1, true, s.2.2) else (s.1, false, s.2.2) := by
  unfold e1; rw [if_neg (by rw [h]; decide), if_neg hc]
theorem e1_le {tx : List Nat} {s : Rs} {c : Nat} (h : s.1 ≤ tx.length) : (e1 tx s c).1 ≤ tx.length := by
  cases hb : s.2.1 with
  | false => rw [e1_no hb]; exact h
  | true =>
    by_cases hc : c = 35 ∨ c = 37
    · rw [e1_d hb hc]
      cases e : dgt tx s.1 with
      | none => exact h
      | some d => exact (pN_fact (many c) s.1 0 h).2.1
    · rw [e1_l hb hc]
      by_cases q : tx[s.1]? = some c
      · rw [if_pos q]; exact lt_len q
      · rw [if_neg q]; exact h
theorem e1_ge {tx : List Nat} {s : Rs} {c : Nat} (h : s.1 ≤ tx.length) : s.1 ≤ (e1 tx s c).1 := by
  cases hb : s.2.1 with
  | false => rw [e1_no hb]; exact Nat.le_refl _
  | true =>
    by_cases hc : c = 35 ∨ c = 37
    · rw [e1_d hb hc]
      cases e : dgt tx s.1 with
      | none => exact Nat.le_refl _
      | some d => exact (pN_fact (many c) s.1 0 h).1
    · rw [e1_l hb hc]
      by_cases q : tx[s.1]? = some c
      · rw [if_pos q]; exact Nat.le_succ _
      · rw [if_neg q]; exact Nat.le_refl _
theorem e1_ok {tx : List Nat} {s : Rs} {c : Nat} (h : (e1 tx s c).2.1 = true) : s.2.1 = true ∧ s.1 + 1 ≤ (e1 tx s c).1 ∧ (e1 tx s c).2.2.length = s.2.2.length + (if c = 35 ∨ c = 37 then 1 else 0) ∧ ((∀ x, x ∈ s.2.2 → x < 100) → ∀ x, x ∈ (e1 tx s c).2.2 → x < 100) := by
  cases hb : s.2.1 with
  | false => rw [e1_no hb, hb] at h; cases h
  | true =>
    by_cases hc : c = 35 ∨ c = 37
    · rw [e1_d hb hc] at h ⊢
      rw [if_pos hc]
      cases e : dgt tx s.1 with
      | none => rw [e] at h; cases h
      | some d =>
        have hl := (dgt_some e).2.2
        refine ⟨rfl, pN_gt e (many_b c).1, List.length_append, fun hx x hm => ?_⟩
        rcases List.mem_append.mp hm with q | q
        · exact hx x q
        · rw [List.mem_singleton.mp q]
          have h1 := (pN_fact (tx := tx) (many c) s.1 0 (by omega)).2.2
          have h2 : 10 ^ many c ≤ 10 ^ 2 := Nat.pow_le_pow_right (by omega) (many_b c).2
          omega
    · rw [e1_l hb hc] at h ⊢
      rw [if_neg hc]
      by_cases q : tx[s.1]? = some c
      · rw [if_pos q]
        exact ⟨rfl, Nat.le_refl _, rfl, fun hx => hx⟩
      · rw [if_neg q] at h; cases h
theorem fold_no {tx : List Nat} : ∀ (l : List Nat) (s : Rs), s.2.1 = false → l.foldl (e1 tx) s = s
  | [], _, _ => rfl
  | c :: l, s, h => by rw [List.foldl_cons, e1_no h]; exact fold_no l s h
theorem fold_le {tx : List Nat} : ∀ (l : List Nat) (s : Rs), s.1 ≤ tx.length → (l.foldl (e1 tx) s).1 ≤ tx.length
  | [], _, h => h
  | c :: l, s, h => by rw [List.foldl_cons]; exact fold_le l _ (e1_le h)
theorem fold_ge {tx : List Nat} : ∀ (l : List Nat) (s : Rs), s.1 ≤ tx.length → s.1 ≤ (l.foldl (e1 tx) s).1
  | [], _, h => Nat.le_refl _
  | c :: l, s, h => by rw [List.foldl_cons]; exact Nat.le_trans (e1_ge h) (fold_ge l _ (e1_le h))
theorem fold_ok {tx : List Nat} : ∀ (l : List Nat) (s : Rs), (l.foldl (e1 tx) s).2.1 = true → s.2.1 = true ∧ s.1 + l.length ≤ (l.foldl (e1 tx) s).1 ∧ (l.foldl (e1 tx) s).2.2.length = s.2.2.length + nn l ∧ ((∀ x, x ∈ s.2.2 → x < 100) → ∀ x, x ∈ (l.foldl (e1 tx) s).2.2 → x < 100)
  | [], s, h => ⟨h, Nat.le_refl _, rfl, fun hx => hx⟩
  | c :: l, s, h => by
    rw [List.foldl_cons] at h ⊢
    obtain ⟨a1, a2, a3, a4⟩ := fold_ok l _ h
    obtain ⟨b1, b2, b3, b4⟩ := e1_ok a1
    exact ⟨b1, by rw [List.length_cons]; omega, by rw [a3, b3]; simp only [nn]; omega, fun hx => a4 (b4 hx)⟩
theorem kd_some {x : Option Nat} {k : Nat} (h : kd x = some k) : k ≤ 6 ∧ x = (fm k)[0]? := by
  unfold kd at h
  by_cases h0 : x = some 104
  · rw [if_pos h0] at h; cases h; exact ⟨by omega, h0⟩
  · rw [if_neg h0] at h
    by_cases h1 : x = some 103
    · rw [if_pos h1] at h; cases h; exact ⟨by omega, h1⟩
    · rw [if_neg h1] at h
      by_cases h2 : x = some 98
      · rw [if_pos h2] at h; cases h; exact ⟨by omega, h2⟩
      · rw [if_neg h2] at h
        by_cases h3 : x = some 108
        · rw [if_pos h3] at h; cases h; exact ⟨by omega, h3⟩
        · rw [if_neg h3] at h
          by_cases h4 : x = some 109
          · rw [if_pos h4] at h; cases h; exact ⟨by omega, h4⟩
          · rw [if_neg h4] at h
            by_cases h5 : x = some 115
            · rw [if_pos h5] at h; cases h; exact ⟨by omega, h5⟩
            · rw [if_neg h5] at h
              by_cases h6 : x = some 112
              · rw [if_pos h6] at h; cases h; exact ⟨by omega, h6⟩
              · rw [if_neg h6] at h; cases h
def cnt (k : Nat) : Nat := nn (fm k)
def orOk (o : Od) : Prop := o.1 ≤ 6 ∧ o.2.length = cnt o.1 ∧ ∀ x, x ∈ o.2 → x < 100
theorem fm_len : ∀ k, k ≤ 6 → 4 ≤ (fm k).length ∧ (fm k).length ≤ 10 := by decide
theorem cnt_le : ∀ k, k ≤ 6 → cnt k ≤ 3 := by decide
theorem po_le {tx : List Nat} {p : Nat} (h : p ≤ tx.length) : (po tx p).1 ≤ tx.length := by
  unfold po
  cases kd tx[p]? with
  | none => exact h
  | some k => exact fold_le (fm k) (p, true, []) h
theorem po_ge {tx : List Nat} {p : Nat} (h : p ≤ tx.length) : p ≤ (po tx p).1 := by
  unfold po
  cases kd tx[p]? with
  | none => exact Nat.le_refl _
  | some k => exact fold_ge (fm k) (p, true, []) h
theorem po_ok {tx : List Nat} {p : Nat} (h : (po tx p).2.1 = true) : p + 4 ≤ (po tx p).1 ∧ orOk (po tx p).2.2 := by
  unfold po at h ⊢
  cases e : kd tx[p]? with
  | none => rw [e] at h; cases h
  | some k =>
    rw [e] at h
    obtain ⟨a1, a2, a3, a4⟩ := fold_ok (fm k) (p, true, []) h
    have hk := (kd_some e).1
    have hf := fm_len k hk
    refine ⟨?_, hk, ?_, a4 (fun x hx => by cases hx)⟩
    · show p + 4 ≤ ((fm k).foldl (e1 tx) (p, true, [])).1
      have a2' : p + (fm k).length ≤ ((fm k).foldl (e1 tx) (p, true, [])).1 := a2
      omega
    · show ((fm k).foldl (e1 tx) (p, true, [])).2.2.length = nn (fm k)
      have a3' : ((fm k).foldl (e1 tx) (p, true, [])).2.2.length = 0 + nn (fm k) := a3
      omega
/-- reading goes on: n orders are read, up to p -/
def goOn (tx : List Nat) (s : Rt) : Prop := s.1 ≤ tx.length ∧ (s.2.1 = true → 5 * s.2.2.length ≤ s.1 + 1 ∧ ∀ o, o ∈ s.2.2 → orOk o)
theorem oS_go {tx : List Nat} {os : List Od} {p : Nat} (hp : p ≤ tx.length) (h5 : 5 * os.length ≤ p) (ho : ∀ o, o ∈ os → orOk o) : goOn tx (oS tx os p) := by
  refine ⟨po_le hp, fun hb => ?_⟩
  obtain ⟨a1, a2⟩ := po_ok (show (po tx p).2.1 = true from hb)
  refine ⟨?_, fun o hm => ?_⟩
  · show 5 * (os ++ [(po tx p).2.2]).length ≤ (po tx p).1 + 1
    rw [List.length_append, List.length_singleton]; omega
  · rcases List.mem_append.mp hm with q | q
    · exact ho o q
    · rw [List.mem_singleton.mp q]; exact a2
theorem pa_go {tx : List Nat} : ∀ (f : Nat) (s : Rt), goOn tx s → goOn tx (pa tx f s)
  | 0, s, h => h
  | f + 1, s, h => by
    unfold pa
    cases hb : s.2.1 with
    | false => exact h
    | true =>
      rw [if_neg (by decide)]
      by_cases q : tx[s.1]? = some 59
      · rw [if_pos q]
        obtain ⟨h1, h2⟩ := h
        obtain ⟨h3, h4⟩ := h2 hb
        exact pa_go f _ (oS_go (lt_len q) h3 h4)
      · rw [if_neg q]
        by_cases q2 : s.1 = tx.length
        · rw [if_pos q2]; exact h
        · rw [if_neg q2]; exact ⟨h.1, fun z => by cases z⟩
theorem rdT_go (tx : List Nat) : goOn tx (rdT tx) := pa_go 61 _ (oS_go (Nat.zero_le _) (Nat.le_refl _) (fun o h => by cases h))
/-! the class's texts of forms -/
theorem K_tn : ∀ k, k < 7 → (fm k).length ≠ 0 ∧ (fm k).length < 16 := by decide
section TXT
variable {adK : Nat → Nat} {S0 S : PS} {ow : Ow} {sa cap : Nat} {B : Nat → Nat} {F : Nat → Int32} {h : Nat → Nat → Int32} {tx : List Nat}
theorem T_sb (hc : ∀ k, k < 3 → ow (B k) = 7) (hT : sb S0 ow 17 sa cap tx) (H : OS 3 9 (tfs sa B) (fun _ => 0) trl S0 B F h S) : sb S ow 17 sa cap tx := sb_fr hT (keeps_OS H hc) (by decide)
theorem T_sa (hB : oB 3 S0 B) (H : OS 3 9 (tfs sa B) (fun _ => 0) trl S0 B F h S) {kk : Nat → Prop} : gR S (B 0) 9 0 kk = kk sa := gR_eq (by rw [H.1]; exact hB.2 0 (by omega)) H.2.2.1 rfl
/-- the orders that are read so far, in the class's arrays -/
def osC (h : Nat → Nat → Int32) (os : List Od) : Prop := ∀ (i : Nat) (o : Od), os[i]? = some o → h 1 i = nI o.1 ∧ ∀ j x, o.2[j]? = some x → h 2 (3 * i + j) = nI x
end TXT

