/-! a text of orders, read: as a pure matter, and by the class -/
def fmL : List (List Nat) := [[104, 111, 117, 115, 101], [103, 111, 32, 35], [98, 111, 110, 100, 32, 35, 32, 35, 32, 37], [108, 111, 111, 115, 101, 32, 35, 32, 35], [109, 97, 114, 114, 121, 32, 35, 32, 35], [115, 105, 100, 101, 32, 35, 32, 35], [112, 97, 114, 116]]
def fm (k : Nat) : List Nat := fmL.getD k []
def dgt (tx : List Nat) (p : Nat) : Option Nat := match tx[p]? with
  | some x => if 48 ≤ x ∧ x ≤ 57 then some (x - 48) else none
  | none => none
def pN (tx : List Nat) : Nat → Nat → Nat → Nat × Nat
  | 0, p, v => (p, v)
  | k + 1, p, v => match dgt tx p with
    | some d => pN tx k (p + 1) (10 * v + d)
    | none => (p, v)
def many (c : Nat) : Nat := if c = 35 then 1 else 2
abbrev Rs : Type := Nat × Bool × List Nat
def e1 (tx : List Nat) (s : Rs) (c : Nat) : Rs :=
  if s.2.1 = false then s else
  if c = 35 ∨ c = 37 then (match dgt tx s.1 with
    | none => (s.1, false, s.2.2)
    | some _ => ((pN tx (many c) s.1 0).1, true, s.2.2 ++ [(pN tx (many c) s.1 0).2]))
  else if tx[s.1]? = some c then (s.1 + 1, true, s.2.2) else (s.1, false, s.2.2)
def nn : List Nat → Nat
  | [] => 0
  | c :: cs => (if c = 35 ∨ c = 37 then 1 else 0) + nn cs
def kd (x : Option Nat) : Option Nat :=
  if x = some 104 then some 0 else if x = some 103 then some 1 else if x = some 98 then some 2 else if x = some 108 then some 3 else if x = some 109 then some 4 else if x = some 115 then some 5 else if x = some 112 then some 6 else none
abbrev Od : Type := Nat × List Nat
def po (tx : List Nat) (p : Nat) : Nat × Bool × Od := match kd tx[p]? with
  | none => (p, false, 0, [])
  | some k => (((fm k).foldl (e1 tx) (p, true, [])).1, ((fm k).foldl (e1 tx) (p, true, [])).2.1, k, ((fm k).foldl (e1 tx) (p, true, [])).2.2)
abbrev Rt : Type := Nat × Bool × List Od
def oS (tx : List Nat) (os : List Od) (p : Nat) : Rt := ((po tx p).1, (po tx p).2.1, os ++ [(po tx p).2.2])
def pa (tx : List Nat) : Nat → Rt → Rt
  | 0, s => s
  | f + 1, s => if s.2.1 = false then s else if tx[s.1]? = some 59 then pa tx f (oS tx s.2.2 (s.1 + 1)) else if s.1 = tx.length then s else (s.1, false, s.2.2)
/-- what a text says: the place where reading ends, whether it says orders, the orders -/
def rdT (tx : List Nat) : Rt := pa tx 61 (oS tx [] 0)
theorem dgt_some {tx : List Nat} {p d : Nat} (h : dgt tx p = some d) : tx[p]? = some (d + 48) ∧ d ≤ 9 ∧ p < tx.length := by
  unfold dgt at h
  cases e : tx[p]? with
  | none => rw [e] at h; cases h
  | some x =>
    rw [e] at h
    dsimp only at h
    by_cases q : 48 ≤ x ∧ x ≤ 57
    · rw [if_pos q] at h
      injection h with h
      exact ⟨by rw [show d + 48 = x by omega], by omega, lt_len e⟩
    · rw [if_neg q] at h; cases h
theorem pN_fact {tx : List Nat} : ∀ (k p v : Nat), p ≤ tx.length → p ≤ (pN tx k p v).1 ∧ (pN tx k p v).1 ≤ tx.length ∧ (pN tx k p v).2 + 1 ≤ 10 ^ k * (v + 1)
  | 0, p, v, h => by
    show p ≤ p ∧ p ≤ _ ∧ v + 1 ≤ 1 * (v + 1)
    omega
  | k + 1, p, v, h => by
    unfold pN
    cases e : dgt tx p with
    | none =>
      have h1 := Nat.pow_pos (n := k + 1) (show 0 < 10 by omega)
      exact ⟨Nat.le_refl _, h, Nat.le_mul_of_pos_left _ h1⟩
    | some d =>
      obtain ⟨-, e2, e3⟩ := dgt_some e
      obtain ⟨i1, i2, i3⟩ := pN_fact (tx := tx) k (p + 1) (10 * v + d) (by omega)
      refine ⟨Nat.le_trans (by omega) i1, i2, Nat.le_trans i3 ?_⟩
      rw [Nat.pow_succ, Nat.mul_assoc]
      exact Nat.mul_le_mul_left _ (by omega)
theorem pN_gt {tx : List Nat} {k p d : Nat} (e : dgt tx p = some d) (hk : 1 ≤ k) : p + 1 ≤ (pN tx k p 0).1 := by
  obtain ⟨j, rfl⟩ : ∃ j, k = j + 1 := ⟨k - 1, by omega⟩
  unfold pN
  rw [e]
  have := (dgt_some e).2.2
  exact (pN_fact j (p + 1) (10 * 0 + d) (by omega)).1
theorem many_b (c : Nat) : 1 ≤ many c ∧ many c ≤ 2 := by unfold many; split <;> omega
theorem e1_no {tx : List Nat} {s : Rs} {c : Nat} (h : s.2.1 = false) : e1 tx s c = s := if_pos h
theorem e1_d {tx : List Nat} {s : Rs} {c : Nat} (h : s.2.1 = true) (hc : c = 35 ∨ c = 37) : e1 tx s c = (match dgt tx s.1 with
    | none => (s.1, false, s.2.2)
    | some _ => ((pN tx (many c) s.1 0).1, true, s.2.2 ++ [(pN tx (many c) s.1 0).2])) := by
  unfold e1; rw [if_neg (by rw [h]; decide), if_pos hc]
theorem e1_l {tx : List Nat} {s : Rs} {c : Nat} (h : s.2.1 = true) (hc : ¬ (c = 35 ∨ c = 37)) : e1 tx s c = if tx[s.1]? = some c then (s.1 + 1, true, s.2.2) else (s.1, false, s.2.2) := by
  unfold e1; rw [if_neg (by rw [h]; decide), if_neg hc]
theorem e1_le {tx : List Nat} {s : Rs} {c : Nat} (h : s.1 ≤ tx.length) : (e1 tx s c).1 ≤ tx.length := by
  cases hb : s.2.1 with
  | false => rw [e1_no hb]; exact h
  | true =>
    by_cases hc : c = 35 ∨ c = 37
    · rw [e1_d hb hc]
      cases e : dgt tx s.1 with
      | none => exact h
      | some d => exact (pN_fact (many c) s.1 0 h).2.1
    · rw [e1_l hb hc]
      by_cases q : tx[s.1]? = some c
      · rw [if_pos q]; exact lt_len q
      · rw [if_neg q]; exact h
theorem e1_ge {tx : List Nat} {s : Rs} {c : Nat} (h : s.1 ≤ tx.length) : s.1 ≤ (e1 tx s c).1 := by
  cases hb : s.2.1 with
  | false => rw [e1_no hb]; exact Nat.le_refl _
  | true =>
    by_cases hc : c = 35 ∨ c = 37
    · rw [e1_d hb hc]
      cases e : dgt tx s.1 with
      | none => exact Nat.le_refl _
      | some d => exact (pN_fact (many c) s.1 0 h).1
    · rw [e1_l hb hc]
      by_cases q : tx[s.1]? = some c
      · rw [if_pos q]; exact Nat.le_succ _
      · rw [if_neg q]; exact Nat.le_refl _
theorem e1_ok {tx : List Nat} {s : Rs} {c : Nat} (h : (e1 tx s c).2.1 = true) : s.2.1 = true ∧ s.1 + 1 ≤ (e1 tx s c).1 ∧ (e1 tx s c).2.2.length = s.2.2.length + (if c = 35 ∨ c = 37 then 1 else 0) ∧ ((∀ x, x ∈ s.2.2 → x < 100) → ∀ x, x ∈ (e1 tx s c).2.2 → x < 100) := by
  cases hb : s.2.1 with
  | false => rw [e1_no hb, hb] at h; cases h
  | true =>
    by_cases hc : c = 35 ∨ c = 37
    · rw [e1_d hb hc] at h ⊢
      rw [if_pos hc]
      cases e : dgt tx s.1 with
      | none => rw [e] at h; cases h
      | some d =>
        have hl := (dgt_some e).2.2
        refine ⟨rfl, pN_gt e (many_b c).1, List.length_append, fun hx x hm => ?_⟩
        rcases List.mem_append.mp hm with q | q
        · exact hx x q
        · rw [List.mem_singleton.mp q]
          have h1 := (pN_fact (tx := tx) (many c) s.1 0 (by omega)).2.2
          have h2 : 10 ^ many c ≤ 10 ^ 2 := Nat.pow_le_pow_right (by omega) (many_b c).2
          omega
    · rw [e1_l hb hc] at h ⊢
      rw [if_neg hc]
      by_cases q : tx[s.1]? = some c
      · rw [if_pos q]
        exact ⟨rfl, Nat.le_refl _, rfl, fun hx => hx⟩
      · rw [if_neg q] at h; cases h
theorem fold_no {tx : List Nat} : ∀ (l : List Nat) (s : Rs), s.2.1 = false → l.foldl (e1 tx) s = s
  | [], _, _ => rfl
  | c :: l, s, h => by rw [List.foldl_cons, e1_no h]; exact fold_no l s h
theorem fold_le {tx : List Nat} : ∀ (l : List Nat) (s : Rs), s.1 ≤ tx.length → (l.foldl (e1 tx) s).1 ≤ tx.length
  | [], _, h => h
  | c :: l, s, h => by rw [List.foldl_cons]; exact fold_le l _ (e1_le h)
theorem fold_ge {tx : List Nat} : ∀ (l : List Nat) (s : Rs), s.1 ≤ tx.length → s.1 ≤ (l.foldl (e1 tx) s).1
  | [], _, h => Nat.le_refl _
  | c :: l, s, h => by rw [List.foldl_cons]; exact Nat.le_trans (e1_ge h) (fold_ge l _ (e1_le h))
theorem fold_ok {tx : List Nat} : ∀ (l : List Nat) (s : Rs), (l.foldl (e1 tx) s).2.1 = true → s.2.1 = true ∧ s.1 + l.length ≤ (l.foldl (e1 tx) s).1 ∧ (l.foldl (e1 tx) s).2.2.length = s.2.2.length + nn l ∧ ((∀ x, x ∈ s.2.2 → x < 100) → ∀ x, x ∈ (l.foldl (e1 tx) s).2.2 → x < 100)
  | [], s, h => ⟨h, Nat.le_refl _, rfl, fun hx => hx⟩
  | c :: l, s, h => by
    rw [List.foldl_cons] at h ⊢
    obtain ⟨a1, a2, a3, a4⟩ := fold_ok l _ h
    obtain ⟨b1, b2, b3, b4⟩ := e1_ok a1
    exact ⟨b1, by rw [List.length_cons]; omega, by rw [a3, b3]; simp only [nn]; omega, fun hx => a4 (b4 hx)⟩
theorem kd_some {x : Option Nat} {k : Nat} (h : kd x = some k) : k ≤ 6 ∧ x = (fm k)[0]? := by
  unfold kd at h
  by_cases h0 : x = some 104
  · rw [if_pos h0] at h; cases h; exact ⟨by omega, h0⟩
  · rw [if_neg h0] at h
    by_cases h1 : x = some 103
    · rw [if_pos h1] at h; cases h; exact ⟨by omega, h1⟩
    · rw [if_neg h1] at h
      by_cases h2 : x = some 98
      · rw [if_pos h2] at h; cases h; exact ⟨by omega, h2⟩
      · rw [if_neg h2] at h
        by_cases h3 : x = some 108
        · rw [if_pos h3] at h; cases h; exact ⟨by omega, h3⟩
        · rw [if_neg h3] at h
          by_cases h4 : x = some 109
          · rw [if_pos h4] at h; cases h; exact ⟨by omega, h4⟩
          · rw [if_neg h4] at h
            by_cases h5 : x = some 115
            · rw [if_pos h5] at h; cases h; exact ⟨by omega, h5⟩
            · rw [if_neg h5] at h
              by_cases h6 : x = some 112
              · rw [if_pos h6] at h; cases h; exact ⟨by omega, h6⟩
              · rw [if_neg h6] at h; cases h
def cnt (k : Nat) : Nat := nn (fm k)
def orOk (o : Od) : Prop := o.1 ≤ 6 ∧ o.2.length = cnt o.1 ∧ ∀ x, x ∈ o.2 → x < 100
theorem fm_len : ∀ k, k ≤ 6 → 4 ≤ (fm k).length ∧ (fm k).length ≤ 10 := by decide
theorem cnt_le : ∀ k, k ≤ 6 → cnt k ≤ 3 := by decide
theorem po_le {tx : List Nat} {p : Nat} (h : p ≤ tx.length) : (po tx p).1 ≤ tx.length := by
  unfold po
  cases kd tx[p]? with
  | none => exact h
  | some k => exact fold_le (fm k) (p, true, []) h
theorem po_ge {tx : List Nat} {p : Nat} (h : p ≤ tx.length) : p ≤ (po tx p).1 := by
  unfold po
  cases kd tx[p]? with
  | none => exact Nat.le_refl _
  | some k => exact fold_ge (fm k) (p, true, []) h
theorem po_ok {tx : List Nat} {p : Nat} (h : (po tx p).2.1 = true) : p + 4 ≤ (po tx p).1 ∧ orOk (po tx p).2.2 := by
  unfold po at h ⊢
  cases e : kd tx[p]? with
  | none => rw [e] at h; cases h
  | some k =>
    rw [e] at h
    obtain ⟨a1, a2, a3, a4⟩ := fold_ok (fm k) (p, true, []) h
    have hk := (kd_some e).1
    have hf := fm_len k hk
    refine ⟨?_, hk, ?_, a4 (fun x hx => by cases hx)⟩
    · show p + 4 ≤ ((fm k).foldl (e1 tx) (p, true, [])).1
      have a2' : p + (fm k).length ≤ ((fm k).foldl (e1 tx) (p, true, [])).1 := a2
      omega
    · show ((fm k).foldl (e1 tx) (p, true, [])).2.2.length = nn (fm k)
      have a3' : ((fm k).foldl (e1 tx) (p, true, [])).2.2.length = 0 + nn (fm k) := a3
      omega
/-- reading goes on: n orders are read, up to p -/
def goOn (tx : List Nat) (s : Rt) : Prop := s.1 ≤ tx.length ∧ (s.2.1 = true → 5 * s.2.2.length ≤ s.1 + 1 ∧ ∀ o, o ∈ s.2.2 → orOk o)
theorem oS_go {tx : List Nat} {os : List Od} {p : Nat} (hp : p ≤ tx.length) (h5 : 5 * os.length ≤ p) (ho : ∀ o, o ∈ os → orOk o) : goOn tx (oS tx os p) := by
  refine ⟨po_le hp, fun hb => ?_⟩
  obtain ⟨a1, a2⟩ := po_ok (show (po tx p).2.1 = true from hb)
  refine ⟨?_, fun o hm => ?_⟩
  · show 5 * (os ++ [(po tx p).2.2]).length ≤ (po tx p).1 + 1
    rw [List.length_append, List.length_singleton]; omega
  · rcases List.mem_append.mp hm with q | q
    · exact ho o q
    · rw [List.mem_singleton.mp q]; exact a2
theorem pa_go {tx : List Nat} : ∀ (f : Nat) (s : Rt), goOn tx s → goOn tx (pa tx f s)
  | 0, s, h => h
  | f + 1, s, h => by
    unfold pa
    cases hb : s.2.1 with
    | false => exact h
    | true =>
      rw [if_neg (by decide)]
      by_cases q : tx[s.1]? = some 59
      · rw [if_pos q]
        obtain ⟨h1, h2⟩ := h
        obtain ⟨h3, h4⟩ := h2 hb
        exact pa_go f _ (oS_go (lt_len q) h3 h4)
      · rw [if_neg q]
        by_cases q2 : s.1 = tx.length
        · rw [if_pos q2]; exact h
        · rw [if_neg q2]; exact ⟨h.1, fun z => by cases z⟩
theorem rdT_go (tx : List Nat) : goOn tx (rdT tx) := pa_go 61 _ (oS_go (Nat.zero_le _) (Nat.le_refl _) (fun o h => by cases h))
/-! the class's texts of forms -/
theorem K_o {adK : Nat → Nat} {S : PS} {k : Nat} {post : Nat → PS → Prop} (hk : k ≤ 6) : f_X5_formOf adK S (nI k) post = post (adK k) S := by
  rcases (show k = 0 ∨ k = 1 ∨ k = 2 ∨ k = 3 ∨ k = 4 ∨ k = 5 ∨ k = 6 by omega) with rfl | rfl | rfl | rfl | rfl | rfl | rfl <;> rfl
theorem K_tl : ∀ k, k < 7 → Int32.ofNat (txL.getD k 0) = nI (fm k).length := by decide
theorem K_tn : ∀ k, k < 7 → (fm k).length ≠ 0 ∧ (fm k).length < 16 := by decide
theorem K_tc : ∀ k, k < 7 → ∀ i, i < 10 → i < (fm k).length → ((((txB.getD k []).getD i 0) &&& 255).toUInt32 % 65536).toInt32 = nI ((fm k).getD i 0) ∧ (fm k).getD i 0 < 128 := by decide
theorem K_e {adK : Nat → Nat} {S : PS} {k : Nat} {post : Int32 → PS → Prop} (hk : k < 7) (h : post 0 S) : f_J0_isEmpty_aae02 adK S (adK k) post := by
  refine ⟨k, hk, rfl, hk, ?_⟩
  rw [K_tl k hk, if_neg (nI_ne0 (by have := (K_tn k hk).1; omega) (by have := (K_tn k hk).2; omega)), nZ0]
  exact h
theorem K_l {adK : Nat → Nat} {S : PS} {k : Nat} {post : Int32 → PS → Prop} (hk : k < 7) (h : post (nI (fm k).length) S) : f_J0_length_8abf5 adK S (adK k) post := by
  refine ⟨k, hk, rfl, hk, k, hk, rfl, ?_⟩
  rw [if_neg (by decide)]
  refine ⟨by decide, ?_⟩
  rw [K_tl k hk]
  try dsimp only
  rw [shr0 (by have := (K_tn k hk).2; omega)]
  exact h
theorem K_c {adK : Nat → Nat} {S : PS} {k i c : Nat} {post : Int32 → PS → Prop} (hk : k < 7) (hc : (fm k)[i]? = some c) (h : post (nI c) S) : f_J0_charAt_5068e adK S (adK k) (nI i) post := by
  have hi := lt_len hc
  have hl := (K_tn k hk).2
  have hl2 := (fm_len k (by omega)).2
  have hi10 : i < 10 := by omega
  have hL : txL.getD k 0 = (fm k).length := by
    rcases (show k = 0 ∨ k = 1 ∨ k = 2 ∨ k = 3 ∨ k = 4 ∨ k = 5 ∨ k = 6 by omega) with rfl | rfl | rfl | rfl | rfl | rfl | rfl <;> rfl
  obtain ⟨k1, k2⟩ := K_tc k hk i hi10 hi
  have hg : (fm k).getD i 0 = c := by rw [List.getD_eq_getElem?_getD, hc]; rfl
  rw [hg] at k1 k2
  refine ⟨k, hk, rfl, k, hk, rfl, ?_⟩
  rw [if_neg (by decide), if_pos rfl, nZ1]
  try dsimp only
  rw [if_neg (by decide)]
  refine ⟨hk, fun o1 => ?_⟩
  unfold f_J3_checkIndex_8e157
  rw [K_tl k hk, if_neg (nI_pos (by omega)), if_pos (nI_lt hi (by omega))]
  refine ⟨hk, by rw [hL]; exact vp_in_nI hi (by omega), ?_⟩
  rw [nI_clamp (by omega), k1, nZc (by omega)]
  try dsimp only
  rw [nZc (by omega)]
  exact h
section TXT
variable {adK : Nat → Nat} {S0 S : PS} {ow : Ow} {sa cap : Nat} {B : Nat → Nat} {F : Nat → Int32} {h : Nat → Nat → Int32} {tx : List Nat}
theorem T_sb (hc : ∀ k, k < 3 → ow (B k) = 7) (hT : sb S0 ow 17 sa cap tx) (H : OS 3 9 (tfs sa B) (fun _ => 0) trl S0 B F h S) : sb S ow 17 sa cap tx := sb_fr hT (keeps_OS H hc) (by decide)
theorem T_sa (hB : oB 3 S0 B) (H : OS 3 9 (tfs sa B) (fun _ => 0) trl S0 B F h S) {kk : Nat → Prop} : gR S (B 0) 9 0 kk = kk sa := gR_eq (by rw [H.1]; exact hB.2 0 (by omega)) H.2.2.1 rfl
theorem t_isNext {p c : Nat} {post : Int32 → PS → Prop} (hB : oB 3 S0 B) (hc : ∀ k, k < 3 → ow (B k) = 7) (hT : sb S0 ow 17 sa cap tx) (h60 : tx.length ≤ 60) (H : OS 3 9 (tfs sa B) (fun _ => 0) trl S0 B F h S) (hF : F 5 = nI p) (hp : p ≤ 61) (hcc : c < 128) : f_X5_isNext S (B 0) (nI c) post = post (if tx[p]? = some c then 1 else 0) S := by
  have hs := T_sb hc hT H
  unfold f_X5_isNext
  rw [OS_gI hB (by omega) H (f := 5) (x := F 5) rfl, T_sa hB H, sb_O hs, sb_len hs, hF]
  by_cases e : p < tx.length
  · obtain ⟨x, hx⟩ : ∃ x, tx[p]? = some x := ⟨_, List.getElem?_eq_getElem e⟩
    have hx1 : x < 128 := by
      obtain ⟨ba, m, f, -, -, -, -, -, -, -, -, -, -, hch, -⟩ := hs
      exact (hch p x hx).1
    rw [if_neg (nI_ge (by omega) (by omega)), T_sa hB H, OS_gI hB (by omega) H (f := 5) (x := F 5) rfl, sb_O hs, hF, sb_cA hs hx]
    by_cases q : x = c
    · rw [if_pos (by rw [q]), nZ1, if_pos (by rw [hx, q])]
    · rw [if_neg (fun z => q ((nI_eq (by omega) (by omega)).mp z)), nZ0, if_neg (by rw [hx]; exact fun z => q (by injection z))]
  · rw [if_pos (nI_le (by omega) (by omega)), nZ0, List.getElem?_eq_none (by omega), if_neg (fun z => by cases z)]
theorem t_nextDigit {p : Nat} {post : Int32 → PS → Prop} (hB : oB 3 S0 B) (hc : ∀ k, k < 3 → ow (B k) = 7) (hT : sb S0 ow 17 sa cap tx) (h60 : tx.length ≤ 60) (H : OS 3 9 (tfs sa B) (fun _ => 0) trl S0 B F h S) (hF : F 5 = nI p) (hp : p ≤ 61) : f_X5_nextDigit S (B 0) post = post (match dgt tx p with | some d => nI d | none => -1) S := by
  have hs := T_sb hc hT H
  unfold f_X5_nextDigit
  rw [OS_gI hB (by omega) H (f := 5) (x := F 5) rfl, T_sa hB H, sb_O hs, sb_len hs, hF]
  unfold dgt
  by_cases e : p < tx.length
  · obtain ⟨x, hx⟩ : ∃ x, tx[p]? = some x := ⟨_, List.getElem?_eq_getElem e⟩
    have hx1 : x < 128 := by
      obtain ⟨ba, m, f, -, -, -, -, -, -, -, -, -, -, hch, -⟩ := hs
      exact (hch p x hx).1
    rw [if_pos (nI_lt e (by omega)), T_sa hB H, OS_gI hB (by omega) H (f := 5) (x := F 5) rfl, sb_O hs, hF, sb_cA hs hx, hx]
    dsimp only
    by_cases q1 : x < 48
    · rw [if_pos (show nI x < 48 from nI_lt (b := 48) q1 (by omega)), if_neg (show ¬ (48 ≤ x ∧ x ≤ 57) by omega)]
    · rw [if_neg (show ¬ nI x < 48 from nI_nlt (a := x) (b := 48) (by omega) (by omega))]
      by_cases q2 : 57 < x
      · rw [if_pos (show (57 : Int32) < nI x from nI_lt (b := x) (a := 57) q2 (by omega)), if_neg (show ¬ (48 ≤ x ∧ x ≤ 57) by omega)]
      · rw [if_neg (show ¬ (57 : Int32) < nI x from nI_nlt (a := 57) (b := x) (by omega) (by omega)), if_pos (show 48 ≤ x ∧ x ≤ 57 by omega), show (48 : Int32) = nI 48 from rfl, pk_sub (by omega)]
  · rw [if_neg (nI_nlt (by omega) (by omega)), List.getElem?_eq_none (by omega)]
theorem t_sign {p c : Nat} {post : Int32 → PS → Prop} (hB : oB 3 S0 B) (hc : ∀ k, k < 3 → ow (B k) = 7) (hT : sb S0 ow 17 sa cap tx) (h60 : tx.length ≤ 60) (H : OS 3 9 (tfs sa B) (fun _ => 0) trl S0 B F h S) (hF : F 5 = nI p) (hp : p ≤ 61) (hcc : c < 128) (h1 : tx[p]? = some c → ∀ S1, OS 3 9 (tfs sa B) (fun _ => 0) trl S0 B (Fu F 5 (nI (p + 1))) h S1 → post 1 S1) (h0 : tx[p]? ≠ some c → post 0 S) : f_X5_takesSign S (B 0) (nI c) post := by
  unfold f_X5_takesSign
  rw [OS_isO hB (by omega) H, t_isNext hB hc hT h60 H hF hp hcc]
  by_cases e : tx[p]? = some c
  · rw [if_pos e, if_neg (by decide), OS_gI hB (by omega) H (f := 5) (x := F 5) rfl, hF, nI_1]
    refine OS_pV hB (by omega) H (f := 5) rfl (by show 5 < 7; decide) (fun S1 H1 => ?_)
    rw [nZ1]
    exact h1 e S1 H1
  · rw [if_neg e, if_pos rfl, nZ0]
    exact h0 e
theorem t_digs {most frm : Nat} {post : Int32 → PS → Prop} (hB : oB 3 S0 B) (hc : ∀ k, k < 3 → ow (B k) = 7) (hT : sb S0 ow 17 sa cap tx) (h60 : tx.length ≤ 60) (hm : most ≤ 2) : ∀ (k l v p : Nat) (S : PS) (F : Nat → Int32), OS 3 9 (tfs sa B) (fun _ => 0) trl S0 B F h S → l + k = most → F 5 = nI p → p ≤ tx.length → v < 10 ^ l → ∀ fuel, k < fuel → (∀ S1 F1, OS 3 9 (tfs sa B) (fun _ => 0) trl S0 B F1 h S1 → F1 5 = nI (pN tx k p v).1 → (∀ i, i ≠ 5 → F1 i = F i) → f_X5_takesDigits_J49 post S1 (B 0) (nI frm) (nI (pN tx k p v).2)) → f_X5_takesDigits_L10 post fuel S (B 0) (nI most) (nI frm) (nI v) (nI l) := by
  intro k
  induction k with
  | zero =>
    intro l v p S F H hl hF hp hv fuel hf next
    obtain ⟨n, rfl⟩ : ∃ n, fuel = n + 1 := ⟨fuel - 1, by omega⟩
    simp only [f_X5_takesDigits_L10]
    rw [if_pos (nI_le (by omega) (by omega))]
    exact next S F H hF (fun _ _ => rfl)
  | succ k ih =>
    intro l v p S F H hl hF hp hv fuel hf next
    obtain ⟨n, rfl⟩ : ∃ n, fuel = n + 1 := ⟨fuel - 1, by omega⟩
    simp only [f_X5_takesDigits_L10]
    rw [if_neg (nI_ge (by omega) (by omega)), OS_isO hB (by omega) H, t_nextDigit hB hc hT h60 H hF (by omega)]
    unfold pN at next
    cases e : dgt tx p with
    | none =>
      rw [e] at next
      dsimp only
      rw [if_pos (by decide)]
      exact next S F H hF (fun _ _ => rfl)
    | some d =>
      obtain ⟨e1, e2, e3⟩ := dgt_some e
      rw [e] at next
      dsimp only
      rw [if_neg (nI_pos (by omega)), OS_isO hB (by omega) H, t_nextDigit hB hc hT h60 H hF (by omega), e]
      dsimp only
      rw [OS_gI hB (by omega) H (f := 5) (x := F 5) rfl, hF, nI_1, show (10 : Int32) = nI 10 from rfl, pk_mul, nI_add, nI_1]
      refine OS_pV hB (by omega) H (f := 5) rfl (by show 5 < 7; decide) (fun S1 H1 => ?_)
      refine ih (l + 1) (10 * v + d) (p + 1) S1 _ H1 (by omega) Fu_at (by omega) (by rw [Nat.pow_succ]; omega) n (by omega) (fun S2 F2 H2 a1 a2 => ?_)
      exact next S2 F2 H2 a1 (fun i hi => (a2 i hi).trans (Fu_ne hi))
/-- one letter of a form taken -/
theorem t_takes {p n c : Nat} {v : List Nat} {post : Int32 → PS → Prop} (hB : oB 3 S0 B) (hc : ∀ k, k < 3 → ow (B k) = 7) (hT : sb S0 ow 17 sa cap tx) (h60 : tx.length ≤ 60) (H : OS 3 9 (tfs sa B) (fun _ => 0) trl S0 B F h S) (h5 : F 5 = nI p) (h3 : F 3 = nI n) (h4 : F 4 = nI v.length) (hp : p ≤ tx.length) (hn : n < 15) (hcc : c < 128) (hv : v.length + (if c = 35 ∨ c = 37 then 1 else 0) ≤ 3) (hh : ∀ j x, v[j]? = some x → h 2 (3 * n + j) = nI x)
    (h0 : (e1 tx (p, true, v) c).2.1 = false → ∀ S1 F1 h1, OS 3 9 (tfs sa B) (fun _ => 0) trl S0 B F1 h1 S1 → F1 5 = nI (e1 tx (p, true, v) c).1 → post 0 S1)
    (next : (e1 tx (p, true, v) c).2.1 = true → ∀ S1 F1 h1, OS 3 9 (tfs sa B) (fun _ => 0) trl S0 B F1 h1 S1 → F1 5 = nI (e1 tx (p, true, v) c).1 → F1 3 = nI n → F1 4 = nI (e1 tx (p, true, v) c).2.2.length → (∀ j x, (e1 tx (p, true, v) c).2.2[j]? = some x → h1 2 (3 * n + j) = nI x) → h1 1 = h 1 → (∀ i, i < 3 * n → h1 2 i = h 2 i) → post 1 S1) : f_X5_takes S (B 0) (nI c) post := by
  have dig : ∀ (most : Nat), most = many c → c = 35 ∨ c = 37 → f_X5_takesDigits S (B 0) (nI most) (fun v6 S5 => nZ .boolean v6 (post v6 S5)) := fun most hmost hcd => by
    have hmb := many_b c
    unfold f_X5_takesDigits
    rw [if_pos hcd] at hv
    rw [OS_gI hB (by omega) H (f := 5) (x := F 5) rfl, h5]
    refine t_digs hB hc hT h60 (by omega) most 0 0 p S F H (by omega) h5 hp (by decide) 4096 (by omega) (fun S1 F1 H1 a1 a2 => ?_)
    unfold f_X5_takesDigits_J49
    rw [e1_d rfl hcd] at h0 next
    rw [OS_gI hB (by omega) H1 (f := 3) (x := F1 3) rfl, OS_gI hB (by omega) H1 (f := 4) (x := F1 4) rfl, OS_gI hB (by omega) H1 (f := 5) (x := F1 5) rfl, a1, a2 3 (by decide), a2 4 (by decide), h3, h4]
    obtain ⟨f1, f2, f3⟩ := pN_fact (tx := tx) most p 0 hp
    dsimp only at h0 next
    cases e : dgt tx p with
    | none =>
      rw [e] at h0
      have : pN tx most p 0 = (p, 0) := by
        obtain ⟨j, rfl⟩ : ∃ j, most = j + 1 := ⟨most - 1, by omega⟩
        unfold pN; rw [e]
      rw [this, if_pos rfl, nZ0]
      try dsimp only
      rw [nZ0]
      rw [this] at a1
      exact h0 rfl S1 F1 h H1 a1
    | some d =>
      rw [e] at next
      have hgt := pN_gt (k := most) e (by omega)
      rw [← hmost] at next
      rw [if_neg (fun z => by have := (nI_eq (by omega) (by omega)).mp z; omega), show (3 : Int32) = nI 3 from rfl, pk_mul, nI_add, if_neg (nI_pos (by omega)), OS_gR hB (by omega) H1 (k := 2) (f := 2) rfl, lE_eq (by rw [H1.1]; exact hB.2 2 (by omega)) (H1.2.2.2 2 (by omega) (by omega)) (by decide), if_pos (show nI (n * 3 + v.length) < nI (trl 2) from nI_lt (show n * 3 + v.length < 45 by omega) (by decide)), OS_gR hB (by omega) H1 (k := 2) (f := 2) rfl]
      refine OS_sI hB (by omega) H1 (k := 2) (by omega) (show n * 3 + v.length < trl 2 from (show n * 3 + v.length < 45 by omega)) (by decide) (fun S2 H2 => ?_)
      rw [OS_gI hB (by omega) H2 (f := 4) (x := F1 4) rfl, a2 4 (by decide), h4, nI_1]
      refine OS_pV hB (by omega) H2 (f := 4) rfl (by show 4 < 7; decide) (fun S3 H3 => ?_)
      rw [nZ1]
      try dsimp only
      rw [nZ1]
      refine next rfl S3 _ _ H3 a1 ((a2 3 (by decide)).trans h3) ?_ (fun j x hx => ?_) (hu_ne (by decide)) (fun i hi => hu_off (by omega))
      · show nI (v.length + 1) = _
        rw [List.length_append]; rfl
      · rcases ap_at hx with ⟨q1, q2⟩ | ⟨q1, q2⟩
        · rw [hu_off (by omega)]; exact hh j x q2
        · rw [q1, q2, show 3 * n + v.length = n * 3 + v.length by omega, hu_at]
  unfold f_X5_takes
  by_cases c1 : c = 35
  · rw [if_pos (by rw [c1]; rfl), OS_isO hB (by omega) H]
    exact dig 1 (by rw [c1]; rfl) (Or.inl c1)
  · rw [if_neg (show ¬ nI c = 35 from fun z => c1 ((nI_eq (a := c) (b := 35) (by omega) (by omega)).mp z))]
    by_cases c2 : c = 37
    · rw [if_pos (by rw [c2]; rfl), OS_isO hB (by omega) H]
      exact dig 2 (by rw [c2]; rfl) (Or.inr c2)
    · rw [if_neg (show ¬ nI c = 37 from fun z => c2 ((nI_eq (a := c) (b := 37) (by omega) (by omega)).mp z)), OS_isO hB (by omega) H]
      have hcd : ¬ (c = 35 ∨ c = 37) := by omega
      rw [e1_l rfl hcd] at h0 next
      dsimp only at h0 next
      refine t_sign hB hc hT h60 H h5 (by omega) hcc (fun e S1 H1 => ?_) (fun e => ?_)
      · rw [nZ1]
        rw [if_pos e] at next
        exact next rfl S1 _ h H1 Fu_at h3 h4 hh rfl (fun _ _ => rfl)
      · rw [nZ0]
        rw [if_neg e] at h0
        exact h0 rfl S F h H h5
theorem t_form {k n : Nat} {post : Int32 → PS → Prop} (hB : oB 3 S0 B) (hc : ∀ k, k < 3 → ow (B k) = 7) (hT : sb S0 ow 17 sa cap tx) (h60 : tx.length ≤ 60) (hk : k < 7) (hn : n < 15) {h0' : Nat → Nat → Int32} {fin : Rs}
    (h0 : fin.2.1 = false → ∀ S1 F1 h1, OS 3 9 (tfs sa B) (fun _ => 0) trl S0 B F1 h1 S1 → F1 5 = nI fin.1 → post 0 S1)
    (next : fin.2.1 = true → ∀ S1 F1 h1, OS 3 9 (tfs sa B) (fun _ => 0) trl S0 B F1 h1 S1 → F1 5 = nI fin.1 → F1 3 = nI (n + 1) → (∀ j x, fin.2.2[j]? = some x → h1 2 (3 * n + j) = nI x) → h1 1 = h0' 1 → (∀ i, i < 3 * n → h1 2 i = h0' 2 i) → post 1 S1) :
    ∀ (rest : List Nat) (i p : Nat) (v : List Nat) (S : PS) (F : Nat → Int32) (h : Nat → Nat → Int32), (fm k).drop i = rest → i + rest.length = (fm k).length → rest.foldl (e1 tx) (p, true, v) = fin → OS 3 9 (tfs sa B) (fun _ => 0) trl S0 B F h S → F 5 = nI p → F 3 = nI n → F 4 = nI v.length → p ≤ tx.length → v.length + nn rest ≤ 3 → (∀ j x, v[j]? = some x → h 2 (3 * n + j) = nI x) → h 1 = h0' 1 → (∀ i, i < 3 * n → h 2 i = h0' 2 i) → ∀ fuel, rest.length < fuel → f_X5_readsOrder_L45 adK post fuel S (B 0) (adK k) (nI i) := by
  have hlen := fm_len k (by omega)
  intro rest
  induction rest with
  | nil =>
    intro i p v S F h hd hi hfin H a5 a3 a4 hp hv hh hh1 hh2 fuel hf
    obtain ⟨f, rfl⟩ : ∃ f, fuel = f + 1 := ⟨fuel - 1, by omega⟩
    have hi' : i + 0 = (fm k).length := hi
    have hfin' : ((p, true, v) : Rs) = fin := hfin
    rw [← hfin'] at next
    simp only [f_X5_readsOrder_L45]
    refine ⟨k, hk, rfl, K_l hk ?_⟩
    rw [if_pos (nI_le (by omega) (by omega))]
    unfold f_X5_readsOrder_J73
    rw [OS_gI hB (by omega) H (f := 3) (x := F 3) rfl, a3, nI_1]
    refine OS_pV hB (by omega) H (f := 3) rfl (by show 3 < 7; decide) (fun S1 H1 => ?_)
    rw [nZ1]
    exact next rfl S1 _ h H1 a5 Fu_at hh hh1 hh2
  | cons c rest ih =>
    intro i p v S F h hd hi hfin H a5 a3 a4 hp hv hh hh1 hh2 fuel hf
    obtain ⟨f, rfl⟩ : ∃ f, fuel = f + 1 := ⟨fuel - 1, by omega⟩
    have hi' : i + (rest.length + 1) = (fm k).length := hi
    have hf' : rest.length + 1 < f + 1 := hf
    have hci : (fm k)[i]? = some c := by
      have : ((fm k).drop i)[0]? = some c := by rw [hd]; rfl
      rw [List.getElem?_drop] at this
      exact this
    have hd2 : (fm k).drop (i + 1) = rest := by rw [← List.tail_drop, hd]; rfl
    have hcc : c < 128 := by
      have := (K_tc k hk i (by omega) (by omega)).2
      rw [List.getD_eq_getElem?_getD, hci] at this
      exact this
    simp only [f_X5_readsOrder_L45]
    refine ⟨k, hk, rfl, K_l hk ?_⟩
    rw [if_neg (nI_ge (by omega) (by omega))]
    refine ⟨k, hk, rfl, K_c hk hci ?_⟩
    rw [OS_isO hB (by omega) H]
    simp only [nn] at hv
    rw [List.foldl_cons] at hfin
    refine t_takes hB hc hT h60 H a5 a3 a4 hp hn hcc (by omega) hh (fun e S1 F1 h1 H1 b1 => ?_) (fun e S1 F1 h1 H1 b1 b2 b3 b4 b5 b6 => ?_)
    · rw [if_pos rfl, nZ0]
      rw [fold_no rest _ e] at hfin
      rw [hfin] at b1 e
      exact h0 e S1 F1 h1 H1 b1
    · rw [if_neg (by decide), nI_1]
      obtain ⟨p2, ok2, v2, e2⟩ : ∃ (p2 : Nat) (ok2 : Bool) (v2 : List Nat), e1 tx (p, true, v) c = (p2, ok2, v2) := ⟨_, _, _, rfl⟩
      have l1 := e1_le (tx := tx) (s := (p, true, v)) (c := c) hp
      have l2 := (e1_ok e).2.2.1
      rw [e2] at e b1 b3 b4 hfin l1 l2
      have e' : ok2 = true := e
      subst e'
      have l2' : v2.length = v.length + (if c = 35 ∨ c = 37 then 1 else 0) := l2
      exact ih (i + 1) p2 v2 S1 F1 h1 hd2 (by omega) hfin H1 b1 b2 b3 l1 (by omega) b4 (b5.trans hh1) (fun j hj => (b6 j hj).trans (hh2 j hj)) f (by omega)
theorem t_kind {p : Nat} {post : Int32 → PS → Prop} (hB : oB 3 S0 B) (hc : ∀ k, k < 3 → ow (B k) = 7) (hT : sb S0 ow 17 sa cap tx) (h60 : tx.length ≤ 60) (H : OS 3 9 (tfs sa B) (fun _ => 0) trl S0 B F h S) (hF : F 5 = nI p) (hp : p ≤ 61) (next : post (match kd tx[p]? with | some k => nI k | none => -1) S) : f_X5_kindByLetter adK S (B 0) post := by
  have step : ∀ (n k c : Nat), k < 7 → (fm k)[0]? = some c → c < 128 → (if tx[p]? = some c then post (nI k) S else f_X5_kindByLetter_L2 adK post n S (B 0) (nI (k + 1))) → f_X5_kindByLetter_L2 adK post (n + 1) S (B 0) (nI k) := fun n k c hk hcc hc2 hx => by
    simp only [f_X5_kindByLetter_L2]
    rw [if_neg (show ¬ (6 : Int32) < nI k from nI_nlt (a := 6) (b := k) (by omega) (by omega)), K_o (by omega)]
    refine ⟨k, hk, rfl, K_e hk ?_⟩
    rw [if_pos rfl]
    refine ⟨k, hk, rfl, K_c (i := 0) hk hcc ?_⟩
    rw [OS_isO hB (by omega) H, t_isNext hB hc hT h60 H hF hp hc2]
    by_cases e : tx[p]? = some c
    · rw [if_pos e] at hx ⊢
      rw [if_neg (by decide)]; exact hx
    · rw [if_neg e] at hx ⊢
      rw [if_pos rfl]
      unfold f_X5_kindByLetter_J34
      rw [nI_1]; exact hx
  have key : ∀ n, f_X5_kindByLetter_L2 adK post (n + 8) S (B 0) (nI 0) := fun n => by
    unfold kd at next
    refine step (n + 7) 0 104 (by omega) rfl (by omega) ?_
    by_cases q0 : tx[p]? = some 104
    · rw [if_pos q0] at next ⊢; exact next
    rw [if_neg q0] at next ⊢
    refine step (n + 6) 1 103 (by omega) rfl (by omega) ?_
    by_cases q1 : tx[p]? = some 103
    · rw [if_pos q1] at next ⊢; exact next
    rw [if_neg q1] at next ⊢
    refine step (n + 5) 2 98 (by omega) rfl (by omega) ?_
    by_cases q2 : tx[p]? = some 98
    · rw [if_pos q2] at next ⊢; exact next
    rw [if_neg q2] at next ⊢
    refine step (n + 4) 3 108 (by omega) rfl (by omega) ?_
    by_cases q3 : tx[p]? = some 108
    · rw [if_pos q3] at next ⊢; exact next
    rw [if_neg q3] at next ⊢
    refine step (n + 3) 4 109 (by omega) rfl (by omega) ?_
    by_cases q4 : tx[p]? = some 109
    · rw [if_pos q4] at next ⊢; exact next
    rw [if_neg q4] at next ⊢
    refine step (n + 2) 5 115 (by omega) rfl (by omega) ?_
    by_cases q5 : tx[p]? = some 115
    · rw [if_pos q5] at next ⊢; exact next
    rw [if_neg q5] at next ⊢
    refine step (n + 1) 6 112 (by omega) rfl (by omega) ?_
    by_cases q6 : tx[p]? = some 112
    · rw [if_pos q6] at next ⊢; exact next
    rw [if_neg q6] at next ⊢
    simp only [f_X5_kindByLetter_L2]
    rw [if_pos (show (6 : Int32) < nI (6 + 1) by decide)]
    exact next
  exact key 4088
/-- the orders that are read so far, in the class's arrays -/
def osC (h : Nat → Nat → Int32) (os : List Od) : Prop := ∀ (i : Nat) (o : Od), os[i]? = some o → h 1 i = nI o.1 ∧ ∀ j x, o.2[j]? = some x → h 2 (3 * i + j) = nI x
theorem t_order {p : Nat} {os : List Od} {post : Int32 → PS → Prop} (hB : oB 3 S0 B) (hc : ∀ k, k < 3 → ow (B k) = 7) (hT : sb S0 ow 17 sa cap tx) (h60 : tx.length ≤ 60) (H : OS 3 9 (tfs sa B) (fun _ => 0) trl S0 B F h S) (h5 : F 5 = nI p) (h3 : F 3 = nI os.length) (hp : p ≤ tx.length) (hn : os.length < 15) (hos : osC h os) (hok : ∀ o, o ∈ os → orOk o)
    (h0 : (oS tx os p).2.1 = false → ∀ S1 F1 h1, OS 3 9 (tfs sa B) (fun _ => 0) trl S0 B F1 h1 S1 → F1 5 = nI (oS tx os p).1 → post 0 S1)
    (next : (oS tx os p).2.1 = true → ∀ S1 F1 h1, OS 3 9 (tfs sa B) (fun _ => 0) trl S0 B F1 h1 S1 → F1 5 = nI (oS tx os p).1 → F1 3 = nI (oS tx os p).2.2.length → osC h1 (oS tx os p).2.2 → post 1 S1) : f_X5_readsOrder adK S (B 0) post := by
  unfold f_X5_readsOrder
  rw [OS_isO hB (by omega) H]
  refine t_kind hB hc hT h60 H h5 (by omega) ?_
  unfold oS po at h0 next
  cases e : kd tx[p]? with
  | none =>
    rw [e] at h0
    dsimp only
    rw [if_pos (by decide), nZ0]
    exact h0 rfl S F h H h5
  | some k =>
    rw [e] at h0 next
    dsimp only at h0 next ⊢
    obtain ⟨hk, hkx⟩ := kd_some e
    rw [if_neg (nI_pos (by omega)), OS_gI hB (by omega) H (f := 3) (x := F 3) rfl, OS_gR hB (by omega) H (k := 1) (f := 1) rfl, lE_eq (by rw [H.1]; exact hB.2 1 (by omega)) (H.2.2.2 1 (by omega) (by omega)) (by decide), h3, if_pos (show nI os.length < nI (trl 1) from nI_lt (show os.length < 15 by omega) (by decide)), OS_gR hB (by omega) H (k := 1) (f := 1) rfl, OS_gI hB (by omega) H (f := 3) (x := F 3) rfl, h3]
    refine OS_sI hB (by omega) H (k := 1) (by omega) (show os.length < trl 1 from hn) (by decide) (fun S1 H1 => ?_)
    refine OS_pV hB (by omega) H1 (f := 4) rfl (by show 4 < 7; decide) (fun S2 H2 => ?_)
    rw [K_o (by omega)]
    refine t_form (h0' := hu h 1 os.length (nI k)) (fin := (fm k).foldl (e1 tx) (p, true, [])) hB hc hT h60 (by omega) hn (fun hb S3 F3 h3 H3 b1 => h0 hb S3 F3 h3 H3 b1) (fun hb S3 F3 h3' H3 b1 b2 b3 b4 b5 => ?_) (fm k) 0 p [] S2 _ _ rfl (by omega) rfl H2 h5 h3 rfl hp ?_ (fun j x hx => by cases hx) rfl (fun _ _ => rfl) 4096 (by have := (fm_len k hk).2; omega)
    · refine next hb S3 F3 h3' H3 b1 (by rw [b2, List.length_append]; rfl) (fun i o ho => ?_)
      rcases Nat.lt_trichotomy i os.length with q | q | q
      · rw [List.getElem?_append_left q] at ho
        obtain ⟨c1, c2⟩ := hos i o ho
        refine ⟨by rw [b4, hu_off (by omega)]; exact c1, fun j x hx => ?_⟩
        have ho' := hok o (List.mem_of_getElem? ho)
        have hj := lt_len hx
        have := cnt_le o.1 ho'.1
        rw [ho'.2.1] at hj
        rw [b5 _ (by omega), hu_ne (by decide)]; exact c2 j x hx
      · rw [q, List.getElem?_append_right (Nat.le_refl _), Nat.sub_self] at ho
        cases ho
        subst q
        exact ⟨by rw [b4, hu_at], b3⟩
      · rw [List.getElem?_eq_none (by rw [List.length_append]; show os.length + 1 ≤ i; omega)] at ho; cases ho
    · show 0 + nn (fm k) ≤ 3
      have := cnt_le k hk
      unfold cnt at this
      omega
/-- the whole text read -/
theorem t_read {post : Int32 → PS → Prop} (hB : oB 3 S0 B) (hc : ∀ k, k < 3 → ow (B k) = 7) (hT : sb S0 ow 17 sa cap tx) (h60 : tx.length ≤ 60) (H : OS 3 9 (tfs sa B) (fun _ => 0) trl S0 B F h S)
    (h0 : (rdT tx).2.1 = false → ∀ S1 F1 h1, OS 3 9 (tfs sa B) (fun _ => 0) trl S0 B F1 h1 S1 → F1 6 = nI (rdT tx).1 → post 0 S1)
    (next : (rdT tx).2.1 = true → ∀ S1 F1 h1, OS 3 9 (tfs sa B) (fun _ => 0) trl S0 B F1 h1 S1 → F1 6 = -1 → F1 3 = nI (rdT tx).2.2.length → osC h1 (rdT tx).2.2 → post 1 S1) : f_X5_read adK S (B 0) post := by
  have bad : ∀ (S2 : PS) (F2 : Nat → Int32) (h2 : Nat → Nat → Int32) (s : Rt), rdT tx = s → s.2.1 = false → OS 3 9 (tfs sa B) (fun _ => 0) trl S0 B F2 h2 S2 → F2 5 = nI s.1 → f_X5_read_J69 adK post S2 (B 0) := fun S2 F2 h2 s hs hb H2 a5 => by
    unfold f_X5_read_J69 f_X5_read_J70
    rw [if_pos rfl, OS_gI hB (by omega) H2 (f := 5) (x := F2 5) rfl]
    refine OS_pV hB (by omega) H2 (f := 6) rfl (by show 6 < 7; decide) (fun S3 H3 => ?_)
    rw [nZ0]
    rw [hs] at h0
    exact h0 hb S3 _ h2 H3 a5
  have loop : ∀ (f l : Nat) (s : Rt) (S : PS) (F : Nat → Int32) (h : Nat → Nat → Int32), rdT tx = pa tx f s → goOn tx s → tx.length < s.1 + f → 5 * (l + 1) ≤ s.1 + 1 ∨ s.2.1 = false → OS 3 9 (tfs sa B) (fun _ => 0) trl S0 B F h S → F 5 = nI s.1 → (s.2.1 = true → F 3 = nI s.2.2.length ∧ osC h s.2.2) → ∀ fuel, f < fuel → f_X5_read_L17 adK post fuel S (B 0) (if s.2.1 = true then 1 else 0) (nI l) := by
    intro f
    induction f with
    | zero => intro l s S F h hpr hg hlt; have := hg.1; omega
    | succ f ih =>
      intro l s S F h hpr hg hlt hl H a5 a3 fuel hf
      obtain ⟨n, rfl⟩ : ∃ n, fuel = n + 1 := ⟨fuel - 1, by omega⟩
      unfold pa at hpr
      simp only [f_X5_read_L17, f_X5_read_J47]
      cases hb : s.2.1 with
      | false =>
        rw [hb, if_pos rfl] at hpr
        rw [if_neg (show ¬ false = true by decide)]
        have h1 := bad S F h s hpr hb H a5
        by_cases q : (60 : Int32) ≤ nI l
        · rw [if_pos q, if_pos rfl]; exact h1
        · rw [if_neg q, if_pos rfl, if_pos rfl]; exact h1
      | true =>
        rw [hb, if_neg (by decide)] at hpr
        rw [if_pos rfl]
        obtain ⟨g1, g2⟩ := hg
        obtain ⟨g3, g4⟩ := g2 hb
        obtain ⟨a3, a6⟩ := a3 hb
        have hl' : 5 * (l + 1) ≤ s.1 + 1 := by
          rcases hl with hl | hl
          · exact hl
          · rw [hb] at hl; cases hl
        rw [if_neg (show ¬ (60 : Int32) ≤ nI l from nI_ge (b := 60) (by omega) (by omega)), if_neg (by decide), OS_isO hB (by omega) H]
        show f_X5_takesSign S (B 0) (nI 59) _
        refine t_sign hB hc hT h60 H a5 (by omega) (by omega) (fun e S1 H1 => ?_) (fun e => ?_)
        · rw [if_neg (by decide), OS_isO hB (by omega) H1, nI_1]
          rw [if_pos e] at hpr
          have hlp := lt_len e
          have hg2 := oS_go (tx := tx) (p := s.1 + 1) hlp g3 g4
          refine t_order (os := s.2.2) hB hc hT h60 H1 Fu_at a3 hlp (by omega) a6 g4 (fun hb2 S2 F2 h2 H2 b1 => ?_) (fun hb2 S2 F2 h2 H2 b1 b2 b3 => ?_)
          · have := ih (l + 1) (oS tx s.2.2 (s.1 + 1)) S2 F2 h2 hpr hg2 ?_ (Or.inr hb2) H2 b1 (fun z => by rw [hb2] at z; cases z) n (by omega)
            · rw [hb2, if_neg (by decide)] at this; exact this
            · have h4 := po_ge (tx := tx) (p := s.1 + 1) hlp
              show tx.length < (po tx (s.1 + 1)).1 + f
              omega
          · have h4 := (po_ok (show (po tx (s.1 + 1)).2.1 = true from hb2)).1
            have := ih (l + 1) (oS tx s.2.2 (s.1 + 1)) S2 F2 h2 hpr hg2 (by show tx.length < (po tx (s.1 + 1)).1 + f; omega) (Or.inl (by show 5 * (l + 1 + 1) ≤ (po tx (s.1 + 1)).1 + 1; omega)) H2 b1 (fun _ => ⟨b2, b3⟩) n (by omega)
            rw [hb2, if_pos rfl] at this; exact this
        · rw [if_pos rfl, if_neg (by decide)]
          rw [if_neg e] at hpr
          have hs := T_sb hc hT H
          rw [OS_gI hB (by omega) H (f := 5) (x := F 5) rfl, T_sa hB H, sb_O hs, sb_len hs, a5]
          by_cases q : s.1 = tx.length
          · rw [if_pos q] at hpr
            rw [if_pos (by rw [q])]
            unfold f_X5_read_J70
            rw [if_neg (by decide)]
            refine OS_pV hB (by omega) H (f := 6) rfl (by show 6 < 7; decide) (fun S3 H3 => ?_)
            rw [nZ1]
            rw [hpr] at next
            exact next hb S3 _ h H3 Fu_at a3 a6
          · rw [if_neg q] at hpr
            rw [if_neg (fun z => q ((nI_eq (by omega) (by omega)).mp z))]
            exact bad S F h _ hpr rfl H a5
  unfold f_X5_read
  refine OS_pV hB (by omega) H (f := 3) rfl (by show 3 < 7; decide) (fun S1 H1 => ?_)
  refine OS_pV hB (by omega) H1 (f := 5) rfl (by show 5 < 7; decide) (fun S2 H2 => ?_)
  rw [OS_isO hB (by omega) H2]
  have hg := oS_go (tx := tx) (os := []) (p := 0) (Nat.zero_le _) (Nat.le_refl _) (fun o h => by cases h)
  refine t_order (os := []) hB hc hT h60 H2 rfl rfl (Nat.zero_le _) (by decide) (fun i o ho => (by cases ho)) (fun o h => by cases h) (fun hb2 S2 F2 h2 H2 b1 => ?_) (fun hb2 S2 F2 h2 H2 b1 b2 b3 => ?_)
  · have := loop 61 0 (oS tx [] 0) S2 F2 h2 rfl hg (by omega) (Or.inr hb2) H2 b1 (fun z => by rw [hb2] at z; cases z) 4096 (by omega)
    rw [hb2, if_neg (by decide)] at this; exact this
  · have h4 := (po_ok (show (po tx 0).2.1 = true from hb2)).1
    have := loop 61 0 (oS tx [] 0) S2 F2 h2 rfl hg (by omega) (Or.inl (by show 5 * (0 + 1) ≤ (po tx 0).1 + 1; omega)) H2 b1 (fun _ => ⟨b2, b3⟩) 4096 (by omega)
    rw [hb2, if_pos rfl] at this; exact this
end TXT
