/-! one object with arrays of numbers: its fields F, its arrays h (cell 0 is the object, cell k its array k); all else of the pool as in S0 -/
def oB (n : Nat) (S0 : PS) (B : Nat → Nat) : Prop := (∀ j k, j < n → k < n → B j = B k → j = k) ∧ ∀ k, k < n → B k ∈ S0.1
def OS (n ci : Nat) (fl : (Nat → Int32) → List Value) (rk rl : Nat → Nat) (S0 : PS) (B : Nat → Nat) (F : Nat → Int32) (h : Nat → Nat → Int32) (S : PS) : Prop :=
  S.1 = S0.1 ∧ (∀ q, (∀ k, k < n → q ≠ B k) → S.2 q = S0.2 q) ∧ S.2 (B 0) = .inr (ci, fl F) ∧ ∀ k, 0 < k → k < n → S.2 (B k) = .inl (rk k, rl k, .inl (h k))
def Fu (F : Nat → Int32) (f : Nat) (x : Int32) : Nat → Int32 := fun i => if i = f then x else F i
def hu (h : Nat → Nat → Int32) (k j : Nat) (x : Int32) : Nat → Nat → Int32 := fun k' => if k' = k then upd (h k') j x else h k'
theorem hu_ne {h : Nat → Nat → Int32} {k j k' : Nat} {x : Int32} (hk : k' ≠ k) : hu h k j x k' = h k' := if_neg hk
theorem hu_at {h : Nat → Nat → Int32} {k j : Nat} {x : Int32} : hu h k j x k j = x := by
  show (if k = k then upd (h k) j x else h k) j = x
  rw [if_pos rfl]
  simp [upd]
theorem hu_off {h : Nat → Nat → Int32} {k j i : Nat} {x : Int32} (hi : i ≠ j) : hu h k j x k i = h k i := by
  show (if k = k then upd (h k) j x else h k) i = _
  rw [if_pos rfl]
  simp [upd, hi]
theorem Fu_at {F : Nat → Int32} {f : Nat} {x : Int32} : Fu F f x f = x := if_pos rfl
theorem Fu_ne {F : Nat → Int32} {f i : Nat} {x : Int32} (h : i ≠ f) : Fu F f x i = F i := if_neg h
section OSS
variable {n ci : Nat} {fl : (Nat → Int32) → List Value} {rk rl : Nat → Nat} {S0 S : PS} {B : Nat → Nat} {F : Nat → Int32} {h : Nat → Nat → Int32}
theorem OS_gI (hB : oB n S0 B) (hn : 0 < n) (H : OS n ci fl rk rl S0 B F h S) {f : Nat} {x : Int32} {kk : Int32 → Prop} (hf : (fl F)[f]? = some (.int x)) : gI S (B 0) ci f kk = kk x :=
  gI_eq (by rw [H.1]; exact hB.2 0 hn) H.2.2.1 hf
theorem OS_gR (hB : oB n S0 B) (hn : 0 < n) (H : OS n ci fl rk rl S0 B F h S) {f k : Nat} {kk : Nat → Prop} (hf : (fl F)[f]? = some (.ref (B k))) : gR S (B 0) ci f kk = kk (B k) :=
  gR_eq (by rw [H.1]; exact hB.2 0 hn) H.2.2.1 hf
theorem OS_isO (hB : oB n S0 B) (hn : 0 < n) (H : OS n ci fl rk rl S0 B F h S) {P : Prop} : isO S (B 0) ci P = P :=
  isO_eq (by rw [H.1]; exact hB.2 0 hn) H.2.2.1
theorem OS_aI (hB : oB n S0 B) (H : OS n ci fl rk rl S0 B F h S) {k t j : Nat} {kk : Int32 → Prop} (hk : 0 < k ∧ k < n) (hj : j < rl k) (hl : rl k < 2 ^ 31) (ht : rk k = t := by rfl) : aI S (B k) t (nI j) kk = kk (h k j) := by
  have h1 := H.2.2.2 k hk.1 hk.2
  rw [ht] at h1
  exact aI_nI (by rw [H.1]; exact hB.2 k hk.2) h1 hj hl
theorem OS_put (hB : oB n S0 B) (hn : 0 < n) (H : OS n ci fl rk rl S0 B F h S) {f : Nat} {x : Int32} (hf : (fl F).set f (.int x) = fl (Fu F f x)) : OS n ci fl rk rl S0 B (Fu F f x) h (p_set S (B 0) (.inr (ci, (fl F).set f (.int x)))) := by
  refine ⟨H.1, fun q hq => ?_, ?_, fun k h0 hk => ?_⟩
  · show va_up S.2 (B 0) _ q = _
    rw [va_up_ne _ _ (hq 0 hn)]; exact H.2.1 q hq
  · show va_up S.2 (B 0) _ (B 0) = _
    rw [va_up_self, hf]
  · show va_up S.2 (B 0) _ (B k) = _
    rw [va_up_ne _ _ (fun e => by have := hB.1 k 0 hk hn e; omega)]; exact H.2.2.2 k h0 hk
theorem OS_pV (hB : oB n S0 B) (hn : 0 < n) (H : OS n ci fl rk rl S0 B F h S) {f : Nat} {x : Int32} {kk : PS → Prop} (hf : (fl F).set f (.int x) = fl (Fu F f x)) (hlen : f < (fl F).length) (next : ∀ S1, OS n ci fl rk rl S0 B (Fu F f x) h S1 → kk S1) : pV S (B 0) ci f (.int x) kk := by
  rw [pV_eq (by rw [H.1]; exact hB.2 0 hn) H.2.2.1 hlen]
  exact next _ (OS_put hB hn H hf)
theorem OS_set (hB : oB n S0 B) (hn : 0 < n) (H : OS n ci fl rk rl S0 B F h S) {k j : Nat} {x : Int32} (hk : 0 < k ∧ k < n) : OS n ci fl rk rl S0 B F (hu h k j x) (p_set S (B k) (.inl (rk k, rl k, .inl (upd (h k) j x)))) := by
  refine ⟨H.1, fun q hq => ?_, ?_, fun i h0 hi => ?_⟩
  · show va_up S.2 (B k) _ q = _
    rw [va_up_ne _ _ (hq k hk.2)]; exact H.2.1 q hq
  · show va_up S.2 (B k) _ (B 0) = _
    rw [va_up_ne _ _ (fun e => by have := hB.1 0 k hn hk.2 e; omega)]; exact H.2.2.1
  · show va_up S.2 (B k) _ (B i) = _
    by_cases e : i = k
    · subst e
      rw [va_up_self]
      show _ = Sum.inl (rk i, rl i, Sum.inl (if i = i then upd (h i) j x else h i))
      rw [if_pos rfl]
    · rw [va_up_ne _ _ (fun z => e (hB.1 i k hi hk.2 z)), hu_ne e]; exact H.2.2.2 i h0 hi
theorem OS_sI (hB : oB n S0 B) (hn : 0 < n) (H : OS n ci fl rk rl S0 B F h S) {k t j : Nat} {x : Int32} {kk : PS → Prop} (hk : 0 < k ∧ k < n) (hj : j < rl k) (hl : rl k < 2 ^ 31) (next : ∀ S1, OS n ci fl rk rl S0 B F (hu h k j x) S1 → kk S1) (ht : rk k = t := by rfl) : sI S (B k) t (nI j) x kk := by
  have h1 := H.2.2.2 k hk.1 hk.2
  subst ht
  rw [sI_nI (by rw [H.1]; exact hB.2 k hk.2) h1 hj hl]
  exact next _ (OS_set hB hn H hk)
end OSS
/-- the reference: cells 0 itself, 1 all, 2 groups, 3 ties, 4 cuts, 5 now, 6 measures, 7 input, 8 orders, 9 line -/
def rfs (B : Nat → Nat) (F : Nat → Int32) : List Value := [.int (F 0), .ref (B 1), .int (F 2), .int (F 3), .int (F 4), .int (F 5), .int (F 6), .int (F 7), .int (F 8), .ref (B 2), .ref (B 3), .ref (B 4), .ref (B 5), .int (F 13), .int (F 14), .ref (B 6), .ref (B 7), .int (F 17), .int (F 18), .int (F 19), .int (F 20), .ref (B 8), .int (F 22), .ref (B 9), .int (F 24)]
def rrk (k : Nat) : Nat := if k = 7 ∨ k = 9 then 2 else 0
def rrl (k : Nat) : Nat := if k = 1 then 1128 else if k = 2 then 81 else if k = 3 then 81 else if k = 4 then 9 else if k = 5 then 9 else if k = 6 then 9 else if k = 7 then 60 else if k = 8 then 244 else 500
abbrev RS (S0 : PS) (B : Nat → Nat) (F : Nat → Int32) (h : Nat → Nat → Int32) (S : PS) : Prop := OS 10 12 (rfs B) rrk rrl S0 B F h S
def rowV (h : Nat → Nat → Int32) (r : Nat) (v : Nat → Nat) : Prop := ∀ k, k < 94 → h 1 (94 * r + k) = nI (v k)
theorem RS_isR {S0 S : PS} {B : Nat → Nat} {F : Nat → Int32} {h : Nat → Nat → Int32} {v : Nat → Nat} (hB : oB 10 S0 B) (H : RS S0 B F h S) (hr : rowV h 0 v) : isR S (B 0) (B 1) v :=
  ⟨by rw [H.1]; exact hB.2 0 (by omega), by rw [H.1]; exact hB.2 1 (by omega), ⟨_, H.2.2.1, rfl⟩, h 1, H.2.2.2 1 (by omega) (by omega), fun k hk => by have := hr k hk; rw [Nat.mul_zero, Nat.zero_add] at this; exact this⟩
section RPH
variable {S0 S : PS} {B : Nat → Nat} {F : Nat → Int32} {h : Nat → Nat → Int32} {v : Nat → Nat}
def eb (o : Option Nat) : Int32 := match o with
  | none => -1
  | some b => nI b
def em (v now : Nat → Nat) (J : Nat) (o : Option Nat) : Int32 := match o with
  | none => -1
  | some b => nI (tT v (now b) J)
theorem r_pick {now : Nat → Nat} {m J p q : Nat} {post : PS → Prop} {g5 : PS → Nat → Int32 → Int32 → Int32 → Int32 → Prop} (hB : oB 10 S0 B) (H : RS S0 B F h S) (hr : rowV h 0 v) (hv : okV v) (hm : m ≤ 9) (hnow : ∀ k, k < m → now k < 2 ^ 9 ∧ h 5 k = nI (now k)) (hJ : J < 2 ^ 9) :
    f_X8_joins_L20 post g5 4096 S (B 0) (nI p) (nI m) (nI J) (nI q) (-1) (-1) 0 = f_X8_joins_J82 post g5 S (B 0) (nI p) (nI m) (nI J) (nI q) (eb (pk1 v now J m)) (em v now J (pk1 v now J m)) := by
  have hR := RS_isR hB H hr
  refine lp_eq (L := fun fuel i => f_X8_joins_L20 post g5 fuel S (B 0) (nI p) (nI m) (nI J) (nI q) (eb (pk1 v now J i)) (em v now J (pk1 v now J i)) (nI i)) (n := m) (fun fuel i hi => ?_) (fun fuel => ?_) 0 4096 (by omega) (by omega)
  · obtain ⟨h1, h2⟩ := hnow i hi
    have hand : now i &&& J < 2 ^ 9 := Nat.and_lt_two_pow _ hJ
    simp only [f_X8_joins_L20, f_X8_joins_J68, f_X8_joins_J76, if_neg (nI_ge hi (show m < 2 ^ 31 by omega)), OS_gR hB (by omega) H (k := 5) (f := 12) rfl, OS_aI hB H (k := 5) (t := 0) (j := i) (by omega) (show i < rrl 5 by show i < 9; omega) (by decide), h2, b_and, nIe0 (show now i &&& J < 2 ^ 31 by omega), nI_1, pk1]
    by_cases hd : now i &&& J = 0
    · have ht := tT_lt hv (r := now i) (s := J)
      simp only [if_pos hd, RO hR, r_tie hR hv (show now i < 2 ^ 31 by omega) (show J < 2 ^ 31 by omega)]
      cases hq : pk1 v now J i with
      | none => simp only [eb, em, if_true]
      | some b =>
        have hb := (pk1_some hq).1
        have ht2 := tT_lt hv (r := now b) (s := J)
        simp only [eb, em, nIm1 (show b < 1000 by omega), if_false]
        by_cases hlt : tT v (now b) J < tT v (now i) J
        · simp only [if_pos hlt, eb, em]
          exact if_neg (nI_ge hlt (show tT v (now i) J < 2 ^ 31 by omega))
        · simp only [if_neg hlt, eb, em]
          exact if_pos (nI_le (Nat.not_lt.mp hlt) (show tT v (now b) J < 2 ^ 31 by omega))
    · simp only [if_neg hd]
  · simp only [f_X8_joins_L20, if_pos (nI_le (Nat.le_refl m) (show m < 2 ^ 31 by omega))]
/-- what a step of joining writes -/
def jnh (v now : Nat → Nat) (m p : Nat) (h : Nat → Nat → Int32) (q : Nat) (h1 : Nat → Nat → Int32) : Prop :=
  (∀ k, k ≠ 2 → k ≠ 3 → h1 k = h k) ∧ (∀ i, i < q → h1 2 (9 * p + i) = nI (gq v now m i) ∧ h1 3 (9 * p + i) = nI (pq v now m i)) ∧ ∀ j, j < 9 * p ∨ 9 * p + q ≤ j → h1 2 j = h 2 j ∧ h1 3 j = h 3 j
theorem Jn_lt {v now : Nat → Nat} {m : Nat} (hp : prt (v 0) now m) (hn : v 0 ≤ 9) : ∀ {q : Nat}, q ≤ m → Jn v now m q < 2 ^ 9
  | 0, _ => by show 0 < 2 ^ 9; decide
  | q + 1, hq => Nat.or_lt_two_pow (Jn_lt hp hn (by omega)) (prt_lt hp hn (sq_spec hp (show q < m by omega)).2.1)
theorem r_joins {now : Nat → Nat} {m p : Nat} {post : PS → Prop} (hB : oB 10 S0 B) (H : RS S0 B F h S) (hr : rowV h 0 v) (hv : okV v) (hm : 0 < m ∧ m ≤ 9) (hp : p ≤ 8) (hpm : p + m ≤ 9) (hprt : prt (v 0) now m) (hnow : ∀ k, k < m → h 5 k = nI (now k))
    (next : ∀ (S1 : PS) (h1 : Nat → Nat → Int32), RS S0 B F (hu h1 4 p (nI (pq v now m (m - 1)))) S1 → jnh v now m p h m h1 → post S1) : f_X8_joins S (B 0) (nI p) (nI m) post := by
  have h0 := hv.1
  have key : ∀ (d q fuel : Nat) (S1 : PS) (h1 : Nat → Nat → Int32), q + d = m → d < fuel → RS S0 B F h1 S1 → jnh v now m p h q h1 → f_X8_joins_L5 post fuel S1 (B 0) (nI p) (nI m) (nI (Jn v now m q)) (nI q) := by
    intro d
    induction d with
    | zero =>
      intro q fuel S1 h1 hq hf H1 hj
      obtain ⟨f, rfl⟩ : ∃ f, fuel = f + 1 := ⟨fuel - 1, by omega⟩
      have : q = m := by omega
      subst this
      simp only [f_X8_joins_L5, f_X8_joins_J131, if_pos (nI_le (Nat.le_refl q) (show q < 2 ^ 31 by omega)), OS_gR hB (by omega) H1 (k := 4) (f := 11) rfl, OS_gR hB (by omega) H1 (k := 3) (f := 10) rfl, n9, pk_mul, nI_add, n1, pk_sub (show 1 ≤ 9 * p + q by omega)]
      rw [OS_aI hB H1 (k := 3) (by omega) (show 9 * p + q - 1 < 81 by omega) (by decide)]
      refine OS_sI hB (by omega) H1 (k := 4) (by omega) (show p < 9 by omega) (by decide) (fun S2 H2 => ?_)
      have h2 := (hj.2.1 (q - 1) (by omega)).2
      rw [show 9 * p + (q - 1) = 9 * p + q - 1 by omega] at h2
      rw [h2] at H2
      exact next S2 h1 H2 hj
    | succ d ih =>
      intro q fuel S1 h1 hq hf H1 hj
      obtain ⟨f, rfl⟩ : ∃ f, fuel = f + 1 := ⟨fuel - 1, by omega⟩
      obtain ⟨s1, s2, s3, -⟩ := sq_spec hprt (show q < m by omega)
      have hr1 : rowV h1 0 v := by rw [rowV, hj.1 1 (by decide) (by decide)]; exact hr
      have hnow1 : ∀ k, k < m → now k < 2 ^ 9 ∧ h1 5 k = nI (now k) := fun k hk => ⟨prt_lt hprt h0 hk, by rw [hj.1 5 (by decide) (by decide)]; exact hnow k hk⟩
      simp only [f_X8_joins_L5]
      rw [if_neg (nI_ge (show q < m by omega) (by omega)), r_pick hB H1 hr1 hv hm.2 hnow1 (Jn_lt hprt h0 (show q ≤ m by omega)), s1]
      simp only [f_X8_joins_J82, eb, em, OS_gR hB (by omega) H1 (k := 2) (f := 9) rfl, OS_gR hB (by omega) H1 (k := 5) (f := 12) rfl, n9, pk_mul, nI_add]
      rw [OS_aI hB H1 (k := 5) (by omega) (show sq v now m q < 9 by omega) (by decide), (hnow1 _ s2).2]
      refine OS_sI hB (by omega) H1 (k := 2) (by omega) (show 9 * p + q < 81 by omega) (by decide) (fun S2 H2 => ?_)
      simp only [OS_gR hB (by omega) H2 (k := 3) (f := 10) rfl]
      refine OS_sI hB (by omega) H2 (k := 3) (by omega) (show 9 * p + q < 81 by omega) (by decide) (fun S3 H3 => ?_)
      simp only [OS_gR hB (by omega) H3 (k := 5) (f := 12) rfl]
      rw [OS_aI hB H3 (k := 5) (by omega) (show sq v now m q < 9 by omega) (by decide), hu_ne (by decide), hu_ne (by decide), (hnow1 _ s2).2, b_or, nI_1]
      refine ih (q + 1) f S3 _ (by omega) (by omega) H3 ⟨fun k k2 k3 => ?_, fun i hi => ?_, fun j hjj => ?_⟩
      · rw [hu_ne k3, hu_ne k2]; exact hj.1 k k2 k3
      · by_cases hiq : i = q
        · subst hiq
          exact ⟨by rw [hu_ne (by decide), hu_at]; rfl, by rw [hu_at]; rfl⟩
        · obtain ⟨a1, a2⟩ := hj.2.1 i (by omega)
          exact ⟨by rw [hu_ne (by decide), hu_off (by omega)]; exact a1, by rw [hu_off (by omega), hu_ne (by decide)]; exact a2⟩
      · obtain ⟨a1, a2⟩ := hj.2.2 j (by omega)
        exact ⟨by rw [hu_ne (by decide), hu_off (by omega)]; exact a1, by rw [hu_off (by omega), hu_ne (by decide)]; exact a2⟩
  exact key m 0 4096 S h (by omega) (by omega) H ⟨fun _ _ _ => rfl, fun i hi => by omega, fun _ _ => ⟨rfl, rfl⟩⟩
theorem lowc {s t : Nat} (h1 : s ≠ 0) (h2 : s < 2 ^ 9) : low s < 2 ^ 31 := by have := (low_spec h1 h2).1; omega
theorem r_merges {now : Nat → Nat} {m p : Nat} {post : PS → Prop} (hB : oB 10 S0 B) (H : RS S0 B F h S) (hv : okV v) (hm : 2 ≤ m ∧ m ≤ 9) (hpm : p + m ≤ 9) (hprt : prt (v 0) now m) (hnow : ∀ k, k < m → h 5 k = nI (now k)) (hg : ∀ i, i < m → h 2 (9 * p + i) = nI (gq v now m i))
    (next : ∀ (S1 : PS) (h1 : Nat → Nat → Int32), RS S0 B F h1 S1 → (∀ k, k ≠ 5 → h1 k = h k) → (∀ k, k < m - 1 → h1 5 k = nI (nxt v now m k)) → post S1) : f_X8_merges S (B 0) (nI p) (nI m) post := by
  have h0 := hv.1
  have hi1 := (sq_spec hprt (show m - 2 < m by omega)).2.1
  have hj1 := (sq_spec hprt (show m - 1 < m by omega)).2.1
  have hne := sq_ne hprt (show m - 2 < m - 1 by omega) (by omega)
  have hgi := prt_lt hprt h0 hi1
  have hgj := prt_lt hprt h0 hj1
  have hzi := (hprt.1 _ hi1).1
  have hzj := (hprt.1 _ hj1).1
  have main : ∀ (a b : Nat), a < b → b < m → ∀ (l3 l4 l5 : Int32), l3 ||| l4 = nI (now a ||| now b) → l3 + l4 - l5 = nI (now b) → l5 = nI (now a) → (∀ k, k < m - 1 → mg now a b k = nxt v now m k) → f_X8_merges_L55 post 4096 S (B 0) (nI m) l3 l4 l5 0 0 := by
    intro a b hab hb l3 l4 l5 e1 e2 e3 e4
    have key : ∀ (d i fuel : Nat) (S1 : PS) (h1 : Nat → Nat → Int32), i + d = m → d < fuel → RS S0 B F h1 S1 → (∀ k, k ≠ 5 → h1 k = h k) → (∀ k, i ≤ k → k < m → h1 5 k = nI (now k)) → (∀ k, k < (if b < i then i - 1 else i) → h1 5 k = nI (mg now a b k)) → f_X8_merges_L55 post fuel S1 (B 0) (nI m) l3 l4 l5 (nI (if b < i then i - 1 else i)) (nI i) := by
      intro d
      induction d with
      | zero =>
        intro i fuel S1 h1 hi hf H1 hk hnw hdn
        obtain ⟨f, rfl⟩ : ∃ f, fuel = f + 1 := ⟨fuel - 1, by omega⟩
        have : i = m := by omega
        subst this
        simp only [f_X8_merges_L55]
        rw [if_pos (nI_le (Nat.le_refl i) (by omega))]
        refine next S1 h1 H1 hk (fun k hk => ?_)
        rw [if_pos hb] at hdn
        rw [hdn k hk, e4 k hk]
      | succ d ih =>
        intro i fuel S1 h1 hi hf H1 hk hnw hdn
        obtain ⟨f, rfl⟩ : ∃ f, fuel = f + 1 := ⟨fuel - 1, by omega⟩
        have hnl := prt_lt hprt h0 (show i < m by omega)
        have hal := prt_lt hprt h0 (show a < m by omega)
        have hbl := prt_lt hprt h0 hb
        simp only [f_X8_merges_L55, f_X8_merges_J111, f_X8_merges_J107]
        rw [if_neg (nI_ge (show i < m by omega) (by omega)), OS_gR hB (by omega) H1 (k := 5) (f := 12) rfl, OS_aI hB H1 (k := 5) (by omega) (show i < 9 by omega) (by decide), hnw i (Nat.le_refl _) (by omega), OS_gR hB (by omega) H1 (k := 5) (f := 12) rfl, e2, e3, nI_1]
        by_cases hib : i = b
        · rw [if_pos (by rw [hib])]
          have hI := ih (i + 1) f S1 h1 (by omega) (by omega) H1 hk (fun k h1 h2 => hnw k (by omega) h2)
          rw [if_neg (show ¬ b < i by omega)] at hdn ⊢
          rw [if_pos (show b < i + 1 by omega), Nat.add_sub_cancel] at hI
          rw [e3] at hI
          exact hI hdn
        · rw [if_neg (by rw [nI_eq (by omega) (by omega)]; exact fun e => hib (prt_inj hprt (by omega) hb e))]
          have hn : (if b < i then i - 1 else i) ≤ i := by split <;> omega
          have hn2 : ∀ x : Int32, (∀ S2, RS S0 B F (hu h1 5 (if b < i then i - 1 else i) x) S2 → f_X8_merges_L55 post f S2 (B 0) (nI m) l3 l4 (nI (now a)) (nI ((if b < i then i - 1 else i) + 1)) (nI (i + 1))) → sI S1 (B 5) 0 (nI (if b < i then i - 1 else i)) x fun S2 => f_X8_merges_L55 post f S2 (B 0) (nI m) l3 l4 (nI (now a)) (nI (if b < i then i - 1 else i) + 1) (nI (i + 1)) := fun x nx => by
            rw [nI_1]
            exact OS_sI hB (by omega) H1 (k := 5) (by omega) (show (if b < i then i - 1 else i) < 9 by omega) (by decide) nx
          have hst : ∀ (x : Nat), mg now a b (if b < i then i - 1 else i) = x → ∀ S2, RS S0 B F (hu h1 5 (if b < i then i - 1 else i) (nI x)) S2 → f_X8_merges_L55 post f S2 (B 0) (nI m) l3 l4 (nI (now a)) (nI ((if b < i then i - 1 else i) + 1)) (nI (i + 1)) := fun x hx S2 H2 => by
            have e5 : (if b < i then i - 1 else i) + 1 = if b < i + 1 then i + 1 - 1 else i + 1 := by
              by_cases q : b < i
              · rw [if_pos q, if_pos (by omega)]; omega
              · rw [if_neg q, if_neg (by omega)]
            have hI := ih (i + 1) f S2 _ (by omega) (by omega) H2 (fun k hk5 => by rw [hu_ne hk5]; exact hk k hk5) (fun k q1 q2 => by rw [hu_off (by omega)]; exact hnw k (by omega) q2) (fun k q1 => by
              rw [← e5] at q1
              by_cases q2 : k = (if b < i then i - 1 else i)
              · rw [q2, hu_at, hx]
              · rw [hu_off q2]; exact hdn k (by omega))
            rw [← e5, e3] at hI
            exact hI
          by_cases hia : i = a
          · rw [if_pos (by rw [hia])]
            rw [e1]
            refine hn2 _ (hst _ ?_)
            unfold mg
            rw [if_neg (show ¬ b < i by omega), if_pos (show i < b by omega), if_pos hia]
          · rw [if_neg (by rw [nI_eq (by omega) (by omega)]; exact fun e => hia (prt_inj hprt (by omega) (by omega) e))]
            refine hn2 _ (hst _ ?_)
            unfold mg
            by_cases q : b < i
            · rw [if_pos q, if_neg (show ¬ i - 1 < b by omega), show i - 1 + 1 = i by omega]
            · rw [if_neg q, if_pos (show i < b by omega), if_neg hia]
    have := key m 0 4096 S h (by omega) (by omega) H (fun _ _ => rfl) (fun k _ hk => hnow k hk) (fun k hk => by rw [if_neg (by omega)] at hk; omega)
    rw [if_neg (by omega)] at this
    exact this
  have g1 := hg (m - 2) (by omega)
  have g2 := hg (m - 1) (by omega)
  rw [show 9 * p + (m - 2) = 9 * p + m - 2 by omega] at g1
  rw [show 9 * p + (m - 1) = 9 * p + m - 1 by omega] at g2
  unfold f_X8_merges
  simp only [OS_gR hB (by omega) H (k := 2) (f := 9) rfl, n9, pk_mul, nI_add, n2, n1, pk_sub (show 2 ≤ 9 * p + m by omega), pk_sub (show 1 ≤ 9 * p + m by omega)]
  rw [OS_aI hB H (k := 2) (by omega) (show 9 * p + m - 2 < 81 by omega) (by decide), OS_aI hB H (k := 2) (by omega) (show 9 * p + m - 1 < 81 by omega) (by decide), g1, g2]
  unfold gq
  rw [r_low hzi hgi, r_low hzj hgj]
  unfold f_X8_merges_J47
  have li := (low_spec hzi hgi).1
  have lj := (low_spec hzj hgj).1
  rcases Nat.lt_or_gt_of_ne hne with hlt | hlt
  · have hl := hprt.2.2.1 _ _ hlt hj1
    rw [if_neg (nI_ge hl (by omega))]
    refine main (sq v now m (m - 2)) (sq v now m (m - 1)) hlt hj1 _ _ _ (b_or _ _) (by rw [nI_add, pk_sub (by omega)]; congr 1; omega) rfl (fun k _ => ?_)
    unfold nxt
    rw [Nat.min_eq_left (by omega), Nat.max_eq_right (by omega)]
  · have hl := hprt.2.2.1 _ _ hlt hi1
    rw [if_pos (nI_le (by omega) (by omega))]
    refine main (sq v now m (m - 1)) (sq v now m (m - 2)) hlt hi1 _ _ _ (by rw [b_or, Nat.or_comm]) (by rw [nI_add, pk_sub (by omega)]; congr 1; omega) rfl (fun k _ => ?_)
    unfold nxt
    rw [Nat.min_eq_right (by omega), Nat.max_eq_left (by omega)]
end RPH
