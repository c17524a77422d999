/-! one object with arrays of numbers: its fields F, its arrays h (cell 0 is the object, cell k its array k); all else of the pool as in S0 -/
def oB (n : Nat) (S0 : PS) (B : Nat → Nat) : Prop := (∀ j k, j < n → k < n → B j = B k → j = k) ∧ ∀ k, k < n → B k ∈ S0.1
def OS (n ci : Nat) (fl : (Nat → Int32) → List Value) (rk rl : Nat → Nat) (S0 : PS) (B : Nat → Nat) (F : Nat → Int32) (h : Nat → Nat → Int32) (S : PS) : Prop :=
  S.1 = S0.1 ∧ (∀ q, (∀ k, k < n → q ≠ B k) → S.2 q = S0.2 q) ∧ S.2 (B 0) = .inr (ci, fl F) ∧ ∀ k, 0 < k → k < n → S.2 (B k) = .inl (rk k, rl k, .inl (h k))
def Fu (F : Nat → Int32) (f : Nat) (x : Int32) : Nat → Int32 := fun i => if i = f then x else F i
def hu (h : Nat → Nat → Int32) (k j : Nat) (x : Int32) : Nat → Nat → Int32 := fun k' => if k' = k then upd (h k') j x else h k'
theorem hu_ne {h : Nat → Nat → Int32} {k j k' : Nat} {x : Int32} (hk : k' ≠ k) : hu h k j x k' = h k' := if_neg hk
theorem hu_at {h : Nat → Nat → Int32} {k j : Nat} {x : Int32} : hu h k j x k j = x := by
  show (if k = k then upd (h k) j x else h k) j = x
  rw [if_pos rfl]
  simp [upd]
theorem hu_off {h : Nat → Nat → Int32} {k j i : Nat} {x : Int32} (hi : i ≠ j) : hu h k j x k i = h k i := by
  show (if k = k then upd (h k) j x else h k) i = _
  rw [if_pos rfl]
  simp [upd, hi]
theorem Fu_at {F : Nat → Int32} {f : Nat} {x : Int32} : Fu F f x f = x := if_pos rfl
theorem Fu_ne {F : Nat → Int32} {f i : Nat} {x : Int32} (h : i ≠ f) : Fu F f x i = F i := if_neg h
section OSS
variable {n ci : Nat} {fl : (Nat → Int32) → List Value} {rk rl : Nat → Nat} {S0 S : PS} {B : Nat → Nat} {F : Nat → Int32} {h : Nat → Nat → Int32}
theorem OS_gI (hB : oB n S0 B) (hn : 0 < n) (H : OS n ci fl rk rl S0 B F h S) {f : Nat} {x : Int32} {kk : Int32 → Prop} (hf : (fl F)[f]? = some (.int x)) : gI S (B 0) ci f kk = kk x :=
  gI_eq (by rw [H.1]; exact hB.2 0 hn) H.2.2.1 hf
theorem OS_gR (hB : oB n S0 B) (hn : 0 < n) (H : OS n ci fl rk rl S0 B F h S) {f k : Nat} {kk : Nat → Prop} (hf : (fl F)[f]? = some (.ref (B k))) : gR S (B 0) ci f kk = kk (B k) :=
  gR_eq (by rw [H.1]; exact hB.2 0 hn) H.2.2.1 hf
theorem OS_isO (hB : oB n S0 B) (hn : 0 < n) (H : OS n ci fl rk rl S0 B F h S) {P : Prop} : isO S (B 0) ci P = P :=
  isO_eq (by rw [H.1]; exact hB.2 0 hn) H.2.2.1
theorem OS_aI (hB : oB n S0 B) (H : OS n ci fl rk rl S0 B F h S) {k t j : Nat} {kk : Int32 → Prop} (hk : 0 < k ∧ k < n) (hj : j < rl k) (hl : rl k < 2 ^ 31) (ht : rk k = t := by rfl) : aI S (B k) t (nI j) kk = kk (h k j) := by
  have h1 := H.2.2.2 k hk.1 hk.2
  rw [ht] at h1
  exact aI_nI (by rw [H.1]; exact hB.2 k hk.2) h1 hj hl
theorem OS_put (hB : oB n S0 B) (hn : 0 < n) (H : OS n ci fl rk rl S0 B F h S) {f : Nat} {x : Int32} (hf : (fl F).set f (.int x) = fl (Fu F f x)) : OS n ci fl rk rl S0 B (Fu F f x) h (p_set S (B 0) (.inr (ci, (fl F).set f (.int x)))) := by
  refine ⟨H.1, fun q hq => ?_, ?_, fun k h0 hk => ?_⟩
  · show va_up S.2 (B 0) _ q = _
    rw [va_up_ne _ _ (hq 0 hn)]; exact H.2.1 q hq
  · show va_up S.2 (B 0) _ (B 0) = _
    rw [va_up_self, hf]
  · show va_up S.2 (B 0) _ (B k) = _
    rw [va_up_ne _ _ (fun e => by have := hB.1 k 0 hk hn e; omega)]; exact H.2.2.2 k h0 hk
theorem OS_pV (hB : oB n S0 B) (hn : 0 < n) (H : OS n ci fl rk rl S0 B F h S) {f : Nat} {x : Int32} {kk : PS → Prop} (hf : (fl F).set f (.int x) = fl (Fu F f x)) (hlen : f < (fl F).length) (next : ∀ S1, OS n ci fl rk rl S0 B (Fu F f x) h S1 → kk S1) : pV S (B 0) ci f (.int x) kk := by
  rw [pV_eq (by rw [H.1]; exact hB.2 0 hn) H.2.2.1 hlen]
  exact next _ (OS_put hB hn H hf)
theorem OS_set (hB : oB n S0 B) (hn : 0 < n) (H : OS n ci fl rk rl S0 B F h S) {k j : Nat} {x : Int32} (hk : 0 < k ∧ k < n) : OS n ci fl rk rl S0 B F (hu h k j x) (p_set S (B k) (.inl (rk k, rl k, .inl (upd (h k) j x)))) := by
  refine ⟨H.1, fun q hq => ?_, ?_, fun i h0 hi => ?_⟩
  · show va_up S.2 (B k) _ q = _
    rw [va_up_ne _ _ (hq k hk.2)]; exact H.2.1 q hq
  · show va_up S.2 (B k) _ (B 0) = _
    rw [va_up_ne _ _ (fun e => by have := hB.1 0 k hn hk.2 e; omega)]; exact H.2.2.1
  · show va_up S.2 (B k) _ (B i) = _
    by_cases e : i = k
    · subst e
      rw [va_up_self]
      show _ = Sum.inl (rk i, rl i, Sum.inl (if i = i then upd (h i) j x else h i))
      rw [if_pos rfl]
    · rw [va_up_ne _ _ (fun z => e (hB.1 i k hi hk.2 z)), hu_ne e]; exact H.2.2.2 i h0 hi
theorem OS_sI (hB : oB n S0 B) (hn : 0 < n) (H : OS n ci fl rk rl S0 B F h S) {k t j : Nat} {x : Int32} {kk : PS → Prop} (hk : 0 < k ∧ k < n) (hj : j < rl k) (hl : rl k < 2 ^ 31) (next : ∀ S1, OS n ci fl rk rl S0 B F (hu h k j x) S1 → kk S1) (ht : rk k = t := by rfl) : sI S (B k) t (nI j) x kk := by
  have h1 := H.2.2.2 k hk.1 hk.2
  subst ht
  rw [sI_nI (by rw [H.1]; exact hB.2 k hk.2) h1 hj hl]
  exact next _ (OS_set hB hn H hk)
end OSS
/-- the reference: cells 0 itself, 1 all, 2 groups, 3 ties, 4 cuts, 5 now, 6 measures, 7 input, 8 orders, 9 line -/
def rfs (B : Nat → Nat) (F : Nat → Int32) : List Value := [.int (F 0), .ref (B 1), .int (F 2), .int (F 3), .int (F 4), .int (F 5), .int (F 6), .int (F 7), .int (F 8), .ref (B 2), .ref (B 3), .ref (B 4), .ref (B 5), .int (F 13), .int (F 14), .ref (B 6), .ref (B 7), .int (F 17), .int (F 18), .int (F 19), .int (F 20), .ref (B 8), .int (F 22), .ref (B 9), .int (F 24)]
def rrk (k : Nat) : Nat := if k = 7 ∨ k = 9 then 2 else 0
def rrl (k : Nat) : Nat := if k = 1 then 1128 else if k = 2 then 81 else if k = 3 then 81 else if k = 4 then 9 else if k = 5 then 9 else if k = 6 then 9 else if k = 7 then 60 else if k = 8 then 244 else 500
abbrev RS (S0 : PS) (B : Nat → Nat) (F : Nat → Int32) (h : Nat → Nat → Int32) (S : PS) : Prop := OS 10 12 (rfs B) rrk rrl S0 B F h S
def rowV (h : Nat → Nat → Int32) (r : Nat) (v : Nat → Nat) : Prop := ∀ k, k < 94 → h 1 (94 * r + k) = nI (v k)
theorem RS_isR {S0 S : PS} {B : Nat → Nat} {F : Nat → Int32} {h : Nat → Nat → Int32} {v : Nat → Nat} (hB : oB 10 S0 B) (H : RS S0 B F h S) (hr : rowV h 0 v) : isR S (B 0) (B 1) v :=
  ⟨by rw [H.1]; exact hB.2 0 (by omega), by rw [H.1]; exact hB.2 1 (by omega), ⟨_, H.2.2.1, rfl⟩, h 1, H.2.2.2 1 (by omega) (by omega), fun k hk => by have := hr k hk; rw [Nat.mul_zero, Nat.zero_add] at this; exact this⟩
section RPH
variable {S0 S : PS} {B : Nat → Nat} {F : Nat → Int32} {h : Nat → Nat → Int32} {v : Nat → Nat}
def eb (o : Option Nat) : Int32 := match o with
  | none => -1
  | some b => nI b
def em (v now : Nat → Nat) (J : Nat) (o : Option Nat) : Int32 := match o with
  | none => -1
  | some b => nI (tT v (now b) J)
/-- what a step of joining writes -/
def jnh (v now : Nat → Nat) (m p : Nat) (h : Nat → Nat → Int32) (q : Nat) (h1 : Nat → Nat → Int32) : Prop :=
  (∀ k, k ≠ 2 → k ≠ 3 → h1 k = h k) ∧ (∀ i, i < q → h1 2 (9 * p + i) = nI (gq v now m i) ∧ h1 3 (9 * p + i) = nI (pq v now m i)) ∧ ∀ j, j < 9 * p ∨ 9 * p + q ≤ j → h1 2 j = h 2 j ∧ h1 3 j = h 3 j
theorem Jn_lt {v now : Nat → Nat} {m : Nat} (hp : prt (v 0) now m) (hn : v 0 ≤ 9) : ∀ {q : Nat}, q ≤ m → Jn v now m q < 2 ^ 9
  | 0, _ => by show 0 < 2 ^ 9; decide
  | q + 1, hq => Nat.or_lt_two_pow (Jn_lt hp hn (by omega)) (prt_lt hp hn (sq_spec hp (show q < m by omega)).2.1)
theorem lowc {s t : Nat} (h1 : s ≠ 0) (h2 : s < 2 ^ 9) : low s < 2 ^ 31 := by have := (low_spec h1 h2).1; omega
end RPH

