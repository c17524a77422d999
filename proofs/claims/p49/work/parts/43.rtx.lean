/-! a text of orders, read by the reference -/
def sgn (tx : List Nat) (p : Nat) : Int32 := match tx[p]? with
  | some c => nI c
  | none => -1
def tO (F : Nat → Int32) (h : Nat → Nat → Int32) (tx : List Nat) : Prop := F 17 = nI tx.length ∧ tx.length ≤ 60 ∧ ∀ i c, tx[i]? = some c → h 7 i = nI c ∧ c < 128
theorem sgn_eq {F : Nat → Int32} {h : Nat → Nat → Int32} {tx : List Nat} {p c : Nat} (t : tO F h tx) (hc : c < 128) : sgn tx p = nI c ↔ tx[p]? = some c := by
  unfold sgn
  cases e : tx[p]? with
  | none =>
    dsimp only
    refine ⟨fun z => ?_, fun z => by cases z⟩
    exact absurd (show nI c < 0 by rw [← z]; decide) (nI_pos (by omega))
  | some x =>
    dsimp only
    have hx := (t.2.2 p x e).2
    rw [nI_eq (by omega) (by omega)]
    exact ⟨fun z => by rw [z], fun z => by injection z⟩
def sT (F : Nat → Int32) (s : Rs) : Prop := F 18 = nI s.1 ∧ F 19 = (if s.2.1 = true then -1 else nI s.1)
def fk (F F1 : Nat → Int32) : Prop := ∀ i, i ≠ 18 → i ≠ 19 → F1 i = F i
theorem fk.trans {F F1 F2 : Nat → Int32} (a : fk F F1) (b : fk F1 F2) : fk F F2 := fun i h1 h2 => (b i h1 h2).trans (a i h1 h2)
theorem fk.refl {F : Nat → Int32} : fk F F := fun _ _ _ => rfl
theorem tO_fk {F F1 : Nat → Int32} {h : Nat → Nat → Int32} {tx : List Nat} (t : tO F h tx) (k : fk F F1) : tO F1 h tx := ⟨(k 17 (by decide) (by decide)).trans t.1, t.2⟩
theorem tO_h {F : Nat → Int32} {h h1 : Nat → Nat → Int32} {tx : List Nat} (t : tO F h tx) (k : h1 7 = h 7) : tO F h1 tx := ⟨t.1, t.2.1, by rw [k]; exact t.2.2⟩
section PAR
variable {S0 S : PS} {B : Nat → Nat} {F : Nat → Int32} {h : Nat → Nat → Int32} {tx : List Nat}
def ltr (k : Nat) : Nat := [104, 103, 98, 108, 109, 115, 112].getD k 0
def wrd (k : Nat) : List Nat := [[111, 117, 115, 101], [111], [111, 110, 100], [111, 111, 115, 101], [97, 114, 114, 121], [105, 100, 101], [97, 114, 116]].getD k []
def nms (k : Nat) : List Nat := [[], [32, 35], [32, 35, 32, 35, 32, 37], [32, 35, 32, 35], [32, 35, 32, 35], [32, 35, 32, 35], []].getD k []
theorem fm_is : ∀ k, k < 7 → fm k = ltr k :: (wrd k ++ nms k) := by decide
theorem ltr_b : ∀ k, k < 7 → ltr k < 128 ∧ ¬ (ltr k = 35 ∨ ltr k = 37) := by decide
/-- the orders that are read so far, in the reference's row -/
def osM (h : Nat → Nat → Int32) (os : List Od) : Prop := ∀ (i : Nat) (o : Od), os[i]? = some o → h 8 (4 * i) = nI (ltr o.1) ∧ ∀ j x, o.2[j]? = some x → h 8 (4 * i + 1 + j) = nI x
/-- an order in the making: its numbers so far -/
def vsM (h : Nat → Nat → Int32) (n j : Nat) (s : Rs) : Prop := s.2.1 = true → s.2.2.length = j ∧ ∀ i x, s.2.2[i]? = some x → h 8 (4 * n + 1 + i) = nI x
theorem kd_none {x : Option Nat} (h : kd x = none) : ∀ k, k < 7 → x ≠ some (ltr k) := by
  intro k hk e
  rw [e] at h
  rcases (show k = 0 ∨ k = 1 ∨ k = 2 ∨ k = 3 ∨ k = 4 ∨ k = 5 ∨ k = 6 by omega) with rfl | rfl | rfl | rfl | rfl | rfl | rfl <;> cases h
end PAR

