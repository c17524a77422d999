/-! the reference as a whole: its rows, and what its own calls make of them -/
theorem rst_hu1 {h : Nat → Nat → Int32} {j : Nat} {x : Int32} : ∀ k, k ≠ 1 → hu h 1 j x k = h k := fun _ hk => hu_ne hk
/-- a row copied -/
def cps (h h1 : Nat → Nat → Int32) (i j : Nat) : Prop := (∀ k, k ≠ 1 → h1 k = h k) ∧ ∀ x, h1 1 x = if 94 * j ≤ x ∧ x < 94 * j + 94 then h 1 (94 * i + (x - 94 * j)) else h 1 x
theorem cps_to {h h1 : Nat → Nat → Int32} {i j : Nat} {w : Vt} (c : cps h h1 i j) (hr : rowV h i w) : rowV h1 j w := fun k hk => by
  rw [c.2, if_pos (by omega), show 94 * j + k - 94 * j = k by omega]
  exact hr k hk
theorem cps_ot {h h1 : Nat → Nat → Int32} {i j r : Nat} {w : Vt} (c : cps h h1 i j) (hne : r ≠ j) (hr : rowV h r w) : rowV h1 r w := fun k hk => by
  rw [c.2, if_neg (by omega)]
  exact hr k hk
/-- all but row 0 -/
def mX (F : Nat → Int32) (h : Nat → Nat → Int32) (hs : List Vt) (sv : Option Vt) (r : Nat → Int32) (tx : List Nat) (fa : Int32) (ln : List Nat) : Prop :=
  (F 2 = nI hs.length ∧ hs.length ≤ 8 ∧ ∀ i w, hs[i]? = some w → rowV h (hs.length - i) w) ∧ ((sv = none ∧ F 3 = 0) ∨ ∃ w, sv = some w ∧ F 3 = 1 ∧ rowV h 9 w) ∧ (F 5 = r 0 ∧ F 6 = r 1 ∧ F 7 = r 2 ∧ (r 2 ≠ 0 → F 8 = r 3)) ∧ (F 17 = nI tx.length ∧ ∀ i c, tx[i]? = some c → h 7 i = nI c) ∧ F 20 = fa ∧ F 24 = nI ln.length ∧ ∀ i c, ln[i]? = some c → h 9 i = nI c
theorem lt_len {α : Type} {l : List α} {i : Nat} {w : α} (h : l[i]? = some w) : i < l.length := by
  rcases Nat.lt_or_ge i l.length with q | q
  · exact q
  · rw [List.getElem?_eq_none q] at h; cases h
theorem rowV_x {h h1 : Nat → Nat → Int32} {r : Nat} {w : Vt} (hr : rowV h r w) (h0 : 0 < r) (h9 : r ≤ 9) (hx : ∀ x, 94 ≤ x → x < 940 → h1 1 x = h 1 x) : rowV h1 r w := fun k hk => by
  rw [hx _ (by omega) (by omega)]; exact hr k hk
theorem mX_ext {F F1 : Nat → Int32} {h h1 : Nat → Nat → Int32} {hs : List Vt} {sv : Option Vt} {r : Nat → Int32} {tx : List Nat} {fa : Int32} {ln : List Nat} (m : mX F h hs sv r tx fa ln) (e : F1 2 = F 2 ∧ F1 3 = F 3 ∧ F1 5 = F 5 ∧ F1 6 = F 6 ∧ F1 7 = F 7 ∧ F1 8 = F 8 ∧ F1 17 = F 17 ∧ F1 20 = F 20 ∧ F1 24 = F 24) (e7 : h1 7 = h 7) (e9 : h1 9 = h 9) (hx : ∀ x, 94 ≤ x → x < 940 → h1 1 x = h 1 x) : mX F1 h1 hs sv r tx fa ln := by
  obtain ⟨⟨a1, a2, a3⟩, b, ⟨c1, c2, c3, c4⟩, ⟨d1, d2⟩, f, g1, g2⟩ := m
  obtain ⟨e2, e3, e5, e6, e7', e8, e17, e20, e24⟩ := e
  refine ⟨⟨e2.trans a1, a2, fun i w hw => ?_⟩, ?_, ⟨e5.trans c1, e6.trans c2, e7'.trans c3, fun z => e8.trans (c4 z)⟩, ⟨e17.trans d1, by rw [e7]; exact d2⟩, e20.trans f, e24.trans g1, by rw [e9]; exact g2⟩
  · have := lt_len hw
    exact rowV_x (a3 i w hw) (by omega) (by omega) hx
  · rcases b with ⟨b1, b2⟩ | ⟨w, b1, b2, b3⟩
    · exact Or.inl ⟨b1, e3.trans b2⟩
    · exact Or.inr ⟨w, b1, e3.trans b2, rowV_x b3 (by omega) (by omega) hx⟩
theorem mX_dn {F F1 : Nat → Int32} {h h1 : Nat → Nat → Int32} {hs : List Vt} {sv : Option Vt} {r : Nat → Int32} {tx : List Nat} {fa : Int32} {ln : List Nat} (m : mX F h hs sv r tx fa ln) (d : mdn F h F1 h1) : mX F1 h1 hs sv r tx fa ln :=
  mX_ext m ⟨d.1 2 (by decide) (by decide) (by decide), d.1 3 (by decide) (by decide) (by decide), d.1 5 (by decide) (by decide) (by decide), d.1 6 (by decide) (by decide) (by decide), d.1 7 (by decide) (by decide) (by decide), d.1 8 (by decide) (by decide) (by decide), d.1 17 (by decide) (by decide) (by decide), d.1 20 (by decide) (by decide) (by decide), d.1 24 (by decide) (by decide) (by decide)⟩ (d.2.1 7 (by omega)) (d.2.1 9 (by omega)) (fun x hx _ => d.2.2 x hx)
theorem mX_rF {F : Nat → Int32} {h : Nat → Nat → Int32} {hs : List Vt} {sv : Option Vt} {r : Nat → Int32} {tx : List Nat} {fa : Int32} {ln : List Nat} {y z : Int32} (m : mX F h hs sv r tx fa ln) : mX (rF F y z) h hs sv (rK y z) tx fa ln := by
  obtain ⟨a, b, c, d, f, g⟩ := m
  exact ⟨a, b, ⟨rfl, rfl, rfl, fun q => absurd rfl q⟩, d, f, g⟩
theorem mX_cp {F : Nat → Int32} {h h1 : Nat → Nat → Int32} {hs : List Vt} {sv : Option Vt} {r : Nat → Int32} {tx : List Nat} {fa : Int32} {ln : List Nat} {i j : Nat} (m : mX F h hs sv r tx fa ln) (c : cps h h1 i j) (hj : j = 0 ∨ 10 ≤ j) : mX F h1 hs sv r tx fa ln :=
  mX_ext m ⟨rfl, rfl, rfl, rfl, rfl, rfl, rfl, rfl, rfl⟩ (c.1 7 (by decide)) (c.1 9 (by decide)) (fun x h1 h2 => by rw [c.2, if_neg (by omega)])
theorem mX_F {F F1 : Nat → Int32} {h : Nat → Nat → Int32} {hs : List Vt} {sv : Option Vt} {r : Nat → Int32} {tx : List Nat} {fa : Int32} {ln : List Nat} (m : mX F h hs sv r tx fa ln) (e : F1 2 = F 2 ∧ F1 3 = F 3 ∧ F1 5 = F 5 ∧ F1 6 = F 6 ∧ F1 7 = F 7 ∧ F1 8 = F 8 ∧ F1 17 = F 17 ∧ F1 20 = F 20 ∧ F1 24 = F 24) : mX F1 h hs sv r tx fa ln := mX_ext m e rfl rfl (fun _ _ _ => rfl)
section MST
variable {S0 S : PS} {B : Nat → Nat} {F : Nat → Int32} {h : Nat → Nat → Int32} {v : Vt} {hs : List Vt} {sv : Option Vt} {r : Nat → Int32} {tx : List Nat} {fa : Int32} {ln : List Nat}
theorem mX_0 {x : Int32} (m : mX F h hs sv r tx fa ln) : mX (Fu F 0 x) h hs sv r tx fa ln := mX_F m ⟨rfl, rfl, rfl, rfl, rfl, rfl, rfl, rfl, rfl⟩
end MST

