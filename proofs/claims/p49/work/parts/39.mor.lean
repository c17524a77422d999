/-! orders, as the reference refuses and does them -/
theorem mkV_id (v : Vt) : mkV (v 0) (v 1) (v 2) (v 3) (fun k => v (4 + k)) (wt v) = v := by
  funext k
  unfold mkV
  by_cases h0 : k = 0
  · rw [if_pos h0, h0]
  · rw [if_neg h0]
    by_cases h1 : k = 1
    · rw [if_pos h1, h1]
    · rw [if_neg h1]
      by_cases h2 : k = 2
      · rw [if_pos h2, h2]
      · rw [if_neg h2]
        by_cases h3 : k = 3
        · rw [if_pos h3, h3]
        · rw [if_neg h3]
          by_cases h4 : k < 13
          · rw [if_pos h4]
            show v (4 + (k - 4)) = v k
            rw [show 4 + (k - 4) = k by omega]
          · rw [if_neg h4]
            show v (13 + (9 * ((k - 13) / 9) + (k - 13) % 9)) = v k
            rw [show 13 + (9 * ((k - 13) / 9) + (k - 13) % 9) = k by omega]
/-- besides row 0 nothing has changed of the arrays -/
def rst (h h1 : Nat → Nat → Int32) : Prop := (∀ k, k ≠ 1 → h1 k = h k) ∧ ∀ x, 94 ≤ x → h1 1 x = h 1 x
theorem rst.refl {h : Nat → Nat → Int32} : rst h h := ⟨fun _ _ => rfl, fun _ _ => rfl⟩
theorem rst.trans {h h1 h2 : Nat → Nat → Int32} (a : rst h h1) (b : rst h1 h2) : rst h h2 := ⟨fun k hk => (b.1 k hk).trans (a.1 k hk), fun x hx => (b.2 x hx).trans (a.2 x hx)⟩
theorem rst_hu {h : Nat → Nat → Int32} {j : Nat} {x : Int32} (hj : j < 94) : rst h (hu h 1 j x) := ⟨fun k hk => hu_ne hk, fun y hy => hu_off (by omega)⟩
theorem row0 {h : Nat → Nat → Int32} {v : Vt} (hr : rowV h 0 v) {k : Nat} (hk : k < 94) : h 1 k = nI (v k) := by
  have := hr k hk
  rw [Nat.mul_zero, Nat.zero_add] at this
  exact this
theorem row_of {h : Nat → Nat → Int32} {v : Vt} (hr : ∀ k, k < 94 → h 1 k = nI (v k)) : rowV h 0 v := fun k hk => by rw [Nat.mul_zero, Nat.zero_add]; exact hr k hk
section MKR
variable {h : Nat → Nat → Int32} {n a b c : Nat} {s : Nat → Nat} {W : Nat → Nat → Nat}
theorem row_w {x y z : Nat} (hr : rowV h 0 (mkV n a b c s W)) (hx : x < 9) (hy : y < 9) : rowV (hu h 1 (13 + 9 * x + y) (nI z)) 0 (mkV n a b c s (fun i j => if i = x ∧ j = y then z else W i j)) := row_of (fun k hk => by
  rw [hu_if]
  by_cases e : k = 13 + 9 * x + y
  · rw [if_pos e, e]
    unfold mkV
    rw [if_neg (by omega), if_neg (by omega), if_neg (by omega), if_neg (by omega), if_neg (by omega)]
    dsimp only
    rw [if_pos (show (13 + 9 * x + y - 13) / 9 = x ∧ (13 + 9 * x + y - 13) % 9 = y by omega)]
  · rw [if_neg e, row0 hr hk]
    unfold mkV
    by_cases q : k < 13
    · simp only [if_pos q]
    · simp only [if_neg q]
      rw [if_neg (show ¬ ((k - 13) / 9 = x ∧ (k - 13) % 9 = y) by omega)])
theorem row_s {x z : Nat} (hr : rowV h 0 (mkV n a b c s W)) (hx : x < 9) : rowV (hu h 1 (4 + x) (nI z)) 0 (mkV n a b c (fun i => if i = x then z else s i) W) := row_of (fun k hk => by
  rw [hu_if]
  by_cases e : k = 4 + x
  · rw [if_pos e, e]
    unfold mkV
    rw [if_neg (by omega), if_neg (by omega), if_neg (by omega), if_neg (by omega), if_pos (by omega)]
    dsimp only
    rw [if_pos (show 4 + x - 4 = x by omega)]
  · rw [if_neg e, row0 hr hk]
    unfold mkV
    by_cases q : k < 13
    · by_cases q0 : k = 0
      · simp only [if_pos q0]
      · by_cases q1 : k = 1
        · simp only [if_neg q0, if_pos q1]
        · by_cases q2 : k = 2
          · simp only [if_neg q0, if_neg q1, if_pos q2]
          · by_cases q3 : k = 3
            · simp only [if_neg q0, if_neg q1, if_neg q2, if_pos q3]
            · simp only [if_neg q0, if_neg q1, if_neg q2, if_neg q3, if_pos q]
              rw [if_neg (show ¬ k - 4 = x by omega)]
    · simp only [if_neg q])
theorem row_0 {z : Nat} (hr : rowV h 0 (mkV n a b c s W)) : rowV (hu h 1 0 (nI z)) 0 (mkV z a b c s W) := row_of (fun k hk => by
  rw [hu_if]
  by_cases e : k = 0
  · rw [if_pos e, e]; rfl
  · rw [if_neg e, row0 hr hk]; unfold mkV; rw [if_neg e, if_neg e])
theorem row_1 {z : Nat} (hr : rowV h 0 (mkV n a b c s W)) : rowV (hu h 1 1 (nI z)) 0 (mkV n z b c s W) := row_of (fun k hk => by
  rw [hu_if]
  by_cases e : k = 1
  · rw [if_pos e, e]; rfl
  · rw [if_neg e, row0 hr hk]; unfold mkV; rw [if_neg e, if_neg e])
theorem row_2 {z : Nat} (hr : rowV h 0 (mkV n a b c s W)) : rowV (hu h 1 2 (nI z)) 0 (mkV n a z c s W) := row_of (fun k hk => by
  rw [hu_if]
  by_cases e : k = 2
  · rw [if_pos e, e]; rfl
  · rw [if_neg e, row0 hr hk]; unfold mkV; rw [if_neg e, if_neg e])
theorem row_3 {z : Nat} (hr : rowV h 0 (mkV n a b c s W)) : rowV (hu h 1 3 (nI z)) 0 (mkV n a b z s W) := row_of (fun k hk => by
  rw [hu_if]
  by_cases e : k = 3
  · rw [if_pos e, e]; rfl
  · rw [if_neg e, row0 hr hk]; unfold mkV; rw [if_neg e, if_neg e])
theorem row_ext {s' : Nat → Nat} {W' : Nat → Nat → Nat} (hr : rowV h 0 (mkV n a b c s W)) (hs : ∀ i, i < 9 → s i = s' i) (hW : ∀ i j, i < 9 → j < 9 → W i j = W' i j) : rowV h 0 (mkV n a b c s' W') := row_of (fun k hk => by
  rw [row0 hr hk]
  unfold mkV
  by_cases q : k < 13
  · by_cases q0 : k = 0
    · simp only [if_pos q0]
    · by_cases q1 : k = 1
      · simp only [if_neg q0, if_pos q1]
      · by_cases q2 : k = 2
        · simp only [if_neg q0, if_neg q1, if_pos q2]
        · by_cases q3 : k = 3
          · simp only [if_neg q0, if_neg q1, if_neg q2, if_pos q3]
          · simp only [if_neg q0, if_neg q1, if_neg q2, if_neg q3, if_pos q]
            rw [hs (k - 4) (by omega)]
  · simp only [if_neg q]
    rw [hW _ _ (by omega) (by omega)])
end MKR
section MOR
variable {S0 S : PS} {B : Nat → Nat} {F : Nat → Int32} {h : Nat → Nat → Int32} {v : Vt}
def rF (F : Nat → Int32) (y z : Int32) : Nat → Int32 := Fu (Fu (Fu F 5 y) 6 z) 7 0
theorem rst_all {h h1 : Nat → Nat → Int32} (a : rst h h1) : rst h h1 := a
/-- what an order that is done leaves besides row 0 -/
def mdn (F : Nat → Int32) (h : Nat → Nat → Int32) (F1 : Nat → Int32) (h1 : Nat → Nat → Int32) : Prop := (∀ i, i ≠ 4 → i ≠ 13 → i ≠ 14 → F1 i = F i) ∧ (∀ k, k = 0 ∨ 6 ≤ k → h1 k = h k) ∧ ∀ x, 94 ≤ x → h1 1 x = h 1 x
theorem mdn_of {F : Nat → Int32} {h h1 : Nat → Nat → Int32} {x : Int32} (a : rst h h1) : mdn F h (Fu F 4 x) h1 := ⟨fun i hi _ _ => Fu_ne hi, fun k hk => a.1 k (by omega), a.2⟩
end MOR

