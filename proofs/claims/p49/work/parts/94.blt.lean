/-! the build: households, bonds, acts *(pure)* -/
section BLT
variable {L : Nat} {xs : Nat → Int32} {S : PS} {A : Nat → Nat} {v : Vt} {bc bs k : Nat} {post : PS → Prop}
theorem LV_mono {k k1 : Nat} (h : LV k S A v) (hk : k ≤ k1) : LV k1 S A v := ⟨h.1, ⟨h.2.1.1, h.2.1.2.1, Nat.le_trans h.2.1.2.2.1 hk, Nat.le_trans h.2.1.2.2.2 (Nat.mul_le_mul_left 198 hk)⟩, h.2.2⟩
theorem l_b99 (hL : L ≤ 260) {k0 : Nat} (hk0 : k0 ≤ 800) (next : ∀ S1 v1, LV (k0 + 5) S1 A v1 → post S1) : ∀ i fuel, i ≤ 5 → 5 - i < fuel → ∀ (S : PS) (v : Vt) (bc bs : Nat), LV (k0 + i) S A v → (5 - i) * 6 ≤ bc → (5 - i) * 126 ≤ bs → f_L_build_L99 L xs post fuel S bc bs (A 12) (nI i) := by
  refine lp_im (L := fun fuel i => ∀ (S : PS) (v : Vt) (bc bs : Nat), LV (k0 + i) S A v → (5 - i) * 6 ≤ bc → (5 - i) * 126 ≤ bs → f_L_build_L99 L xs post fuel S bc bs (A 12) (nI i)) (fun fuel i hi ih S v bc bs h h1 h2 => ?_) (fun fuel S v bc bs h h1 h2 => ?_)
  · rw [f_L_build_L99, if_neg (show ¬ (5 : Int32) ≤ nI i from nI_ge (a := i) (b := 5) hi (by decide))]
    refine ⟨6, 126, by omega, by omega, ?_⟩
    have e : (30 : Int32) + ((4 : Int32) * nI i) = nI (30 + 4 * i) := by
      have e4 : (4 : Int32) * nI i = nI (4 * i) := (Int32.ofNat_mul 4 i).symm
      rw [e4]; exact nI_add 30 (4 * i)
    rw [e]
    refine l_acts hL (by omega) h (by omega) (Nat.le_refl _) (Nat.le_refl _) (fun S1 v1 hh => ?_)
    rw [nI_1]
    exact ih S1 v1 _ _ hh (by omega) (by omega)
  · rw [f_L_build_L99, if_pos (show (5 : Int32) ≤ nI 5 from Int32.le_refl _)]
    exact next S v h
theorem l_b82 (hL : L ≤ 260) (hk : k ≤ 800) {g : PS → Nat → Nat → Nat → Int32 → Int32 → Prop} {m p : Nat} {l3 l4 a b : Int32} (h : LV k S A v) (h0 : 0 < m) (hm : m < 2 ^ 31) (hp : p < 2 ^ 31) (h1 : 5 ≤ bc) (h2 : 120 ≤ bs) (next : ∀ S1 v1, LV (k + 1) S1 A v1 → g S1 (bc - 5) (bs - 120) (A 12) l3 (l4 + 1)) : f_L_build_J82 L xs post g S bc bs (A 12) l3 l4 (nI m) (nI p) 1 a b (A 12) := by
  unfold f_L_build_J82
  refine l_some hL hp h0 hm (fun t ht => ⟨5, 120, h1, h2, ?_⟩)
  exact l_bond h (by omega) (Nat.le_refl _) (Nat.le_refl _) (fun z S1 v1 hh => next S1 v1 hh)
theorem l_b32 (hL : L ≤ 260) {k0 n : Nat} (hk0 : k0 ≤ 700) (hn0 : 0 < n) (hn : n ≤ 100) (next : ∀ S1 v1, LV (k0 + 13) S1 A v1 → post S1) : ∀ i fuel, i ≤ 8 → 8 - i < fuel → ∀ (S : PS) (v : Vt) (bc bs : Nat), LV (k0 + i) S A v → (8 - i) * 5 + 30 ≤ bc → (8 - i) * 120 + 630 ≤ bs → f_L_build_L32 L xs post fuel S bc bs (A 12) (nI n) (nI i) := by
  refine lp_im (L := fun fuel i => ∀ (S : PS) (v : Vt) (bc bs : Nat), LV (k0 + i) S A v → (8 - i) * 5 + 30 ≤ bc → (8 - i) * 120 + 630 ≤ bs → f_L_build_L32 L xs post fuel S bc bs (A 12) (nI n) (nI i)) (fun fuel i hi ih S v bc bs h h1 h2 => ?_) (fun fuel S v bc bs h h1 h2 => ?_)
  · rw [f_L_build_L32, if_neg (show ¬ (8 : Int32) ≤ nI i from nI_ge (a := i) (b := 8) hi (by decide))]
    have e1 : (1 : Int32) + nI i = nI (1 + i) := nI_add 1 i
    have e2 : (10 : Int32) + nI i = nI (10 + i) := nI_add 10 i
    have e3 : (20 : Int32) + nI i = nI (20 + i) := nI_add 20 i
    rw [e1, e2, e3]
    refine l_some hL (by omega) hn0 (by omega) (fun t1 ht1 => ?_)
    refine l_some hL (by omega) hn0 (by omega) (fun t2 ht2 => ?_)
    refine l_some hL (k := 19) (m := 2) (by omega) (by omega) (by omega) (fun t3 ht3 => ?_)
    have go : ∀ m : Nat, 0 < m → m < 2 ^ 31 → f_L_build_J82 L xs post (f_L_build_L32 L xs post fuel) S bc bs (A 12) (nI n) (nI i) (nI m) (nI (20 + i)) 1 (nI t2) (nI t1) (A 12) := fun m m0 m1 => by
      refine l_b82 hL (by omega) h m0 m1 (by omega) (by omega) (by omega) (fun S1 v1 hh => ?_)
      rw [nI_1]
      exact ih S1 v1 _ _ hh (by omega) (by omega)
    split
    · exact go 4 (by omega) (by omega)
    · exact go 99 (by omega) (by omega)
  · rw [f_L_build_L32, if_pos (show (8 : Int32) ≤ nI 8 from Int32.le_refl _)]
    exact l_b99 hL (k0 := k0 + 8) (by omega) next 0 4096 (by omega) (by omega) S v bc bs h (by omega) (by omega)
theorem l_build (hL : L ≤ 260) (h : LV 0 S A v) (h1 : 100 ≤ bc) (h2 : 2400 ≤ bs) (next : ∀ S1 v1, LV 20 S1 A v1 → post S1) : f_L_build L xs S (A 12) bc bs post := by
  unfold f_L_build
  refine l_some hL (k := 0) (m := 5) (by omega) (by omega) (by omega) (fun t ht => ?_)
  have e : (2 : Int32) + nI t = nI (2 + t) := nI_add 2 t
  rw [e]
  have W : ∀ i fuel, i ≤ 2 + t → 2 + t - i < fuel → ∀ (S : PS) (v : Vt) (bc bs : Nat), LV i S A v → (2 + t - i) * 5 + 70 ≤ bc → (2 + t - i) * 120 + 1590 ≤ bs → f_L_build_L12 L xs post fuel S bc bs (A 12) (nI (2 + t)) (nI i) := by
    refine lp_im (L := fun fuel i => ∀ (S : PS) (v : Vt) (bc bs : Nat), LV i S A v → (2 + t - i) * 5 + 70 ≤ bc → (2 + t - i) * 120 + 1590 ≤ bs → f_L_build_L12 L xs post fuel S bc bs (A 12) (nI (2 + t)) (nI i)) (fun fuel i hi ih S v bc bs h h1 h2 => ?_) (fun fuel S v bc bs h h1 h2 => ?_)
    · rw [f_L_build_L12, if_neg (nI_ge hi (by omega))]
      refine ⟨5, 120, by omega, by omega, ?_⟩
      refine l_household h (by omega) (Nat.le_refl _) (Nat.le_refl _) (fun z S1 v1 hh => ?_)
      rw [nI_1]
      exact ih S1 v1 _ _ hh (by omega) (by omega)
    · rw [f_L_build_L12, if_pos (nI_le (Nat.le_refl _) (by omega))]
      exact l_b32 hL (k0 := 2 + t) (by omega) (by omega) (by omega) (fun S1 v1 hh => next S1 v1 (LV_mono hh (by omega))) 0 4096 (by omega) (by omega) S v bc bs h (by omega) (by omega)
  exact W 0 4096 (by omega) (by omega) S v bc bs h (by omega) (by omega)
/-- the law's start: the object made, built *(turn: what a turn needs)* -/
theorem l_start {adK : Nat → Nat} {C Z : Nat} (hC : 90200 ≤ C) (hZ : 5766000 ≤ Z) (hL : L ≤ 260) (turn : ∀ (A : Nat → Nat) (S : PS) (v : Vt), LV 20 S A v → f_L_law_L15 adK L xs 4096 S (C - 1 - 40 - 100) (Z - 12 - 3000 - 2400) (A 12) 0) : f_L_law adK L xs S_0 C Z := by
  unfold f_L_law
  refine ⟨by omega, by omega, fun q hq => ?_⟩
  refine ⟨40, 3000, by omega, by omega, ?_⟩
  refine i_class (ow := fun _ => 12) List.mem_cons_self rfl (if_pos rfl) (Nat.le_refl _) (Nat.le_refl _) (fun S1 ow1 A hA k1 c1 => ?_)
  refine ⟨100, 2400, by omega, by omega, ?_⟩
  rw [← hA]
  refine l_build hL (v := v0F) ⟨okV_0, ⟨rfl, Nat.le_refl _, Nat.le_refl _, Nat.le_of_eq (by decide)⟩, ow1, _, _, _, _, _, _, c1⟩ (Nat.le_refl _) (Nat.le_refl _) (fun S2 v2 hh => turn A S2 v2 hh)
end BLT
