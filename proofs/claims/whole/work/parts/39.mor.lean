/-! orders, as the reference refuses and does them -/
theorem mkV_id (v : Vt) : mkV (v 0) (v 1) (v 2) (v 3) (fun k => v (4 + k)) (wt v) = v := by
  funext k
  unfold mkV
  by_cases h0 : k = 0
  · rw [if_pos h0, h0]
  · rw [if_neg h0]
    by_cases h1 : k = 1
    · rw [if_pos h1, h1]
    · rw [if_neg h1]
      by_cases h2 : k = 2
      · rw [if_pos h2, h2]
      · rw [if_neg h2]
        by_cases h3 : k = 3
        · rw [if_pos h3, h3]
        · rw [if_neg h3]
          by_cases h4 : k < 13
          · rw [if_pos h4]
            show v (4 + (k - 4)) = v k
            rw [show 4 + (k - 4) = k by omega]
          · rw [if_neg h4]
            show v (13 + (9 * ((k - 13) / 9) + (k - 13) % 9)) = v k
            rw [show 13 + (9 * ((k - 13) / 9) + (k - 13) % 9) = k by omega]
/-- besides row 0 nothing has changed of the arrays -/
def rst (h h1 : Nat → Nat → Int32) : Prop := (∀ k, k ≠ 1 → h1 k = h k) ∧ ∀ x, 94 ≤ x → h1 1 x = h 1 x
theorem rst.refl {h : Nat → Nat → Int32} : rst h h := ⟨fun _ _ => rfl, fun _ _ => rfl⟩
theorem rst.trans {h h1 h2 : Nat → Nat → Int32} (a : rst h h1) (b : rst h1 h2) : rst h h2 := ⟨fun k hk => (b.1 k hk).trans (a.1 k hk), fun x hx => (b.2 x hx).trans (a.2 x hx)⟩
theorem rst_hu {h : Nat → Nat → Int32} {j : Nat} {x : Int32} (hj : j < 94) : rst h (hu h 1 j x) := ⟨fun k hk => hu_ne hk, fun y hy => hu_off (by omega)⟩
theorem row0 {h : Nat → Nat → Int32} {v : Vt} (hr : rowV h 0 v) {k : Nat} (hk : k < 94) : h 1 k = nI (v k) := by
  have := hr k hk
  rw [Nat.mul_zero, Nat.zero_add] at this
  exact this
theorem row_of {h : Nat → Nat → Int32} {v : Vt} (hr : ∀ k, k < 94 → h 1 k = nI (v k)) : rowV h 0 v := fun k hk => by rw [Nat.mul_zero, Nat.zero_add]; exact hr k hk
section MKR
variable {h : Nat → Nat → Int32} {n a b c : Nat} {s : Nat → Nat} {W : Nat → Nat → Nat}
theorem row_w {x y z : Nat} (hr : rowV h 0 (mkV n a b c s W)) (hx : x < 9) (hy : y < 9) : rowV (hu h 1 (13 + 9 * x + y) (nI z)) 0 (mkV n a b c s (fun i j => if i = x ∧ j = y then z else W i j)) := row_of (fun k hk => by
  rw [hu_if]
  by_cases e : k = 13 + 9 * x + y
  · rw [if_pos e, e]
    unfold mkV
    rw [if_neg (by omega), if_neg (by omega), if_neg (by omega), if_neg (by omega), if_neg (by omega)]
    dsimp only
    rw [if_pos (show (13 + 9 * x + y - 13) / 9 = x ∧ (13 + 9 * x + y - 13) % 9 = y by omega)]
  · rw [if_neg e, row0 hr hk]
    unfold mkV
    by_cases q : k < 13
    · simp only [if_pos q]
    · simp only [if_neg q]
      rw [if_neg (show ¬ ((k - 13) / 9 = x ∧ (k - 13) % 9 = y) by omega)])
theorem row_s {x z : Nat} (hr : rowV h 0 (mkV n a b c s W)) (hx : x < 9) : rowV (hu h 1 (4 + x) (nI z)) 0 (mkV n a b c (fun i => if i = x then z else s i) W) := row_of (fun k hk => by
  rw [hu_if]
  by_cases e : k = 4 + x
  · rw [if_pos e, e]
    unfold mkV
    rw [if_neg (by omega), if_neg (by omega), if_neg (by omega), if_neg (by omega), if_pos (by omega)]
    dsimp only
    rw [if_pos (show 4 + x - 4 = x by omega)]
  · rw [if_neg e, row0 hr hk]
    unfold mkV
    by_cases q : k < 13
    · by_cases q0 : k = 0
      · simp only [if_pos q0]
      · by_cases q1 : k = 1
        · simp only [if_neg q0, if_pos q1]
        · by_cases q2 : k = 2
          · simp only [if_neg q0, if_neg q1, if_pos q2]
          · by_cases q3 : k = 3
            · simp only [if_neg q0, if_neg q1, if_neg q2, if_pos q3]
            · simp only [if_neg q0, if_neg q1, if_neg q2, if_neg q3, if_pos q]
              rw [if_neg (show ¬ k - 4 = x by omega)]
    · simp only [if_neg q])
theorem row_0 {z : Nat} (hr : rowV h 0 (mkV n a b c s W)) : rowV (hu h 1 0 (nI z)) 0 (mkV z a b c s W) := row_of (fun k hk => by
  rw [hu_if]
  by_cases e : k = 0
  · rw [if_pos e, e]; rfl
  · rw [if_neg e, row0 hr hk]; unfold mkV; rw [if_neg e, if_neg e])
theorem row_1 {z : Nat} (hr : rowV h 0 (mkV n a b c s W)) : rowV (hu h 1 1 (nI z)) 0 (mkV n z b c s W) := row_of (fun k hk => by
  rw [hu_if]
  by_cases e : k = 1
  · rw [if_pos e, e]; rfl
  · rw [if_neg e, row0 hr hk]; unfold mkV; rw [if_neg e, if_neg e])
theorem row_2 {z : Nat} (hr : rowV h 0 (mkV n a b c s W)) : rowV (hu h 1 2 (nI z)) 0 (mkV n a z c s W) := row_of (fun k hk => by
  rw [hu_if]
  by_cases e : k = 2
  · rw [if_pos e, e]; rfl
  · rw [if_neg e, row0 hr hk]; unfold mkV; rw [if_neg e, if_neg e])
theorem row_3 {z : Nat} (hr : rowV h 0 (mkV n a b c s W)) : rowV (hu h 1 3 (nI z)) 0 (mkV n a b z s W) := row_of (fun k hk => by
  rw [hu_if]
  by_cases e : k = 3
  · rw [if_pos e, e]; rfl
  · rw [if_neg e, row0 hr hk]; unfold mkV; rw [if_neg e, if_neg e])
theorem row_ext {s' : Nat → Nat} {W' : Nat → Nat → Nat} (hr : rowV h 0 (mkV n a b c s W)) (hs : ∀ i, i < 9 → s i = s' i) (hW : ∀ i j, i < 9 → j < 9 → W i j = W' i j) : rowV h 0 (mkV n a b c s' W') := row_of (fun k hk => by
  rw [row0 hr hk]
  unfold mkV
  by_cases q : k < 13
  · by_cases q0 : k = 0
    · simp only [if_pos q0]
    · by_cases q1 : k = 1
      · simp only [if_neg q0, if_pos q1]
      · by_cases q2 : k = 2
        · simp only [if_neg q0, if_neg q1, if_pos q2]
        · by_cases q3 : k = 3
          · simp only [if_neg q0, if_neg q1, if_neg q2, if_pos q3]
          · simp only [if_neg q0, if_neg q1, if_neg q2, if_neg q3, if_pos q]
            rw [hs (k - 4) (by omega)]
  · simp only [if_neg q]
    rw [hW _ _ (by omega) (by omega)])
end MKR
section MOR
variable {S0 S : PS} {B : Nat → Nat} {F : Nat → Int32} {h : Nat → Nat → Int32} {v : Vt}
theorem r_isHouse {m al : Nat} {x : Int32} {post : Int32 → PS → Prop} (hR : isR S m al v) (h0 : v 0 ≤ 9) : f_X8_isHouse S m x post = post (if inb v x = true then 1 else 0) S := by
  unfold f_X8_isHouse f_X8_in
  rw [R0 hR, RA0 hR]
  by_cases hx : x < 0
  · rw [if_pos hx, nZ0]
    dsimp only
    rw [nZ0, if_neg (fun z => (inb_iff.mp z).1 hx)]
  · rw [if_neg hx]
    obtain ⟨j, hj, rfl⟩ := nI_of hx
    have e : (nI (v 0) - 1 < nI j) ↔ nI (v 0) ≤ nI j := by
      by_cases hz : v 0 = 0
      · rw [hz]
        exact ⟨fun _ => nI_pos' hj, fun _ => Int32.lt_of_lt_of_le (show nI 0 - 1 < 0 by decide) (nI_pos' hj)⟩
      · rw [n1, pk_sub (by omega), nI_ltI (by omega) hj, nI_leI (by omega) hj]; omega
    by_cases q : nI (v 0) ≤ nI j
    · rw [if_pos (e.mpr q), nZ0]
      dsimp only
      rw [nZ0, if_neg (fun z => (inb_iff.mp z).2 q)]
    · rw [if_neg (fun z => q (e.mp z)), nZ1]
      dsimp only
      rw [nZ1, if_pos (inb_iff.mpr ⟨hx, q⟩)]
theorem r_ref0 {m : Nat} {y z : Int32} {post : Int32 → PS → Prop} : f_X8_refuses S m 0 y z post = post 0 S := by
  unfold f_X8_refuses
  rw [if_pos rfl, nZ0]
def rF (F : Nat → Int32) (y z : Int32) : Nat → Int32 := Fu (Fu (Fu F 5 y) 6 z) 7 0
theorem r_ref1 {y z : Int32} {post : Int32 → PS → Prop} (hB : oB 10 S0 B) (H : RS S0 B F h S) (next : ∀ S1, RS S0 B (rF F y z) h S1 → post 1 S1) : f_X8_refuses S (B 0) 1 y z post := by
  unfold f_X8_refuses
  rw [if_neg (by decide)]
  refine OS_pV hB (by omega) H (f := 5) rfl (by show 5 < 25; decide) (fun S2 H2 => ?_)
  refine OS_pV hB (by omega) H2 (f := 6) rfl (by show 6 < 25; decide) (fun S3 H3 => ?_)
  refine OS_pV hB (by omega) H3 (f := 7) rfl (by show 7 < 25; decide) (fun S4 H4 => ?_)
  rw [nZ1]
  exact next S4 H4
theorem r_isNone {x : Int32} {post : Int32 → PS → Prop} (hB : oB 10 S0 B) (H : RS S0 B F h S) (hr : rowV h 0 v) (h9 : v 0 ≤ 9) (h0 : inb v x = true → post 0 S) (next : inb v x = false → ∀ S1, RS S0 B (rF F 2 x) h S1 → post 1 S1) : f_X8_isNone S (B 0) x post := by
  have hR := RS_isR hB H hr
  unfold f_X8_isNone
  rw [RO hR, r_isHouse hR h9]
  unfold f_X8_isNone_J14
  cases hb : inb v x with
  | true =>
    rw [if_pos rfl, if_neg (by decide), RO hR, r_ref0, nZ0]
    exact h0 hb
  | false =>
    rw [if_neg (show ¬ false = true by decide), if_pos rfl, RO hR]
    refine r_ref1 hB H (fun S1 H1 => ?_)
    rw [nZ1]
    exact next hb S1 H1
theorem r_areNone {x y : Int32} {post : Int32 → PS → Prop} (hB : oB 10 S0 B) (H : RS S0 B F h S) (hr : rowV h 0 v) (h9 : v 0 ≤ 9) (h0 : pairR v x y = none → post 0 S) (next : ∀ q, pairR v x y = some q → ∀ S1, RS S0 B (rF F q.1 q.2) h S1 → post 1 S1) : f_X8_areNone S (B 0) x y post := by
  unfold f_X8_areNone
  rw [OS_isO hB (by omega) H]
  refine r_isNone hB H hr h9 (fun hx => ?_) (fun hx S1 H1 => ?_)
  · rw [if_pos rfl, OS_isO hB (by omega) H]
    refine r_isNone hB H hr h9 (fun hy => ?_) (fun hy S1 H1 => ?_)
    · rw [if_pos rfl]
      unfold f_X8_areNone_J27
      by_cases e : x = y
      · rw [if_pos e, OS_isO hB (by omega) H]
        refine r_ref1 hB H (fun S1 H1 => ?_)
        rw [if_neg (by decide), nZ1]
        exact next (3, x) (by unfold pairR; rw [if_pos hx, if_pos hy, if_pos e]) S1 H1
      · rw [if_neg e, OS_isO hB (by omega) H, r_ref0, if_pos rfl, nZ0]
        exact h0 (by unfold pairR; rw [if_pos hx, if_pos hy, if_neg e])
    · rw [if_neg (by decide), nZ1]
      exact next (2, y) (by unfold pairR; rw [if_pos hx, if_neg (by rw [hy]; decide)]) S1 H1
  · rw [if_neg (by decide), nZ1]
    exact next (2, x) (by unfold pairR; rw [if_neg (by rw [hx]; decide)]) S1 H1
theorem r_setBond {n a b c x y z : Nat} {s : Nat → Nat} {W : Nat → Nat → Nat} {post : PS → Prop} (hB : oB 10 S0 B) (H : RS S0 B F h S) (hr : rowV h 0 (mkV n a b c s W)) (hx : x < 9) (hy : y < 9)
    (next : ∀ S1 h1, RS S0 B F h1 S1 → rst h h1 → rowV h1 0 (mkV n a b c s (fun i j => if (i = x ∧ j = y) ∨ (i = y ∧ j = x) then z else W i j)) → post S1) : f_X8_setBond S (B 0) (nI x) (nI y) (nI z) post := by
  unfold f_X8_setBond
  rw [OS_gR hB (by omega) H (k := 1) (f := 1) rfl, n13, n9, pk_mul, nI_add, nI_add]
  refine OS_sI hB (by omega) H (k := 1) (by omega) (show 13 + 9 * x + y < 1128 by omega) (by decide) (fun S2 H2 => ?_)
  rw [OS_gR hB (by omega) H2 (k := 1) (f := 1) rfl, pk_mul, nI_add, nI_add]
  refine OS_sI hB (by omega) H2 (k := 1) (by omega) (show 13 + 9 * y + x < 1128 by omega) (by decide) (fun S3 H3 => ?_)
  refine next S3 _ H3 ((rst_hu (by omega)).trans (rst_hu (by omega))) (row_ext (row_w (row_w hr hx hy) hy hx) (fun _ _ => rfl) (fun i j hi hj => ?_))
  by_cases e : (i = x ∧ j = y) ∨ (i = y ∧ j = x)
  · rw [if_pos e]
    by_cases e2 : i = y ∧ j = x
    · rw [if_pos e2]
    · rw [if_neg e2, if_pos (by omega)]
  · rw [if_neg e, if_neg (by omega), if_neg (by omega)]
theorem r_wm {n a b c x y : Nat} {s : Nat → Nat} {W : Nat → Nat → Nat} {post : Int32 → PS → Prop} (hB : oB 10 S0 B) (H : RS S0 B F h S) (hr : rowV h 0 (mkV n a b c s W)) (hx : x < 9) (hy : y < 9) : f_X8_w S (B 0) (nI x) (nI y) post = post (nI (W x y)) S := by
  rw [r_w (RS_isR hB H hr) hx hy, mk_w hy]
theorem rst_all {h h1 : Nat → Nat → Int32} (a : rst h h1) : rst h h1 := a
/-- what an order that is done leaves besides row 0 -/
def mdn (F : Nat → Int32) (h : Nat → Nat → Int32) (F1 : Nat → Int32) (h1 : Nat → Nat → Int32) : Prop := (∀ i, i ≠ 4 → i ≠ 13 → i ≠ 14 → F1 i = F i) ∧ (∀ k, k = 0 ∨ 6 ≤ k → h1 k = h k) ∧ ∀ x, 94 ≤ x → h1 1 x = h 1 x
theorem mdn_of {F : Nat → Int32} {h h1 : Nat → Nat → Int32} {x : Int32} (a : rst h h1) : mdn F h (Fu F 4 x) h1 := ⟨fun i hi _ _ => Fu_ne hi, fun k hk => a.1 k (by omega), a.2⟩
theorem r_comes {post : Int32 → PS → Prop} (hB : oB 10 S0 B) (H : RS S0 B F h S) (hr : rowV h 0 v) (hv : okS v) (h0 : ∀ q, refR v 0 0 0 0 = some q → ∀ S1, RS S0 B (rF F q.1 q.2) h S1 → post 0 S1) (next : refR v 0 0 0 0 = none → ∀ S1 F1 h1, RS S0 B F1 h1 S1 → mdn F h F1 h1 → F1 4 = nI (v 0) → rowV h1 0 (vCom v) → post 1 S1) : f_X8_comes S (B 0) post := by
  have h9 := hv.1
  have hR := RS_isR hB H hr
  unfold f_X8_comes
  rw [R0 hR, RA0 hR]
  unfold f_X8_comes_J19
  by_cases e : v 0 = 9
  · rw [if_pos (by rw [e]; rfl), OS_isO hB (by omega) H]
    refine r_ref1 hB H (fun S1 H1 => ?_)
    rw [if_neg (by decide), nZ0]
    exact h0 (1, 9) (if_pos e) S1 H1
  · have hr' : rowV h 0 (mkV (v 0) (v 1) (v 2) (v 3) (fun k => v (4 + k)) (wt v)) := by rw [mkV_id]; exact hr
    rw [if_neg (show ¬ nI (v 0) = 9 from fun z => e ((nI_eq (by omega) (show 9 < 2 ^ 31 by omega)).mp z)), OS_isO hB (by omega) H, r_ref0, if_pos rfl, OS_gR hB (by omega) H (k := 1) (f := 1) rfl, RA0 hR, nI_1]
    refine OS_sI hB (by omega) H (k := 1) (j := 0) (by omega) (show 0 < 1128 by omega) (by decide) (fun S2 H2 => ?_)
    have r2 := row_0 (z := v 0 + 1) hr'
    rw [OS_gR hB (by omega) H2 (k := 1) (f := 1) rfl]
    show aI S2 (B 1) 0 (nI 1) _
    rw [OS_aI hB H2 (k := 1) (j := 1) (by omega) (show 1 < 1128 by omega) (by decide), row0 r2 (k := 1) (by omega), mk_1, nI_1]
    refine OS_sI hB (by omega) H2 (k := 1) (j := 1) (by omega) (show 1 < 1128 by omega) (by decide) (fun S3 H3 => ?_)
    have r3 := row_1 (z := v 1 + 1) r2
    rw [OS_gR hB (by omega) H3 (k := 1) (f := 1) rfl, n4, nI_add]
    refine OS_sI (x := nI 0) hB (by omega) H3 (k := 1) (by omega) (show 4 + v 0 < 1128 by omega) (by decide) (fun S4 H4 => ?_)
    have r4 := row_ext (s' := fun k => v (4 + k)) (W' := wt v) (row_s (z := 0) r3 (show v 0 < 9 by omega)) (fun i hi => by
      by_cases q : i = v 0
      · rw [if_pos q, hv.2.2.1 i hi (by omega)]
      · rw [if_neg q]) (fun _ _ _ _ => rfl)
    have t4 : rst h (hu (hu (hu h 1 0 (nI (v 0 + 1))) 1 1 (nI (v 1 + 1))) 1 (4 + v 0) (nI 0)) := ((rst_hu (by omega)).trans (rst_hu (by omega))).trans (rst_hu (by omega))
    have key := loop_i (W := fun fuel l (s : PS × (Nat → Nat → Int32)) => f_X8_comes_L61 post fuel s.1 (B 0) (nI (v 0)) (nI l))
      (I := fun _ s => RS S0 B F s.2 s.1 ∧ rst h s.2 ∧ rowV s.2 0 (vCom v)) 9 (fun n s hI => by
        obtain ⟨c1, c2, c3⟩ := hI
        show f_X8_comes_L61 post (n + 1) s.1 (B 0) (nI (v 0)) (nI 9)
        simp only [f_X8_comes_L61, f_X8_comes_J80]
        rw [if_pos (by rw [n9]; exact Int32.le_refl _)]
        refine OS_pV hB (by omega) c1 (f := 4) rfl (by show 4 < 25; decide) (fun S5 H5 => ?_)
        rw [nZ1]
        exact next (if_neg e) S5 _ s.2 H5 (mdn_of c2) Fu_at c3) (fun n l s hl hI ih => by
        obtain ⟨c1, c2, c3⟩ := hI
        show f_X8_comes_L61 post (n + 1) s.1 (B 0) (nI (v 0)) (nI l)
        simp only [f_X8_comes_L61]
        rw [if_neg (by rw [n9]; exact nI_ge hl (by omega)), OS_isO hB (by omega) c1, nI_1]
        show f_X8_setBond s.1 (B 0) (nI (v 0)) (nI l) (nI 0) _
        refine r_setBond hB c1 (n := v 0 + 1) (a := v 1 + 1) (b := v 2) (c := v 3) (s := fun k => v (4 + k)) (W := wt v) c3 (by omega) hl (fun S5 h5 H5 t5 r5 => ?_)
        refine ih (S5, h5) ⟨H5, c2.trans t5, row_ext r5 (fun _ _ => rfl) (fun i j hi hj => ?_)⟩
        by_cases q : (i = v 0 ∧ j = l) ∨ (i = l ∧ j = v 0)
        · rw [if_pos q, hv.out hi hj (by omega)]
        · rw [if_neg q]) 4096 0 (S4, _) (by omega) (by omega) ⟨H4, t4, r4⟩
    exact key
theorem r_goes {g : Nat} {post : PS → Prop} (hB : oB 10 S0 B) (H : RS S0 B F h S) (hr : rowV h 0 v) (hv : okG v) (hg : g < v 0) (next : ∀ S1 h1, RS S0 B F h1 S1 → rst h h1 → rowV h1 0 (vGo v g) → post S1) : f_X8_goes S (B 0) (nI g) post := by
  have h9 := hv.1
  have hR := RS_isR hB H hr
  have hr' : rowV h 0 (mkV (v 0) (v 1) (v 2) (v 3) (fun k => v (4 + k)) (wt v)) := by rw [mkV_id]; exact hr
  obtain ⟨W1, hW1⟩ : ∃ W1 : Nat → Nat → Nat, W1 = fun x y => if x + 1 = v 0 then 0 else if g ≤ x ∧ x + 1 < v 0 then wt v (x + 1) y else wt v x y := ⟨_, rfl⟩
  obtain ⟨s1, hs1⟩ : ∃ s1 : Nat → Nat, s1 = fun i => if g ≤ i ∧ i + 1 < v 0 then v (4 + (i + 1)) else v (4 + i) := ⟨_, rfl⟩
  -- columns
  have cols := fun (h2 : Nat → Nat → Int32) (S2 : PS) (H2 : RS S0 B F h2 S2) (t2 : rst h h2) (r2 : rowV h2 0 (mkV (v 0) (v 1) (v 2) (v 3) s1 W1)) => loop_i (W := fun fuel x (s : PS × (Nat → Nat → Int32)) => f_X8_goes_L111 post fuel s.1 (B 0) (nI g) (nI (v 0 - 1)) (nI x))
    (I := fun x s => RS S0 B F s.2 s.1 ∧ rst h s.2 ∧ rowV s.2 0 (mkV (v 0) (v 1) (v 2) (v 3) s1 (fun i j => if i < x then (if j + 1 = v 0 then 0 else if g ≤ j ∧ j + 1 < v 0 then W1 i (j + 1) else W1 i j) else W1 i j))) 9 (fun n s hI => by
      obtain ⟨c1, c2, c3⟩ := hI
      show f_X8_goes_L111 post (n + 1) s.1 (B 0) (nI g) (nI (v 0 - 1)) (nI 9)
      simp only [f_X8_goes_L111]
      rw [if_pos (by rw [n9]; exact Int32.le_refl _)]
      unfold f_X8_goes_J177
      rw [OS_gR hB (by omega) c1 (k := 1) (f := 1) rfl, n4, nI_add]
      refine OS_sI (x := nI 0) hB (by omega) c1 (k := 1) (by omega) (show 4 + (v 0 - 1) < 1128 by omega) (by decide) (fun S3 H3 => ?_)
      have r3 := row_s (z := 0) c3 (show v 0 - 1 < 9 by omega)
      rw [OS_gR hB (by omega) H3 (k := 1) (f := 1) rfl]
      show aI S3 (B 1) 0 (nI 0) _
      rw [OS_aI hB H3 (k := 1) (by omega) (show 0 < 1128 by omega) (by decide), row0 r3 (k := 0) (by omega), mk_0, show nI (v 0) - 1 = nI (v 0 - 1) by rw [n1, pk_sub (by omega)]]
      refine OS_sI hB (by omega) H3 (k := 1) (j := 0) (by omega) (show 0 < 1128 by omega) (by decide) (fun S4 H4 => ?_)
      have r4 := row_0 (z := v 0 - 1) r3
      rw [OS_gR hB (by omega) H4 (k := 1) (f := 1) rfl]
      show aI S4 (B 1) 0 (nI 2) _
      rw [OS_aI hB H4 (k := 1) (by omega) (show 2 < 1128 by omega) (by decide), row0 r4 (k := 2) (by omega), mk_2, nI_1]
      refine OS_sI hB (by omega) H4 (k := 1) (j := 2) (by omega) (show 2 < 1128 by omega) (by decide) (fun S5 H5 => ?_)
      have r5 := row_2 (z := v 2 + 1) r4
      refine next S5 _ H5 (((c2.trans (rst_hu (by omega))).trans (rst_hu (by omega))).trans (rst_hu (by omega))) (row_ext r5 (fun i hi => ?_) (fun i j hi hj => ?_))
      · rw [hs1]
        dsimp only
        by_cases q1 : i = v 0 - 1
        · rw [if_pos q1, if_neg (by omega)]
        · rw [if_neg q1]
          by_cases q2 : i + 1 < v 0
          · rw [if_pos q2]
            unfold sh
            by_cases q3 : i < g
            · rw [if_neg (by omega), if_pos q3]
            · rw [if_pos (by omega), if_neg q3]
          · rw [if_neg (by omega), if_neg q2, hv.2.2.1 i hi (by omega)]
      · rw [if_pos hi, hW1]
        dsimp only
        by_cases q1 : i + 1 < v 0 ∧ j + 1 < v 0
        · rw [if_pos q1]
          unfold sh
          by_cases a1 : i < g <;> by_cases a2 : j < g
          · rw [if_neg (by omega), if_neg (by omega), if_neg (by omega), if_neg (by omega), if_pos a1, if_pos a2]
          · rw [if_neg (by omega), if_pos (by omega), if_neg (by omega), if_neg (by omega), if_pos a1, if_neg a2]
          · rw [if_neg (by omega), if_neg (by omega), if_neg (by omega), if_pos (by omega), if_neg a1, if_pos a2]
          · rw [if_neg (by omega), if_pos (by omega), if_neg (by omega), if_pos (by omega), if_neg a1, if_neg a2]
        · rw [if_neg q1]
          by_cases q2 : j + 1 = v 0
          · rw [if_pos q2]
          · rw [if_neg q2]
            by_cases q3 : i + 1 = v 0
            · by_cases q4 : g ≤ j ∧ j + 1 < v 0
              · rw [if_pos q4, if_pos q3]
              · rw [if_neg q4, if_pos q3]
            · by_cases q4 : g ≤ j ∧ j + 1 < v 0
              · rw [if_pos q4, if_neg q3, if_neg (by omega), hv.2.2.2 i (j + 1) hi (by omega) (by omega)]
              · rw [if_neg q4, if_neg q3]
                by_cases q5 : g ≤ i ∧ i + 1 < v 0
                · rw [if_pos q5, hv.2.2.2 (i + 1) j (by omega) hj (by omega)]
                · rw [if_neg q5, hv.2.2.2 i j hi hj (by omega)]) (fun n x s hx hI ih => by
      obtain ⟨c1, c2, c3⟩ := hI
      have inn := loop_i (W := fun fuel y (s2 : PS × (Nat → Nat → Int32)) => f_X8_goes_L120 post (f_X8_goes_L111 post n) fuel s2.1 (B 0) (nI g) (nI (v 0 - 1)) (nI x) (nI y))
        (I := fun y s2 => g ≤ y ∧ RS S0 B F s2.2 s2.1 ∧ rst h s2.2 ∧ rowV s2.2 0 (mkV (v 0) (v 1) (v 2) (v 3) s1 (fun i j => if i < x then (if j + 1 = v 0 then 0 else if g ≤ j ∧ j + 1 < v 0 then W1 i (j + 1) else W1 i j) else if i = x ∧ g ≤ j ∧ j < y then W1 i (j + 1) else W1 i j))) (v 0 - 1) (fun n' s2 hI => by
          obtain ⟨-, d1, d2, d3⟩ := hI
          show f_X8_goes_L120 post (f_X8_goes_L111 post n) (n' + 1) s2.1 (B 0) (nI g) (nI (v 0 - 1)) (nI x) (nI (v 0 - 1))
          simp only [f_X8_goes_L120, f_X8_goes_J156]
          rw [if_pos (Int32.le_refl _), OS_gR hB (by omega) d1 (k := 1) (f := 1) rfl, n13, n9, pk_mul, nI_add, nI_add, nI_1]
          refine OS_sI (x := nI 0) hB (by omega) d1 (k := 1) (by omega) (show 13 + 9 * x + (v 0 - 1) < 1128 by omega) (by decide) (fun S3 H3 => ?_)
          refine ih (S3, _) ⟨H3, d2.trans (rst_hu (by omega)), row_ext (row_w (z := 0) d3 hx (by omega)) (fun _ _ => rfl) (fun i j hi hj => ?_)⟩
          by_cases q1 : i = x ∧ j = v 0 - 1
          · rw [if_pos q1, if_pos (by omega), if_pos (by omega)]
          · rw [if_neg q1]
            by_cases q2 : i < x
            · rw [if_pos q2, if_pos (show i < x + 1 by omega)]
            · rw [if_neg q2]
              by_cases q3 : i = x
              · rw [if_pos (show i < x + 1 by omega), if_neg (show ¬ j + 1 = v 0 by omega)]
                by_cases q4 : g ≤ j ∧ j + 1 < v 0
                · rw [if_pos q4, if_pos ⟨q3, by omega, by omega⟩]
                · rw [if_neg q4, if_neg (by omega)]
              · rw [if_neg (show ¬ i < x + 1 by omega), if_neg (by omega)]) (fun n' y s2 hy hI ih2 => by
          obtain ⟨hgy, d1, d2, d3⟩ := hI
          show f_X8_goes_L120 post (f_X8_goes_L111 post n) (n' + 1) s2.1 (B 0) (nI g) (nI (v 0 - 1)) (nI x) (nI y)
          simp only [f_X8_goes_L120]
          rw [if_neg (nI_ge hy (by omega)), OS_gR hB (by omega) d1 (k := 1) (f := 1) rfl, OS_isO hB (by omega) d1, nI_1, r_wm hB d1 d3 hx (by omega), if_neg (show ¬ x < x by omega), if_neg (show ¬ (x = x ∧ g ≤ y + 1 ∧ y + 1 < y) by omega), n13, n9, pk_mul, nI_add, nI_add]
          refine OS_sI hB (by omega) d1 (k := 1) (by omega) (show 13 + 9 * x + y < 1128 by omega) (by decide) (fun S3 H3 => ?_)
          refine ih2 (S3, _) ⟨by omega, H3, d2.trans (rst_hu (by omega)), row_ext (row_w (z := W1 x (y + 1)) d3 hx (by omega)) (fun _ _ => rfl) (fun i j hi hj => ?_)⟩
          by_cases q1 : i = x ∧ j = y
          · rw [if_pos q1, if_neg (by omega), if_pos (by omega), q1.1, q1.2]
          · rw [if_neg q1]
            by_cases q2 : i < x
            · rw [if_pos q2, if_pos q2]
            · rw [if_neg q2, if_neg q2]
              by_cases q3 : i = x ∧ g ≤ j ∧ j < y
              · rw [if_pos q3, if_pos (by omega)]
              · rw [if_neg q3, if_neg (by omega)]) 4096 g s (by omega) (by omega) ⟨Nat.le_refl _, c1, c2, row_ext c3 (fun _ _ => rfl) (fun i j hi hj => by
            by_cases q2 : i < x
            · rw [if_pos q2, if_pos q2]
            · rw [if_neg q2, if_neg q2, if_neg (by omega)])⟩
      show f_X8_goes_L111 post (n + 1) s.1 (B 0) (nI g) (nI (v 0 - 1)) (nI x)
      simp only [f_X8_goes_L111]
      rw [if_neg (by rw [n9]; exact nI_ge hx (by omega))]
      exact inn) 4096 0 (S2, h2) (by omega) (by omega) ⟨H2, t2, row_ext r2 (fun _ _ => rfl) (fun i j _ _ => by rw [if_neg (by omega)])⟩
  -- rows
  have rows := loop_i (W := fun fuel k (s : PS × (Nat → Nat → Int32)) => f_X8_goes_L11 post fuel s.1 (B 0) (nI g) (nI (v 0 - 1)) (nI k))
    (I := fun k s => g ≤ k ∧ RS S0 B F s.2 s.1 ∧ rst h s.2 ∧ rowV s.2 0 (mkV (v 0) (v 1) (v 2) (v 3) (fun i => if g ≤ i ∧ i < k then v (4 + (i + 1)) else v (4 + i)) (fun i j => if g ≤ i ∧ i < k then wt v (i + 1) j else wt v i j))) (v 0 - 1) (fun n s hI => ?_) (fun n k s hk hI ih => ?_) 4096 g (S, h) (by omega) (by omega) ⟨Nat.le_refl _, H, rst.refl, row_ext hr' (fun i _ => by rw [if_neg (by omega)]) (fun i j _ _ => by rw [if_neg (by omega)])⟩
  · unfold f_X8_goes
    rw [R0 hR, RA0 hR, show nI (v 0) - 1 = nI (v 0 - 1) by rw [n1, pk_sub (by omega)]]
    exact rows
  · obtain ⟨-, c1, c2, c3⟩ := hI
    have lst := loop_i (W := fun fuel y (s2 : PS × (Nat → Nat → Int32)) => f_X8_goes_L82 post fuel s2.1 (B 0) (nI g) (nI (v 0 - 1)) (nI y))
      (I := fun y s2 => RS S0 B F s2.2 s2.1 ∧ rst h s2.2 ∧ rowV s2.2 0 (mkV (v 0) (v 1) (v 2) (v 3) s1 (fun i j => if i + 1 = v 0 ∧ j < y then 0 else if g ≤ i ∧ i + 1 < v 0 then wt v (i + 1) j else wt v i j))) 9 (fun n' s2 hI => ?_) (fun n' y s2 hy hI ih2 => ?_) 4096 0 s (by omega) (by omega) ⟨c1, c2, row_ext c3 (fun i _ => by
        rw [hs1]
        by_cases q : g ≤ i ∧ i < v 0 - 1
        · rw [if_pos q]; dsimp only; rw [if_pos (by omega)]
        · rw [if_neg q]; dsimp only; rw [if_neg (by omega)]) (fun i j _ _ => by
        rw [if_neg (show ¬ (i + 1 = v 0 ∧ j < 0) by omega)]
        by_cases q : g ≤ i ∧ i < v 0 - 1
        · rw [if_pos q, if_pos (by omega)]
        · rw [if_neg q, if_neg (by omega)])⟩
    · show f_X8_goes_L11 post (n + 1) s.1 (B 0) (nI g) (nI (v 0 - 1)) (nI (v 0 - 1))
      simp only [f_X8_goes_L11, f_X8_goes_J80]
      rw [if_pos (Int32.le_refl _)]
      exact lst
    · obtain ⟨d1, d2, d3⟩ := hI
      show f_X8_goes_L82 post (n' + 1) s2.1 (B 0) (nI g) (nI (v 0 - 1)) (nI 9)
      simp only [f_X8_goes_L82, f_X8_goes_J109]
      rw [if_pos (by rw [n9]; exact Int32.le_refl _)]
      refine cols s2.2 s2.1 d1 d2 (row_ext d3 (fun _ _ => rfl) (fun i j _ hj => ?_))
      rw [hW1]
      by_cases q : i + 1 = v 0
      · rw [if_pos ⟨q, hj⟩]; dsimp only; rw [if_pos q]
      · rw [if_neg (fun z => q z.1)]; dsimp only; rw [if_neg q]
    · obtain ⟨d1, d2, d3⟩ := hI
      show f_X8_goes_L82 post (n' + 1) s2.1 (B 0) (nI g) (nI (v 0 - 1)) (nI y)
      simp only [f_X8_goes_L82]
      rw [if_neg (by rw [n9]; exact nI_ge hy (by omega)), OS_gR hB (by omega) d1 (k := 1) (f := 1) rfl, n13, n9, pk_mul, nI_add, nI_add, nI_1]
      refine OS_sI (x := nI 0) hB (by omega) d1 (k := 1) (by omega) (show 13 + 9 * (v 0 - 1) + y < 1128 by omega) (by decide) (fun S3 H3 => ?_)
      refine ih2 (S3, _) ⟨H3, d2.trans (rst_hu (by omega)), row_ext (row_w (z := 0) d3 (by omega) hy) (fun _ _ => rfl) (fun i j hi hj => ?_)⟩
      by_cases q1 : i = v 0 - 1 ∧ j = y
      · rw [if_pos q1, if_pos (by omega)]
      · rw [if_neg q1]
        by_cases q2 : i + 1 = v 0 ∧ j < y
        · rw [if_pos q2, if_pos (by omega)]
        · rw [if_neg q2, if_neg (show ¬ (i + 1 = v 0 ∧ j < y + 1) by omega)]
  · obtain ⟨hgk, c1, c2, c3⟩ := hI
    have e1 : s.2 1 (4 + (k + 1)) = nI (v (4 + (k + 1))) := by rw [row0 c3 (by omega), mk_s (by omega), if_neg (by omega)]
    -- one row
    have row := fun (S3 : PS) (h3 : Nat → Nat → Int32) (H3 : RS S0 B F h3 S3) (t3 : rst h h3) (r3 : rowV h3 0 (mkV (v 0) (v 1) (v 2) (v 3) (fun i => if g ≤ i ∧ i < k + 1 then v (4 + (i + 1)) else v (4 + i)) (fun i j => if g ≤ i ∧ i < k then wt v (i + 1) j else wt v i j))) => loop_i (W := fun fuel y (s2 : PS × (Nat → Nat → Int32)) => f_X8_goes_L37 post (f_X8_goes_L11 post n) fuel s2.1 (B 0) (nI g) (nI (v 0 - 1)) (nI k) (nI y))
      (I := fun y s2 => RS S0 B F s2.2 s2.1 ∧ rst h s2.2 ∧ rowV s2.2 0 (mkV (v 0) (v 1) (v 2) (v 3) (fun i => if g ≤ i ∧ i < k + 1 then v (4 + (i + 1)) else v (4 + i)) (fun i j => if (g ≤ i ∧ i < k) ∨ (i = k ∧ j < y) then wt v (i + 1) j else wt v i j))) 9 (fun n' s2 hI => by
        obtain ⟨d1, d2, d3⟩ := hI
        show f_X8_goes_L37 post (f_X8_goes_L11 post n) (n' + 1) s2.1 (B 0) (nI g) (nI (v 0 - 1)) (nI k) (nI 9)
        simp only [f_X8_goes_L37, f_X8_goes_J74]
        rw [if_pos (by rw [n9]; exact Int32.le_refl _), nI_1]
        refine ih s2 ⟨by omega, d1, d2, row_ext d3 (fun _ _ => rfl) (fun i j _ hj => ?_)⟩
        by_cases q : g ≤ i ∧ i < k + 1
        · rw [if_pos q, if_pos (by omega)]
        · rw [if_neg q, if_neg (by omega)]) (fun n' y s2 hy hI ih2 => by
        obtain ⟨d1, d2, d3⟩ := hI
        show f_X8_goes_L37 post (f_X8_goes_L11 post n) (n' + 1) s2.1 (B 0) (nI g) (nI (v 0 - 1)) (nI k) (nI y)
        simp only [f_X8_goes_L37]
        rw [if_neg (by rw [n9]; exact nI_ge hy (by omega)), OS_gR hB (by omega) d1 (k := 1) (f := 1) rfl, OS_isO hB (by omega) d1, nI_1, nI_1, r_wm hB d1 d3 (show k + 1 < 9 by omega) hy, if_neg (by omega), n13, n9, pk_mul, nI_add, nI_add]
        refine OS_sI hB (by omega) d1 (k := 1) (by omega) (show 13 + 9 * k + y < 1128 by omega) (by decide) (fun S4 H4 => ?_)
        refine ih2 (S4, _) ⟨H4, d2.trans (rst_hu (by omega)), row_ext (row_w (z := wt v (k + 1) y) d3 (by omega) hy) (fun _ _ => rfl) (fun i j hi hj => ?_)⟩
        by_cases q1 : i = k ∧ j = y
        · rw [if_pos q1, if_pos (by omega), q1.1, q1.2]
        · rw [if_neg q1]
          by_cases q2 : (g ≤ i ∧ i < k) ∨ (i = k ∧ j < y)
          · rw [if_pos q2, if_pos (by omega)]
          · rw [if_neg q2, if_neg (by omega)]) 4096 0 (S3, h3) (by omega) (by omega) ⟨H3, t3, row_ext r3 (fun _ _ => rfl) (fun i j _ _ => by
        by_cases q2 : g ≤ i ∧ i < k
        · rw [if_pos q2, if_pos (by omega)]
        · rw [if_neg q2, if_neg (by omega)])⟩
    show f_X8_goes_L11 post (n + 1) s.1 (B 0) (nI g) (nI (v 0 - 1)) (nI k)
    simp only [f_X8_goes_L11]
    rw [if_neg (nI_ge hk (by omega)), OS_gR hB (by omega) c1 (k := 1) (f := 1) rfl, OS_gR hB (by omega) c1 (k := 1) (f := 1) rfl, n4, nI_add, nI_1, show 4 + k + 1 = 4 + (k + 1) by omega, OS_aI hB c1 (k := 1) (by omega) (show 4 + (k + 1) < 1128 by omega) (by decide), e1]
    refine OS_sI hB (by omega) c1 (k := 1) (by omega) (show 4 + k < 1128 by omega) (by decide) (fun S3 H3 => ?_)
    refine row S3 _ H3 (c2.trans (rst_hu (by omega))) (row_ext (row_s (z := v (4 + (k + 1))) c3 (by omega)) (fun i _ => ?_) (fun _ _ _ _ => rfl))
    by_cases q1 : i = k
    · rw [if_pos q1, if_pos (by omega), q1]
    · rw [if_neg q1]
      by_cases q2 : g ≤ i ∧ i < k
      · rw [if_pos q2, if_pos (by omega)]
      · rw [if_neg q2, if_neg (by omega)]
theorem r_marries_loop {x y : Nat} {post : Int32 → PS → Prop} (hB : oB 10 S0 B) (H : RS S0 B F h S) (hr : rowV h 0 v) (hv : okS v) (hx : x < v 0) (hy : y < v 0) (hxy : x ≠ y) (next : ∀ S1 F1 h1, RS S0 B F1 h1 S1 → mdn F h F1 h1 → F1 4 = nI (if y < x then x - 1 else x) → rowV h1 0 (vMar v x y) → post 1 S1) : f_X8_marries_L13 post 4096 S (B 0) (nI x) (nI y) 0 := by
  have h9 := hv.1
  have hr' : rowV h 0 (mkV (v 0) (v 1) (v 2) (v 3) (fun k => v (4 + k)) (wt v)) := by rw [mkV_id]; exact hr
  have key := loop_i (W := fun fuel k (s : PS × (Nat → Nat → Int32)) => f_X8_marries_L13 post fuel s.1 (B 0) (nI x) (nI y) (nI k))
    (I := fun k s => RS S0 B F s.2 s.1 ∧ rst h s.2 ∧ rowV s.2 0 (mkV (v 0) (v 1) (v 2) (v 3) (fun k => v (4 + k)) (fun i j => if i = x ∧ j ≠ x ∧ j ≠ y ∧ j < k then wt v x j + wt v y j else if j = x ∧ i ≠ x ∧ i ≠ y ∧ i < k then wt v x i + wt v y i else wt v i j))) (v 0) (fun n s hI => ?_) (fun n k s hk hI ih => ?_) 4096 0 (S, h) (by omega) (by omega) ⟨H, rst.refl, row_ext hr' (fun _ _ => rfl) (fun i j _ _ => by rw [if_neg (by omega), if_neg (by omega)])⟩
  · exact key
  · obtain ⟨c1, c2, c3⟩ := hI
    have hR := RS_isR hB c1 c3
    show f_X8_marries_L13 post (n + 1) s.1 (B 0) (nI x) (nI y) (nI (v 0))
    simp only [f_X8_marries_L13]
    rw [R0 hR, RA0 hR, mk_0, if_pos (Int32.le_refl _)]
    unfold f_X8_marries_J58
    rw [OS_isO hB (by omega) c1]
    refine r_goes hB c1 (v := vUni v x y) c3 (ok_uni (b := y) hv hx) hy (fun S2 h2 H2 t2 r2 => ?_)
    rw [OS_gR hB (by omega) H2 (k := 1) (f := 1) rfl]
    show aI S2 (B 1) 0 (nI 3) _
    rw [OS_aI hB H2 (k := 1) (by omega) (show 3 < 1128 by omega) (by decide), row0 r2 (k := 3) (by omega), nI_1]
    refine OS_sI hB (by omega) H2 (k := 1) (j := 3) (by omega) (show 3 < 1128 by omega) (by decide) (fun S3 H3 => ?_)
    have r3 : rowV (hu h2 1 3 (nI (vGo (vUni v x y) y 3 + 1))) 0 (vMar v x y) := by
      have r2' : rowV h2 0 (mkV (vGo (vUni v x y) y 0) (vGo (vUni v x y) y 1) (vGo (vUni v x y) y 2) (vGo (vUni v x y) y 3) (fun k => vGo (vUni v x y) y (4 + k)) (wt (vGo (vUni v x y) y))) := by rw [mkV_id]; exact r2
      exact row_3 (z := vGo (vUni v x y) y 3 + 1) r2'
    by_cases e : y < x
    · rw [if_neg (nI_ge e (by omega))]
      refine OS_pV hB (by omega) H3 (f := 4) rfl (by show 4 < 25; decide) (fun S4 H4 => ?_)
      rw [nZ1]
      exact next S4 _ _ H4 (mdn_of ((c2.trans t2).trans (rst_hu (by omega)))) (by rw [Fu_at, if_pos e, n1, pk_sub (by omega)]) r3
    · rw [if_pos (nI_le (by omega) (by omega))]
      refine OS_pV hB (by omega) H3 (f := 4) rfl (by show 4 < 25; decide) (fun S4 H4 => ?_)
      rw [nZ1]
      exact next S4 _ _ H4 (mdn_of ((c2.trans t2).trans (rst_hu (by omega)))) (by rw [Fu_at, if_neg e]) r3
  · obtain ⟨c1, c2, c3⟩ := hI
    have hR := RS_isR hB c1 c3
    show f_X8_marries_L13 post (n + 1) s.1 (B 0) (nI x) (nI y) (nI k)
    simp only [f_X8_marries_L13, f_X8_marries_J52]
    rw [R0 hR, RA0 hR, mk_0, if_neg (nI_ge hk (by omega)), nI_1]
    have same : k = x ∨ k = y → f_X8_marries_L13 post n s.1 (B 0) (nI x) (nI y) (nI (k + 1)) := fun hk' => by
      refine ih s ⟨c1, c2, row_ext c3 (fun _ _ => rfl) (fun i j _ _ => ?_)⟩
      by_cases q1 : i = x ∧ j ≠ x ∧ j ≠ y ∧ j < k
      · rw [if_pos q1, if_pos (by omega)]
      · rw [if_neg q1, if_neg (show ¬ (i = x ∧ j ≠ x ∧ j ≠ y ∧ j < k + 1) by omega)]
        by_cases q2 : j = x ∧ i ≠ x ∧ i ≠ y ∧ i < k
        · rw [if_pos q2, if_pos (by omega)]
        · rw [if_neg q2, if_neg (by omega)]
    by_cases e1 : k = x
    · rw [if_pos (by rw [e1])]; exact same (Or.inl e1)
    · rw [if_neg (by rw [nI_eq (by omega) (by omega)]; exact e1)]
      by_cases e2 : k = y
      · rw [if_pos (by rw [e2])]; exact same (Or.inr e2)
      · rw [if_neg (by rw [nI_eq (by omega) (by omega)]; exact e2), OS_isO hB (by omega) c1, r_wm hB c1 c3 (by omega) (by omega), if_neg (by omega), if_neg (by omega), OS_isO hB (by omega) c1, r_wm hB c1 c3 (by omega) (by omega), if_neg (by omega), if_neg (by omega), OS_isO hB (by omega) c1, nI_add]
        refine r_setBond hB c1 c3 (by omega) (by omega) (fun S2 h2 H2 t2 r2 => ?_)
        refine ih (S2, h2) ⟨H2, c2.trans t2, row_ext r2 (fun _ _ => rfl) (fun i j hi hj => ?_)⟩
        by_cases q0 : (i = x ∧ j = k) ∨ (i = k ∧ j = x)
        · rw [if_pos q0]
          by_cases q1 : i = x
          · rw [if_pos (by omega), show j = k by omega]
          · rw [if_neg (by omega), if_pos (by omega), show i = k by omega]
        · rw [if_neg q0]
          by_cases q1 : i = x ∧ j ≠ x ∧ j ≠ y ∧ j < k
          · rw [if_pos q1, if_pos (by omega)]
          · rw [if_neg q1, if_neg (show ¬ (i = x ∧ j ≠ x ∧ j ≠ y ∧ j < k + 1) by omega)]
            by_cases q2 : j = x ∧ i ≠ x ∧ i ≠ y ∧ i < k
            · rw [if_pos q2, if_pos (by omega)]
            · rw [if_neg q2, if_neg (by omega)]
theorem r_in {m : Nat} {x : Int32} {a b : Nat} {post : Int32 → PS → Prop} (ha : a < 2 ^ 31) (hb : b < 2 ^ 31) : f_X8_in S x (nI a) (nI b) post = post (if ¬ x < nI a ∧ ¬ nI b < x then 1 else 0) S := by
  unfold f_X8_in
  by_cases h1 : x < nI a
  · rw [if_pos h1, nZ0, if_neg (fun z => z.1 h1)]
  · rw [if_neg h1]
    by_cases h2 : nI b < x
    · rw [if_pos h2, nZ0, if_neg (fun z => z.2 h2)]
    · rw [if_neg h2, nZ1, if_pos ⟨h1, h2⟩]
def mOrd (S : PS) (m : Nat) (post : Int32 → PS → Prop) : Nat → Int32 → Int32 → Int32 → Prop
  | 0, _, _, _ => f_X8_comes S m post
  | 1, x, _, _ => f_X8_leaves S m x post
  | 2, x, y, w => f_X8_bonds S m x y w post
  | 3, x, y, _ => f_X8_loosens S m x y post
  | 4, x, y, _ => f_X8_marries S m x y post
  | 5, x, y, _ => f_X8_stands S m x y post
  | _, _, _, _ => f_X8_partsNow S m post
theorem m_ord {post : Int32 → PS → Prop} (hB : oB 10 S0 B) (H : RS S0 B F h S) (hr : rowV h 0 v) (hv : okV v) : ∀ (o : Nat) (x y w : Int32), o ≤ 6 → (∀ q, refR v o x y w = some q → ∀ S1, RS S0 B (rF F q.1 q.2) h S1 → post 0 S1) → (refR v o x y w = none → okV (doV v o x y w) → ∀ S1 F1 h1, RS S0 B F1 h1 S1 → mdn F h F1 h1 → F1 4 = nI (doA v o x y w) → rowV h1 0 (doV v o x y w) → post 1 S1) → (refR v o x y w = none → okV (doV v o x y w)) → mOrd S (B 0) post o x y w := by
  intro o x y w ho h0 next hok
  have h9 := hv.1
  have hR := RS_isR hB H hr
  have hr' : rowV h 0 (mkV (v 0) (v 1) (v 2) (v 3) (fun k => v (4 + k)) (wt v)) := by rw [mkV_id]; exact hr
  rcases (show o = 0 ∨ o = 1 ∨ o = 2 ∨ o = 3 ∨ o = 4 ∨ o = 5 ∨ o = 6 by omega) with rfl | rfl | rfl | rfl | rfl | rfl | rfl
  · exact r_comes hB H hr hv.S (fun q hq S1 H1 => h0 q hq S1 H1) (fun hn S1 F1 h1 H1 d1 d2 d3 => next hn (hok hn) S1 F1 h1 H1 d1 d2 d3)
  · show f_X8_leaves S (B 0) x post
    unfold f_X8_leaves
    rw [OS_isO hB (by omega) H]
    refine r_isNone hB H hr h9 (fun hx => ?_) (fun hx S1 H1 => ?_)
    · obtain ⟨b1, b2⟩ := inb_of h9 hx
      rw [if_pos rfl, OS_isO hB (by omega) H, b2]
      refine r_goes hB H hr hv.S.G b1 (fun S1 h1 H1 t1 r1 => ?_)
      have hR1 := RS_isR hB H1 r1
      rw [R0 hR1, RA0 hR1]
      refine OS_pV hB (by omega) H1 (f := 4) rfl (by show 4 < 25; decide) (fun S2 H2 => ?_)
      rw [nZ1]
      exact next (if_pos hx) (hok (if_pos hx)) S2 _ h1 H2 (mdn_of t1) Fu_at r1
    · rw [if_neg (by decide), nZ0]
      exact h0 (2, x) (if_neg (by rw [hx]; decide)) S1 H1
  · show f_X8_bonds S (B 0) x y w post
    unfold f_X8_bonds
    rw [OS_isO hB (by omega) H]
    refine r_areNone hB H hr h9 (fun hp => ?_) (fun q hp S1 H1 => ?_)
    · obtain ⟨-, -, -, b1, b2, b3, b4, b5⟩ := pairR_none h9 hp
      rw [if_pos rfl]
      show f_X8_in S w (nI 1) (nI 99) _
      rw [r_in (m := 0) (by omega) (by omega)]
      by_cases hw : w < 1 ∨ ¬ w ≤ 99
      · have hc : ¬ (¬ w < nI 1 ∧ ¬ nI 99 < w) := fun z => by
          rcases hw with q | q
          · exact z.1 q
          · exact q (Int32.not_lt.mp z.2)
        rw [if_neg hc, if_pos rfl]
        unfold f_X8_bonds_J25
        rw [OS_isO hB (by omega) H]
        refine r_ref1 hB H (fun S1 H1 => ?_)
        rw [if_neg (by decide), nZ0]
        exact h0 (4, w) (by simp only [refR, hp]; rw [if_pos hw]) S1 H1
      · obtain ⟨c1, c2⟩ := w99 hw
        have hc : ¬ w < nI 1 ∧ ¬ nI 99 < w := ⟨fun z => hw (Or.inl z), fun z => hw (Or.inr (fun y => absurd (Int32.lt_of_lt_of_le z y) (show ¬ nI 99 < 99 by decide)))⟩
        rw [if_pos hc, if_neg (by decide)]
        unfold f_X8_bonds_J25
        rw [OS_isO hB (by omega) H, r_ref0, if_pos rfl, OS_isO hB (by omega) H, b2, b4, r_w hR (by omega) (by omega)]
        unfold f_X8_bonds_J49
        by_cases e : nI (wt v (ix x) (ix y)) = w
        · rw [if_pos e, OS_isO hB (by omega) H]
          refine r_ref1 hB H (fun S1 H1 => ?_)
          rw [if_neg (by decide), nZ0]
          exact h0 (5, w) (by simp only [refR, hp]; rw [if_neg hw, if_pos e]) S1 H1
        · have hn : refR v 2 x y w = none := by simp only [refR, hp]; rw [if_neg hw, if_neg e]
          rw [if_neg e, OS_isO hB (by omega) H, r_ref0, if_pos rfl, OS_isO hB (by omega) H, r_w hR (by omega) (by omega)]
          refine OS_pV hB (by omega) H (f := 4) rfl (by show 4 < 25; decide) (fun S2 H2 => ?_)
          rw [OS_isO hB (by omega) H2, c2]
          refine r_setBond hB H2 hr' (by omega) (by omega) (fun S3 h3 H3 t3 r3 => ?_)
          rw [nZ1]
          exact next hn (hok hn) S3 _ h3 H3 (mdn_of t3) Fu_at r3
    · rw [if_neg (by decide), nZ0]
      exact h0 q (by simp only [refR, hp]) S1 H1
  · show f_X8_loosens S (B 0) x y post
    unfold f_X8_loosens
    rw [OS_isO hB (by omega) H]
    refine r_areNone hB H hr h9 (fun hp => ?_) (fun q hp S1 H1 => ?_)
    · obtain ⟨-, -, -, b1, b2, b3, b4, b5⟩ := pairR_none h9 hp
      have hlt := hv.lt (show ix x < 9 by omega) (show ix y < 9 by omega)
      rw [if_pos rfl, OS_isO hB (by omega) H, b2, b4, r_w hR (by omega) (by omega)]
      unfold f_X8_loosens_J24
      by_cases e : wt v (ix x) (ix y) = 0
      · rw [if_pos (by rw [e]; rfl), OS_isO hB (by omega) H, r_bondMany hR hv, OS_isO hB (by omega) H]
        refine r_ref1 hB H (fun S1 H1 => ?_)
        rw [if_neg (by decide), nZ0]
        exact h0 (6, nI (bm v)) (by simp only [refR, hp]; rw [if_pos e]) S1 H1
      · have hn : refR v 3 x y w = none := by simp only [refR, hp]; rw [if_neg e]
        rw [if_neg (nI_ne0 (by omega) (by omega)), OS_isO hB (by omega) H, r_bondMany hR hv, OS_isO hB (by omega) H, r_ref0, if_pos rfl, OS_isO hB (by omega) H, r_w hR (by omega) (by omega)]
        refine OS_pV hB (by omega) H (f := 4) rfl (by show 4 < 25; decide) (fun S2 H2 => ?_)
        rw [OS_isO hB (by omega) H2]
        show f_X8_setBond S2 (B 0) (nI (ix x)) (nI (ix y)) (nI 0) _
        refine r_setBond hB H2 hr' (by omega) (by omega) (fun S3 h3 H3 t3 r3 => ?_)
        rw [nZ1]
        exact next hn (hok hn) S3 _ h3 H3 (mdn_of t3) Fu_at r3
    · rw [if_neg (by decide), nZ0]
      exact h0 q (by simp only [refR, hp]) S1 H1
  · show f_X8_marries S (B 0) x y post
    unfold f_X8_marries
    rw [OS_isO hB (by omega) H]
    refine r_areNone hB H hr h9 (fun hp => ?_) (fun q hp S1 H1 => ?_)
    · obtain ⟨-, -, -, b1, b2, b3, b4, b5⟩ := pairR_none h9 hp
      rw [if_pos rfl, b2, b4]
      exact r_marries_loop hB H hr hv.S b1 b3 b5 (fun S1 F1 h1 H1 d1 d2 d3 => next hp (hok hp) S1 F1 h1 H1 d1 d2 d3)
    · rw [if_neg (by decide), nZ0]
      exact h0 q hp S1 H1
  · show f_X8_stands S (B 0) x y post
    unfold f_X8_stands
    rw [OS_isO hB (by omega) H]
    refine r_isNone hB H hr h9 (fun hx => ?_) (fun hx S1 H1 => ?_)
    · obtain ⟨b1, b2⟩ := inb_of h9 hx
      rw [if_pos rfl]
      show f_X8_in S y (nI 0) (nI 1) _
      rw [r_in (m := 0) (by omega) (by omega)]
      by_cases hy : ¬ y = 0 ∧ ¬ y = 1
      · have hc : ¬ (¬ y < nI 0 ∧ ¬ nI 1 < y) := fun z => by
          obtain ⟨j, hj, e⟩ := nI_of (x := y) z.1
          have : j ≤ 1 := by have := z.2; rw [e, nI_ltI (by omega) hj] at this; omega
          rcases (show j = 0 ∨ j = 1 by omega) with q | q
          · exact hy.1 (by rw [e, q]; rfl)
          · exact hy.2 (by rw [e, q]; rfl)
        rw [if_neg hc, if_pos rfl]
        unfold f_X8_stands_J23
        rw [OS_isO hB (by omega) H]
        refine r_ref1 hB H (fun S1 H1 => ?_)
        rw [if_neg (by decide), nZ0]
        exact h0 (4, y) (by simp only [refR]; rw [if_pos hx, if_pos hy]) S1 H1
      · have hy2 : ix y ≤ 1 ∧ y = nI (ix y) := by
          by_cases e0 : y = 0
          · rw [e0]; exact ⟨by decide, by decide⟩
          · by_cases e1 : y = 1
            · rw [e1]; exact ⟨by decide, by decide⟩
            · exact absurd ⟨e0, e1⟩ hy
        have hc : ¬ y < nI 0 ∧ ¬ nI 1 < y := by rw [hy2.2]; exact ⟨nI_pos (by omega), nI_nlt (by omega) (by omega)⟩
        rw [if_pos hc, if_neg (by decide)]
        unfold f_X8_stands_J23
        rw [OS_isO hB (by omega) H, r_ref0, if_pos rfl, OS_gR hB (by omega) H (k := 1) (f := 1) rfl, b2, n4, nI_add, RA hR (by omega)]
        unfold f_X8_stands_J49
        by_cases e3 : nI (v (4 + ix x)) = y
        · rw [if_pos e3, OS_isO hB (by omega) H]
          refine r_ref1 hB H (fun S1 H1 => ?_)
          rw [if_neg (by decide), nZ0]
          exact h0 (5, y) (by simp only [refR]; rw [if_pos hx, if_neg hy, if_pos e3]) S1 H1
        · have hn : refR v 5 x y w = none := by simp only [refR]; rw [if_pos hx, if_neg hy, if_neg e3]
          have hv5 : okV (vSid v (ix x) (ix y)) := hok hn
          rw [if_neg e3, OS_isO hB (by omega) H, r_ref0, if_pos rfl, OS_gR hB (by omega) H (k := 1) (f := 1) rfl, n4, nI_add, hy2.2]
          refine OS_sI hB (by omega) H (k := 1) (by omega) (show 4 + ix x < 1128 by omega) (by decide) (fun S2 H2 => ?_)
          have r2 : rowV (hu h 1 (4 + ix x) (nI (ix y))) 0 (vSid v (ix x) (ix y)) := row_s (z := ix y) hr' (by omega)
          have hR2 := RS_isR hB H2 r2
          have hsl := sds_lt hv5
          rw [OS_isO hB (by omega) H2, r_sideSet hR2 hv5, OS_isO hB (by omega) H2, r_feudOf hR2 hv5 (by omega)]
          refine OS_pV hB (by omega) H2 (f := 4) rfl (by show 4 < 25; decide) (fun S3 H3 => ?_)
          rw [nZ1]
          exact next hn (hok hn) S3 _ _ H3 (mdn_of (rst_hu (by omega))) Fu_at r2
    · rw [if_neg (by decide), nZ0]
      exact h0 (2, x) (by simp only [refR]; rw [if_neg (by rw [hx]; decide)]) S1 H1
  · show f_X8_partsNow S (B 0) post
    unfold f_X8_partsNow
    rw [R0 hR, RA0 hR]
    unfold f_X8_partsNow_J18
    by_cases e : v 0 < 2
    · rw [if_neg (show ¬ (2 : Int32) ≤ nI (v 0) from nI_ge (b := 2) e (by omega)), OS_isO hB (by omega) H]
      refine r_ref1 hB H (fun S1 H1 => ?_)
      rw [if_neg (by decide), nZ0]
      exact h0 (7, nI (v 0)) (if_pos e) S1 H1
    · have hn : refR v 6 x y w = none := if_neg e
      have hv6 : okV (vPar v (lgr v)) := hok hn
      have hl := lph_le (v := v) (v 0 - 2)
      have hg := lgr_lt hv (show 2 ≤ v 0 by omega)
      have hg9 : lgr v < 2 ^ 9 := Nat.lt_of_lt_of_le hg (Nat.pow_le_pow_right (by omega) h9)
      rw [if_pos (show (2 : Int32) ≤ nI (v 0) from nI_le (a := 2) (by omega) (by omega)), OS_isO hB (by omega) H, r_ref0, if_pos rfl, OS_isO hB (by omega) H]
      refine r_lays hB H hr hv (fun S2 F2 h2 H2 ld => ?_)
      obtain ⟨l1, l2, l3, l4, l5, l6⟩ := ld
      rw [OS_gR hB (by omega) H2 (k := 2) (f := 9) rfl, OS_gI hB (by omega) H2 (f := 13) (x := F2 13) rfl, OS_gI hB (by omega) H2 (f := 13) (x := F2 13) rfl, l5, n9, pk_mul, nI_add, pk_sub (by omega), n1, pk_sub (by omega), show 9 * lph v (v 0 - 2) + v 0 - lph v (v 0 - 2) - 1 = 9 * lph v (v 0 - 2) + (v 0 - lph v (v 0 - 2) - 1) by omega, OS_aI hB H2 (k := 2) (by omega) (show 9 * lph v (v 0 - 2) + (v 0 - lph v (v 0 - 2) - 1) < 81 by omega) (by decide), (l3 _ _ (by omega) (by omega)).1]
      have r2 : rowV h2 0 (mkV (v 0) (v 1) (v 2) (v 3) (fun k => v (4 + k)) (wt v)) := by rw [rowV, l2 1 (by decide) (by decide) (by decide) (by decide)]; exact hr'
      have key := loop_i (W := fun fuel k (s : PS × (Nat → Nat → Int32)) => f_X8_partsNow_L57 post fuel s.1 (B 0) (nI (v 0)) (nI (lgr v)) (nI k))
        (I := fun k s => RS S0 B F2 s.2 s.1 ∧ rst h2 s.2 ∧ rowV s.2 0 (mkV (v 0) (v 1) (v 2) (v 3) (fun i => if i < k then (if (lgr v).testBit i = true then 1 else 0) else v (4 + i)) (wt v))) (v 0) (fun n s hI => ?_) (fun n k s hk hI ih => ?_) 4096 0 (S2, h2) (by omega) (by omega) ⟨H2, rst.refl, row_ext r2 (fun i _ => by rw [if_neg (by omega)]) (fun _ _ _ _ => rfl)⟩
      · exact key
      · obtain ⟨c1, c2, c3⟩ := hI
        have r3 : rowV s.2 0 (vPar v (lgr v)) := row_ext c3 (fun i hi => by
          by_cases q : i < v 0
          · rw [if_pos q]
          · rw [if_neg q, if_neg (by rw [b_hi hg (by omega)]; decide), hv.2.2.1 i hi (by omega)]) (fun _ _ _ _ => rfl)
        have hR3 := RS_isR hB c1 r3
        show f_X8_partsNow_L57 post (n + 1) s.1 (B 0) (nI (v 0)) (nI (lgr v)) (nI (v 0))
        simp only [f_X8_partsNow_L57, f_X8_partsNow_J89]
        rw [if_pos (Int32.le_refl _), OS_isO hB (by omega) c1, r_feudOf hR3 hv6 (by omega)]
        refine OS_pV hB (by omega) c1 (f := 4) rfl (by show 4 < 25; decide) (fun S4 H4 => ?_)
        rw [nZ1]
        refine next hn (hok hn) S4 _ _ H4 ⟨fun i i4 i13 i14 => by rw [Fu_ne i4, l1 i i13 i14], fun k hk => by rw [c2.1 k (by omega), l2 k (by omega) (by omega) (by omega) (by omega)], fun x hx => by rw [c2.2 x hx, l2 1 (by decide) (by decide) (by decide) (by decide)]⟩ ?_ r3
        show Fu F2 4 (nI (fo (vPar v (lgr v)) (lgr v))) 4 = nI (fo (vPar v (lgr v)) (sds (vPar v (lgr v))))
        rw [Fu_at, sds_par hv.S hg]
      · obtain ⟨c1, c2, c3⟩ := hI
        show f_X8_partsNow_L57 post (n + 1) s.1 (B 0) (nI (v 0)) (nI (lgr v)) (nI k)
        simp only [f_X8_partsNow_L57, f_X8_partsNow_J82]
        rw [if_neg (nI_ge hk (by omega)), OS_gR hB (by omega) c1 (k := 1) (f := 1) rfl, r_holds (by omega) (by omega), n4, nI_add]
        have put := fun (z : Nat) (hz : z = if (lgr v).testBit k = true then 1 else 0) (S4 : PS) (H4 : RS S0 B F2 (hu s.2 1 (4 + k) (nI z)) S4) => ih (S4, _) ⟨H4, c2.trans (rst_hu (by omega)), row_ext (row_s (z := z) c3 (show k < 9 by omega)) (fun i _ => by
          by_cases q : i = k
          · rw [if_pos q, if_pos (by omega), q, hz]
          · rw [if_neg q]
            by_cases q2 : i < k
            · rw [if_pos q2, if_pos (show i < k + 1 by omega)]
            · rw [if_neg q2, if_neg (by omega)]) (fun _ _ _ _ => rfl)⟩
        by_cases q : (lgr v).testBit k = true
        · rw [if_pos q, if_neg (by decide)]
          refine OS_sI (x := nI 1) hB (by omega) c1 (k := 1) (by omega) (show 4 + k < 1128 by omega) (by decide) (fun S4 H4 => ?_)
          rw [nI_1]
          exact put 1 (by rw [if_pos q]) S4 H4
        · rw [if_neg q, if_pos rfl]
          refine OS_sI (x := nI 0) hB (by omega) c1 (k := 1) (by omega) (show 4 + k < 1128 by omega) (by decide) (fun S4 H4 => ?_)
          rw [nI_1]
          exact put 0 (by rw [if_neg q]) S4 H4
end MOR
