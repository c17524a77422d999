/-! the class's flow: cells 0 itself, 1 room, 2 cameFrom, 3 queue -/
def ffs (B : Nat → Nat) (_ : Nat → Int32) : List Value := [.ref (B 1), .ref (B 2), .ref (B 3)]
def frl (k : Nat) : Nat := if k = 1 then 81 else 9
abbrev FS (S0 : PS) (B : Nat → Nat) (F : Nat → Int32) (h : Nat → Nat → Int32) (S : PS) : Prop := OS 4 5 (ffs B) (fun _ => 0) frl S0 B F h S
def rmH (r : Nat → Nat → Nat) (h : Nat → Nat → Int32) : Prop := ∀ x y, x < 9 → y < 9 → h 1 (9 * x + y) = nI (r x y)
def un (f : Nat → Nat) (k x : Nat) : Nat → Nat := fun i => if i = k then x else f i
theorem un_at {f : Nat → Nat} {k x : Nat} : un f k x k = x := if_pos rfl
theorem un_ne {f : Nat → Nat} {k x i : Nat} (h : i ≠ k) : un f k x i = f i := if_neg h
/-- a search at its turn t: reached R, w of them in the queue q, from where c, in how many steps d -/
def BI (r : Nat → Nat → Nat) (s t R w : Nat) (q c d : Nat → Nat) : Prop :=
  (R < 2 ^ 9 ∧ pc R 9 = w ∧ R.testBit s = true ∧ d s = 0 ∧ t ≤ w) ∧ (∀ i, i < w → q i < 9 ∧ R.testBit (q i) = true ∧ d (q i) ≤ i) ∧ (∀ x, R.testBit x = true → ∃ i, i < w ∧ q i = x) ∧ (∀ i j, i ≤ j → j < w → d (q i) ≤ d (q j)) ∧ (∀ x, R.testBit x = true → x ≠ s → c x < 9 ∧ R.testBit (c x) = true ∧ 0 < r (c x) x ∧ d x = d (c x) + 1) ∧ (∀ i, i < t → ∀ y, y < 9 → 0 < r (q i) y → R.testBit y = true ∧ d y ≤ d (q i) + 1) ∧ (t < w → ∀ i, i < w → d (q i) ≤ d (q t) + 1)
theorem pc_bit {s : Nat} (hs : s < 9) : pc (2 ^ s) 9 = 1 := by
  have h := sm_pick (f := fun _ => 1) hs
  rw [← h]
  refine sm_ext (fun k _ => ?_)
  rw [Nat.testBit_two_pow]
  by_cases e : s = k
  · subst e; simp
  · simp [e, show ¬ k = s by omega]
theorem pc_add {R y n : Nat} (hy : y < n) (h : R.testBit y = false) : pc (R ||| 2 ^ y) n = pc R n + 1 := by
  conv => rhs; rw [← sm_pick (f := fun _ => 1) hy]
  unfold pc
  rw [← sm_add]
  refine sm_ext (fun k _ => ?_)
  rw [or_tb]
  by_cases e : k = y
  · subst e; rw [h]; simp
  · simp [e]
theorem BI_0 {r : Nat → Nat → Nat} {s : Nat} (hs : s < 9) : BI r s 0 (2 ^ s) 1 (fun _ => s) (fun _ => 0) (fun _ => 0) := by
  have hb : ∀ x, (2 ^ s).testBit x = true → x = s := fun x hx => by
    rw [Nat.testBit_two_pow] at hx
    exact (of_decide_eq_true hx).symm
  have hss : (2 ^ s).testBit s = true := by rw [Nat.testBit_two_pow]; simp
  exact ⟨⟨Nat.pow_lt_pow_right (by omega) hs, pc_bit hs, hss, rfl, by omega⟩, fun i hi => ⟨hs, hss, Nat.zero_le _⟩, fun x hx => ⟨0, by omega, (hb x hx).symm⟩, fun _ _ _ _ => Nat.le_refl _, fun x hx hne => absurd (hb x hx) hne, fun i hi => by omega, fun _ _ _ => Nat.zero_le _⟩
theorem BI_w {r : Nat → Nat → Nat} {s t R w y : Nat} {q c d : Nat → Nat} (h : BI r s t R w q c d) (hy : y < 9) (hb : R.testBit y = false) : w < 9 := by
  have h1 := pc_lt (s := R) (t := 2 ^ 9 - 1) (n := 9) (fun i hi => by rw [b_allt]; exact decide_eq_true (R9 h.1.1 hi)) hy hb (by rw [b_allt]; exact decide_eq_true hy)
  have h2 := pc_le (2 ^ 9 - 1) 9
  have := h.1.2.1
  omega
theorem BI_add {r : Nat → Nat → Nat} {s t R w y : Nat} {q c d : Nat → Nat} (h : BI r s t R w q c d) (ht : t < w) (hy : y < 9) (hb : R.testBit y = false) (hr : 0 < r (q t) y) : BI r s t (R ||| 2 ^ y) (w + 1) (un q w y) (un c y (q t)) (un d y (d (q t) + 1)) := by
  obtain ⟨⟨a1, a2, a3, a4, a5⟩, a6, a7, a8, a9, a10, a11⟩ := h
  have hne : ∀ x, R.testBit x = true → x ≠ y := fun x hx e => by rw [e, hb] at hx; cases hx
  have hd : ∀ x, R.testBit x = true → un d y (d (q t) + 1) x = d x := fun x hx => un_ne (hne x hx)
  have hup : ∀ x, R.testBit x = true → (R ||| 2 ^ y).testBit x = true := fun x hx => by rw [or_tb, hx]; rfl
  have hyy : (R ||| 2 ^ y).testBit y = true := by rw [or_tb]; simp
  have hdn : ∀ x, (R ||| 2 ^ y).testBit x = true → R.testBit x = true ∨ x = y := fun x hx => by
    rw [or_tb, Bool.or_eq_true] at hx
    rcases hx with hx | hx
    · exact Or.inl hx
    · exact Or.inr (of_decide_eq_true hx)
  obtain ⟨t1, t2, t3⟩ := a6 t ht
  have hqt : un q w y t = q t := un_ne (by omega)
  refine ⟨⟨Nat.or_lt_two_pow a1 (Nat.pow_lt_pow_right (by omega) hy), by rw [pc_add hy hb, a2], hup s a3, by rw [hd s a3]; exact a4, by omega⟩, fun i hi => ?_, fun x hx => ?_, fun i j hij hj => ?_, fun x hx hxs => ?_, fun i hi z hz h0 => ?_, fun _ i hi => ?_⟩
  · by_cases e : i = w
    · rw [e, un_at, un_at]; exact ⟨hy, hyy, by omega⟩
    · obtain ⟨b1, b2, b3⟩ := a6 i (by omega)
      rw [un_ne e, hd _ b2]; exact ⟨b1, hup _ b2, b3⟩
  · rcases hdn x hx with e | e
    · obtain ⟨i, i1, i2⟩ := a7 x e
      exact ⟨i, by omega, by rw [un_ne (by omega)]; exact i2⟩
    · exact ⟨w, by omega, by rw [un_at, e]⟩
  · by_cases e : j = w
    · rw [e, un_at, un_at]
      by_cases e2 : i = w
      · rw [e2, un_at, un_at]; exact Nat.le_refl _
      · rw [un_ne e2, hd _ (a6 i (by omega)).2.1]; exact a11 ht i (by omega)
    · rw [un_ne e, show un q w y i = q i from un_ne (by omega), hd _ (a6 j (by omega)).2.1, hd _ (a6 i (by omega)).2.1]; exact a8 i j hij (by omega)
  · rcases hdn x hx with e | e
    · obtain ⟨b1, b2, b3, b4⟩ := a9 x e hxs
      rw [un_ne (hne x e), hd x e, hd _ b2]
      exact ⟨b1, hup _ b2, b3, b4⟩
    · rw [e, un_at, un_at, hd _ t2]; exact ⟨t1, hup _ t2, hr, rfl⟩
  · rw [un_ne (show i ≠ w by omega)] at h0 ⊢
    obtain ⟨b1, b2⟩ := a10 i hi z hz h0
    rw [hd z b1, hd _ (a6 i (by omega)).2.1]
    exact ⟨hup z b1, b2⟩
  · rw [hqt, hd _ t2]
    by_cases e : i = w
    · rw [e, un_at, un_at]; exact Nat.le_refl _
    · rw [un_ne e, hd _ (a6 i (by omega)).2.1]; exact a11 ht i (by omega)
theorem BI_next {r : Nat → Nat → Nat} {s t R w : Nat} {q c d : Nat → Nat} (h : BI r s t R w q c d) (ht : t < w) (hcl : ∀ y, y < 9 → 0 < r (q t) y → R.testBit y = true) : BI r s (t + 1) R w q c d := by
  obtain ⟨⟨a1, a2, a3, a4, a5⟩, a6, a7, a8, a9, a10, a11⟩ := h
  refine ⟨⟨a1, a2, a3, a4, by omega⟩, a6, a7, a8, a9, fun i hi y hy h0 => ?_, fun hw i hi => ?_⟩
  · by_cases e : i = t
    · subst e
      have := hcl y hy h0
      obtain ⟨j, j1, j2⟩ := a7 y this
      have h3 := a11 ht j j1
      rw [j2] at h3
      exact ⟨this, h3⟩
    · exact a10 i (by omega) y hy h0
  · have h3 := a11 ht i hi
    have h4 := a8 t (t + 1) (by omega) hw
    omega
theorem BI_end {r : Nat → Nat → Nat} {s t R w : Nat} {q c d : Nat → Nat} (h : BI r s t R w q c d) (ht : w ≤ t) : srch r s R c d := by
  obtain ⟨⟨a1, a2, a3, a4, a5⟩, a6, a7, a8, a9, a10, a11⟩ := h
  have hw := pc_le R 9
  refine ⟨a1, a3, a4, fun x hx => ?_, a9, fun x y hx hy h0 => ?_⟩
  · obtain ⟨i, i1, i2⟩ := a7 x hx
    have := (a6 i i1).2.2
    rw [i2] at this; omega
  · obtain ⟨i, i1, i2⟩ := a7 x hx
    have := a10 i (by omega) y hy (by rw [i2]; exact h0)
    rw [i2] at this; exact this
section FLS
variable {S0 S : PS} {B : Nat → Nat} {F : Nat → Int32} {h : Nat → Nat → Int32} {v : Nat → Nat}
theorem w_there {x a : Nat} {post : Int32 → PS → Prop} (hx : x < 9) : f_X1_isThere S a (nI x) post = post 1 S := by
  unfold f_X1_isThere
  rw [if_neg (nI_pos (by omega)), if_neg (by rw [n9]; exact nI_ge hx (by omega)), nZ1]
theorem w_step {x : Nat} {post : Int32 → PS → Prop} (hB : oB 4 S0 B) (H : FS S0 B F h S) (hx : x < 9) : f_X1_stepBack S (B 0) (nI x) post = post (h 2 x) S := by
  unfold f_X1_stepBack
  rw [OS_isO hB (by omega) H, w_there hx, if_neg (by decide), OS_gR hB (by omega) H (k := 2) (f := 1) rfl, OS_aI hB H (k := 2) (by omega) (show x < 9 by omega) (by decide)]
theorem w_room {x y : Nat} {post : Int32 → PS → Prop} (hB : oB 4 S0 B) (H : FS S0 B F h S) (hx : x < 9) (hy : y < 9) : f_X1_roomOn S (B 0) (nI x) (nI y) post = post (h 1 (9 * x + y)) S := by
  unfold f_X1_roomOn
  rw [OS_isO hB (by omega) H, w_there hx, if_neg (by decide), OS_isO hB (by omega) H, w_there hy, if_neg (by decide), OS_gR hB (by omega) H (k := 1) (f := 0) rfl, n9, pk_mul, nI_add, OS_aI hB H (k := 1) (by omega) (show x * 9 + y < 81 by omega) (by decide), Nat.mul_comm x 9]
theorem w_widen {x y : Nat} {m : Int32} {post : PS → Prop} (hB : oB 4 S0 B) (H : FS S0 B F h S) (hx : x < 9) (hy : y < 9) (next : ∀ S1, FS S0 B F (hu h 1 (x * 9 + y) (h 1 (x * 9 + y) + m)) S1 → post S1) : f_X1_widen S (B 0) (nI x) (nI y) m post := by
  unfold f_X1_widen
  rw [OS_isO hB (by omega) H, w_there hx, if_neg (by decide), OS_isO hB (by omega) H, w_there hy, if_neg (by decide), OS_gR hB (by omega) H (k := 1) (f := 0) rfl, n9, pk_mul, nI_add, OS_aI hB H (k := 1) (by omega) (show x * 9 + y < 81 by omega) (by decide)]
  exact OS_sI hB (by omega) H (k := 1) (by omega) (show x * 9 + y < 81 by omega) (by decide) next
theorem w_finds {r : Nat → Nat → Nat} {s g : Nat} {post : Int32 → PS → Prop} (hB : oB 4 S0 B) (H : FS S0 B F h S) (hr : rmH r h) (hlt : ∀ x y, x < 9 → y < 9 → r x y < 2 ^ 31) (hs : s < 9) (hg : g < 9)
    (next : ∀ (S1 : PS) (h1 : Nat → Nat → Int32) (R : Nat) (c d : Nat → Nat), FS S0 B F h1 S1 → h1 1 = h 1 → srch r s R c d → (∀ x, R.testBit x = true → x ≠ s → h1 2 x = nI (c x)) → post (if R.testBit g = true then 1 else 0) S1) : f_X1_findsPath S (B 0) (nI s) (nI g) post := by
  -- an end
  have fin : ∀ (S1 : PS) (h1 : Nat → Nat → Int32) (R w t : Nat) (q c d : Nat → Nat), FS S0 B F h1 S1 → h1 1 = h 1 → BI r s t R w q c d → w ≤ t → (∀ x, R.testBit x = true → x ≠ s → h1 2 x = nI (c x)) → f_X1_findsPath_J123 post S1 (nI g) (nI R) := fun S1 h1 R w t q c d H1 e1 hI hw hc => by
    have hR := hI.1.1
    have hn := next S1 h1 R c d H1 e1 (BI_end hI hw) hc
    unfold f_X1_findsPath_J123
    rw [e_isIn (by omega) (by omega)]
    by_cases e : R.testBit g = true
    · rw [if_pos e] at hn ⊢; rw [nZ1]; exact hn
    · rw [if_neg e] at hn ⊢; rw [nZ0]; exact hn
  have key : ∀ (k t fuel : Nat) (S1 : PS) (h1 : Nat → Nat → Int32) (R w : Nat) (q c d : Nat → Nat), t + k = 9 → k < fuel → FS S0 B F h1 S1 → h1 1 = h 1 → BI r s t R w q c d → (∀ i, i < w → h1 3 i = nI (q i)) → (∀ x, R.testBit x = true → x ≠ s → h1 2 x = nI (c x)) → f_X1_findsPath_L17 post fuel S1 (B 0) (nI g) (nI R) (nI w) (nI t) := by
    intro k
    induction k with
    | zero =>
      intro t fuel S1 h1 R w q c d ht hf H1 e1 hI hq hc
      obtain ⟨f, rfl⟩ : ∃ f, fuel = f + 1 := ⟨fuel - 1, by omega⟩
      have hw := pc_le R 9
      have := hI.1.2.1
      simp only [f_X1_findsPath_L17]
      rw [if_pos (nI_le (by omega) (by omega))]
      exact fin S1 h1 R w t q c d H1 e1 hI (by omega) hc
    | succ k ih =>
      intro t fuel S1 h1 R w q c d ht hf H1 e1 hI hq hc
      obtain ⟨f, rfl⟩ : ∃ f, fuel = f + 1 := ⟨fuel - 1, by omega⟩
      have hw9 := pc_le R 9
      have hpc := hI.1.2.1
      simp only [f_X1_findsPath_L17]
      by_cases hw : w ≤ t
      · rw [if_pos (nI_le hw (by omega))]
        exact fin S1 h1 R w t q c d H1 e1 hI hw hc
      · rw [if_neg (nI_ge (by omega) (by omega)), OS_gR hB (by omega) H1 (k := 3) (f := 2) rfl, OS_lE hB H1 (k := 3) (by omega) (by decide), if_neg (show ¬ nI (frl 3) ≤ nI t from nI_ge (show t < 9 by omega) (by decide)), OS_gR hB (by omega) H1 (k := 3) (f := 2) rfl, OS_aI hB H1 (k := 3) (by omega) (show t < 9 by omega) (by decide), hq t (by omega)]
        obtain ⟨fr, hfr⟩ : ∃ fr, fr = q t := ⟨_, rfl⟩
        rw [← hfr]
        have hfr9 : fr < 9 := by rw [hfr]; exact (hI.2.1 t (by omega)).1
        have inn : ∀ (k2 j fu : Nat) (S2 : PS) (h2 : Nat → Nat → Int32) (R w : Nat) (q c d : Nat → Nat), j + k2 = 9 → k2 < fu → FS S0 B F h2 S2 → h2 1 = h 1 → BI r s t R w q c d → t < w → q t = fr → (∀ y, y < j → 0 < r fr y → R.testBit y = true) → (∀ i, i < w → h2 3 i = nI (q i)) → (∀ x, R.testBit x = true → x ≠ s → h2 2 x = nI (c x)) → f_X1_findsPath_L46 post (f_X1_findsPath_L17 post f) fu S2 (B 0) (nI g) (nI R) (nI w) (nI t) (nI fr) (nI j) := by
          intro k2
          induction k2 with
          | zero =>
            intro j fu S2 h2 R w q c d hj hf2 H2 d1 hI2 htw hqt hcl hq2 hc2
            obtain ⟨f', rfl⟩ : ∃ f', fu = f' + 1 := ⟨fu - 1, by omega⟩
            simp only [f_X1_findsPath_L46, f_X1_findsPath_J117]
            rw [if_pos (by rw [n9]; exact nI_le (by omega) (by omega)), nI_1]
            refine ih (t + 1) f S2 h2 R w q c d (by omega) (by omega) H2 d1 (BI_next hI2 htw (fun y hy h0 => hcl y (by omega) (by rw [← hqt]; exact h0))) hq2 hc2
          | succ k2 ih2 =>
            intro j fu S2 h2 R w q c d hj hf2 H2 d1 hI2 htw hqt hcl hq2 hc2
            obtain ⟨f', rfl⟩ : ∃ f', fu = f' + 1 := ⟨fu - 1, by omega⟩
            have hR := hI2.1.1
            have hw29 := pc_le R 9
            have hpc2 := hI2.1.2.1
            simp only [f_X1_findsPath_L46, f_X1_findsPath_J111]
            rw [if_neg (by rw [n9]; exact nI_ge (by omega) (by omega)), e_isIn (by omega) (by omega), nI_1]
            by_cases hjR : R.testBit j = true
            · rw [if_pos hjR, if_neg (by decide)]
              refine ih2 (j + 1) f' S2 h2 R w q c d (by omega) (by omega) H2 d1 hI2 htw hqt (fun y hy h0 => ?_) hq2 hc2
              by_cases e : y = j
              · rw [e]; exact hjR
              · exact hcl y (by omega) h0
            · have hjR2 : R.testBit j = false := by simpa using hjR
              rw [if_neg hjR, if_pos rfl, OS_isO hB (by omega) H2, w_room hB H2 hfr9 (by omega), d1, hr fr j hfr9 (by omega)]
              by_cases h0 : 0 < r fr j
              · have hw8 := BI_w hI2 (show j < 9 by omega) hjR2
                rw [if_neg (nI_nle h0 (hlt fr j hfr9 (by omega))), OS_gR hB (by omega) H2 (k := 3) (f := 2) rfl, OS_lE hB H2 (k := 3) (by omega) (by decide), if_neg (show ¬ nI (frl 3) ≤ nI w from nI_ge (show w < 9 by omega) (by decide)), OS_gR hB (by omega) H2 (k := 2) (f := 1) rfl]
                refine OS_sI hB (by omega) H2 (k := 2) (by omega) (show j < 9 by omega) (by decide) (fun S3 H3 => ?_)
                rw [OS_gR hB (by omega) H3 (k := 3) (f := 2) rfl]
                refine OS_sI hB (by omega) H3 (k := 3) (by omega) (show w < 9 by omega) (by decide) (fun S4 H4 => ?_)
                rw [b_bit j (by omega), b_or, nI_1]
                refine ih2 (j + 1) f' S4 _ (R ||| 2 ^ j) (w + 1) (un q w j) (un c j (q t)) (un d j (d (q t) + 1)) (by omega) (by omega) H4 (by rw [hu_ne (by decide), hu_ne (by decide)]; exact d1) (BI_add hI2 htw (by omega) hjR2 (by rw [hqt]; exact h0)) (by omega) (by rw [un_ne (by omega)]; exact hqt) (fun y hy h0 => ?_) (fun i hi => ?_) (fun x hx hxs => ?_)
                · rw [or_tb, Bool.or_eq_true]
                  by_cases e : y = j
                  · exact Or.inr (decide_eq_true e)
                  · exact Or.inl (hcl y (by omega) h0)
                · rw [hu_if]
                  by_cases e : i = w
                  · rw [if_pos e, e, un_at]
                  · rw [if_neg e, hu_ne (by decide), un_ne e]; exact hq2 i (by omega)
                · rw [hu_ne (by decide), hu_if]
                  rw [or_tb, Bool.or_eq_true] at hx
                  by_cases e : x = j
                  · rw [if_pos e, e, un_at, hqt]
                  · rw [if_neg e, un_ne e]
                    rcases hx with hx | hx
                    · exact hc2 x hx hxs
                    · exact absurd (of_decide_eq_true hx) e
              · rw [show r fr j = 0 by omega, if_pos (show nI 0 ≤ 0 by decide)]
                refine ih2 (j + 1) f' S2 h2 R w q c d (by omega) (by omega) H2 d1 hI2 htw hqt (fun y hy h1 => ?_) hq2 hc2
                by_cases e : y = j
                · rw [e] at h1; exact absurd h1 h0
                · exact hcl y (by omega) h1
        exact inn 9 0 4096 S1 h1 R w q c d (by omega) (by omega) H1 e1 hI (by omega) hfr.symm (fun y hy => by omega) hq hc
  unfold f_X1_findsPath
  rw [OS_gR hB (by omega) H (k := 3) (f := 2) rfl]
  refine OS_sI hB (by omega) H (k := 3) (j := 0) (by omega) (show 0 < 9 by omega) (by decide) (fun S2 H2 => ?_)
  rw [b_bit s (by omega)]
  refine key 9 0 4096 S2 _ (2 ^ s) 1 (fun _ => s) (fun _ => 0) (fun _ => 0) (by omega) (by omega) H2 (hu_ne (by decide)) (BI_0 hs) (fun i hi => ?_) (fun x hx hxs => ?_)
  · rw [show i = 0 by omega, hu_at]
  · rw [Nat.testBit_two_pow] at hx
    exact absurd (of_decide_eq_true hx).symm hxs
/-- what a way back needs of the cells -/
abbrev wyP (c d : Nat → Nat) (s : Nat) (h : Nat → Nat → Int32) : Nat → Prop := fun y => y < 9 ∧ c y < 9 ∧ y ≠ s ∧ h 2 y = nI (c y) ∧ d y = d (c y) + 1 ∧ (d (c y) = 0 → c y = s)
theorem w_narrow {r : Nat → Nat → Nat} {c d : Nat → Nat} {s : Nat} {post : Int32 → PS → Prop} (hB : oB 4 S0 B) (H : FS S0 B F h S) (hr : rmH r h) (hlt : ∀ x y, x < 9 → y < 9 → r x y < 2 ^ 31) (hs : s < 9) : ∀ (k g a fuel st : Nat), d g = k → onW c (wyP c d s h) k g → (k = 0 → g = s) → k + st ≤ 9 → k < fuel → a < 2 ^ 31 → f_X1_narrowest_L9 post fuel S (B 0) (nI s) (nI a) (nI g) (nI st) = post (nI (nrw r c k g a)) S := by
  intro k
  induction k with
  | zero =>
    intro g a fuel st hd hw hg hst hf ha
    obtain ⟨f, rfl⟩ : ∃ f, fuel = f + 1 := ⟨fuel - 1, by omega⟩
    simp only [f_X1_narrowest_L9, hg rfl, if_true, ite_self]
    rfl
  | succ k ih =>
    intro g a fuel st hd hw hg hst hf ha
    obtain ⟨f, rfl⟩ : ∃ f, fuel = f + 1 := ⟨fuel - 1, by omega⟩
    obtain ⟨⟨w1, w2, w3, w4, w5, w6⟩, hw2⟩ := hw
    have h1 := hlt (c g) g w2 w1
    simp only [f_X1_narrowest_L9]
    rw [if_neg (by rw [n9]; exact nI_ge (by omega) (by omega)), if_neg (by rw [nI_eq (by omega) (by omega)]; exact w3), OS_isO hB (by omega) H, w_step hB H w1, w4, OS_isO hB (by omega) H, w_room hB H w2 w1, hr _ _ w2 w1, nI_min h1 ha, nI_1]
    exact ih (c g) (min (r (c g) g) a) f (st + 1) (by omega) hw2 (fun z => w6 (by omega)) (by omega) (by omega) (by omega)
theorem w_push {c d : Nat → Nat} {s m : Nat} {post : PS → Prop} (hB : oB 4 S0 B) (hs : s < 9)
    : ∀ (k g fuel st : Nat) (r : Nat → Nat → Nat) (S : PS) (h : Nat → Nat → Int32), FS S0 B F h S → rmH r h → d g = k → onW c (wyP c d s h) k g → onW c (fun y => m ≤ r (c y) y) k g → (k = 0 → g = s) → k + st ≤ 9 → k < fuel → (∀ S1 h1, FS S0 B F h1 S1 → rmH (psh c m k g r) h1 → post S1) → f_X1_push_L6 post fuel S (B 0) (nI s) (nI m) (nI g) (nI st) := by
  intro k
  induction k with
  | zero =>
    intro g fuel st r S h H hr hd hw hm hg hst hf next
    obtain ⟨f, rfl⟩ : ∃ f, fuel = f + 1 := ⟨fuel - 1, by omega⟩
    simp only [f_X1_push_L6, hg rfl, if_true, ite_self]
    exact next S h H hr
  | succ k ih =>
    intro g fuel st r S h H hr hd hw hm hg hst hf next
    obtain ⟨f, rfl⟩ : ∃ f, fuel = f + 1 := ⟨fuel - 1, by omega⟩
    have hlb : lbW c d (k + 1) g := onW_mono (fun y hy => hy.2.2.2.2.1) hw
    have hm2 := u2_rest (m := m) (P := fun _ z => m ≤ z) hlb hd hm.2
    have hm1 := hm.1
    obtain ⟨⟨w1, w2, w3, w4, w5, w6⟩, hw2⟩ := hw
    have hne : c g ≠ g := fun z => by rw [z] at w5; omega
    simp only [f_X1_push_L6]
    rw [if_neg (by rw [n9]; exact nI_ge (by omega) (by omega)), if_neg (by rw [nI_eq (by omega) (by omega)]; exact w3), OS_isO hB (by omega) H, w_step hB H w1, w4, OS_isO hB (by omega) H]
    refine w_widen hB H w2 w1 (fun S2 H2 => ?_)
    rw [OS_isO hB (by omega) H2]
    refine w_widen hB H2 w1 w2 (fun S3 H3 => ?_)
    rw [nI_1]
    refine ih (c g) f (st + 1) (u2 r (c g) g m) S3 _ H3 (fun x y hx hy => ?_) (by omega) (onW_mono (fun y hy => ?_) hw2) hm2 (fun z => w6 (by omega)) (by omega) (by omega) next
    · have e1 : h 1 (c g * 9 + g) = nI (r (c g) g) := by rw [Nat.mul_comm]; exact hr _ _ w2 w1
      have e2 : h 1 (g * 9 + c g) = nI (r g (c g)) := by rw [Nat.mul_comm]; exact hr _ _ w1 w2
      have e3 : hu h 1 (c g * 9 + g) (h 1 (c g * 9 + g) + -nI m) 1 (g * 9 + c g) = nI (r g (c g)) := by rw [hu_off (by omega), e2]
      rw [hu_if, e3, hu_if, e1, ← Int32.sub_eq_add_neg, pk_sub hm1, nI_add]
      unfold u2
      by_cases a : x = c g ∧ y = g
      · obtain ⟨rfl, rfl⟩ := a
        rw [if_neg (by omega), if_pos (by omega), if_pos ⟨rfl, rfl⟩]
      · rw [if_neg a]
        by_cases b : x = g ∧ y = c g
        · obtain ⟨rfl, rfl⟩ := b
          rw [if_pos (by omega), if_pos ⟨rfl, rfl⟩]
        · rw [if_neg b, if_neg (by omega), if_neg (by omega)]
          exact hr x y hx hy
    · obtain ⟨a1, a2, a3, a4, a5, a6⟩ := hy
      exact ⟨a1, a2, a3, by rw [hu_ne (by decide), hu_ne (by decide)]; exact a4, a5, a6⟩
theorem w_mostFlow {a t s g : Nat} {post : Int32 → PS → Prop} (hB : oB 4 S B) (H : FS S B F h S) (hV : isV S a t v) (hv : okV v) (hd : ∀ k, k < 4 → a ≠ B k ∧ t ≠ B k) (hs : s < v 0) (hg : g < v 0) (hsg : s ≠ g)
    (next : ∀ (S1 : PS) (h1 : Nat → Nat → Int32), FS S B F h1 S1 → post (nI (bt v s g)) S1) : f_X1_mostFlow S (B 0) a (nI s) (nI g) post := by
  have h0 := hv.1
  -- ways, one after the other
  have way : ∀ (k n fuel : Nat) (S1 : PS) (h1 : Nat → Nat → Int32) (r : Nat → Nat → Nat) (fl : Nat), n + k = 739 → k < fuel → FS S B F h1 S1 → rmH r h1 → fst_ok v s g r fl n → f_X1_mostFlow_L59 post fuel S1 (B 0) (nI s) (nI g) (nI fl) (nI n) := by
    intro k
    induction k with
    | zero =>
      intro n fuel S1 h1 r fl hn hf H1 hr ho
      obtain ⟨-, -, e, -, -, -, e4⟩ := ho
      omega
    | succ k ih =>
      intro n fuel S1 h1 r fl hn hf H1 hr ho
      obtain ⟨f, rfl⟩ : ∃ f, fuel = f + 1 := ⟨fuel - 1, by omega⟩
      have hlt : ∀ x y, x < 9 → y < 9 → r x y < 2 ^ 31 := fun x y hx hy => by
        have := ho.1 x y hx hy
        have := hv.lt hx hy
        have := hv.lt hy hx
        omega
      simp only [f_X1_mostFlow_L59]
      rw [if_neg (show ¬ (1000 : Int32) ≤ nI n from (nI_ge (show n < 1000 by omega) (by omega) : ¬ nI 1000 ≤ nI n)), OS_isO hB (by omega) H1]
      refine w_finds hB H1 hr hlt (by omega) (by omega) (fun S2 h2 R c d H2 e1 hR hc => ?_)
      have hr2 : rmH r h2 := fun x y hx hy => by rw [e1]; exact hr x y hx hy
      by_cases hgR : R.testBit g = true
      · obtain ⟨q1, q2, q3, q4, q5⟩ := fst_step hv hsg (by omega) (by omega) ho hR hgR
        have hw : onW c (wyP c d s h2) (d g) g := onW_mono (fun y hy => ⟨R9 hR.1 hy.1.1, hy.2.1, hy.1.2, hc y hy.1.1 hy.1.2, hy.2.2.2.2, fun z => srch_0 hR hy.2.2.1 z⟩) (srch_w hR hgR rfl)
        rw [if_pos hgR, if_neg (by decide), OS_isO hB (by omega) H2]
        unfold f_X1_narrowest
        rw [nI_mx, n0, w_narrow hB H2 hr2 hlt (by omega) (d g) g 2147483647 4096 0 rfl hw (fun z => by omega) (by omega) (by omega) (by omega), OS_isO hB (by omega) H2]
        refine w_push hB (by omega) (d g) g 4096 0 r S2 h2 H2 hr2 rfl hw q4 (fun z => by omega) (by omega) (by omega) (fun S3 h3 H3 hr3 => ?_)
        rw [nI_add, nI_1]
        exact ih (n + 1) f S3 h3 _ _ (by omega) (by omega) H3 hr3 q5
      · have hgR2 : R.testBit g = false := by simpa using hgR
        rw [if_neg hgR, if_pos rfl, fst_end hv hsg hg hs ho hR hgR2]
        exact next S2 h2 H2
  have fill := loop_i (W := fun fuel i (s' : PS × (Nat → Nat → Int32)) => f_X1_mostFlow_L3 post fuel s'.1 (B 0) a (nI s) (nI g) (nI i))
    (I := fun i s' => FS S B F s'.2 s'.1 ∧ ∀ x, x < i → ∀ y, y < 9 → s'.2 1 (9 * x + y) = nI (wt v x y)) 9 (fun n s' hI => ?_) (fun n i s' hi hI ih => ?_) 4096 0 (S, h) (by omega) (by omega) ⟨H, fun x hx => by omega⟩
  · exact fill
  · obtain ⟨c1, c2⟩ := hI
    show f_X1_mostFlow_L3 post (n + 1) s'.1 (B 0) a (nI s) (nI g) (nI 9)
    simp only [f_X1_mostFlow_L3, f_X1_mostFlow_J53]
    rw [if_pos (by rw [n9]; exact Int32.le_refl _)]
    exact way 739 0 4096 s'.1 s'.2 (wt v) 0 (by omega) (by omega) c1 (fun x y hx hy => c2 x hx y hy) (fst_0 hv)
  · obtain ⟨c1, c2⟩ := hI
    have row := loop_i (W := fun fuel j (s2 : PS × (Nat → Nat → Int32)) => f_X1_mostFlow_L13 post (f_X1_mostFlow_L3 post n) fuel s2.1 (B 0) a (nI s) (nI g) (nI i) (nI j))
      (I := fun j s2 => FS S B F s2.2 s2.1 ∧ (∀ y, y < 9 * i → s2.2 1 y = s'.2 1 y) ∧ ∀ y, y < j → s2.2 1 (9 * i + y) = nI (wt v i y)) 9 (fun n' s2 hI => ?_) (fun n' j s2 hj hI ih2 => ?_) 4096 0 s' (by omega) (by omega) ⟨c1, fun y _ => rfl, fun y hy => by omega⟩
    · show f_X1_mostFlow_L3 post (n + 1) s'.1 (B 0) a (nI s) (nI g) (nI i)
      simp only [f_X1_mostFlow_L3]
      rw [if_neg (by rw [n9]; exact nI_ge hi (by omega))]
      exact row
    · obtain ⟨d1, d2, d3⟩ := hI
      show f_X1_mostFlow_L13 post (f_X1_mostFlow_L3 post n) (n' + 1) s2.1 (B 0) a (nI s) (nI g) (nI i) (nI 9)
      simp only [f_X1_mostFlow_L13, f_X1_mostFlow_J47]
      rw [if_pos (by rw [n9]; exact Int32.le_refl _), nI_1]
      refine ih s2 ⟨d1, fun x hx y hy => ?_⟩
      by_cases e : x = i
      · rw [e]; exact d3 y hy
      · rw [d2 _ (by omega)]; exact c2 x (by omega) y hy
    · obtain ⟨d1, d2, d3⟩ := hI
      have hV1 := OS_isV d1 hV hd
      show f_X1_mostFlow_L13 post (f_X1_mostFlow_L3 post n) (n' + 1) s2.1 (B 0) a (nI s) (nI g) (nI i) (nI j)
      simp only [f_X1_mostFlow_L13]
      rw [if_neg (by rw [n9]; exact nI_ge hj (by omega)), OS_gR hB (by omega) d1 (k := 1) (f := 0) rfl, VO hV1, e_tie hV1 hv hi hj, n9, pk_mul, nI_add, nI_1]
      refine OS_sI hB (by omega) d1 (k := 1) (by omega) (show i * 9 + j < 81 by omega) (by decide) (fun S5 H5 => ?_)
      refine ih2 (S5, _) ⟨H5, fun y hy => ?_, fun y hy => ?_⟩
      · show hu s2.2 1 _ _ 1 y = _
        rw [hu_off (by omega)]; exact d2 y hy
      · show hu s2.2 1 _ _ 1 _ = _
        rw [hu_if]
        by_cases e : y = j
        · subst e; rw [if_pos (by omega)]
        · rw [if_neg (by omega)]; exact d3 y (by omega)
end FLS

