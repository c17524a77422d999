/-! orders: when they are refused, what they make, and that the class does so -/
def ix (x : Int32) : Nat := x.toNatClampNeg
theorem ix_nI {i : Nat} (h : i < 2 ^ 31) : ix (nI i) = i := nI_clamp h
def inb (v : Vt) (x : Int32) : Bool := decide (¬ x < 0) && decide (¬ nI (v 0) ≤ x)
theorem inb_iff {v : Vt} {x : Int32} : inb v x = true ↔ inV v x := by
  unfold inb inV
  rw [Bool.and_eq_true, decide_eq_true_eq, decide_eq_true_eq]
theorem inb_no {v : Vt} {x : Int32} (h : inb v x = false) : ¬ inV v x := fun z => by rw [inb_iff.mpr z] at h; cases h
theorem inb_of {v : Vt} (h0 : v 0 ≤ 9) {x : Int32} (h : inb v x = true) : ix x < v 0 ∧ x = nI (ix x) := by
  have h1 := inb_iff.mp h
  rcases pk_ix x (n := v 0) (by omega) with h2 | h2 | ⟨i, h2, rfl⟩
  · exact absurd h2 h1.1
  · exact absurd h2 h1.2
  · rw [ix_nI (by omega)]; exact ⟨h2, rfl⟩
theorem inb_nI {v : Vt} (h0 : v 0 ≤ 9) {i : Nat} (hi : i < v 0) : inb v (nI i) = true := by
  rw [inb_iff]
  exact ⟨nI_pos (by omega), nI_ge hi (by omega)⟩
def pairR (v : Vt) (x y : Int32) : Option (Int32 × Int32) := if inb v x = true then (if inb v y = true then (if x = y then some (3, x) else none) else some (2, y)) else some (2, x)
def refR (v : Vt) : Nat → Int32 → Int32 → Int32 → Option (Int32 × Int32)
  | 0, _, _, _ => if v 0 = 9 then some (1, 9) else none
  | 1, x, _, _ => if inb v x = true then none else some (2, x)
  | 2, x, y, w => match pairR v x y with
    | some q => some q
    | none => if w < 1 ∨ ¬ w ≤ 99 then some (4, w) else if nI (wt v (ix x) (ix y)) = w then some (5, w) else none
  | 3, x, y, _ => match pairR v x y with
    | some q => some q
    | none => if wt v (ix x) (ix y) = 0 then some (6, nI (bm v)) else none
  | 4, x, y, _ => pairR v x y
  | 5, x, y, _ => if inb v x = true then (if ¬ y = 0 ∧ ¬ y = 1 then some (4, y) else if nI (v (4 + ix x)) = y then some (5, y) else none) else some (2, x)
  | _, _, _, _ => if v 0 < 2 then some (7, nI (v 0)) else none
def lgr (v : Vt) : Nat := gr v (lph v (v 0 - 2)) (v 0 - lph v (v 0 - 2) - 1)
def doV (v : Vt) : Nat → Int32 → Int32 → Int32 → Vt
  | 0, _, _, _ => vCom v
  | 1, x, _, _ => vGo v (ix x)
  | 2, x, y, w => vBnd v (ix x) (ix y) (ix w)
  | 3, x, y, _ => vBnd v (ix x) (ix y) 0
  | 4, x, y, _ => vMar v (ix x) (ix y)
  | 5, x, y, _ => vSid v (ix x) (ix y)
  | _, _, _, _ => vPar v (lgr v)
def doA (v : Vt) : Nat → Int32 → Int32 → Int32 → Nat
  | 0, _, _, _ => v 0
  | 1, _, _, _ => v 0 - 1
  | 2, x, y, _ => wt v (ix x) (ix y)
  | 3, x, y, _ => wt v (ix x) (ix y)
  | 4, x, y, _ => if ix y < ix x then ix x - 1 else ix x
  | 5, x, y, _ => fo (vSid v (ix x) (ix y)) (sds (vSid v (ix x) (ix y)))
  | _, _, _, _ => fo (vPar v (lgr v)) (sds (vPar v (lgr v)))
theorem pairR_none {v : Vt} (h0 : v 0 ≤ 9) {x y : Int32} (h : pairR v x y = none) : inb v x = true ∧ inb v y = true ∧ x ≠ y ∧ ix x < v 0 ∧ x = nI (ix x) ∧ ix y < v 0 ∧ y = nI (ix y) ∧ ix x ≠ ix y := by
  unfold pairR at h
  by_cases h1 : inb v x = true
  · rw [if_pos h1] at h
    by_cases h2 : inb v y = true
    · rw [if_pos h2] at h
      by_cases h3 : x = y
      · rw [if_pos h3] at h; cases h
      · obtain ⟨a1, a2⟩ := inb_of h0 h1
        obtain ⟨b1, b2⟩ := inb_of h0 h2
        exact ⟨h1, h2, h3, a1, a2, b1, b2, fun e => h3 (by rw [a2, b2, e])⟩
    · rw [if_neg h2] at h; cases h
  · rw [if_neg h1] at h; cases h
theorem lgr_lt {v : Vt} (hv : okV v) (h2 : 2 ≤ v 0) : lgr v < 2 ^ v 0 := by
  have hl := lph_le (v := v) (v 0 - 2)
  have := (cut_fo hv (p := lph v (v 0 - 2)) (by omega)).2.2
  unfold lgr; omega
theorem w99 {w : Int32} (h : ¬ (w < 1 ∨ ¬ w ≤ 99)) : ix w ≤ 99 ∧ w = nI (ix w) := by
  have h1 : ¬ w < 0 := fun z => h (Or.inl (Int32.lt_trans z (by decide)))
  have h2 : w ≤ 99 := Classical.byContradiction fun z => h (Or.inr z)
  obtain ⟨j, hj, rfl⟩ := nI_of2 (M := 99) (n := 99) (by decide) h1 h2
  rw [ix_nI (by omega)]
  exact ⟨hj, rfl⟩
/-- what isn't refused makes a village again, its bonds but little more -/
theorem doV_ok {v : Vt} (hv : okV v) : ∀ (o : Nat) (x y w : Int32), refR v o x y w = none → okS (doV v o x y w) ∧ tot (doV v o x y w) ≤ tot v + 198 := by
  intro o x y w h
  have hs := hv.S
  have h0 := hv.1
  match o, h with
  | 0, h =>
    have h9 : v 0 < 9 := by
      rcases Nat.lt_or_ge (v 0) 9 with q | q
      · exact q
      · have : refR v 0 x y w = some (1, 9) := if_pos (by omega)
        rw [this] at h; cases h
    obtain ⟨a1, a2⟩ := ok_com hs h9
    exact ⟨a1, by show tot (vCom v) ≤ _; omega⟩
  | 1, h =>
    have hx : inb v x = true := by
      cases hb : inb v x with
      | true => rfl
      | false =>
        have : refR v 1 x y w = some (2, x) := if_neg (by rw [hb]; decide)
        rw [this] at h; cases h
    obtain ⟨a1, a2⟩ := ok_leave hs (inb_of h0 hx).1
    exact ⟨a1, by show tot (vGo v (ix x)) ≤ _; omega⟩
  | 2, h =>
    cases hp : pairR v x y with
    | some q =>
      have : refR v 2 x y w = some q := by simp only [refR, hp]
      rw [this] at h; cases h
    | none =>
      obtain ⟨-, -, -, b1, b2, b3, b4, b5⟩ := pairR_none h0 hp
      have hw : ¬ (w < 1 ∨ ¬ w ≤ 99) := fun z => by
        have : refR v 2 x y w = some (4, w) := by simp only [refR, hp]; rw [if_pos z]
        rw [this] at h; cases h
      obtain ⟨c1, c2⟩ := w99 hw
      obtain ⟨a1, a2⟩ := ok_bnd (x := ix w) hs b1 b3 b5
      exact ⟨a1, by show tot (vBnd v (ix x) (ix y) (ix w)) ≤ _; omega⟩
  | 3, h =>
    cases hp : pairR v x y with
    | some q =>
      have : refR v 3 x y w = some q := by simp only [refR, hp]
      rw [this] at h; cases h
    | none =>
      obtain ⟨-, -, -, b1, b2, b3, b4, b5⟩ := pairR_none h0 hp
      obtain ⟨a1, a2⟩ := ok_bnd (x := 0) hs b1 b3 b5
      exact ⟨a1, by show tot (vBnd v (ix x) (ix y) 0) ≤ _; omega⟩
  | 4, h =>
    obtain ⟨-, -, -, b1, b2, b3, b4, b5⟩ := pairR_none h0 (show pairR v x y = none from h)
    obtain ⟨a1, a2⟩ := ok_mar hs b1 b3 b5
    exact ⟨a1, by show tot (vMar v (ix x) (ix y)) ≤ _; omega⟩
  | 5, h =>
    have hx : inb v x = true := by
      cases hb : inb v x with
      | true => rfl
      | false =>
        have : refR v 5 x y w = some (2, x) := if_neg (by rw [hb]; decide)
        rw [this] at h; cases h
    have hy : ix y ≤ 1 := by
      by_cases e : ¬ y = 0 ∧ ¬ y = 1
      · have : refR v 5 x y w = some (4, y) := by simp only [refR]; rw [if_pos hx, if_pos e]
        rw [this] at h; cases h
      · by_cases e0 : y = 0
        · rw [e0]; decide
        · by_cases e1 : y = 1
          · rw [e1]; decide
          · exact absurd ⟨e0, e1⟩ e
    obtain ⟨a1, a2⟩ := ok_sid hs (inb_of h0 hx).1 hy
    exact ⟨a1, by show tot (vSid v (ix x) (ix y)) ≤ _; omega⟩
  | o + 6, h =>
    have h2 : 2 ≤ v 0 := by
      rcases Nat.lt_or_ge (v 0) 2 with q | q
      · have : refR v (o + 6) x y w = some (7, nI (v 0)) := if_pos q
        rw [this] at h; cases h
      · exact q
    obtain ⟨a1, a2⟩ := ok_par hs (lgr_lt hv h2)
    exact ⟨a1, by show tot (vPar v (lgr v)) ≤ _; omega⟩
def rK (x y : Int32) : Nat → Int32 := fun k => if k = 0 then x else if k = 1 then y else 0
def rB (r : Nat → Int32) (x y : Int32) : Nat → Int32 := fun k => if k = 0 then x else if k = 1 then y else if k = 2 then r 0 else r 1
section CO
variable {S : PS} {ow : Ow} {A : Nat → Nat} {v : Vt} {hs : List Vt} {sv : Option Vt} {r : Nat → Int32} {tx : List Nat} {fa : Int32} {ln : List Nat}
theorem p8_keep {S : PS} {ow : Ow} {a : Nat} {r : Nat → Int32} {x y : Int32} {post : PS → Prop} (h : P8 S ow a r) (next : ∀ S1, keeps [8] S ow S1 ow → P8 S1 ow a (rK x y) → post S1) : f_X4_keep S a x y post := by
  obtain ⟨h1, h2, h3⟩ := h
  unfold f_X4_keep
  refine pV_to h1 h3 (by show 0 < 4; decide) rfl (fun S3 c3 m3 e3 => ?_)
  refine pV_to m3 e3 (by show 1 < 4; decide) rfl (fun S4 c4 m4 e4 => ?_)
  refine pV_to m4 e4 (by show 2 < 4; decide) rfl (fun S5 c5 m5 e5 => ?_)
  refine pV_to m5 e5 (by show 3 < 4; decide) rfl (fun S6 c6 m6 e6 => ?_)
  exact next S6 (keeps_1 (((c3.trans c4).trans c5).trans c6) h2) ⟨m6, h2, e6⟩
theorem x_if0 {y z : Int32} {post : Int32 → PS → Prop} : f_X7_refusesIf S (A 12) 0 y z post = post 0 S := by
  unfold f_X7_refusesIf
  rw [if_pos rfl, nZ0]
theorem x_if1 {y z : Int32} {post : Int32 → PS → Prop} (h : CI S ow A v hs sv r tx fa ln) (next : ∀ S1, CI S1 ow A v hs sv (rK y z) tx fa ln → keeps [8] S ow S1 ow → post 1 S1) : f_X7_refusesIf S (A 12) 1 y z post := by
  unfold f_X7_refusesIf
  rw [if_neg (by decide), G_8 h, O_8 h]
  refine p8_keep (r := r) h.2.2.2.2.2.2.2.2.2.1 (fun S1 k n => ?_)
  rw [nZ1]
  exact next S1 (CI_up8 h k n) k
theorem x_refH {x : Int32} {post : Int32 → PS → Prop} (h : CI S ow A v hs sv r tx fa ln) (h0 : inb v x = true → post 0 S) (next : inb v x = false → ∀ S1, CI S1 ow A v hs sv (rK 2 x) tx fa ln → keeps [8] S ow S1 ow → post 1 S1) : f_X7_refusesHousehold S (A 12) x post := by
  obtain ⟨t, hV⟩ := Vx h
  unfold f_X7_refusesHousehold
  rw [G_0 h, O_0 h]
  cases hb : inb v x with
  | true =>
    rw [e_hasY hV (inb_iff.mp hb), if_neg (by decide)]
    unfold f_X7_refusesHousehold_J17
    rw [G_O h, x_if0, nZ0]
    exact h0 hb
  | false =>
    rw [e_hasN hV (inb_no hb), if_pos rfl]
    unfold f_X7_refusesHousehold_J17
    rw [G_O h]
    refine x_if1 h (fun S1 n k => ?_)
    rw [nZ1]
    exact next hb S1 n k
theorem x_refP {x y : Int32} {post : Int32 → PS → Prop} (h : CI S ow A v hs sv r tx fa ln) (h0 : pairR v x y = none → post 0 S) (next : ∀ q, pairR v x y = some q → ∀ S1, CI S1 ow A v hs sv (rK q.1 q.2) tx fa ln → keeps [8] S ow S1 ow → post 1 S1) : f_X7_refusesPair S (A 12) x y post := by
  unfold f_X7_refusesPair
  rw [G_O h]
  refine x_refH h (fun hx => ?_) (fun hx S1 n k => ?_)
  · rw [if_pos rfl, G_O h]
    refine x_refH h (fun hy => ?_) (fun hy S1 n k => ?_)
    · rw [if_pos rfl]
      unfold f_X7_refusesPair_J27
      by_cases e : x = y
      · rw [if_pos e, G_O h]
        refine x_if1 h (fun S1 n k => ?_)
        rw [if_neg (by decide), nZ1]
        exact next (3, x) (by unfold pairR; rw [if_pos hx, if_pos hy, if_pos e]) S1 n k
      · rw [if_neg e, G_O h, x_if0, if_pos rfl, nZ0]
        exact h0 (by unfold pairR; rw [if_pos hx, if_pos hy, if_neg e])
    · rw [if_neg (by decide), nZ1]
      exact next (2, y) (by unfold pairR; rw [if_pos hx, if_neg (by rw [hy]; decide)]) S1 n k
  · rw [if_neg (by decide), nZ1]
    exact next (2, x) (by unfold pairR; rw [if_neg (by rw [hx]; decide)]) S1 n k
theorem x_refuses {post : Int32 → PS → Prop} (h : CI S ow A v hs sv r tx fa ln) (hv : okV v) : ∀ (o : Nat) (x y w : Int32), o ≤ 6 → (refR v o x y w = none → post 0 S) → (∀ q, refR v o x y w = some q → ∀ S1, CI S1 ow A v hs sv (rK q.1 q.2) tx fa ln → keeps [8] S ow S1 ow → post 1 S1) → f_X7_refuses S (A 12) (nI o) x y w post := by
  intro o x y w ho h0 next
  obtain ⟨t, hV⟩ := Vx h
  have h9 := hv.1
  unfold f_X7_refuses
  rcases (show o = 0 ∨ o = 1 ∨ o = 2 ∨ o = 3 ∨ o = 4 ∨ o = 5 ∨ o = 6 by omega) with rfl | rfl | rfl | rfl | rfl | rfl | rfl
  · rw [if_pos (show nI 0 = 0 from rfl), G_0 h, V1 hV]
    unfold f_X7_refuses_J58
    by_cases e : v 0 = 9
    · rw [if_neg (show ¬ nI (v 0) < 9 from nI_nlt (b := 9) (by omega) (by omega)), G_0 h, V1 hV, G_O h]
      refine x_if1 h (fun S1 n k => ?_)
      rw [nZ1]
      exact next (1, 9) (if_pos e) S1 (by rw [e] at n; exact n) k
    · rw [if_pos (show nI (v 0) < 9 from nI_lt (b := 9) (by omega) (by omega)), G_0 h, V1 hV, G_O h, x_if0, nZ0]
      exact h0 (if_neg e)
  · rw [if_neg (show ¬ nI 1 = 0 by decide), if_pos (show nI 1 = 1 from rfl), G_O h]
    refine x_refH h (fun hx => ?_) (fun hx S1 n k => ?_)
    · rw [nZ0]; exact h0 (if_pos hx)
    · rw [nZ1]; exact next (2, x) (if_neg (by rw [hx]; decide)) S1 n k
  · rw [if_neg (show ¬ nI 2 = 0 by decide), if_neg (show ¬ nI 2 = 1 by decide), if_pos (show nI 2 = 2 from rfl), G_O h]
    refine x_refP h (fun hp => ?_) (fun q hp S1 n k => ?_)
    · obtain ⟨-, -, -, b1, b2, b3, b4, b5⟩ := pairR_none h9 hp
      have bad : (w < 1 ∨ ¬ w ≤ 99) → f_X7_refuses_J99 post S (A 12) x y w (A 12) := fun hw => by
        unfold f_X7_refuses_J99 f_X7_refuses_J104
        rw [G_O h]
        refine x_if1 h (fun S1 n k => ?_)
        rw [if_neg (by decide), nZ1]
        exact next (4, w) (by simp only [refR, hp]; rw [if_pos hw]) S1 n k
      rw [if_pos rfl]
      by_cases e1 : w < 1
      · rw [if_pos e1]; exact bad (Or.inl e1)
      · rw [if_neg e1]
        by_cases e2 : w ≤ 99
        · have hw : ¬ (w < 1 ∨ ¬ w ≤ 99) := fun z => by rcases z with z | z; exact e1 z; exact z e2
          rw [if_pos e2]
          unfold f_X7_refuses_J104
          rw [G_O h, x_if0, if_pos rfl, G_0 h, O_0 h, b2, b4, e_tie hV hv (by omega) (by omega)]
          unfold f_X7_refuses_J133
          by_cases e3 : nI (wt v (ix x) (ix y)) = w
          · rw [if_pos e3, G_O h]
            refine x_if1 h (fun S1 n k => ?_)
            rw [if_neg (by decide), nZ1]
            exact next (5, w) (by simp only [refR, hp]; rw [if_neg hw, if_pos e3]) S1 n k
          · rw [if_neg e3, G_O h, x_if0, if_pos rfl, nZ0]
            exact h0 (by simp only [refR, hp]; rw [if_neg hw, if_neg e3])
        · rw [if_neg e2]; exact bad (Or.inr e2)
    · rw [if_neg (by decide), nZ1]
      exact next q (by simp only [refR, hp]) S1 n k
  · rw [if_neg (show ¬ nI 3 = 0 by decide), if_neg (show ¬ nI 3 = 1 by decide), if_neg (show ¬ nI 3 = 2 by decide), if_pos (show nI 3 = 3 from rfl), G_0 h, O_0 h]
    have go : ∀ t0 : Int32, (pairR v x y = none → t0 = if wt v (ix x) (ix y) = 0 then 1 else 0) → f_X7_refuses_J165 post S (A 12) x y t0 := fun t0 ht => by
      unfold f_X7_refuses_J165
      rw [G_O h]
      refine x_refP h (fun hp => ?_) (fun q hp S1 n k => ?_)
      · rw [if_pos rfl, G_0 h, O_0 h, e_bondCount hV hv, G_O h, ht hp]
        by_cases e : wt v (ix x) (ix y) = 0
        · rw [if_pos e]
          refine x_if1 h (fun S1 n k => ?_)
          rw [if_neg (by decide), nZ1]
          exact next (6, nI (bm v)) (by simp only [refR, hp]; rw [if_pos e]) S1 n k
        · rw [if_neg e, x_if0, if_pos rfl, nZ0]
          exact h0 (by simp only [refR, hp]; rw [if_neg e])
      · rw [if_neg (by decide), nZ1]
        exact next q (by simp only [refR, hp]) S1 n k
    cases hp : pairR v x y with
    | none =>
      obtain ⟨-, -, -, b1, b2, b3, b4, b5⟩ := pairR_none h9 hp
      have hlt := hv.lt (show ix x < 9 by omega) (show ix y < 9 by omega)
      rw [b2, b4, e_tie hV hv (by omega) (by omega), ← b2, ← b4]
      by_cases e : wt v (ix x) (ix y) = 0
      · rw [if_pos (by rw [e]; rfl)]
        exact go 1 (fun _ => by rw [if_pos e])
      · rw [if_neg (nI_ne0 (by omega) (by omega))]
        exact go 0 (fun _ => by rw [if_neg e])
    | some q =>
      have e2 : ∀ t0, f_X7_refuses_J165 post S (A 12) x y t0 := fun t0 => go t0 (fun z => by rw [hp] at z; cases z)
      by_cases hin : inV v x ∧ inV v y
      · obtain ⟨i, i1, rfl⟩ := inV_of hv hin.1
        obtain ⟨j, j1, rfl⟩ := inV_of hv hin.2
        rw [e_tie hV hv (by omega) (by omega)]
        split
        · exact e2 1
        · exact e2 0
      · rw [e_tieN hV hin, if_pos rfl]
        exact e2 1
  · rw [if_neg (show ¬ nI 4 = 0 by decide), if_neg (show ¬ nI 4 = 1 by decide), if_neg (show ¬ nI 4 = 2 by decide), if_neg (show ¬ nI 4 = 3 by decide), if_pos (show nI 4 = 4 from rfl), G_O h]
    refine x_refP h (fun hp => ?_) (fun q hp S1 n k => ?_)
    · rw [nZ0]; exact h0 hp
    · rw [nZ1]; exact next q hp S1 n k
  · rw [if_neg (show ¬ nI 5 = 0 by decide), if_neg (show ¬ nI 5 = 1 by decide), if_neg (show ¬ nI 5 = 2 by decide), if_neg (show ¬ nI 5 = 3 by decide), if_neg (show ¬ nI 5 = 4 by decide), if_pos (show nI 5 = 5 from rfl), G_O h]
    refine x_refH h (fun hx => ?_) (fun hx S1 n k => ?_)
    · obtain ⟨b1, b2⟩ := inb_of h9 hx
      have go : (¬ (¬ y = 0 ∧ ¬ y = 1)) → f_X7_refuses_J229 post S (A 12) x y (A 12) := fun hy => by
        unfold f_X7_refuses_J229 f_X7_refuses_J230
        rw [G_O h, x_if0, if_pos rfl, G_0 h, O_0 h, b2, e_sideOf hV hv (by omega)]
        unfold f_X7_refuses_J256
        by_cases e3 : nI (v (4 + ix x)) = y
        · rw [if_pos e3, G_O h]
          refine x_if1 h (fun S1 n k => ?_)
          rw [if_neg (by decide), nZ1]
          exact next (5, y) (by simp only [refR]; rw [if_pos hx, if_neg hy, if_pos e3]) S1 n k
        · rw [if_neg e3, G_O h, x_if0, if_pos rfl, nZ0]
          exact h0 (by simp only [refR]; rw [if_pos hx, if_neg hy, if_neg e3])
      rw [if_pos rfl]
      by_cases e0 : y = 0
      · rw [if_pos e0]; exact go (fun z => z.1 e0)
      · rw [if_neg e0]
        by_cases e1 : y = 1
        · rw [if_pos e1]; exact go (fun z => z.2 e1)
        · rw [if_neg e1]
          unfold f_X7_refuses_J230
          rw [G_O h]
          refine x_if1 h (fun S1 n k => ?_)
          rw [if_neg (by decide), nZ1]
          exact next (4, y) (by simp only [refR]; rw [if_pos hx, if_pos ⟨e0, e1⟩]) S1 n k
    · rw [if_neg (by decide), nZ1]
      exact next (2, x) (by simp only [refR]; rw [if_neg (by rw [hx]; decide)]) S1 n k
  · rw [if_neg (show ¬ nI 6 = 0 by decide), if_neg (show ¬ nI 6 = 1 by decide), if_neg (show ¬ nI 6 = 2 by decide), if_neg (show ¬ nI 6 = 3 by decide), if_neg (show ¬ nI 6 = 4 by decide), if_neg (show ¬ nI 6 = 5 by decide), G_O h]
    unfold f_X7_isTooSmall
    rw [G_0 h, V1 hV]
    by_cases e : v 0 < 2
    · rw [if_neg (show ¬ (2 : Int32) ≤ nI (v 0) from nI_ge (b := 2) e (by omega)), nZ1]
      dsimp only
      rw [G_0 h, V1 hV, G_O h]
      refine x_if1 h (fun S1 n k => ?_)
      rw [nZ1]
      exact next (7, nI (v 0)) (if_pos e) S1 n k
    · rw [if_pos (show (2 : Int32) ≤ nI (v 0) from nI_le (a := 2) (by omega) (by omega)), nZ0]
      dsimp only
      rw [G_0 h, V1 hV, G_O h, x_if0, nZ0]
      exact h0 (if_neg e)
theorem Pv_up {S S1 : PS} {ow : Ow} {c a t : Nat} {v v' : Vt} (h : isV S a t v) (ha : ow a = c) (ht : ow t = c) (hc : chV a t S S1) (hn : isV S1 a t v') : keeps [c] S ow S1 ow ∧ Pv S1 ow c a v' := ⟨keeps_V hc ha ht, t, hn, ha, ht⟩
/-- phases are measured -/
theorem x_course {post : PS → Prop} {b c : Nat} {w : Vt} (h : CI S ow A v hs sv r tx fa ln) (hb : Pv S ow c b w) (hw : okV w) (hc : c ≠ 4) (next : ∀ S1 B F g, CI S1 ow A v hs sv r tx fa ln → keeps [4] S ow S1 ow → B 0 = A 4 → oB 6 S1 B → CS S1 B F g S1 → cmeas w F g → post S1) : f_X3_measure S (A 4) b post := by
  have h4 := h.2.2.2.2.2.1
  obtain ⟨B, F, g, e, hB, H, ho⟩ := h4
  obtain ⟨t, hV, ob, ot⟩ := hb
  rw [← e]
  refine c_measure hB H hV hw (fun k hk => ⟨fun z => ?_, fun z => ?_⟩) (fun S1 F1 g1 H1 m => ?_)
  · rw [z, ho k hk] at ob; exact hc ob.symm
  · rw [z, ho k hk] at ot; exact hc ot.symm
  · have hk := keeps_OS H1 ho
    exact next S1 B F1 g1 (CI_up4 h hk ⟨B, F1, g1, e, Po_of hB H1 ho⟩) hk e (oB_re hB H1) (OS_re H1) m
theorem x_done {post : Int32 → PS → Prop} (h : CI S ow A v hs sv r tx fa ln) (hv : okV v) : ∀ (o : Nat) (x y w : Int32), o ≤ 6 → refR v o x y w = none → okV (doV v o x y w) → (∀ S1, CI S1 ow A (doV v o x y w) hs sv r tx fa ln → keeps [0, 4] S ow S1 ow → post (nI (doA v o x y w)) S1) → f_X7_done S (A 12) (nI o) x y w post := by
  intro o x y w ho hr hv' next
  have h00 := h.2.1
  obtain ⟨t, hV, o0, ot⟩ := h00
  have h9 := hv.1
  have m04 : ∀ c, c ∈ [0] → c ∈ [0, 4] := by decide
  unfold f_X7_done
  rcases (show o = 0 ∨ o = 1 ∨ o = 2 ∨ o = 3 ∨ o = 4 ∨ o = 5 ∨ o = 6 by omega) with rfl | rfl | rfl | rfl | rfl | rfl | rfl
  · have hlt : v 0 < 9 := by
      rcases Nat.lt_or_ge (v 0) 9 with q | q
      · exact q
      · have : refR v 0 x y w = some (1, 9) := if_pos (by omega)
        rw [this] at hr; cases hr
    rw [if_pos (show nI 0 = 0 from rfl), G_0 h, O_0 h]
    refine v_welcome hV hlt (fun S1 c n => ?_)
    obtain ⟨k1, n1⟩ := Pv_up hV o0 ot c n
    exact next S1 (CI_up0 h k1 n1) (k1.mono m04)
  · have hx : inb v x = true := by
      cases hb : inb v x with
      | true => rfl
      | false =>
        have : refR v 1 x y w = some (2, x) := if_neg (by rw [hb]; decide)
        rw [this] at hr; cases hr
    obtain ⟨b1, b2⟩ := inb_of h9 hx
    rw [if_neg (show ¬ nI 1 = 0 by decide), if_pos (show nI 1 = 1 from rfl), G_0 h, O_0 h, b2]
    refine v_dismiss hV hv.S.G b1 (fun S1 c n => ?_)
    obtain ⟨k1, n1⟩ := Pv_up hV o0 ot c n
    exact next S1 (CI_up0 h k1 n1) (k1.mono m04)
  · have hp : pairR v x y = none := by
      cases hp : pairR v x y with
      | none => rfl
      | some q =>
        have : refR v 2 x y w = some q := by simp only [refR, hp]
        rw [this] at hr; cases hr
    obtain ⟨-, -, -, b1, b2, b3, b4, b5⟩ := pairR_none h9 hp
    have hw : ¬ (w < 1 ∨ ¬ w ≤ 99) := fun z => by
      have : refR v 2 x y w = some (4, w) := by simp only [refR, hp]; rw [if_pos z]
      rw [this] at hr; cases hr
    obtain ⟨c1, c2⟩ := w99 hw
    rw [if_neg (show ¬ nI 2 = 0 by decide), if_neg (show ¬ nI 2 = 1 by decide), if_pos (show nI 2 = 2 from rfl), G_0 h, O_0 h, b2, b4, c2]
    refine v_retie hV h9 b1 b3 b5 (fun S1 c n => ?_)
    obtain ⟨k1, n1⟩ := Pv_up hV o0 ot c n
    exact next S1 (CI_up0 h k1 n1) (k1.mono m04)
  · have hp : pairR v x y = none := by
      cases hp : pairR v x y with
      | none => rfl
      | some q =>
        have : refR v 3 x y w = some q := by simp only [refR, hp]
        rw [this] at hr; cases hr
    obtain ⟨-, -, -, b1, b2, b3, b4, b5⟩ := pairR_none h9 hp
    rw [if_neg (show ¬ nI 3 = 0 by decide), if_neg (show ¬ nI 3 = 1 by decide), if_neg (show ¬ nI 3 = 2 by decide), if_pos (show nI 3 = 3 from rfl), G_0 h, O_0 h, b2, b4]
    refine v_retie (m := 0) hV h9 b1 b3 b5 (fun S1 c n => ?_)
    obtain ⟨k1, n1⟩ := Pv_up hV o0 ot c n
    exact next S1 (CI_up0 h k1 n1) (k1.mono m04)
  · obtain ⟨-, -, -, b1, b2, b3, b4, b5⟩ := pairR_none h9 (show pairR v x y = none from hr)
    rw [if_neg (show ¬ nI 4 = 0 by decide), if_neg (show ¬ nI 4 = 1 by decide), if_neg (show ¬ nI 4 = 2 by decide), if_neg (show ¬ nI 4 = 3 by decide), if_pos (show nI 4 = 4 from rfl), G_0 h, O_0 h, b2, b4]
    refine v_unite hV hv.S b1 b3 b5 (fun S1 c n => ?_)
    obtain ⟨k1, n1⟩ := Pv_up hV o0 ot c n
    exact next S1 (CI_up0 h k1 n1) (k1.mono m04)
  · have hx : inb v x = true := by
      cases hb : inb v x with
      | true => rfl
      | false =>
        have : refR v 5 x y w = some (2, x) := if_neg (by rw [hb]; decide)
        rw [this] at hr; cases hr
    obtain ⟨b1, b2⟩ := inb_of h9 hx
    have hy : ix y ≤ 1 ∧ y = nI (ix y) := by
      by_cases e : ¬ y = 0 ∧ ¬ y = 1
      · have : refR v 5 x y w = some (4, y) := by simp only [refR]; rw [if_pos hx, if_pos e]
        rw [this] at hr; cases hr
      · by_cases e0 : y = 0
        · rw [e0]; exact ⟨by decide, by decide⟩
        · by_cases e1 : y = 1
          · rw [e1]; exact ⟨by decide, by decide⟩
          · exact absurd ⟨e0, e1⟩ e
    rw [if_neg (show ¬ nI 5 = 0 by decide), if_neg (show ¬ nI 5 = 1 by decide), if_neg (show ¬ nI 5 = 2 by decide), if_neg (show ¬ nI 5 = 3 by decide), if_neg (show ¬ nI 5 = 4 by decide), if_pos (show nI 5 = 5 from rfl), G_0 h, O_0 h, b2, hy.2]
    refine v_moveTo hV hv.S b1 hy.1 (fun S1 c n => ?_)
    obtain ⟨k1, n1⟩ := Pv_up hV o0 ot c n
    have h1 := CI_up0 h k1 n1
    have hv5 : okV (vSid v (ix x) (ix y)) := hv'
    rw [G_0 h1, O_0 h1, e_feud n hv5, fb_fo hv5]
    exact next S1 h1 (k1.mono m04)
  · have h2 : 2 ≤ v 0 := by
      rcases Nat.lt_or_ge (v 0) 2 with q | q
      · have : refR v 6 x y w = some (7, nI (v 0)) := if_pos q
        rw [this] at hr; cases hr
      · exact q
    rw [if_neg (show ¬ nI 6 = 0 by decide), if_neg (show ¬ nI 6 = 1 by decide), if_neg (show ¬ nI 6 = 2 by decide), if_neg (show ¬ nI 6 = 3 by decide), if_neg (show ¬ nI 6 = 4 by decide), if_neg (show ¬ nI 6 = 5 by decide), G_4 h, G_0 h, O_4 h]
    refine x_course h h.2.1 hv (by decide) (fun S1 B F g h1 k1 e hB H m => ?_)
    have h10 := h1.2.1
    obtain ⟨t1, hV1, o01, ot1⟩ := h10
    rw [G_0 h1, G_4 h1, O_4 h1, ← e, c_leastGroup hB H m hv h2]
    refine v_sides hV1 hv.S (lgr_lt hv h2) (fun S2 c n => ?_)
    obtain ⟨k2, n2⟩ := Pv_up hV1 o01 ot1 c n
    have h3 := CI_up0 h1 k2 n2
    have hv6 : okV (vPar v (lgr v)) := hv'
    rw [G_0 h3, O_0 h3, e_feud n hv6]
    show post (nI (fb (vPar v (lgr v)))) S2
    rw [fb_fo hv6]
    exact next S2 h3 ((k1.mono (by decide)).trans (k2.mono m04))
/-- a change of its own: the village ahead of it is kept -/
theorem x_changed {bc bs : Nat} {post : Int32 → PS → Prop} (h : CI S ow A v hs sv r tx fa ln) (hv : okV v) {o : Nat} {x y w : Int32} (ho : o ≤ 6) (hr : refR v o x y w = none) (hv' : okV (doV v o x y w)) (h1 : 2 ≤ bc) (h2 : 87 ≤ bs) (next : ∀ S1 ow1, CI S1 ow1 A (doV v o x y w) ((v :: hs).take 8) sv r tx fa ln → keeps CC S ow S1 ow1 → post (nI (doA v o x y w)) S1) : f_X7_changed S (A 12) (nI o) x y w bc bs post := by
  unfold f_X7_changed
  rw [G_3 h, G_0 h, O_3 h]
  refine ⟨2, 87, h1, h2, ?_⟩
  refine h_keep h.2.2.2.2.1 h.2.1 (by omega) (by omega) (Nat.le_refl _) (Nat.le_refl _) (fun S1 ow1 i hi k n => ?_)
  have hc1 := CI_up3 h k (fun c hc => by simp at hc; omega) n
  rw [G_O hc1]
  refine x_done hc1 hv o x y w ho hr hv' (fun S2 hc2 k2 => next S2 ow1 hc2 (keeps.trans (k.mono (fun c hc => ?_)) (k2.mono (by decide))))
  simp at hc
  rcases hc with rfl | rfl
  · decide
  · rcases (show i = 0 ∨ i = 1 ∨ i = 2 ∨ i = 3 ∨ i = 4 ∨ i = 5 ∨ i = 6 ∨ i = 7 by omega) with rfl | rfl | rfl | rfl | rfl | rfl | rfl | rfl <;> decide
end CO

