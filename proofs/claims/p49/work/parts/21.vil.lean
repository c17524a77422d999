/-! a village as a row of numbers (0 households, 1 came, 2 went, 3 married, 4.. sides, 13.. weights), the class's object that holds it, what its methods tell -/
def wt (v : Nat → Nat) (i j : Nat) : Nat := v (13 + (9 * i + j))
def okV (v : Nat → Nat) : Prop := v 0 ≤ 9 ∧ (∀ k, k < 9 → v (4 + k) ≤ 1) ∧ (∀ k, k < 9 → v 0 ≤ k → v (4 + k) = 0) ∧ (∀ i j, i < 9 → j < 9 → wt v i j = wt v j i) ∧ (∀ i, i < 9 → wt v i i = 0) ∧ (∀ i j, i < 9 → j < 9 → v 0 ≤ i → wt v i j = 0) ∧ sm (fun i => sm (fun j => wt v i j) 9) 9 < 10000000
def sds (v : Nat → Nat) : Nat := mk9 (fun k => v (4 + k)) 9
def isV (S : PS) (a t : Nat) (v : Nat → Nat) : Prop := a ∈ S.1 ∧ t ∈ S.1 ∧ S.2 a = .inr (10, [.ref t, .int (nI (v 0)), .int (nI (sds v)), .int (nI (v 1)), .int (nI (v 2)), .int (nI (v 3))]) ∧ ∃ f : Nat → Int32, S.2 t = .inl (0, 81, .inl f) ∧ ∀ k, k < 81 → f k = nI (v (13 + k))
theorem okV.lt {v : Nat → Nat} (h : okV v) {i j : Nat} (hi : i < 9) (hj : j < 9) : wt v i j < 10000000 := by
  have h1 := sm_one (f := fun j => wt v i j) hj
  have h2 := sm_one (f := fun i => sm (fun j => wt v i j) 9) hi
  have h3 := h.2.2.2.2.2.2
  omega
theorem okV.out {v : Nat → Nat} (h : okV v) {i j : Nat} (hi : i < 9) (hj : j < 9) (ho : v 0 ≤ i ∨ v 0 ≤ j) : wt v i j = 0 := by
  rcases ho with ho | ho
  · exact h.2.2.2.2.2.1 i j hi hj ho
  · rw [h.2.2.2.1 i j hi hj]; exact h.2.2.2.2.2.1 j i hj hi ho
theorem sds_lt {v : Nat → Nat} (h : okV v) : sds v < 2 ^ 9 := mk9_lt h.2.1
theorem sds_tb {v : Nat → Nat} (h : okV v) {k : Nat} (hk : k < 9) : (sds v).testBit k = decide (v (4 + k) = 1) := by
  unfold sds; rw [mk9_tb h.2.1]; simp [hk]
def inV (v : Nat → Nat) (x : Int32) : Prop := ¬ x < 0 ∧ ¬ nI (v 0) ≤ x
theorem inV_nI {v : Nat → Nat} (hv : okV v) {i : Nat} (hi : i < 2 ^ 31) : inV v (nI i) ↔ i < v 0 := by
  have h0 := hv.1
  unfold inV
  rw [n0, nI_ltI hi (by omega), nI_leI (by omega) hi]
  omega
theorem inV_of {v : Nat → Nat} (hv : okV v) {x : Int32} (h : inV v x) : ∃ i, i < v 0 ∧ x = nI i := by
  have h0 := hv.1
  rcases pk_ix x (n := v 0) (by omega) with h1 | h1 | h1
  · exact absurd h1 h.1
  · exact absurd h1 h.2
  · exact h1
theorem c2n : (¬ nI 2 = 0) = True := c2
section VIL
variable {S : PS} {a t : Nat} {v : Nat → Nat} {post : Int32 → PS → Prop}
theorem V1 (h : isV S a t v) {kk : Int32 → Prop} : gI S a 10 1 kk = kk (nI (v 0)) := gI_eq h.1 h.2.2.1 rfl
theorem V2 (h : isV S a t v) {kk : Int32 → Prop} : gI S a 10 2 kk = kk (nI (sds v)) := gI_eq h.1 h.2.2.1 rfl
theorem V3 (h : isV S a t v) {kk : Int32 → Prop} : gI S a 10 3 kk = kk (nI (v 1)) := gI_eq h.1 h.2.2.1 rfl
theorem V4 (h : isV S a t v) {kk : Int32 → Prop} : gI S a 10 4 kk = kk (nI (v 2)) := gI_eq h.1 h.2.2.1 rfl
theorem V5 (h : isV S a t v) {kk : Int32 → Prop} : gI S a 10 5 kk = kk (nI (v 3)) := gI_eq h.1 h.2.2.1 rfl
theorem V0 (h : isV S a t v) {kk : Nat → Prop} : gR S a 10 0 kk = kk t := gR_eq h.1 h.2.2.1 rfl
theorem VO (h : isV S a t v) {P : Prop} : isO S a 10 P = P := isO_eq h.1 h.2.2.1
theorem VT (h : isV S a t v) {k : Nat} (hk : k < 81) {kk : Int32 → Prop} : aI S t 0 (nI k) kk = kk (nI (v (13 + k))) := by
  obtain ⟨-, h2, -, f, h4, h5⟩ := h
  rw [aI_nI h2 h4 hk (by decide), h5 k hk]
theorem e_isIn {s k : Nat} (hs : s < 2 ^ 31) (hk : k < 31) : f_X7_isIn S (nI s) (nI k) post = post (if s.testBit k = true then 1 else 0) S := by
  unfold f_X7_isIn
  by_cases h : s.testBit k = true
  · rw [if_pos (by rw [b_in hs hk]; exact h), if_pos h, nZ1]
  · rw [if_neg (by rw [b_in hs hk]; exact h), if_neg h, nZ0]
theorem e_has (h : isV S a t v) (x : Int32) [Decidable (inV v x)] : f_X6_has S a x post = post (if inV v x then 1 else 0) S := by
  unfold f_X6_has
  by_cases h1 : x < 0
  · rw [if_pos h1, nZ0, if_neg (fun q => q.1 h1)]
  · rw [if_neg h1, V1 h]
    by_cases h2 : nI (v 0) ≤ x
    · rw [if_pos h2, nZ0, if_neg (fun q => q.2 h2)]
    · rw [if_neg h2, nZ1, if_pos ⟨h1, h2⟩]
theorem e_hasY (h : isV S a t v) {x : Int32} (hx : inV v x) : f_X6_has S a x post = post 1 S := by
  classical
  rw [e_has h, if_pos hx]
theorem e_hasN (h : isV S a t v) {x : Int32} (hx : ¬ inV v x) : f_X6_has S a x post = post 0 S := by
  classical
  rw [e_has h, if_neg hx]
theorem z10 : ((1 : Int32) = 0) = False := by decide
theorem z01 : ((0 : Int32) = 1) = False := by decide
theorem e_tieN (h : isV S a t v) {x y : Int32} (hn : ¬ (inV v x ∧ inV v y)) : f_X6_tie S a x y post = post 0 S := by
  unfold f_X6_tie
  rw [VO h]
  by_cases hx : inV v x
  · rw [e_hasY h hx, if_neg (by decide), VO h, e_hasN h (fun q => hn ⟨hx, q⟩), if_pos rfl]
  · rw [e_hasN h hx, if_pos rfl]
theorem e_tie (h : isV S a t v) (hv : okV v) {i j : Nat} (hi : i < 9) (hj : j < 9) : f_X6_tie S a (nI i) (nI j) post = post (nI (wt v i j)) S := by
  by_cases hin : i < v 0 ∧ j < v 0
  · unfold f_X6_tie
    rw [VO h, e_hasY h ((inV_nI hv (by omega)).mpr hin.1), if_neg (by decide), VO h, e_hasY h ((inV_nI hv (by omega)).mpr hin.2), if_neg (by decide), V0 h, n9, pk_mul, nI_add, VT h (by omega), show i * 9 + j = 9 * i + j by omega]
    rfl
  · rw [e_tieN h (fun q => hin ⟨(inV_nI hv (by omega)).mp q.1, (inV_nI hv (by omega)).mp q.2⟩), hv.out hi hj (by omega)]
    rfl
theorem e_every (h : isV S a t v) (hv : okV v) : f_X6_everyone S a post = post (nI (2 ^ v 0 - 1)) S := by
  have h0 := hv.1
  unfold f_X6_everyone
  rw [V1 h, b_all _ (by omega)]
theorem e_phaseCount (h : isV S a t v) (hv : okV v) : f_X6_phaseCount S a post = post (nI (v 0 - 1)) S := by
  have h0 := hv.1
  unfold f_X6_phaseCount
  rw [V1 h, n2]
  by_cases h2 : 2 ≤ v 0
  · rw [if_pos (nI_le h2 (by omega)), V1 h, n1, pk_sub (by omega)]
  · rw [if_neg (nI_ge (by omega) (by omega)), show v 0 - 1 = 0 by omega]; rfl
def tS (v : Nat → Nat) (h s : Nat) : Nat := sm (fun j => if s.testBit j = true then wt v h j else 0) (v 0)
def tT (v : Nat → Nat) (r s : Nat) : Nat := sm (fun k => if r.testBit k = true then tS v k s else 0) (v 0)
def bo (v : Nat → Nat) (h : Nat) : Nat := sm (fun j => if 0 < wt v h j then 1 else 0) (v 0)
theorem e_tieToSet (h : isV S a t v) (hv : okV v) {x s : Nat} (hx : x < 9) (hs : s < 2 ^ 31) : f_X6_tieToSet S a (nI x) (nI s) post = post (nI (tS v x s)) S := by
  have h0 := hv.1
  refine lp_eq (L := fun fuel i => f_X6_tieToSet_L5 post fuel S a (nI x) (nI s) (nI (sm (fun j => if s.testBit j = true then wt v x j else 0) i)) (nI i)) (n := v 0) (fun fuel i hi => ?_) (fun fuel => ?_) 0 4096 (by omega) (by omega)
  · simp only [f_X6_tieToSet_L5, f_X6_tieToSet_J33, V1 h, if_neg (nI_ge hi (by omega)), e_isIn hs (show i < 31 by omega), sm, nI_1]
    by_cases hb : s.testBit i = true
    · simp only [if_pos hb, z10, if_false, VO h, e_tie h hv hx (show i < 9 by omega), nI_add]
    · simp only [if_neg hb, if_true, Nat.add_zero]
  · simp only [f_X6_tieToSet_L5, V1 h, if_pos (nI_le (Nat.le_refl (v 0)) (show v 0 < 2 ^ 31 by omega))]
    rfl
theorem e_bondsOf (h : isV S a t v) (hv : okV v) {x : Nat} (hx : x < 9) : f_X6_bondsOf S a (nI x) post = post (nI (bo v x)) S := by
  have h0 := hv.1
  refine lp_eq (L := fun fuel i => f_X6_bondsOf_L4 post fuel S a (nI x) (nI (sm (fun j => if 0 < wt v x j then 1 else 0) i)) (nI i)) (n := v 0) (fun fuel i hi => ?_) (fun fuel => ?_) 0 4096 (by omega) (by omega)
  · have hw := hv.lt hx (show i < 9 by omega)
    simp only [f_X6_bondsOf_L4, f_X6_bondsOf_J24, V1 h, if_neg (nI_ge hi (by omega)), VO h, e_tie h hv hx (show i < 9 by omega), sm, nI_1]
    by_cases hb : 0 < wt v x i
    · simp only [if_neg (nI_nle hb (show wt v x i < 2 ^ 31 by omega)), if_pos hb]
    · simp only [show wt v x i = 0 by omega, n0, if_pos (Int32.le_refl _), Nat.lt_irrefl, if_false, Nat.add_zero]
  · simp only [f_X6_bondsOf_L4, V1 h, if_pos (nI_le (Nat.le_refl (v 0)) (show v 0 < 2 ^ 31 by omega))]
    rfl
theorem bo_le {v : Nat → Nat} {x : Nat} : bo v x ≤ v 0 := by
  have : ∀ n, sm (fun j => if 0 < wt v x j then 1 else 0) n ≤ n := by
    intro n
    induction n with
    | zero => exact Nat.le_refl _
    | succ n ih => simp only [sm]; split <;> omega
  exact this _
theorem sm_bd {f : Nat → Nat} {c : Nat} : ∀ {n : Nat}, (∀ k, k < n → f k ≤ c) → sm f n ≤ n * c
  | 0, _ => by simp [sm]
  | n + 1, h => by
    have h1 := sm_bd (n := n) (fun k hk => h k (by omega))
    have h2 := h n (by omega)
    rw [sm, Nat.succ_mul]; omega
def bm (v : Nat → Nat) : Nat := sm (bo v) (v 0) / 2
theorem e_bondCount (h : isV S a t v) (hv : okV v) : f_X6_bondCount S a post = post (nI (bm v)) S := by
  have h0 := hv.1
  refine lp_eq (L := fun fuel i => f_X6_bondCount_L4 post fuel S a (nI (sm (bo v) i)) (nI i)) (n := v 0) (fun fuel i hi => ?_) (fun fuel => ?_) 0 4096 (by omega) (by omega)
  · simp only [f_X6_bondCount_L4, V1 h, if_neg (nI_ge hi (by omega)), VO h, e_bondsOf h hv (show i < 9 by omega), sm, nI_1, nI_add]
  · have hb : sm (bo v) (v 0) ≤ v 0 * 9 := sm_bd (fun k _ => Nat.le_trans bo_le h0)
    simp only [f_X6_bondCount_L4, f_X6_bondCount_J26, V1 h, if_pos (nI_le (Nat.le_refl (v 0)) (show v 0 < 2 ^ 31 by omega)), n2, c2n, true_and]
    rw [pk_div (by omega) (by omega) (by omega)]
    rfl
def lon (v : Nat → Nat) : Nat := sm (fun k => if bo v k = 0 then 1 else 0) (v 0)
theorem e_lonely (h : isV S a t v) (hv : okV v) : f_X6_lonelyCount S a post = post (nI (lon v)) S := by
  have h0 := hv.1
  refine lp_eq (L := fun fuel i => f_X6_lonelyCount_L4 post fuel S a (nI (sm (fun k => if bo v k = 0 then 1 else 0) i)) (nI i)) (n := v 0) (fun fuel i hi => ?_) (fun fuel => ?_) 0 4096 (by omega) (by omega)
  · have hb := bo_le (v := v) (x := i)
    simp only [f_X6_lonelyCount_L4, f_X6_lonelyCount_J23, V1 h, if_neg (nI_ge hi (by omega)), VO h, e_bondsOf h hv (show i < 9 by omega), sm, nI_1]
    by_cases hz : bo v i = 0
    · simp only [hz, if_true, n0]
    · simp only [if_neg hz, if_neg (nI_ne0 (show 0 < bo v i by omega) (show bo v i < 2 ^ 31 by omega)), Nat.add_zero]
  · simp only [f_X6_lonelyCount_L4, V1 h, if_pos (nI_le (Nat.le_refl (v 0)) (show v 0 < 2 ^ 31 by omega))]
    rfl
theorem e_sideOf (h : isV S a t v) (hv : okV v) {k : Nat} (hk : k < 9) : f_X6_sideOf S a (nI k) post = post (nI (v (4 + k))) S := by
  have h1 := hv.2.1 k hk
  have hs := sds_lt hv
  unfold f_X6_sideOf
  rw [V2 h, e_isIn (by omega) (by omega), sds_tb hv hk]
  rcases (show v (4 + k) = 0 ∨ v (4 + k) = 1 by omega) with h2 | h2
  · rw [h2]; rfl
  · rw [h2]; rfl
def ev (v : Nat → Nat) : Nat := 2 ^ v 0 - 1
def ss (v : Nat → Nat) (k : Nat) : Nat := if v (4 + k) = 1 then sds v else bn (ev v) (sds v)
def os (v : Nat → Nat) (k : Nat) : Nat := bn (ev v) (ss v k)
theorem ev_lt {v : Nat → Nat} (hv : okV v) : ev v < 2 ^ 9 := by
  have := Nat.pow_le_pow_right (show 0 < 2 by omega) hv.1
  unfold ev; omega
theorem ev_tb (v : Nat → Nat) (k : Nat) : (ev v).testBit k = decide (k < v 0) := b_allt _ _
theorem ss_lt {v : Nat → Nat} (hv : okV v) {k : Nat} : ss v k < 2 ^ 9 := by
  unfold ss; split
  · exact sds_lt hv
  · exact bn_lt (ev_lt hv)
theorem os_lt {v : Nat → Nat} (hv : okV v) {k : Nat} : os v k < 2 ^ 9 := bn_lt (ev_lt hv)
theorem e_same (h : isV S a t v) (hv : okV v) {k : Nat} (hk : k < 9) : f_X6_sameSide S a (nI k) post = post (nI (ss v k)) S := by
  have h1 := hv.2.1 k hk
  unfold f_X6_sameSide ss
  rw [VO h, e_sideOf h hv hk]
  rcases (show v (4 + k) = 0 ∨ v (4 + k) = 1 by omega) with h2 | h2
  · rw [h2, if_neg (by decide), if_neg (by decide), VO h, e_every h hv, V2 h, b_bn]; rfl
  · rw [h2, if_pos (show nI 1 = 1 from rfl), if_pos rfl, V2 h]
theorem e_other (h : isV S a t v) (hv : okV v) {k : Nat} (hk : k < 9) : f_X6_otherSide S a (nI k) post = post (nI (os v k)) S := by
  unfold f_X6_otherSide
  rw [VO h, e_every h hv, VO h, e_same h hv hk, b_bn]
  rfl
def inS (v : Nat → Nat) (x : Int32) : Prop := ∃ s, s < 2 ^ v 0 ∧ x = nI s
/-- the closest household and its tie, of the first i -/
def clo (v : Nat → Nat) (h : Nat) : Nat → Int32 × Nat
  | 0 => (-1, 0)
  | i + 1 => if (clo v h i).2 < wt v h i then (nI i, wt v h i) else clo v h i
theorem clo_lt {v : Nat → Nat} (hv : okV v) {x : Nat} (hx : x < 9) : ∀ {i : Nat}, i ≤ 9 → (clo v x i).2 < 10000000
  | 0, _ => by show 0 < 10000000; omega
  | i + 1, h => by
    have := clo_lt hv hx (i := i) (by omega)
    simp only [clo]
    split
    · exact hv.lt hx (by omega)
    · exact this
theorem e_closest (h : isV S a t v) (hv : okV v) {x : Nat} (hx : x < 9) : f_X6_closestTo S a (nI x) post = post (clo v x (v 0)).1 S := by
  have h0 := hv.1
  refine lp_eq (L := fun fuel i => f_X6_closestTo_L7 post fuel S a (nI x) (clo v x i).1 (nI (clo v x i).2) (nI i)) (n := v 0) (fun fuel i hi => ?_) (fun fuel => ?_) 0 4096 (by omega) (by omega)
  · have hw := hv.lt hx (show i < 9 by omega)
    have hc := clo_lt hv hx (show i ≤ 9 by omega)
    simp only [f_X6_closestTo_L7, f_X6_closestTo_J38, V1 h, if_neg (nI_ge hi (by omega)), VO h, e_tie h hv hx (show i < 9 by omega), clo, nI_1]
    by_cases hb : (clo v x i).2 < wt v x i
    · simp only [if_neg (nI_ge hb (show wt v x i < 2 ^ 31 by omega)), if_pos hb]
    · simp only [if_pos (nI_le (Nat.not_lt.mp hb) (show (clo v x i).2 < 2 ^ 31 by omega)), if_neg hb]
  · simp only [f_X6_closestTo_L7, V1 h, if_pos (nI_le (Nat.le_refl (v 0)) (show v 0 < 2 ^ 31 by omega))]
/-- the feud of the sides, bond by bond -/
def fbg (v : Nat → Nat) (i j : Nat) : Nat := if v (4 + i) = v (4 + j) then 0 else wt v i j
def fb (v : Nat → Nat) : Nat := pr (v 0) (fbg v)
theorem e_feud (h : isV S a t v) (hv : okV v) : f_X6_feudByBonds S a post = post (nI (fb v)) S := by
  have h0 := hv.1
  refine lp_pair (Lo := fun fuel c i => f_X6_feudByBonds_L4 post fuel S a (nI c) (nI i)) (Li := fun fuel fu c i j => f_X6_feudByBonds_L16 post (f_X6_feudByBonds_L4 post fuel) fu S a (nI c) (nI i) (nI j)) (P := fun c => post (nI c) S) (n := v 0) (by omega) (fun fuel c i hi => ?_) (fun fuel fu c i j hij hj => ?_) (fun fuel fu c i hi => ?_) (fun fuel c => ?_)
  · simp only [f_X6_feudByBonds_L4, V1 h, if_neg (nI_ge hi (show v 0 < 2 ^ 31 by omega)), nI_1]
  · have hsi := hv.2.1 i (by omega)
    have hsj := hv.2.1 j (by omega)
    simp only [f_X6_feudByBonds_L16, f_X6_feudByBonds_J46, V1 h, if_neg (nI_ge hj (show v 0 < 2 ^ 31 by omega)), VO h, e_sideOf h hv (show i < 9 by omega), e_sideOf h hv (show j < 9 by omega), nI_eq (show v (4 + i) < 2 ^ 31 by omega) (show v (4 + j) < 2 ^ 31 by omega), nI_1, fbg]
    by_cases hs : v (4 + i) = v (4 + j)
    · simp only [if_pos hs, Nat.add_zero]
    · simp only [if_neg hs, e_tie h hv (show i < 9 by omega) (show j < 9 by omega), nI_add]
  · simp only [f_X6_feudByBonds_L16, f_X6_feudByBonds_J52, V1 h, if_pos (nI_le (Nat.le_refl (v 0)) (show v 0 < 2 ^ 31 by omega)), nI_1]
  · simp only [f_X6_feudByBonds_L4, V1 h, if_pos (nI_le (Nat.le_refl (v 0)) (show v 0 < 2 ^ 31 by omega))]
def acg (v : Nat → Nat) (i j : Nat) : Nat := if v (4 + i) = v (4 + j) then 0 else if 0 < wt v i j then 1 else 0
def acr (v : Nat → Nat) : Nat := pr (v 0) (acg v)
theorem e_across (h : isV S a t v) (hv : okV v) : f_X6_bondsAcross S a post = post (nI (acr v)) S := by
  have h0 := hv.1
  refine lp_pair (Lo := fun fuel c i => f_X6_bondsAcross_L4 post fuel S a (nI c) (nI i)) (Li := fun fuel fu c i j => f_X6_bondsAcross_L16 post (f_X6_bondsAcross_L4 post fuel) fu S a (nI c) (nI i) (nI j)) (P := fun c => post (nI c) S) (n := v 0) (by omega) (fun fuel c i hi => ?_) (fun fuel fu c i j hij hj => ?_) (fun fuel fu c i hi => ?_) (fun fuel c => ?_)
  · simp only [f_X6_bondsAcross_L4, V1 h, if_neg (nI_ge hi (show v 0 < 2 ^ 31 by omega)), nI_1]
  · have hsi := hv.2.1 i (by omega)
    have hsj := hv.2.1 j (by omega)
    have hw := hv.lt (show i < 9 by omega) (show j < 9 by omega)
    simp only [f_X6_bondsAcross_L16, f_X6_bondsAcross_J49, V1 h, if_neg (nI_ge hj (show v 0 < 2 ^ 31 by omega)), VO h, e_sideOf h hv (show i < 9 by omega), e_sideOf h hv (show j < 9 by omega), nI_eq (show v (4 + i) < 2 ^ 31 by omega) (show v (4 + j) < 2 ^ 31 by omega), nI_1, acg]
    by_cases hs : v (4 + i) = v (4 + j)
    · simp only [if_pos hs, Nat.add_zero]
    · simp only [if_neg hs, e_tie h hv (show i < 9 by omega) (show j < 9 by omega)]
      by_cases hb : 0 < wt v i j
      · simp only [if_neg (nI_nle hb (show wt v i j < 2 ^ 31 by omega)), if_pos hb]
      · simp only [show wt v i j = 0 by omega, n0, if_pos (Int32.le_refl _), Nat.lt_irrefl, if_false, Nat.add_zero]
  · simp only [f_X6_bondsAcross_L16, f_X6_bondsAcross_J55, V1 h, if_pos (nI_le (Nat.le_refl (v 0)) (show v 0 < 2 ^ 31 by omega)), nI_1]
  · simp only [f_X6_bondsAcross_L4, V1 h, if_pos (nI_le (Nat.le_refl (v 0)) (show v 0 < 2 ^ 31 by omega))]
theorem tS_lt {v : Nat → Nat} (hv : okV v) {x s : Nat} (hx : x < 9) : tS v x s < 10000000 := by
  have h0 := hv.1
  have h1 : tS v x s ≤ sm (fun j => wt v x j) (v 0) := sm_le (fun k _ => by split <;> omega)
  have h2 : sm (fun j => wt v x j) 9 = sm (fun j => wt v x j) (v 0) := sm_cut h0 (fun k h1 h2 => hv.out hx h2 (Or.inr h1))
  have h3 := sm_one (f := fun i => sm (fun j => wt v i j) 9) hx
  have h4 := hv.2.2.2.2.2.2
  omega
theorem tSum_lt {v : Nat → Nat} (hv : okV v) {s : Nat → Nat} : sm (fun k => tS v k (s k)) (v 0) < 10000000 := by
  have h0 := hv.1
  have h1 : sm (fun k => tS v k (s k)) (v 0) ≤ sm (fun k => sm (fun j => wt v k j) 9) (v 0) := sm_le (fun k hk => by
    have h1 : tS v k (s k) ≤ sm (fun j => wt v k j) (v 0) := sm_le (fun k _ => by split <;> omega)
    have h2 : sm (fun j => wt v k j) 9 = sm (fun j => wt v k j) (v 0) := sm_cut h0 (fun j h1 h2 => hv.out (by omega) h2 (Or.inr h1))
    omega)
  have h2 : sm (fun k => sm (fun j => wt v k j) 9) 9 = sm (fun k => sm (fun j => wt v k j) 9) (v 0) := sm_cut h0 (fun k h1 h2 => sm_zero (fun j hj => hv.out h2 hj (Or.inl h1)))
  have h4 := hv.2.2.2.2.2.2
  omega
def fh (v : Nat → Nat) : Nat := sm (fun k => tS v k (os v k)) (v 0) / 2
theorem e_halves (h : isV S a t v) (hv : okV v) : f_X6_feudByHalves S a post = post (nI (fh v)) S := by
  have h0 := hv.1
  refine lp_eq (L := fun fuel i => f_X6_feudByHalves_L4 post fuel S a (nI (sm (fun k => tS v k (os v k)) i)) (nI i)) (n := v 0) (fun fuel i hi => ?_) (fun fuel => ?_) 0 4096 (by omega) (by omega)
  · have ho := os_lt hv (k := i)
    simp only [f_X6_feudByHalves_L4, V1 h, if_neg (nI_ge hi (show v 0 < 2 ^ 31 by omega)), VO h, e_other h hv (show i < 9 by omega), e_tieToSet h hv (show i < 9 by omega) (show os v i < 2 ^ 31 by omega), sm, nI_1, nI_add]
  · have hb := tSum_lt hv (s := os v)
    simp only [f_X6_feudByHalves_L4, f_X6_feudByHalves_J31, V1 h, if_pos (nI_le (Nat.le_refl (v 0)) (show v 0 < 2 ^ 31 by omega)), n2, c2n, true_and]
    rw [pk_div (by omega) (by omega) (by omega)]
    rfl
def ws (v : Nat → Nat) : Nat := sm (fun k => tS v k (ev v)) (v 0) / 2
theorem e_weightSum (h : isV S a t v) (hv : okV v) : f_X6_weightSum S a post = post (nI (ws v)) S := by
  have h0 := hv.1
  have he := ev_lt hv
  refine lp_eq (L := fun fuel i => f_X6_weightSum_L4 post fuel S a (nI (sm (fun k => tS v k (ev v)) i)) (nI i)) (n := v 0) (fun fuel i hi => ?_) (fun fuel => ?_) 0 4096 (by omega) (by omega)
  · have he2 := e_tieToSet h hv (show i < 9 by omega) (show ev v < 2 ^ 31 by omega) (post := fun v6 S5 => f_X6_weightSum_L4 post fuel S5 a (nI (sm (fun k => tS v k (ev v)) i) + v6) (nI (i + 1)))
    unfold ev at he2
    simp only [f_X6_weightSum_L4, V1 h, if_neg (nI_ge hi (show v 0 < 2 ^ 31 by omega)), VO h, e_every h hv, sm, nI_1]
    unfold ev
    rw [he2, nI_add]
  · have hb := tSum_lt hv (s := fun _ => ev v)
    simp only [f_X6_weightSum_L4, f_X6_weightSum_J30, V1 h, if_pos (nI_le (Nat.le_refl (v 0)) (show v 0 < 2 ^ 31 by omega)), n2, c2n, true_and]
    rw [pk_div (by omega) (by omega) (by omega)]
    rfl
theorem e_after (h : isV S a t v) (hv : okV v) {k : Nat} (hk : k < 9) : f_X6_feudAfterMove S a (nI k) post = post (nI (fb v) + nI (tS v k (ss v k)) - nI (tS v k (os v k))) S := by
  have h1 := ss_lt hv (k := k)
  have h2 := os_lt hv (k := k)
  unfold f_X6_feudAfterMove
  simp only [VO h, e_feud h hv, e_same h hv hk, e_tieToSet h hv hk (show ss v k < 2 ^ 31 by omega), e_other h hv hk, e_tieToSet h hv hk (show os v k < 2 ^ 31 by omega)]
/-- bonds in their order: one look at each -/
def lkB (v : Nat → Nat) (x : Int32) (post : Int32 → PS → Prop) (S : PS) (i j : Nat) (c : Nat) (k : Nat → Prop) : Prop := if 0 < wt v i j then (if nI c = x then post (nI (10 * i + j)) S else k (c + 1)) else k c
theorem e_bondBy (h : isV S a t v) (hv : okV v) (x : Int32) : f_X6_bondByIndex S a x post = kp (lkB v x post S) (fun _ => post (-1) S) (prs (v 0) (v 0)) 0 := by
  have h0 := hv.1
  refine lp_prs (Lo := fun fuel c i => f_X6_bondByIndex_L4 post fuel S a x (nI c) (nI i)) (Li := fun fuel fu c i j => f_X6_bondByIndex_L17 post (f_X6_bondByIndex_L4 post fuel) fu S a x (nI c) (nI i) (nI j)) (n := v 0) (by omega) (fun fuel c i hi => ?_) (fun fuel fu c i j hij hj => ?_) (fun fuel fu c i hi => ?_) (fun fuel c => ?_) 0
  · simp only [f_X6_bondByIndex_L4, V1 h, if_neg (nI_ge hi (show v 0 < 2 ^ 31 by omega)), nI_1]
  · have hw := hv.lt (show i < 9 by omega) (show j < 9 by omega)
    simp only [f_X6_bondByIndex_L17, f_X6_bondByIndex_J52, f_X6_bondByIndex_J41, V1 h, if_neg (nI_ge hj (show v 0 < 2 ^ 31 by omega)), VO h, e_tie h hv (show i < 9 by omega) (show j < 9 by omega), nI_1, lkB]
    by_cases hb : 0 < wt v i j
    · simp only [if_neg (nI_nle hb (show wt v i j < 2 ^ 31 by omega)), if_pos hb, n10, pk_mul, nI_add]
    · simp only [show wt v i j = 0 by omega, n0, if_pos (Int32.le_refl _), Nat.lt_irrefl, if_false]
  · simp only [f_X6_bondByIndex_L17, f_X6_bondByIndex_J58, V1 h, if_pos (nI_le (Nat.le_refl (v 0)) (show v 0 < 2 ^ 31 by omega)), nI_1]
  · simp only [f_X6_bondByIndex_L4, V1 h, if_pos (nI_le (Nat.le_refl (v 0)) (show v 0 < 2 ^ 31 by omega))]
/-- the heaviest bond so far and its weight -/
abbrev hvT (v : Nat → Nat) : Type := { s : Int32 × Nat // (s.1 = -1 ∧ s.2 = 0) ∨ ∃ p q : Nat, p < 9 ∧ q < 9 ∧ s.1 = nI (10 * p + q) ∧ s.2 = wt v p q ∧ 0 < s.2 }
theorem hvT.lt {v : Nat → Nat} (hv : okV v) (s : hvT v) : s.1.2 < 10000000 := by
  rcases s.2 with ⟨-, h⟩ | ⟨p, q, h1, h2, -, h, -⟩
  · omega
  · rw [h]; exact hv.lt h1 h2
def hvS (v : Nat → Nat) (i j : Nat) (s : hvT v) : hvT v := if h : s.1.2 < wt v i j ∧ i < 9 ∧ j < 9 then ⟨(nI (10 * i + j), wt v i j), Or.inr ⟨i, j, h.2.1, h.2.2, rfl, rfl, by show 0 < wt v i j; omega⟩⟩ else s
def hv0 (v : Nat → Nat) : hvT v := ⟨(-1, 0), Or.inl ⟨rfl, rfl⟩⟩
def hvF (v : Nat → Nat) : Int32 := ((prs (v 0) (v 0)).foldl (fun s q => hvS v q.1 q.2 s) (hv0 v)).1.1
theorem kp_fold {σ : Type} (f : Nat → Nat → σ → σ) (P : σ → Prop) : ∀ (l : List (Nat × Nat)) (s : σ), kp (fun i j s k => k (f i j s)) P l s = P (l.foldl (fun s q => f q.1 q.2 s) s)
  | [], _ => rfl
  | _ :: l, _ => kp_fold f P l _
theorem e_heaviest (h : isV S a t v) (hv : okV v) : f_X6_heaviestBond S a post = post (hvF v) S := by
  have h0 := hv.1
  have key := lp_prs (Lo := fun fuel (c : hvT v) i => f_X6_heaviestBond_L6 post fuel S a c.1.1 (nI c.1.2) (nI i)) (Li := fun fuel fu (c : hvT v) i j => f_X6_heaviestBond_L19 post (f_X6_heaviestBond_L6 post fuel) fu S a c.1.1 (nI c.1.2) (nI i) (nI j)) (n := v 0) (B := fun i j s k => k (hvS v i j s)) (P := fun s => post s.1.1 S) (by omega) (fun fuel c i hi => ?_) (fun fuel fu c i j hij hj => ?_) (fun fuel fu c i hi => ?_) (fun fuel c => ?_) (hv0 v)
  · rw [kp_fold] at key
    exact key
  · simp only [f_X6_heaviestBond_L6, V1 h, if_neg (nI_ge hi (show v 0 < 2 ^ 31 by omega)), nI_1]
  · have hw := hv.lt (show i < 9 by omega) (show j < 9 by omega)
    have hc := c.lt hv
    simp only [f_X6_heaviestBond_L19, f_X6_heaviestBond_J55, V1 h, if_neg (nI_ge hj (show v 0 < 2 ^ 31 by omega)), VO h, e_tie h hv (show i < 9 by omega) (show j < 9 by omega), nI_1, hvS]
    by_cases hb : c.1.2 < wt v i j
    · simp only [if_neg (nI_ge hb (show wt v i j < 2 ^ 31 by omega)), dif_pos (show c.1.2 < wt v i j ∧ i < 9 ∧ j < 9 from ⟨hb, by omega, by omega⟩), n10, pk_mul, nI_add]
    · simp only [if_pos (nI_le (Nat.not_lt.mp hb) (show c.1.2 < 2 ^ 31 by omega)), dif_neg (show ¬ (c.1.2 < wt v i j ∧ i < 9 ∧ j < 9) from fun q => hb q.1)]
  · simp only [f_X6_heaviestBond_L19, f_X6_heaviestBond_J61, V1 h, if_pos (nI_le (Nat.le_refl (v 0)) (show v 0 < 2 ^ 31 by omega)), nI_1]
  · simp only [f_X6_heaviestBond_L6, V1 h, if_pos (nI_le (Nat.le_refl (v 0)) (show v 0 < 2 ^ 31 by omega))]
/-- one round of reaching, then r rounds -/
def rcI (v : Nat → Nat) (s : Nat) : Nat → Nat
  | 0 => s
  | i + 1 => if 0 < tS v i (rcI v s i) then rcI v s i ||| 2 ^ i else rcI v s i
def rcO (v : Nat → Nat) (h : Nat) : Nat → Nat
  | 0 => 2 ^ h
  | r + 1 => rcI v (rcO v h r) (v 0)
theorem rcI_lt {v : Nat → Nat} {s : Nat} (hs : s < 2 ^ 9) : ∀ {i : Nat}, i ≤ 9 → rcI v s i < 2 ^ 9
  | 0, _ => hs
  | i + 1, h => by
    have := rcI_lt (v := v) hs (i := i) (by omega)
    simp only [rcI]
    split
    · exact Nat.or_lt_two_pow this (Nat.pow_lt_pow_right (by omega) (by omega))
    · exact this
theorem rcO_lt {v : Nat → Nat} (hv : okV v) {h : Nat} (hh : h < 9) : ∀ {r : Nat}, rcO v h r < 2 ^ 9
  | 0 => Nat.pow_lt_pow_right (by omega) (by omega)
  | r + 1 => rcI_lt (rcO_lt hv hh) hv.1
theorem e_reach (h : isV S a t v) (hv : okV v) {x : Nat} (hx : x < 9) : f_X6_reachOf S a (nI x) post = post (nI (rcO v x (v 0))) S := by
  have h0 := hv.1
  unfold f_X6_reachOf
  rw [b_bit x (by omega)]
  refine lp_eq (L := fun fuel r => f_X6_reachOf_L6 post fuel S a (nI (rcO v x r)) (nI r)) (n := v 0) (fun fuel r hr => ?_) (fun fuel => ?_) 0 4096 (by omega) (by omega)
  · simp only [f_X6_reachOf_L6, V1 h, if_neg (nI_ge hr (show v 0 < 2 ^ 31 by omega))]
    refine lp_eq (L := fun fu i => f_X6_reachOf_L17 post (f_X6_reachOf_L6 post fuel) fu S a (nI (rcI v (rcO v x r) i)) (nI r) (nI i)) (n := v 0) (fun fu i hi => ?_) (fun fu => ?_) 0 4096 (by omega) (by omega)
    · have hs := rcI_lt (v := v) (rcO_lt hv hx (r := r)) (show i ≤ 9 by omega)
      have ht := tS_lt hv (s := rcI v (rcO v x r) i) (show i < 9 by omega)
      simp only [f_X6_reachOf_L17, f_X6_reachOf_J43, V1 h, if_neg (nI_ge hi (show v 0 < 2 ^ 31 by omega)), VO h, e_tieToSet h hv (show i < 9 by omega) (show rcI v (rcO v x r) i < 2 ^ 31 by omega), nI_1, rcI]
      by_cases hb : 0 < tS v i (rcI v (rcO v x r) i)
      · simp only [if_neg (nI_nle hb (show tS v i (rcI v (rcO v x r) i) < 2 ^ 31 by omega)), if_pos hb, b_bit i (by omega), b_or]
      · simp only [show tS v i (rcI v (rcO v x r) i) = 0 by omega, n0, if_pos (Int32.le_refl _), Nat.lt_irrefl, if_false]
    · simp only [f_X6_reachOf_L17, f_X6_reachOf_J49, V1 h, if_pos (nI_le (Nat.le_refl (v 0)) (show v 0 < 2 ^ 31 by omega)), nI_1, rcO]
  · simp only [f_X6_reachOf_L6, V1 h, if_pos (nI_le (Nat.le_refl (v 0)) (show v 0 < 2 ^ 31 by omega))]
end VIL

