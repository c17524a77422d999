/-! ranks: places among keys, and that the class gives them out so -/
def ahd (kf : Nat → Int32) (h k : Nat) : Bool := decide (kf h < kf k) || (decide (kf k = kf h) && decide (k < h))
def plc (kf : Nat → Int32) (n h : Nat) : Nat := sm (fun k => if ahd kf h k = true then 1 else 0) n
def rkd (kf : Nat → Int32) (n p : Nat) : Nat → Nat
  | 0 => n
  | d + 1 => if plc kf n (n - (d + 1)) = p then n - (d + 1) else rkd kf n p d
theorem ahd_iff {kf : Nat → Int32} {h k : Nat} : ahd kf h k = true ↔ ((kf h).toInt < (kf k).toInt ∨ ((kf k).toInt = (kf h).toInt ∧ k < h)) := by
  unfold ahd
  rw [Bool.or_eq_true, Bool.and_eq_true, decide_eq_true_eq, decide_eq_true_eq, decide_eq_true_eq, Int32.lt_iff_toInt_lt, Int32.toInt_inj]
theorem sm_c1 : ∀ n, sm (fun _ => 1) n = n
  | 0 => rfl
  | n + 1 => by show sm (fun _ => 1) n + 1 = n + 1; rw [sm_c1 n]
theorem plc_lt {kf : Nat → Int32} {n h : Nat} (hh : h < n) : plc kf n h < n := by
  have h1 : sm (fun k => (if ahd kf h k = true then 1 else 0) + (if k = h then 1 else 0)) n ≤ sm (fun _ => 1) n := sm_le (fun k _ => by
    try dsimp only
    by_cases e : k = h
    · have : ¬ ahd kf h k = true := fun z => by rw [ahd_iff, e] at z; omega
      rw [if_neg this, if_pos e]; omega
    · rw [if_neg e]; split <;> omega)
  rw [sm_add, sm_c1] at h1
  have h2 := sm_one (f := fun k => if k = h then 1 else 0) (i := h) hh
  try dsimp only at h2
  rw [if_pos rfl] at h2
  unfold plc
  omega
theorem plc_ahd {kf : Nat → Int32} {n i j : Nat} (hj : j < n) (ha : ahd kf i j = true) : plc kf n j + 1 ≤ plc kf n i := by
  have h1 : sm (fun k => (if ahd kf j k = true then 1 else 0) + (if k = j then 1 else 0)) n ≤ sm (fun k => if ahd kf i k = true then 1 else 0) n := sm_le (fun k _ => by
    try dsimp only
    by_cases e : k = j
    · have : ¬ ahd kf j k = true := fun z => by rw [ahd_iff, e] at z; omega
      rw [if_neg this, if_pos e, e, if_pos ha]; omega
    · rw [if_neg e]
      by_cases q : ahd kf j k = true
      · have : ahd kf i k = true := by rw [ahd_iff] at q ha ⊢; omega
        rw [if_pos q, if_pos this]; omega
      · rw [if_neg q]; omega)
  rw [sm_add] at h1
  have h2 := sm_one (f := fun k => if k = j then 1 else 0) (i := j) hj
  try dsimp only at h2
  rw [if_pos rfl] at h2
  unfold plc
  omega
theorem plc_inj {kf : Nat → Int32} {n i j : Nat} (hi : i < n) (hj : j < n) (e : plc kf n i = plc kf n j) : i = j := by
  rcases Nat.lt_trichotomy i j with q | q | q
  · by_cases h1 : ahd kf i j = true
    · have := plc_ahd hj h1; omega
    · have h2 : ahd kf j i = true := by rw [ahd_iff] at h1 ⊢; omega
      have := plc_ahd hi h2; omega
  · exact q
  · by_cases h1 : ahd kf i j = true
    · have := plc_ahd hj h1; omega
    · have h2 : ahd kf j i = true := by rw [ahd_iff] at h1 ⊢; omega
      have := plc_ahd hi h2; omega
/-- more letters than boxes -/
theorem pigeon : ∀ (n : Nat) (f : Nat → Nat), (∀ i, i ≤ n → f i < n) → ∃ i j, i < j ∧ j ≤ n ∧ f i = f j
  | 0, f, h => absurd (h 0 (Nat.le_refl _)) (Nat.not_lt_zero _)
  | n + 1, f, h => by
    rcases Classical.em (∃ i, i ≤ n ∧ f i = f (n + 1)) with ⟨i, h1, h2⟩ | hno
    · exact ⟨i, n + 1, by omega, Nat.le_refl _, h2⟩
    · have hne : ∀ i, i ≤ n → f i ≠ f (n + 1) := fun i hi e => hno ⟨i, hi, e⟩
      obtain ⟨i, j, h1, h2, h3⟩ := pigeon n (fun i => if f i = n then f (n + 1) else f i) (fun i hi => by
        try dsimp only
        have a := h i (by omega)
        have b := h (n + 1) (Nat.le_refl _)
        have c := hne i hi
        split <;> omega)
      try dsimp only at h3
      have c1 := hne i (by omega)
      have c2 := hne j h2
      refine ⟨i, j, h1, by omega, ?_⟩
      by_cases e1 : f i = n
      · by_cases e2 : f j = n
        · rw [e1, e2]
        · rw [if_pos e1, if_neg e2] at h3; exact absurd h3.symm c2
      · by_cases e2 : f j = n
        · rw [if_neg e1, if_pos e2] at h3; exact absurd h3 c1
        · rw [if_neg e1, if_neg e2] at h3; exact h3
theorem plc_all {kf : Nat → Int32} {n p : Nat} (hp : p < n) : ∃ h, h < n ∧ plc kf n h = p := by
  rcases Classical.em (∃ h, h < n ∧ plc kf n h = p) with h | hno
  · exact h
  · have hne : ∀ i, i < n → plc kf n i ≠ p := fun i hi e => hno ⟨i, hi, e⟩
    obtain ⟨i, j, h1, h2, h3⟩ := pigeon (n - 1) (fun i => if plc kf n i < p then plc kf n i else plc kf n i - 1) (fun i hi => by
      try dsimp only
      have a := plc_lt (kf := kf) (n := n) (h := i) (by omega)
      have b := hne i (by omega)
      split <;> omega)
    try dsimp only at h3
    have b1 := hne i (by omega)
    have b2 := hne j (by omega)
    have : plc kf n i = plc kf n j := by
      split at h3 <;> split at h3 <;> omega
    have := plc_inj (kf := kf) (n := n) (by omega) (by omega) this
    omega
theorem rkd_le {kf : Nat → Int32} {n p : Nat} : ∀ d, d ≤ n → (rkd kf n p d = n ∧ ∀ h, n - d ≤ h → h < n → plc kf n h ≠ p) ∨ (rkd kf n p d < n ∧ plc kf n (rkd kf n p d) = p)
  | 0, _ => Or.inl ⟨rfl, fun h h1 h2 => by omega⟩
  | d + 1, hd => by
    unfold rkd
    by_cases e : plc kf n (n - (d + 1)) = p
    · rw [if_pos e]; exact Or.inr ⟨by omega, e⟩
    · rw [if_neg e]
      rcases rkd_le (kf := kf) (n := n) (p := p) d (by omega) with ⟨a, b⟩ | a
      · refine Or.inl ⟨a, fun h h1 h2 => ?_⟩
        by_cases q : h = n - (d + 1)
        · rw [q]; exact e
        · exact b h (by omega) h2
      · exact Or.inr a
theorem rkd_ok {kf : Nat → Int32} {n p : Nat} (hp : p < n) : rkd kf n p n < n := by
  rcases rkd_le (kf := kf) (n := n) (p := p) n (Nat.le_refl _) with ⟨-, b⟩ | ⟨a, -⟩
  · obtain ⟨h, h1, h2⟩ := plc_all (kf := kf) hp
    exact absurd h2 (b h (by omega) h1)
  · exact a
theorem plc_eq {kf kg : Nat → Int32} {n h : Nat} (e : ∀ i j, i < n → j < n → ((kf i < kf j) ↔ (kg i < kg j)) ∧ ((kf i = kf j) ↔ (kg i = kg j))) (hh : h < n) : plc kf n h = plc kg n h := sm_ext (fun k hk => by
  have e1 : (ahd kf h k = true) ↔ (ahd kg h k = true) := by
    unfold ahd
    rw [Bool.or_eq_true, Bool.and_eq_true, decide_eq_true_eq, decide_eq_true_eq, decide_eq_true_eq, Bool.or_eq_true, Bool.and_eq_true, decide_eq_true_eq, decide_eq_true_eq, decide_eq_true_eq, (e h k hh hk).1, (e k h hk hh).2]
  by_cases q : ahd kf h k = true
  · rw [if_pos q, if_pos (e1.mp q)]
  · rw [if_neg q, if_neg (fun z => q (e1.mpr z))])
theorem rkd_eq {kf kg : Nat → Int32} {n p : Nat} (e : ∀ i j, i < n → j < n → ((kf i < kf j) ↔ (kg i < kg j)) ∧ ((kf i = kf j) ↔ (kg i = kg j))) : ∀ d, d ≤ n → rkd kf n p d = rkd kg n p d
  | 0, _ => rfl
  | d + 1, hd => by
    unfold rkd
    rw [plc_eq e (by omega), rkd_eq e d (by omega)]
def kyO (c : Int32) (v : Vt) (x : Int32) (k : Nat) : Int32 := if x = 0 then nI (tS v k (ev v)) else if x = 1 then nI (bo v k) else if x = 2 then nI (tS v k (os v k)) else if k = 0 then c else -nI (bt v 0 k)
theorem kyO_eq {v : Vt} (hv : okV v) {x : Int32} {p : Nat} : rkd (kyO (-2147483647) v x) (v 0) p (v 0) = rkd (kyO (-100000000) v x) (v 0) p (v 0) := by
  refine rkd_eq (fun i j hi hj => ?_) (v 0) (Nat.le_refl _)
  unfold kyO
  by_cases x0 : x = 0
  · simp only [if_pos x0]; constructor <;> trivial
  by_cases x1 : x = 1
  · simp only [if_neg x0, if_pos x1]; constructor <;> trivial
  by_cases x2 : x = 2
  · simp only [if_neg x0, if_neg x1, if_pos x2]; constructor <;> trivial
  simp only [if_neg x0, if_neg x1, if_neg x2]
  have b : ∀ k, k ≠ 0 → (-nI (bt v 0 k)).toInt = -(bt v 0 k : Int) ∧ bt v 0 k < 10000000 := fun k hk => by
    have := btw_lt hv (i := 0) (j := k) (by omega) (Ne.symm hk)
    exact ⟨nN_i (by omega), this⟩
  have c1 : (-2147483647 : Int32).toInt = -2147483647 := by decide
  have c2 : (-100000000 : Int32).toInt = -100000000 := by decide
  by_cases i0 : i = 0
  · by_cases j0 : j = 0
    · simp only [if_pos i0, if_pos j0]
      exact ⟨⟨fun z => (Int32.lt_irrefl z).elim, fun z => (Int32.lt_irrefl z).elim⟩, by trivial⟩
    · obtain ⟨b1, b2⟩ := b j j0
      simp only [if_pos i0, if_neg j0]
      rw [Int32.lt_iff_toInt_lt, Int32.lt_iff_toInt_lt, ← Int32.toInt_inj, ← Int32.toInt_inj, b1, c1, c2]
      omega
  · obtain ⟨a1, a2⟩ := b i i0
    by_cases j0 : j = 0
    · simp only [if_neg i0, if_pos j0]
      rw [Int32.lt_iff_toInt_lt, Int32.lt_iff_toInt_lt, ← Int32.toInt_inj, ← Int32.toInt_inj, a1, c1, c2]
      omega
    · simp only [if_neg i0, if_neg j0]
      constructor <;> trivial
def oRnk (v : Vt) (x y : Int32) : Nat × Int32 := if x < 0 then (1, 0) else if x ≤ 3 then (if inb v y = true then (0, nI (rkd (kyO (-2147483647) v x) (v 0) (ix y) (v 0))) else (2, 0)) else (1, 0)
section XRK
variable {S : PS} {ow : Ow} {A : Nat → Nat} {v : Vt} {hs : List Vt} {sv : Option Vt} {r : Nat → Int32} {tx : List Nat} {fa : Int32} {ln : List Nat} {bc bs : Nat} {post : Int32 → PS → Prop} {postX : String → PS → Prop}
/-- the divisions were measured, if the key asks for them -/
def msd (S : PS) (ow : Ow) (A : Nat → Nat) (v : Vt) (x : Int32) : Prop := x = 0 ∨ x = 1 ∨ x = 2 ∨ v 0 < 2 ∨ ∃ B F g, B 0 = A 5 ∧ Po 2 4 dfs (fun _ => 0) (fun _ => 256) S ow 5 B F g ∧ dmeas v F g
theorem x_keyOf {x : Int32} {k : Nat} (h : CI S ow A v hs sv r tx fa ln) (hv : okV v) (hm : msd S ow A v x) (hk : k < v 0) : f_X7_keyOf S (A 12) x (nI k) post = post (kyO (-2147483647) v x k) S := by
  obtain ⟨t, hV⟩ := Vx h
  have h0 := hv.1
  have hp := Nat.pow_le_pow_right (show 0 < 2 by omega) h0
  have l2 := os_lt hv (k := k)
  unfold f_X7_keyOf kyO
  by_cases x0 : x = 0
  · rw [if_pos x0, if_pos x0, G_0 h, G_0 h, O_0 h, e_every hV hv, O_0 h, e_tieToSet hV hv (by omega) (by omega)]; rfl
  rw [if_neg x0, if_neg x0]
  by_cases x1 : x = 1
  · rw [if_pos x1, if_pos x1, G_0 h, O_0 h, e_bondsOf hV hv (by omega)]
  rw [if_neg x1, if_neg x1]
  by_cases x2 : x = 2
  · rw [if_pos x2, if_pos x2, G_0 h, G_0 h, O_0 h, e_other hV hv (by omega), O_0 h, e_tieToSet hV hv (by omega) (by omega)]
  rw [if_neg x2, if_neg x2]
  by_cases k0 : k = 0
  · rw [if_pos k0, if_pos (by rw [k0]; rfl)]
  · rcases hm with q | q | q | q | ⟨B, F, g, e, hP, m⟩
    · exact absurd q x0
    · exact absurd q x1
    · exact absurd q x2
    · omega
    · rw [if_neg k0, if_neg (nI_ne0 (by omega) (by omega)), G_5 h, O_5 h, ← e, show (0 : Int32) = nI 0 from rfl, d_apart hP.1 hP.2.1 m hv (by omega) hk (Ne.symm k0)]
theorem x_fill {x : Int32} {pp : PS → Prop} (h : CI S ow A v hs sv r tx fa ln) (hv : okV v) (hm : msd S ow A v x) (next : ∀ S1 f, CI S1 ow A v hs sv r tx fa ln → keeps [10] S ow S1 ow → P10 S1 ow (A 10) f → (∀ k, k < v 0 → f k = kyO (-2147483647) v x k) → pp S1) : f_X7_fillKeys_J23 pp S (A 12) x := by
  have h0 := hv.1
  obtain ⟨f0, hf0⟩ := h.2.2.2.2.2.2.2.2.2.2.2
  unfold f_X7_fillKeys_J23
  have key := loop_i (W := fun fuel k (s : PS × (Nat → Int32)) => f_X7_fillKeys_L25 pp fuel s.1 (A 12) x (nI k)) (I := fun k s => CI s.1 ow A v hs sv r tx fa ln ∧ keeps [10] S ow s.1 ow ∧ P10 s.1 ow (A 10) s.2 ∧ ∀ i, i < k → s.2 i = kyO (-2147483647) v x i) (v 0) (fun n s hI => ?_) (fun n k s hk hI ih => ?_) 4096 0 (S, f0) (by omega) (by omega) ⟨h, keeps.refl, hf0, fun i hi => by omega⟩
  · exact key
  · obtain ⟨c1, c2, c3, c4⟩ := hI
    obtain ⟨t, hV⟩ := Vx c1
    show f_X7_fillKeys_L25 pp (n + 1) s.1 (A 12) x (nI (v 0))
    simp only [f_X7_fillKeys_L25]
    rw [G_0 c1, V1 hV, if_pos (nI_le (Nat.le_refl _) (by omega))]
    exact next s.1 s.2 c1 c2 c3 c4
  · obtain ⟨c1, c2, c3, c4⟩ := hI
    obtain ⟨t, hV⟩ := Vx c1
    obtain ⟨p1, p2, p3⟩ := id c3
    have hm1 : msd s.1 ow A v x := by
      rcases hm with q | q | q | q | ⟨B, F, g, e, hP, m⟩
      · exact Or.inl q
      · exact Or.inr (Or.inl q)
      · exact Or.inr (Or.inr (Or.inl q))
      · exact Or.inr (Or.inr (Or.inr (Or.inl q)))
      · exact Or.inr (Or.inr (Or.inr (Or.inr ⟨B, F, g, e, Po_fr (by omega) hP c2 (by decide), m⟩)))
    show f_X7_fillKeys_L25 pp (n + 1) s.1 (A 12) x (nI k)
    simp only [f_X7_fillKeys_L25]
    rw [G_0 c1, V1 hV, if_neg (nI_ge hk (by omega)), G_10 c1, lE_eq p1 p3 (by decide), if_neg (show ¬ nI 9 ≤ nI k from nI_ge (by omega) (by omega)), G_10 c1, G_O c1, x_keyOf c1 hv hm1 hk, sI_nI p1 p3 (show k < 9 by omega) (by decide), nI_1]
    obtain ⟨S4, e4⟩ : ∃ S4, S4 = p_set s.1 (A 10) (.inl (0, 9, .inl (upd s.2 k (kyO (-2147483647) v x k)))) := ⟨_, rfl⟩
    rw [← e4]
    have k4 : keeps [10] s.1 ow S4 ow := by rw [e4]; exact keeps_set p2
    have n4 : P10 S4 ow (A 10) (upd s.2 k (kyO (-2147483647) v x k)) := ⟨by rw [e4]; exact p1, p2, by rw [e4]; exact set_at⟩
    refine ih (S4, upd s.2 k (kyO (-2147483647) v x k)) ⟨CI_up10 c1 k4 n4, c2.trans k4, n4, fun i hi => ?_⟩
    show upd s.2 k (kyO (-2147483647) v x k) i = _
    by_cases q : i = k
    · rw [q, pk_us]
    · rw [pk_un q]; exact c4 i (by omega)
theorem x_placeOf {f : Nat → Int32} {i : Nat} (h : CI S ow A v hs sv r tx fa ln) (hv : okV v) (hf : P10 S ow (A 10) f) (hi : i < v 0) : f_X7_placeOf S (A 12) (nI i) post = post (nI (plc f (v 0) i)) S := by
  obtain ⟨t, hV⟩ := Vx h
  have h0 := hv.1
  obtain ⟨p1, p2, p3⟩ := hf
  unfold f_X7_placeOf
  refine lp_eq (L := fun fuel k => f_X7_placeOf_L4 post fuel S (A 12) (nI i) (nI (plc f k i)) (nI k)) (P := post (nI (plc f (v 0) i)) S) (n := v 0) (fun n k hk => ?_) (fun n => ?_) 0 4096 (by omega) (by omega)
  · have e1 : plc f (k + 1) i = plc f k i + (if ahd f i k = true then 1 else 0) := rfl
    show f_X7_placeOf_L4 post (n + 1) S (A 12) (nI i) (nI (plc f k i)) (nI k) = f_X7_placeOf_L4 post n S (A 12) (nI i) (nI (plc f (k + 1) i)) (nI (k + 1))
    rw [f_X7_placeOf_L4, G_0 h, V1 hV, if_neg (nI_ge hk (by omega)), G_10 h, lE_eq p1 p3 (by decide), if_neg (show ¬ nI 9 ≤ nI k from nI_ge (by omega) (by omega)), G_10 h, aI_nI p1 p3 (show k < 9 by omega) (by decide), G_10 h, aI_nI p1 p3 (show i < 9 by omega) (by decide), e1]
    unfold f_X7_placeOf_J59 f_X7_placeOf_J63 f_X7_placeOf_J64 f_X7_placeOf_J74
    unfold ahd
    by_cases q1 : f i < f k
    · rw [if_pos q1, if_neg (by decide), nI_1, nI_1, decide_eq_true q1, Bool.true_or, if_pos rfl]
    · rw [if_neg q1, G_10 h, aI_nI p1 p3 (show k < 9 by omega) (by decide), G_10 h, aI_nI p1 p3 (show i < 9 by omega) (by decide), decide_eq_false q1, Bool.false_or]
      by_cases q2 : f k = f i
      · rw [if_pos q2, decide_eq_true q2, Bool.true_and]
        by_cases q3 : k < i
        · rw [if_neg (nI_ge q3 (by omega)), if_neg (by decide), nI_1, nI_1, decide_eq_true q3, if_pos rfl]
        · rw [if_pos (nI_le (by omega) (by omega)), if_pos rfl, nI_1, decide_eq_false q3, if_neg (by decide)]; rfl
      · rw [if_neg q2, decide_eq_false q2, Bool.false_and, if_pos rfl, nI_1, if_neg (by decide)]; rfl
  · show f_X7_placeOf_L4 post (n + 1) S (A 12) (nI i) (nI (plc f (v 0) i)) (nI (v 0)) = _
    rw [f_X7_placeOf_L4, G_0 h, V1 hV, if_pos (nI_le (Nat.le_refl _) (by omega))]
theorem plc_b (kf : Nat → Int32) (n h : Nat) : plc kf n h ≤ n := by
  have : sm (fun k => if ahd kf h k = true then 1 else 0) n ≤ sm (fun _ => 1) n := sm_le (fun k _ => by split <;> omega)
  rw [sm_c1] at this; exact this
theorem x_atPlace {f : Nat → Int32} {p : Nat} (h : CI S ow A v hs sv r tx fa ln) (hv : okV v) (hf : P10 S ow (A 10) f) (hp : p < v 0) : f_X7_householdAtPlace S (A 12) (nI p) post = post (nI (rkd f (v 0) p (v 0))) S := by
  obtain ⟨t, hV⟩ := Vx h
  have h0 := hv.1
  have ok := rkd_ok (kf := f) hp
  unfold f_X7_householdAtPlace
  have loop : ∀ (d fuel : Nat), d ≤ v 0 → d < fuel → rkd f (v 0) p d < v 0 → f_X7_householdAtPlace_L2 post fuel S (A 12) (nI p) (nI (v 0 - d)) = post (nI (rkd f (v 0) p d)) S := by
    intro d
    induction d with
    | zero => intro fuel _ _ z; exact absurd z (Nat.lt_irrefl _)
    | succ d ih =>
      intro fuel hd hf2 hr
      obtain ⟨n, rfl⟩ : ∃ n, fuel = n + 1 := ⟨fuel - 1, by omega⟩
      have hb := plc_b f (v 0) (v 0 - (d + 1))
      rw [f_X7_householdAtPlace_L2, G_0 h, V1 hV, if_neg (nI_ge (show v 0 - (d + 1) < v 0 by omega) (by omega)), G_O h, x_placeOf h hv hf (by omega)]
      unfold rkd at hr ⊢
      by_cases e : plc f (v 0) (v 0 - (d + 1)) = p
      · rw [if_pos e, if_pos (by rw [e])]
      · rw [if_neg e] at hr ⊢
        rw [if_neg (fun z => e ((nI_eq (by omega) (by omega)).mp z)), nI_1, show v 0 - (d + 1) + 1 = v 0 - d by omega]
        exact ih n (by omega) (by omega) hr
  have := loop (v 0) 4096 (Nat.le_refl _) (by omega) ok
  rw [Nat.sub_self] at this
  exact this
theorem rkd_ext {f g : Nat → Int32} {n p : Nat} (e : ∀ i, i < n → f i = g i) : rkd f n p n = rkd g n p n := rkd_eq (fun i j hi hj => by rw [e i hi, e j hj]; exact ⟨Iff.rfl, Iff.rfl⟩) n (Nat.le_refl _)
theorem x_ranked {x y : Int32} (h : CI S ow A v hs sv r tx fa ln) (hv : okV v) (h1 : 1 ≤ bc) (h2 : 6 ≤ bs) (next : ∀ S1, CI S1 ow A v hs sv r tx fa ln → keeps CC S ow S1 ow → rs (eE "java/lang/IllegalArgumentException" "java/util/NoSuchElementException") (oRnk v x y) post postX S1) : f_X7_ranked S (A 12) x y bc bs post postX := by
  obtain ⟨t, hV⟩ := Vx h
  have h0 := hv.1
  unfold f_X7_ranked f_X7_ranked_J9
  unfold oRnk at next
  by_cases e1 : x < 0
  · rw [if_pos e1] at next ⊢
    exact ⟨h1, h2, next S h keeps.refl⟩
  rw [if_neg e1] at next ⊢
  by_cases e2 : x ≤ 3
  · rw [if_pos e2] at next ⊢
    rw [G_0 h, O_0 h]
    by_cases hy : inb v y = true
    · rw [if_pos hy] at next
      obtain ⟨b1, b2⟩ := inb_of h0 hy
      obtain ⟨p, hp⟩ : ∃ p, p = ix y := ⟨_, rfl⟩
      rw [← hp] at next b1 b2
      rw [e_hasY hV (inb_iff.mp hy), if_neg (by decide), G_O h]
      have after : ∀ S2, CI S2 ow A v hs sv r tx fa ln → keeps CC S ow S2 ow → msd S2 ow A v x → f_X7_fillKeys_J23 (fun S7 => isO S7 (A 12) 11 (f_X7_householdAtPlace S7 (A 12) y fun v10 S9 => post v10 S9)) S2 (A 12) x := fun S2 c2 k2 m2 => by
        refine x_fill c2 hv m2 (fun S3 f c3 k3 n3 hf => ?_)
        rw [G_O c3, b2, x_atPlace c3 hv n3 b1, rkd_ext hf]
        exact next S3 c3 (k2.trans (k3.mono (by decide)))
      unfold f_X7_fillKeys
      by_cases x3 : x = 3
      · rw [if_pos x3, G_O h, x_tooSmall h hv]
        by_cases e : v 0 < 2
        · rw [if_pos e, if_neg (by decide)]
          exact after S h keeps.refl (Or.inr (Or.inr (Or.inr (Or.inl e))))
        · rw [if_neg e, if_pos rfl, G_5 h, G_0 h, O_5 h]
          refine x_meas h hv (fun S1 B F g c1 k1 e3 hP m => ?_)
          exact after S1 c1 (k1.mono (by decide)) (Or.inr (Or.inr (Or.inr (Or.inr ⟨B, F, g, e3, hP, m⟩))))
      · rw [if_neg x3]
        refine after S h keeps.refl ?_
        obtain ⟨j, hj, rfl⟩ := nI_of2 (M := 3) (n := 3) (by decide) e1 e2
        rcases (show j = 0 ∨ j = 1 ∨ j = 2 ∨ j = 3 by omega) with rfl | rfl | rfl | rfl
        · exact Or.inl rfl
        · exact Or.inr (Or.inl rfl)
        · exact Or.inr (Or.inr (Or.inl rfl))
        · exact absurd rfl x3
    · rw [if_neg hy] at next
      rw [e_hasN hV (fun z => hy (inb_iff.mpr z)), if_pos rfl]
      exact ⟨h1, h2, next S h keeps.refl⟩
  · rw [if_neg e2] at next ⊢
    exact ⟨h1, h2, next S h keeps.refl⟩
end XRK

