/-! what the class answers, once it has measured -/
def inQ (v : Vt) (p : Nat) (y : Int32) : Bool := decide (¬ y < 0) && decide (¬ nI (v 0 - p) ≤ y)
theorem inQ_of {v : Vt} (h0 : v 0 ≤ 9) {p : Nat} {y : Int32} (h : inQ v p y = true) : ix y < v 0 - p ∧ y = nI (ix y) := by
  unfold inQ at h
  rw [Bool.and_eq_true, decide_eq_true_eq, decide_eq_true_eq] at h
  rcases pk_ix y (n := v 0 - p) (by omega) with h2 | h2 | ⟨i, h2, rfl⟩
  · exact absurd h2 h.1
  · exact absurd h2 h.2
  · rw [ix_nI (by omega)]; exact ⟨h2, rfl⟩
def oPhO (v : Vt) (x y : Int32) : Nat × Int32 := if inP v x = true then (if y = 0 then (0, nI (cut v (ix x))) else if y = 1 then (0, nI (v 0 - ix x)) else if y = 2 then (0, nI (low (gr v (ix x) (v 0 - ix x - 1)))) else if y = 3 then (0, nI (low (gr v (ix x) (v 0 - ix x - 2)))) else if y = 4 then (0, nI (gr v (ix x) (v 0 - ix x - 1))) else (2, 0)) else (1, 0)
def oJoi (v : Vt) (x y : Int32) : Nat × Int32 := if inP v x = true then (if inQ v (ix x) y = true then (0, nI (low (gr v (ix x) (ix y)))) else (2, 0)) else (1, 0)
def oTat (v : Vt) (x y : Int32) : Nat × Int32 := if inP v x = true then (if inQ v (ix x) y = true then (0, nI (pl v (ix x) (ix y))) else (2, 0)) else (1, 0)
def oLst (v : Vt) : Nat × Int32 := if v 0 < 2 then (1, 0) else (0, nI (lcut v))
def oMet (v : Vt) : Nat × Int32 := if v 0 < 2 then (1, 0) else (0, nI (lph v (v 0 - 2)))
def oLsd (v : Vt) : Nat × Int32 := if v 0 < 2 then (1, 0) else (0, nI (sm (lg1 v) (dcn v)))
def oBtw (v : Vt) (x y : Int32) : Nat × Int32 := if inb v x = true then (if inb v y = true then (if x = y then (2, 0) else (0, nI (bt v (ix x) (ix y)))) else (1, 0)) else (1, 0)
def oIfB (v : Vt) (x y w : Int32) : Nat × Int32 := if inb v x = true then (if inb v y = true then (if x = y then (2, 0) else if w < 0 then (2, 0) else if w ≤ 99 then (0, nI (lcut (vBnd v (ix x) (ix y) (ix w)))) else (2, 0)) else (1, 0)) else (1, 0)
def oCrt (v : Vt) (x y : Int32) : Nat × Int32 := if inb v x = true then (if inb v y = true then (if x = y then (2, 0) else if wt v (ix x) (ix y) = 0 then (2, 0) else (0, if lcut v ≤ lcut (vBnd v (ix x) (ix y) 0) then 0 else 1)) else (1, 0)) else (1, 0)
theorem lcut_lt {v : Vt} (hv : okV v) : lcut v < 10000000 := cut_lt hv
theorem btw_lt {v : Vt} (hv : okV v) {i j : Nat} (hi : i < v 0) (hij : i ≠ j) : bt v i j < 10000000 := by
  obtain ⟨s, -, -, -, e⟩ := bt_at hv hi hij
  rw [e]; exact tT_lt hv
theorem lcut_bt {v : Vt} (hv : okV v) {i j : Nat} (hi : i < v 0) (hj : j < v 0) (hij : i ≠ j) : lcut v ≤ bt v i j := by
  obtain ⟨s, s1, s2, s3, e⟩ := bt_at hv hi hij
  rw [e]
  refine lcut_le hv (fun z => ?_) ?_
  · rw [z, Nat.zero_testBit] at s2; cases s2
  · rcases Nat.lt_or_ge s (2 ^ v 0 - 1) with q | q
    · exact q
    · have : s = 2 ^ v 0 - 1 := by omega
      rw [this, b_allt, decide_eq_true hj] at s3; cases s3
theorem bnd_ok {v : Vt} (hv : okV v) (ht : tot v + 3000 < 10000000) {i j w : Nat} (hi : i < v 0) (hj : j < v 0) (hij : i ≠ j) (hw : w ≤ 99) : okV (vBnd v i j w) := by
  obtain ⟨a, b⟩ := ok_bnd (x := w) hv.S hi hj hij
  exact okV_of a (by omega)
theorem c_hasPlaceG {S0 S : PS} {B : Nat → Nat} {F : Nat → Int32} {h : Nat → Nat → Int32} {v : Vt} {p : Nat} {y : Int32} {post : Int32 → PS → Prop} (hB : oB 6 S0 B) (H : CS S0 B F h S) (hF : F 5 = nI (v 0)) (h0 : v 0 ≤ 9) (hp : p < v 0 - 1) : f_X3_hasPlace S (B 0) (nI p) y post = post (if inQ v p y = true then 1 else 0) S := by
  unfold f_X3_hasPlace inQ
  have e5 : ∀ kk : Int32 → Prop, gI S (B 0) 7 5 kk = kk (nI (v 0)) := fun kk => by rw [OS_gI hB (by omega) H (f := 5) (x := F 5) rfl, hF]
  rw [if_neg (nI_pos (by omega)), e5, show (1 : Int32) = nI 1 from rfl, pk_sub (by omega), if_neg (nI_ge hp (by omega))]
  by_cases e : y < 0
  · rw [if_pos e, nZ0, decide_eq_false (show ¬ ¬ y < 0 from fun z => z e)]; rfl
  · rw [if_neg e, e5, pk_sub (by omega), decide_eq_true e, Bool.true_and]
    by_cases e2 : nI (v 0 - p) ≤ y
    · rw [if_pos e2, nZ0, decide_eq_false (show ¬ ¬ nI (v 0 - p) ≤ y from fun z => z e2)]; rfl
    · rw [if_neg e2, decide_eq_true e2, if_pos rfl]
      exact nZ1
section XMS
variable {S : PS} {ow : Ow} {A : Nat → Nat} {v : Vt} {hs : List Vt} {sv : Option Vt} {r : Nat → Int32} {tx : List Nat} {fa : Int32} {ln : List Nat} {bc bs : Nat} {post : Int32 → PS → Prop} {postX : String → PS → Prop}
theorem x_tooSmall (h : CI S ow A v hs sv r tx fa ln) (hv : okV v) : f_X7_isTooSmall S (A 12) post = post (if v 0 < 2 then 1 else 0) S := by
  obtain ⟨t, hV⟩ := Vx h
  have h0 := hv.1
  unfold f_X7_isTooSmall
  rw [G_0 h, V1 hV]
  by_cases e : v 0 < 2
  · rw [if_pos e, if_neg (show ¬ (2 : Int32) ≤ nI (v 0) from nI_ge (b := 2) e (by omega)), nZ1]
  · rw [if_neg e, if_pos (show (2 : Int32) ≤ nI (v 0) from nI_le (a := 2) (by omega) (by omega)), nZ0]
theorem x_phaseOf {x y : Int32} (h : CI S ow A v hs sv r tx fa ln) (hv : okV v) (h1 : 1 ≤ bc) (h2 : 6 ≤ bs) (next : ∀ S1, CI S1 ow A v hs sv r tx fa ln → keeps CC S ow S1 ow → rs (eE "java/lang/IndexOutOfBoundsException" "java/lang/IllegalArgumentException") (oPhO v x y) post postX S1) : f_X7_phaseOf S (A 12) x y bc bs post postX := by
  have h0 := hv.1
  unfold f_X7_phaseOf
  unfold oPhO at next
  rw [G_O h, x_hasPhase h hv]
  by_cases hx : inP v x = true
  · obtain ⟨p1, p2⟩ := inP_of h0 hx
    rw [if_pos hx] at next
    obtain ⟨p, hp⟩ : ∃ p, p = ix x := ⟨_, rfl⟩
    rw [← hp] at p1 p2 next
    rw [if_pos hx, if_neg (by decide), G_4 h, G_0 h, O_4 h]
    refine x_course h h.2.1 hv (by decide) (fun S1 B F g c1 k1 e1 hB H m => ?_)
    have next := next S1 c1 (k1.mono (by decide))
    have g1 : ∀ q, q < v 0 - p → ∀ kk : Int32 → PS → Prop, f_X3_groupAt S1 (A 4) (nI p) (nI q) kk = kk (nI (gr v p q)) S1 := fun q hq kk => by rw [← e1, c_groupAt hB H m.1 h0 p1 hq, (m.2 p q p1 hq).1]
    rw [p2, G_4 c1, O_4 c1, ← e1, c_groupsIn hB H m.1 (by omega)]
    by_cases y0 : y = 0
    · rw [if_pos y0] at next ⊢
      rw [G_4 c1, O_4 c1, ← e1, c_cutOf hB H m h0 p1]; exact next
    rw [if_neg y0] at next ⊢
    by_cases y1 : y = 1
    · rw [if_pos y1] at next ⊢; exact next
    rw [if_neg y1] at next ⊢
    by_cases y2 : y = 2
    · rw [if_pos y2] at next ⊢
      obtain ⟨l1, l2⟩ := gr_lt hv (p := p) (q := v 0 - p - 1) (by omega) (by omega)
      rw [G_4 c1, O_4 c1, show (1 : Int32) = nI 1 from rfl, pk_sub (by omega), g1 _ (by omega), e_low1 l1 l2]; exact next
    rw [if_neg y2] at next ⊢
    by_cases y3 : y = 3
    · rw [if_pos y3] at next ⊢
      obtain ⟨l1, l2⟩ := gr_lt hv (p := p) (q := v 0 - p - 2) (by omega) (by omega)
      rw [G_4 c1, O_4 c1, show (2 : Int32) = nI 2 from rfl, pk_sub (by omega), g1 _ (by omega), e_low1 l1 l2]; exact next
    rw [if_neg y3] at next ⊢
    by_cases y4 : y = 4
    · rw [if_pos y4] at next ⊢
      rw [G_4 c1, O_4 c1, show (1 : Int32) = nI 1 from rfl, pk_sub (by omega), g1 _ (by omega)]; exact next
    rw [if_neg y4] at next ⊢
    exact ⟨h1, h2, next⟩
  · rw [if_neg hx] at next
    rw [if_neg hx, if_pos rfl]
    exact ⟨h1, h2, next S h keeps.refl⟩
theorem x_joined {x y : Int32} (h : CI S ow A v hs sv r tx fa ln) (hv : okV v) (h1 : 1 ≤ bc) (h2 : 6 ≤ bs) (next : ∀ S1, CI S1 ow A v hs sv r tx fa ln → keeps CC S ow S1 ow → rs (eE "java/lang/IndexOutOfBoundsException" "java/util/NoSuchElementException") (oJoi v x y) post postX S1) : f_X7_joined S (A 12) x y bc bs post postX := by
  have h0 := hv.1
  unfold f_X7_joined
  unfold oJoi at next
  rw [G_O h, x_hasPhase h hv]
  by_cases hx : inP v x = true
  · obtain ⟨p1, p2⟩ := inP_of h0 hx
    rw [if_pos hx] at next
    obtain ⟨p, hp⟩ : ∃ p, p = ix x := ⟨_, rfl⟩
    rw [← hp] at p1 p2 next
    rw [if_pos hx, if_neg (by decide), G_4 h, G_0 h, O_4 h]
    refine x_course h h.2.1 hv (by decide) (fun S1 B F g c1 k1 e1 hB H m => ?_)
    have next := next S1 c1 (k1.mono (by decide))
    rw [p2, G_4 c1, O_4 c1, ← e1, c_hasPlaceG hB H m.1 h0 p1]
    by_cases hy : inQ v p y = true
    · rw [if_pos hy] at next
      obtain ⟨q1, q2⟩ := inQ_of h0 hy
      obtain ⟨l1, l2⟩ := gr_lt hv (p := p) (q := ix y) (by omega) q1
      have g1 : ∀ kk : Int32 → PS → Prop, f_X3_groupAt S1 (A 4) (nI p) y kk = kk (nI (gr v p (ix y))) S1 := fun kk => by
        have := c_groupAt (post := kk) hB H m.1 h0 p1 q1
        rw [(m.2 p (ix y) p1 q1).1, e1, ← q2] at this; exact this
      rw [if_pos hy, if_neg (by decide), G_4 c1, O_4 c1, g1, e_low1 l1 l2]; exact next
    · rw [if_neg hy] at next
      rw [if_neg hy, if_pos rfl]
      exact ⟨h1, h2, next⟩
  · rw [if_neg hx] at next
    rw [if_neg hx, if_pos rfl]
    exact ⟨h1, h2, next S h keeps.refl⟩
theorem x_tieAt {x y : Int32} (h : CI S ow A v hs sv r tx fa ln) (hv : okV v) (h1 : 1 ≤ bc) (h2 : 6 ≤ bs) (next : ∀ S1, CI S1 ow A v hs sv r tx fa ln → keeps CC S ow S1 ow → rs (eE "java/lang/IndexOutOfBoundsException" "java/util/NoSuchElementException") (oTat v x y) post postX S1) : f_X7_tieAt S (A 12) x y bc bs post postX := by
  have h0 := hv.1
  unfold f_X7_tieAt
  unfold oTat at next
  rw [G_O h, x_hasPhase h hv]
  by_cases hx : inP v x = true
  · obtain ⟨p1, p2⟩ := inP_of h0 hx
    rw [if_pos hx] at next
    obtain ⟨p, hp⟩ : ∃ p, p = ix x := ⟨_, rfl⟩
    rw [← hp] at p1 p2 next
    rw [if_pos hx, if_neg (by decide), G_4 h, G_0 h, O_4 h]
    refine x_course h h.2.1 hv (by decide) (fun S1 B F g c1 k1 e1 hB H m => ?_)
    have next := next S1 c1 (k1.mono (by decide))
    rw [p2, G_4 c1, O_4 c1, ← e1, c_hasPlaceG hB H m.1 h0 p1]
    by_cases hy : inQ v p y = true
    · rw [if_pos hy] at next
      obtain ⟨q1, q2⟩ := inQ_of h0 hy
      have g1 : ∀ kk : Int32 → PS → Prop, f_X3_pullAt S1 (A 4) (nI p) y kk = kk (nI (pl v p (ix y))) S1 := fun kk => by
        have := c_pullAt (post := kk) hB H m.1 h0 p1 q1
        rw [(m.2 p (ix y) p1 q1).2, e1, ← q2] at this; exact this
      rw [if_pos hy, if_neg (by decide), G_4 c1, O_4 c1, g1]; exact next
    · rw [if_neg hy] at next
      rw [if_neg hy, if_pos rfl]
      exact ⟨h1, h2, next⟩
  · rw [if_neg hx] at next
    rw [if_neg hx, if_pos rfl]
    exact ⟨h1, h2, next S h keeps.refl⟩
theorem x_met (h : CI S ow A v hs sv r tx fa ln) (hv : okV v) (h1 : 1 ≤ bc) (h2 : 6 ≤ bs) (next : ∀ S1, CI S1 ow A v hs sv r tx fa ln → keeps CC S ow S1 ow → rs (eE "java/util/NoSuchElementException" "") (oMet v) post postX S1) : f_X7_met S (A 12) bc bs post postX := by
  unfold f_X7_met
  unfold oMet at next
  rw [G_O h, x_tooSmall h hv]
  by_cases e : v 0 < 2
  · rw [if_pos e] at next ⊢
    rw [if_neg (by decide)]
    exact ⟨h1, h2, next S h keeps.refl⟩
  · rw [if_neg e] at next ⊢
    rw [if_pos rfl, G_4 h, G_0 h, O_4 h]
    refine x_course h h.2.1 hv (by decide) (fun S1 B F g c1 k1 e1 hB H m => ?_)
    rw [G_4 c1, O_4 c1, ← e1, c_leastPhase hB H m hv]
    exact next S1 c1 (k1.mono (by decide))
theorem x_lbp {b c : Nat} {w : Vt} (h : CI S ow A v hs sv r tx fa ln) (hb : Pv S ow c b w) (hw : okV w) (hc : c ≠ 4) (w2 : 2 ≤ w 0) (next : ∀ S1, CI S1 ow A v hs sv r tx fa ln → keeps [4] S ow S1 ow → post (nI (lcut w)) S1) : f_X7_leastByPhases S (A 12) b post := by
  unfold f_X7_leastByPhases
  rw [G_4 h, O_4 h]
  refine x_course h hb hw hc (fun S1 B F g c1 k1 e1 hB H m => ?_)
  have hl := lph_le (v := w) (w 0 - 2)
  rw [G_4 c1, G_4 c1, O_4 c1, ← e1, c_leastPhase hB H m hw, e1, O_4 c1, ← e1, c_cutOf hB H m hw.1 (by omega)]
  exact next S1 c1 k1
theorem x_least (h : CI S ow A v hs sv r tx fa ln) (hv : okV v) (h1 : 1 ≤ bc) (h2 : 6 ≤ bs) (next : ∀ S1, CI S1 ow A v hs sv r tx fa ln → keeps CC S ow S1 ow → rs (eE "java/util/NoSuchElementException" "") (oLst v) post postX S1) : f_X7_least S (A 12) bc bs post postX := by
  unfold f_X7_least
  unfold oLst at next
  rw [G_O h, x_tooSmall h hv]
  by_cases e : v 0 < 2
  · rw [if_pos e] at next ⊢
    rw [if_neg (by decide)]
    exact ⟨h1, h2, next S h keeps.refl⟩
  · rw [if_neg e] at next ⊢
    rw [if_pos rfl, G_0 h, G_O h]
    exact x_lbp h h.2.1 hv (by decide) (by omega) (fun S1 c1 k1 => next S1 c1 (k1.mono (by decide)))
theorem x_meas {pp : PS → Prop} (h : CI S ow A v hs sv r tx fa ln) (hv : okV v) (next : ∀ S1 B F g, CI S1 ow A v hs sv r tx fa ln → keeps [5] S ow S1 ow → B 0 = A 5 → Po 2 4 dfs (fun _ => 0) (fun _ => 256) S1 ow 5 B F g → dmeas v F g → pp S1) : f_X0_measure S (A 5) (A 0) pp := by
  obtain ⟨B, F, g, e, ⟨hB, H, ho⟩, z⟩ := h.2.2.2.2.2.2.1
  obtain ⟨t, hV, o1, o2⟩ := h.2.1
  rw [← e]
  refine d_measure hB H z hV hv (fun k hk => ⟨fun y => ?_, fun y => ?_⟩) (fun S1 F1 g1 H1 m => ?_)
  · have := ho k hk; rw [← y, o1] at this; cases this
  · have := ho k hk; rw [← y, o2] at this; cases this
  · have hk := keeps_OS H1 ho
    have hP := Po_of hB H1 ho
    exact next S1 B F1 g1 (CI_up5 h hk ⟨B, F1, g1, e, hP, m.1⟩) hk e hP m
theorem x_leastAgain (h : CI S ow A v hs sv r tx fa ln) (hv : okV v) (h1 : 1 ≤ bc) (h2 : 6 ≤ bs) (next : ∀ S1, CI S1 ow A v hs sv r tx fa ln → keeps CC S ow S1 ow → rs (eE "java/util/NoSuchElementException" "") (oLst v) post postX S1) : f_X7_leastAgain S (A 12) bc bs post postX := by
  unfold f_X7_leastAgain
  unfold oLst at next
  rw [G_O h, x_tooSmall h hv]
  by_cases e : v 0 < 2
  · rw [if_pos e] at next ⊢
    rw [if_neg (by decide)]
    exact ⟨h1, h2, next S h keeps.refl⟩
  · rw [if_neg e] at next ⊢
    rw [if_pos rfl, G_5 h, G_0 h, O_5 h]
    refine x_meas h hv (fun S1 B F g c1 k1 e1 hP m => ?_)
    rw [G_5 c1, O_5 c1, ← e1, d_least hP.1 hP.2.1 m hv (by omega)]
    exact next S1 c1 (k1.mono (by decide))
theorem x_leastSides (h : CI S ow A v hs sv r tx fa ln) (hv : okV v) (h1 : 1 ≤ bc) (h2 : 6 ≤ bs) (next : ∀ S1, CI S1 ow A v hs sv r tx fa ln → keeps CC S ow S1 ow → rs (eE "java/util/NoSuchElementException" "") (oLsd v) post postX S1) : f_X7_leastSides S (A 12) bc bs post postX := by
  unfold f_X7_leastSides
  unfold oLsd at next
  rw [G_O h, x_tooSmall h hv]
  by_cases e : v 0 < 2
  · rw [if_pos e] at next ⊢
    rw [if_neg (by decide)]
    exact ⟨h1, h2, next S h keeps.refl⟩
  · rw [if_neg e] at next ⊢
    rw [if_pos rfl, G_5 h, G_0 h, O_5 h]
    refine x_meas h hv (fun S1 B F g c1 k1 e1 hP m => ?_)
    rw [G_5 c1, O_5 c1, ← e1, d_count hP.1 hP.2.1 m hv (by omega)]
    exact next S1 c1 (k1.mono (by decide))
theorem x_flow {s g : Nat} (h : CI S ow A v hs sv r tx fa ln) (hv : okV v) (hs' : s < v 0) (hg : g < v 0) (hsg : s ≠ g) (next : ∀ S1, CI S1 ow A v hs sv r tx fa ln → keeps [6] S ow S1 ow → post (nI (bt v s g)) S1) : f_X1_mostFlow S (A 6) (A 0) (nI s) (nI g) post := by
  obtain ⟨B, F, k, e, ⟨hB, H, ho⟩⟩ := h.2.2.2.2.2.2.2.1
  obtain ⟨t, hV, o1, o2⟩ := h.2.1
  rw [← e]
  refine w_mostFlow hB H hV hv (fun k hk => ⟨fun y => ?_, fun y => ?_⟩) hs' hg hsg (fun S1 h1 H1 => ?_)
  · have := ho k hk; rw [← y, o1] at this; cases this
  · have := ho k hk; rw [← y, o2] at this; cases this
  · have hk := keeps_OS H1 ho
    exact next S1 (CI_up6 h hk ⟨B, F, h1, e, Po_of hB H1 ho⟩) hk
theorem x_between {x y : Int32} (h : CI S ow A v hs sv r tx fa ln) (hv : okV v) (h1 : 1 ≤ bc) (h2 : 6 ≤ bs) (next : ∀ S1, CI S1 ow A v hs sv r tx fa ln → keeps CC S ow S1 ow → rs (eE "java/lang/IndexOutOfBoundsException" "java/lang/IllegalArgumentException") (oBtw v x y) post postX S1) : f_X7_between S (A 12) x y bc bs post postX := by
  obtain ⟨t, hV⟩ := Vx h
  have h0 := hv.1
  unfold f_X7_between f_X7_between_J22
  unfold oBtw at next
  rw [G_0 h, O_0 h]
  by_cases hx : inb v x = true
  · rw [if_pos hx] at next
    rw [e_hasY hV (inb_iff.mp hx), if_neg (by decide), G_0 h, O_0 h]
    by_cases hy : inb v y = true
    · rw [if_pos hy] at next
      rw [e_hasY hV (inb_iff.mp hy), if_neg (by decide)]
      by_cases e : x = y
      · rw [if_pos e] at next ⊢
        exact ⟨h1, h2, next S h keeps.refl⟩
      · rw [if_neg e] at next ⊢
        obtain ⟨b1, b2⟩ := inb_of h0 hx
        obtain ⟨b3, b4⟩ := inb_of h0 hy
        rw [G_5 h, G_0 h, O_5 h]
        refine x_meas h hv (fun S1 B F g c1 k1 e1 hP m => ?_)
        rw [G_5 c1, O_5 c1, ← e1, b2, b4, d_apart hP.1 hP.2.1 m hv b1 b3 (fun z => e (by rw [b2, b4, z]))]
        exact next S1 c1 (k1.mono (by decide))
    · rw [if_neg hy] at next
      rw [e_hasN hV (fun z => hy (inb_iff.mpr z)), if_pos rfl]
      exact ⟨h1, h2, next S h keeps.refl⟩
  · rw [if_neg hx] at next
    rw [e_hasN hV (fun z => hx (inb_iff.mpr z)), if_pos rfl]
    exact ⟨h1, h2, next S h keeps.refl⟩
theorem x_betweenAgain {x y : Int32} (h : CI S ow A v hs sv r tx fa ln) (hv : okV v) (h1 : 1 ≤ bc) (h2 : 6 ≤ bs) (next : ∀ S1, CI S1 ow A v hs sv r tx fa ln → keeps CC S ow S1 ow → rs (eE "java/lang/IndexOutOfBoundsException" "java/lang/IllegalArgumentException") (oBtw v x y) post postX S1) : f_X7_betweenAgain S (A 12) x y bc bs post postX := by
  obtain ⟨t, hV⟩ := Vx h
  have h0 := hv.1
  unfold f_X7_betweenAgain f_X7_betweenAgain_J22
  unfold oBtw at next
  rw [G_0 h, O_0 h]
  by_cases hx : inb v x = true
  · rw [if_pos hx] at next
    rw [e_hasY hV (inb_iff.mp hx), if_neg (by decide), G_0 h, O_0 h]
    by_cases hy : inb v y = true
    · rw [if_pos hy] at next
      rw [e_hasY hV (inb_iff.mp hy), if_neg (by decide)]
      by_cases e : x = y
      · rw [if_pos e] at next ⊢
        exact ⟨h1, h2, next S h keeps.refl⟩
      · rw [if_neg e] at next ⊢
        obtain ⟨b1, b2⟩ := inb_of h0 hx
        obtain ⟨b3, b4⟩ := inb_of h0 hy
        obtain ⟨i, hi⟩ : ∃ i, i = ix x := ⟨_, rfl⟩
        obtain ⟨j, hj⟩ : ∃ j, j = ix y := ⟨_, rfl⟩
        rw [← hi] at next b1 b2
        rw [← hj] at next b3 b4
        rw [G_6 h, G_0 h, O_6 h, b2, b4]
        exact x_flow h hv b1 b3 (fun z => e (by rw [b2, b4, z])) (fun S1 c1 k1 => next S1 c1 (k1.mono (by decide)))
    · rw [if_neg hy] at next
      rw [e_hasN hV (fun z => hy (inb_iff.mpr z)), if_pos rfl]
      exact ⟨h1, h2, next S h keeps.refl⟩
  · rw [if_neg hx] at next
    rw [e_hasN hV (fun z => hx (inb_iff.mpr z)), if_pos rfl]
    exact ⟨h1, h2, next S h keeps.refl⟩
/-- all that the class checks of itself holds -/
theorem x_isTold (h : CI S ow A v hs sv r tx fa ln) (hv : okV v) (next : ∀ S1, CI S1 ow A v hs sv r tx fa ln → keeps CC S ow S1 ow → post 1 S1) : f_X7_isTold S (A 12) post := by
  obtain ⟨t, hV⟩ := Vx h
  have h0 := hv.1
  unfold f_X7_isTold
  rw [G_0 h, O_0 h, e_feud hV hv, G_0 h, O_0 h, e_halves hV hv, fb_fo hv, fh_fo hv, if_pos rfl, G_O h, x_tooSmall h hv]
  by_cases e : v 0 < 2
  · rw [if_pos e, if_neg (by decide), nZ1]
    exact next S h keeps.refl
  · rw [if_neg e, if_pos rfl, G_O h]
    unfold f_X7_isLeastTold
    rw [G_0 h, G_O h]
    refine x_lbp h h.2.1 hv (by decide) (by omega) (fun S1 c1 k1 => ?_)
    rw [G_5 c1, G_0 c1, O_5 c1]
    refine x_meas c1 hv (fun S2 B F g c2 k2 e2 hP m => ?_)
    rw [G_5 c2, O_5 c2, ← e2, d_least hP.1 hP.2.1 m hv (by omega), if_pos rfl]
    have fin : ∀ S3, CI S3 ow A v hs sv r tx fa ln → keeps CC S ow S3 ow → (fun (v12 : Int32) (S11 : PS) => if v12 = 0 then nZ .boolean 0 (post 0 S11) else nZ .boolean 1 (post 1 S11)) 1 S3 := fun S3 c3 k3 => by
      show (if (1 : Int32) = 0 then _ else _)
      rw [if_neg (by decide), nZ1]
      exact next S3 c3 k3
    obtain ⟨pq, hpq⟩ : ∃ pq : Int32 → PS → Prop, pq = (fun (v12 : Int32) (S11 : PS) => if v12 = 0 then nZ .boolean 0 (post 0 S11) else nZ .boolean 1 (post 1 S11)) := ⟨_, rfl⟩
    rw [← hpq] at fin ⊢
    have k12 : keeps CC S ow S2 ow := (k1.mono (by decide)).trans (k2.mono (by decide))
    have lc := lcut_lt hv
    have outer := loop_i (W := fun fuel i (s : PS) => f_X7_isLeastTold_L35 pq fuel s (A 12) (nI (lcut v)) (nI i)) (I := fun i s => CI s ow A v hs sv r tx fa ln ∧ keeps CC S ow s ow ∧ Po 2 4 dfs (fun _ => 0) (fun _ => 256) s ow 5 B F g) (v 0) (fun n s hI => ?_) (fun n i s hi hI ih => ?_) 4096 0 S2 (by omega) (by omega) ⟨c2, k12, hP⟩
    · exact outer
    · obtain ⟨d1, d2, d3⟩ := hI
      obtain ⟨t3, hV3⟩ := Vx d1
      show f_X7_isLeastTold_L35 pq (n + 1) s (A 12) (nI (lcut v)) (nI (v 0))
      simp only [f_X7_isLeastTold_L35]
      rw [G_0 d1, V1 hV3, if_pos (nI_le (Nat.le_refl _) (by omega)), nZ1]
      exact fin s d1 d2
    · obtain ⟨d1, d2, d3⟩ := hI
      obtain ⟨t3, hV3⟩ := Vx d1
      show f_X7_isLeastTold_L35 pq (n + 1) s (A 12) (nI (lcut v)) (nI i)
      simp only [f_X7_isLeastTold_L35]
      rw [G_0 d1, V1 hV3, if_neg (nI_ge hi (by omega)), nI_1]
      have inner := loop_i (W := fun fuel j (s : PS) => f_X7_isLeastTold_L50 pq (f_X7_isLeastTold_L35 pq n) fuel s (A 12) (nI (lcut v)) (nI i) (nI j)) (I := fun j s => i < j ∧ CI s ow A v hs sv r tx fa ln ∧ keeps CC S ow s ow ∧ Po 2 4 dfs (fun _ => 0) (fun _ => 256) s ow 5 B F g) (v 0) (fun n2 s hI => ?_) (fun n2 j s hj hI ih2 => ?_) 4096 (i + 1) s (by omega) (by omega) ⟨by omega, d1, d2, d3⟩
      · exact inner
      · obtain ⟨-, d1, d2, d3⟩ := hI
        obtain ⟨t3, hV3⟩ := Vx d1
        show f_X7_isLeastTold_L50 pq (f_X7_isLeastTold_L35 pq n) (n2 + 1) s (A 12) (nI (lcut v)) (nI i) (nI (v 0))
        simp only [f_X7_isLeastTold_L50, f_X7_isLeastTold_J104]
        rw [G_0 d1, V1 hV3, if_pos (nI_le (Nat.le_refl _) (by omega)), nI_1]
        exact ih s ⟨d1, d2, d3⟩
      · obtain ⟨d0, d1, d2, d3⟩ := hI
        obtain ⟨t3, hV3⟩ := Vx d1
        have hbt := btw_lt hv (show i < v 0 from hi) (show i ≠ j by omega)
        show f_X7_isLeastTold_L50 pq (f_X7_isLeastTold_L35 pq n) (n2 + 1) s (A 12) (nI (lcut v)) (nI i) (nI j)
        simp only [f_X7_isLeastTold_L50]
        rw [G_0 d1, V1 hV3, if_neg (nI_ge hj (by omega)), G_5 d1, O_5 d1, ← e2, d_apart d3.1 d3.2.1 m hv hi hj (by omega), G_6 d1, G_0 d1, O_6 d1]
        refine x_flow d1 hv hi hj (by omega) (fun S3 c3 k3 => ?_)
        rw [if_pos rfl, if_pos (nI_le (lcut_bt hv hi hj (by omega)) (by omega)), nI_1]
        exact ih2 S3 ⟨by omega, c3, d2.trans (k3.mono (by decide)), Po_fr (by omega) d3 k3 (by decide)⟩
end XMS

