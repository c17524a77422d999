/-! the class's village: what its changing methods do to its cells *(0 itself, 1 ties)* -/
def vfs (B : Nat → Nat) (F : Nat → Int32) : List Value := [.ref (B 1), .int (F 1), .int (F 2), .int (F 3), .int (F 4), .int (F 5)]
abbrev VS (S0 : PS) (B : Nat → Nat) (F : Nat → Int32) (h : Nat → Nat → Int32) (S : PS) : Prop := OS 2 10 (vfs B) (fun _ => 0) (fun _ => 81) S0 B F h S
def vB (a t : Nat) : Nat → Nat := fun k => if k = 0 then a else t
def vF (v : Nat → Nat) : Nat → Int32 := fun k => if k = 1 then nI (v 0) else if k = 2 then nI (sds v) else if k = 3 then nI (v 1) else if k = 4 then nI (v 2) else nI (v 3)
/-- nothing but two cells has changed -/
def chV (a t : Nat) (S S1 : PS) : Prop := S1.1 = S.1 ∧ ∀ q, q ≠ a → q ≠ t → S1.2 q = S.2 q
theorem chV.trans {a t : Nat} {S S1 S2 : PS} (h : chV a t S S1) (h2 : chV a t S1 S2) : chV a t S S2 := ⟨h2.1.trans h.1, fun q q1 q2 => (h2.2 q q1 q2).trans (h.2 q q1 q2)⟩
theorem chV.refl {a t : Nat} {S : PS} : chV a t S S := ⟨rfl, fun _ _ _ => rfl⟩
theorem isV_ne {S : PS} {a t : Nat} {v : Nat → Nat} (h : isV S a t v) : a ≠ t := fun e => by
  obtain ⟨-, -, h3, f, h4, -⟩ := h
  rw [← e, h3] at h4; cases h4
theorem V_os {S : PS} {a t : Nat} {v : Nat → Nat} (h : isV S a t v) : oB 2 S (vB a t) ∧ ∃ g : Nat → Nat → Int32, VS S (vB a t) (vF v) g S ∧ ∀ i j, i < 9 → j < 9 → g 1 (9 * i + j) = nI (wt v i j) := by
  have hne := isV_ne h
  obtain ⟨h1, h2, h3, f, h4, h5⟩ := h
  refine ⟨⟨fun j k hj hk e => ?_, fun k hk => ?_⟩, fun _ => f, ⟨rfl, fun _ _ => rfl, h3, fun k k0 k2 => ?_⟩, fun i j hi hj => ?_⟩
  · unfold vB at e
    rcases (show j = 0 ∨ j = 1 by omega) with rfl | rfl <;> rcases (show k = 0 ∨ k = 1 by omega) with rfl | rfl
    · rfl
    · exact absurd e hne
    · exact absurd e.symm hne
    · rfl
  · rcases (show k = 0 ∨ k = 1 by omega) with rfl | rfl
    · exact h1
    · exact h2
  · rw [show k = 1 by omega]; exact h4
  · exact h5 (9 * i + j) (by omega)
theorem V_of {S0 S : PS} {a t : Nat} {F : Nat → Int32} {g : Nat → Nat → Int32} {v : Nat → Nat} (hB : oB 2 S0 (vB a t)) (H : VS S0 (vB a t) F g S) (h1 : F 1 = nI (v 0)) (h2 : F 2 = nI (sds v)) (h3 : F 3 = nI (v 1)) (h4 : F 4 = nI (v 2)) (h5 : F 5 = nI (v 3)) (hg : ∀ i j, i < 9 → j < 9 → g 1 (9 * i + j) = nI (wt v i j)) : isV S a t v := by
  refine ⟨by rw [H.1]; exact hB.2 0 (by omega), by rw [H.1]; exact hB.2 1 (by omega), ?_, g 1, H.2.2.2 1 (by omega) (by omega), fun k hk => ?_⟩
  · have := H.2.2.1
    rw [← h1, ← h2, ← h3, ← h4, ← h5]
    exact this
  · have := hg (k / 9) (k % 9) (by omega) (by omega)
    rw [show 9 * (k / 9) + k % 9 = k by omega] at this
    rw [this]; unfold wt
    rw [show 13 + (9 * (k / 9) + k % 9) = 13 + k by omega]
theorem V_ch {S0 S : PS} {a t : Nat} {F : Nat → Int32} {g : Nat → Nat → Int32} (H : VS S0 (vB a t) F g S) : chV a t S0 S := ⟨H.1, fun q q1 q2 => H.2.1 q (fun k hk => by
  rcases (show k = 0 ∨ k = 1 by omega) with rfl | rfl
  · exact q1
  · exact q2)⟩
section VWR
variable {S0 S : PS} {a t : Nat} {F : Nat → Int32} {h : Nat → Nat → Int32} {v : Nat → Nat}
theorem s_has {n x : Nat} {post : Int32 → PS → Prop} (hB : oB 2 S0 (vB a t)) (H : VS S0 (vB a t) F h S) (hF : F 1 = nI n) (hn : n ≤ 9) (hx : x < n) : f_X6_has S a (nI x) post = post 1 S := by
  unfold f_X6_has
  show (if nI x < 0 then nZ .boolean 0 (post 0 S) else gI S (vB a t 0) 10 1 _) = _
  rw [if_neg (nI_pos (by omega)), OS_gI hB (by omega) H (f := 1) (x := F 1) rfl, hF, if_neg (nI_ge hx (by omega)), nZ1]
theorem s_tie {n x y : Nat} {post : Int32 → PS → Prop} (hB : oB 2 S0 (vB a t)) (H : VS S0 (vB a t) F h S) (hF : F 1 = nI n) (hn : n ≤ 9) (hx : x < n) (hy : y < n) : f_X6_tie S a (nI x) (nI y) post = post (h 1 (9 * x + y)) S := by
  unfold f_X6_tie
  show isO S (vB a t 0) 10 _ = _
  rw [OS_isO hB (by omega) H, s_has hB H hF hn hx, if_neg (by decide)]
  show isO S (vB a t 0) 10 _ = _
  rw [OS_isO hB (by omega) H, s_has hB H hF hn hy, if_neg (by decide)]
  show gR S (vB a t 0) 10 0 _ = _
  rw [OS_gR hB (by omega) H (k := 1) (f := 0) rfl, n9, pk_mul, nI_add, OS_aI hB H (k := 1) (by omega) (show x * 9 + y < 81 by omega) (by decide), Nat.mul_comm x 9]
theorem s_set {n x y : Nat} {m : Int32} {post : PS → Prop} (hB : oB 2 S0 (vB a t)) (H : VS S0 (vB a t) F h S) (hF : F 1 = nI n) (hn : n ≤ 9) (hx : x < n) (hy : y < n) (next : ∀ S1, VS S0 (vB a t) F (hu (hu h 1 (x * 9 + y) m) 1 (y * 9 + x) m) S1 → post S1) : f_X6_setTie S a (nI x) (nI y) m post := by
  unfold f_X6_setTie
  show isO S (vB a t 0) 10 _
  rw [OS_isO hB (by omega) H, s_has hB H hF hn hx, if_neg (by decide)]
  show isO S (vB a t 0) 10 _
  rw [OS_isO hB (by omega) H, s_has hB H hF hn hy, if_neg (by decide)]
  show gR S (vB a t 0) 10 0 _
  rw [OS_gR hB (by omega) H (k := 1) (f := 0) rfl, n9, pk_mul, nI_add]
  refine OS_sI hB (by omega) H (k := 1) (by omega) (show x * 9 + y < 81 by omega) (by decide) (fun S2 H2 => ?_)
  show gR S2 (vB a t 0) 10 0 _
  rw [OS_gR hB (by omega) H2 (k := 1) (f := 0) rfl, pk_mul, nI_add]
  exact OS_sI hB (by omega) H2 (k := 1) (by omega) (show y * 9 + x < 81 by omega) (by decide) next
theorem v_welcome {post : Int32 → PS → Prop} (hV : isV S a t v) (h9 : v 0 < 9) (next : ∀ S1, chV a t S S1 → isV S1 a t (vCom v) → post (nI (v 0)) S1) : f_X6_welcome S a post := by
  obtain ⟨hB, h, H, hw⟩ := V_os hV
  unfold f_X6_welcome
  show gI S (vB a t 0) 10 1 _
  rw [OS_gI hB (by omega) H (f := 1) (x := nI (v 0)) rfl, if_neg (by rw [n9]; exact nI_ge h9 (by omega))]
  show gI S (vB a t 0) 10 1 _
  rw [OS_gI hB (by omega) H (f := 1) (x := nI (v 0)) rfl]
  refine OS_pV hB (by omega) H (f := 1) rfl (by show 1 < 6; decide) (fun S2 H2 => ?_)
  show gI S2 (vB a t 0) 10 3 _
  rw [OS_gI hB (by omega) H2 (f := 3) (x := nI (v 1)) rfl]
  refine OS_pV hB (by omega) H2 (f := 3) rfl (by show 3 < 6; decide) (fun S3 H3 => ?_)
  unfold f_X6_welcome_J29
  show gI S3 (vB a t 0) 10 1 _
  rw [OS_gI hB (by omega) H3 (f := 1) (x := nI (v 0) + 1) rfl, show nI (v 0) + 1 - 1 = nI (v 0) by rw [nI_1, nI_pred]]
  refine next S3 (V_ch H3) (V_of hB H3 ?_ ?_ ?_ rfl rfl (fun i j hi hj => ?_))
  · show nI (v 0) + 1 = nI (v 0 + 1); rw [nI_1]
  · show nI (sds v) = _; rw [sds_com]
  · show nI (v 1) + 1 = nI (v 1 + 1); rw [nI_1]
  · rw [hw i j hi hj]; unfold vCom; rw [mk_w hj]
theorem v_retie {x y m : Nat} {post : Int32 → PS → Prop} (hV : isV S a t v) (h0 : v 0 ≤ 9) (hx : x < v 0) (hy : y < v 0) (hxy : x ≠ y) (next : ∀ S1, chV a t S S1 → isV S1 a t (vBnd v x y m) → post (nI (wt v x y)) S1) : f_X6_retie S a (nI x) (nI y) (nI m) post := by
  obtain ⟨hB, h, H, hw⟩ := V_os hV
  unfold f_X6_retie
  show isO S (vB a t 0) 10 _
  rw [OS_isO hB (by omega) H, s_tie hB H (n := v 0) rfl h0 hx hy, hw x y (by omega) (by omega)]
  show isO S (vB a t 0) 10 _
  rw [OS_isO hB (by omega) H]
  refine s_set hB H (n := v 0) rfl h0 hx hy (fun S1 H1 => ?_)
  refine next S1 (V_ch H1) (V_of hB H1 rfl (by show nI (sds v) = _; rw [sds_bnd]) rfl rfl rfl (fun i j hi hj => ?_))
  unfold vBnd
  rw [mk_w hj, hu_if, hu_if]
  by_cases e : (i = x ∧ j = y) ∨ (i = y ∧ j = x)
  · rw [if_pos e]
    by_cases e2 : 9 * i + j = y * 9 + x
    · rw [if_pos e2]
    · rw [if_neg e2, if_pos (by omega)]
  · rw [if_neg e, if_neg (by omega), if_neg (by omega)]; exact hw i j hi hj
theorem v_moveTo {x s : Nat} {post : PS → Prop} (hV : isV S a t v) (hv : okS v) (hx : x < v 0) (hs : s ≤ 1) (next : ∀ S1, chV a t S S1 → isV S1 a t (vSid v x s) → post S1) : f_X6_moveTo S a (nI x) (nI s) post := by
  have h0 := hv.1
  have hl := sds_l hv.2.1
  obtain ⟨hB, h, H, hw⟩ := V_os hV
  have hwv : ∀ s' i j, i < 9 → j < 9 → h 1 (9 * i + j) = nI (wt (vSid v x s') i j) := fun s' i j hi hj => by
    rw [hw i j hi hj]; unfold vSid; rw [mk_w hj]
  unfold f_X6_moveTo
  show isO S (vB a t 0) 10 _
  rw [OS_isO hB (by omega) H, s_has hB H (n := v 0) rfl h0 hx, if_neg (by decide)]
  show gI S (vB a t 0) 10 2 _
  rw [OS_gI hB (by omega) H (f := 2) (x := nI (sds v)) rfl, b_bit x (by omega), b_bn]
  rcases (show s = 0 ∨ s = 1 by omega) with rfl | rfl
  · rw [if_neg (by decide)]
    refine OS_pV hB (by omega) H (f := 2) rfl (by show 2 < 6; decide) (fun S2 H2 => ?_)
    exact next S2 (V_ch H2) (V_of hB H2 rfl (by show nI (bn (sds v) (2 ^ x)) = _; rw [sds_sid0 hv hx]) rfl rfl rfl (hwv 0))
  · rw [if_pos (show nI 1 = 1 from rfl), b_or]
    refine OS_pV hB (by omega) H (f := 2) rfl (by show 2 < 6; decide) (fun S2 H2 => ?_)
    exact next S2 (V_ch H2) (V_of hB H2 rfl (by show nI (bn (sds v) (2 ^ x) ||| 2 ^ x) = _; rw [sds_sid1 hv hx]) rfl rfl rfl (hwv 1))
/-- the side is told anew, as a set -/
theorem v_sides {A : Nat} {kk : PS → Prop} (hV : isV S a t v) (hv : okS v) (hA : A < 2 ^ v 0) (next : ∀ S1, chV a t S S1 → isV S1 a t (vPar v A) → kk S1) : pV S a 10 2 (.int (nI A)) kk := by
  obtain ⟨hB, h, H, hw⟩ := V_os hV
  refine OS_pV hB (by omega) H (f := 2) rfl (by show 2 < 6; decide) (fun S2 H2 => ?_)
  exact next S2 (V_ch H2) (V_of hB H2 rfl (by show nI A = _; rw [sds_par hv hA]) rfl rfl rfl (fun i j hi hj => by rw [hw i j hi hj]; unfold vPar; rw [mk_w hj]))
theorem shr1 {s : Nat} (hs : s < 2 ^ 31) : nI s >>> ((1 : Int32) &&& 31) = nI (s / 2) := b_shr (k := 1) hs (by omega)
theorem v_dismiss {g : Nat} {post : Int32 → PS → Prop} (hV : isV S a t v) (hv : okG v) (hg : g < v 0) (next : ∀ S1, chV a t S S1 → isV S1 a t (vGo v g) → post (nI (v 0 - 1)) S1) : f_X6_dismiss S a (nI g) post := by
  have h0 := hv.1
  have hl := sds_l hv.2.1
  obtain ⟨hB, h, H, hw⟩ := V_os hV
  -- clearing the last row and column
  have clr := fun (h1 : Nat → Nat → Int32) (S1 : PS) (H1 : VS S (vB a t) (vF v) h1 S1) (hc : ∀ i j, i < 9 → j < 9 → h1 1 (9 * i + j) = nI (if i + 1 < v 0 ∧ j + 1 < v 0 then wt v (sh g i) (sh g j) else wt v i j)) => loop_i (W := fun fuel k (s : PS × (Nat → Nat → Int32)) => f_X6_dismiss_L98 post fuel s.1 a (nI g) (nI k))
    (I := fun k s => VS S (vB a t) (vF v) s.2 s.1 ∧ ∀ i j, i < 9 → j < 9 → s.2 1 (9 * i + j) = nI (if (i < k ∧ j + 1 = v 0) ∨ (i + 1 = v 0 ∧ j < k) then 0 else if i + 1 < v 0 ∧ j + 1 < v 0 then wt v (sh g i) (sh g j) else wt v i j)) (v 0) (fun n s hI => by
      obtain ⟨c1, c2⟩ := hI
      show f_X6_dismiss_L98 post (n + 1) s.1 a (nI g) (nI (v 0))
      simp only [f_X6_dismiss_L98]
      show gI s.1 (vB a t 0) 10 1 _
      rw [OS_gI hB (by omega) c1 (f := 1) (x := nI (v 0)) rfl, if_pos (Int32.le_refl _)]
      unfold f_X6_dismiss_J124
      show gI s.1 (vB a t 0) 10 2 _
      rw [OS_gI hB (by omega) c1 (f := 2) (x := nI (sds v)) rfl]
      show gI s.1 (vB a t 0) 10 2 _
      rw [OS_gI hB (by omega) c1 (f := 2) (x := nI (sds v)) rfl, b_all g (by omega), shr1 (by omega), b_and, b_bn, b_or, ← sds_go hv hg]
      refine OS_pV hB (by omega) c1 (f := 2) rfl (by show 2 < 6; decide) (fun S2 H2 => ?_)
      show gI S2 (vB a t 0) 10 1 _
      rw [OS_gI hB (by omega) H2 (f := 1) (x := nI (v 0)) rfl, n1, pk_sub (by omega)]
      refine OS_pV hB (by omega) H2 (f := 1) rfl (by show 1 < 6; decide) (fun S3 H3 => ?_)
      show gI S3 (vB a t 0) 10 4 _
      rw [OS_gI hB (by omega) H3 (f := 4) (x := nI (v 2)) rfl, nI_add]
      refine OS_pV hB (by omega) H3 (f := 4) rfl (by show 4 < 6; decide) (fun S4 H4 => ?_)
      show gI S4 (vB a t 0) 10 1 _
      rw [OS_gI hB (by omega) H4 (f := 1) (x := nI (v 0 - 1)) rfl]
      refine next S4 (V_ch H4) (V_of hB H4 rfl rfl rfl rfl rfl (fun i j hi hj => ?_))
      unfold vGo
      rw [mk_w hj, c2 i j hi hj]
      by_cases e : i + 1 < v 0 ∧ j + 1 < v 0
      · rw [if_pos e, if_neg (by omega), if_pos e]
      · rw [if_neg e]
        by_cases e2 : (i < v 0 ∧ j + 1 = v 0) ∨ (i + 1 = v 0 ∧ j < v 0)
        · rw [if_pos e2, if_neg e]
        · rw [if_neg e2, if_neg e, hv.2.2.2 i j hi hj (by omega)]) (fun n k s hk hI ih => by
      obtain ⟨c1, c2⟩ := hI
      show f_X6_dismiss_L98 post (n + 1) s.1 a (nI g) (nI k)
      simp only [f_X6_dismiss_L98]
      show gI s.1 (vB a t 0) 10 1 _
      rw [OS_gI hB (by omega) c1 (f := 1) (x := nI (v 0)) rfl, if_neg (nI_ge hk (by omega))]
      show gI s.1 (vB a t 0) 10 1 _
      rw [OS_gI hB (by omega) c1 (f := 1) (x := nI (v 0)) rfl, n1, pk_sub (by omega)]
      show isO s.1 (vB a t 0) 10 _
      rw [OS_isO hB (by omega) c1, nI_add]
      refine s_set hB c1 (n := v 0) rfl h0 hk (by omega) (fun S2 H2 => ?_)
      refine ih (S2, _) ⟨H2, fun i j hi hj => ?_⟩
      show hu (hu s.2 1 _ _) 1 _ _ 1 _ = _
      rw [hu_if, hu_if, c2 i j hi hj]
      by_cases e : (i < k + 1 ∧ j + 1 = v 0) ∨ (i + 1 = v 0 ∧ j < k + 1)
      · rw [if_pos e]
        by_cases e2 : 9 * i + j = (v 0 - 1) * 9 + k
        · rw [if_pos e2]; rfl
        · rw [if_neg e2]
          by_cases e3 : 9 * i + j = k * 9 + (v 0 - 1)
          · rw [if_pos e3]; rfl
          · rw [if_neg e3, if_pos (by omega)]
      · rw [if_neg e, if_neg (by omega), if_neg (by omega), if_neg (by omega)]) 4096 0 (S1, h1) (by omega) (by omega) ⟨H1, fun i j hi hj => by
        show h1 1 (9 * i + j) = _
        rw [hc i j hi hj, if_neg (show ¬ ((i < 0 ∧ j + 1 = v 0) ∨ (i + 1 = v 0 ∧ j < 0)) by omega)]⟩
  -- the rows
  have rows := loop_i (W := fun fuel x (s : PS × (Nat → Nat → Int32)) => f_X6_dismiss_L15 post fuel s.1 a (nI g) (nI x))
    (I := fun x s => VS S (vB a t) (vF v) s.2 s.1 ∧ ∀ i j, i < 9 → j < 9 → s.2 1 (9 * i + j) = nI (if i < x ∧ i + 1 < v 0 ∧ j + 1 < v 0 then wt v (sh g i) (sh g j) else wt v i j)) (v 0 - 1) (fun n s hI => ?_) (fun n x s hx hI ih => ?_) 4096 0 (S, h) (by omega) (by omega) ⟨H, fun i j hi hj => by
      show h 1 (9 * i + j) = _
      rw [hw i j hi hj, if_neg (by omega)]⟩
  · unfold f_X6_dismiss
    show isO S (vB a t 0) 10 _
    rw [OS_isO hB (by omega) H, s_has hB H (n := v 0) rfl h0 hg, if_neg (by decide)]
    exact rows
  · obtain ⟨c1, c2⟩ := hI
    show f_X6_dismiss_L15 post (n + 1) s.1 a (nI g) (nI (v 0 - 1))
    simp only [f_X6_dismiss_L15]
    show gI s.1 (vB a t 0) 10 1 _
    rw [OS_gI hB (by omega) c1 (f := 1) (x := nI (v 0)) rfl, show nI (v 0) - 1 = nI (v 0 - 1) by rw [n1, pk_sub (by omega)], if_pos (Int32.le_refl _)]
    refine clr s.2 s.1 c1 (fun i j hi hj => ?_)
    rw [c2 i j hi hj]
    by_cases e : i + 1 < v 0 ∧ j + 1 < v 0
    · rw [if_pos e, if_pos (by omega)]
    · rw [if_neg e, if_neg (by omega)]
  · obtain ⟨c1, c2⟩ := hI
    have hr := loop_i (W := fun fuel y (s2 : PS × (Nat → Nat → Int32)) => f_X6_dismiss_L27 post (f_X6_dismiss_L15 post n) fuel s2.1 a (nI g) (nI x) (nI y))
      (I := fun y s2 => VS S (vB a t) (vF v) s2.2 s2.1 ∧ ∀ i j, i < 9 → j < 9 → s2.2 1 (9 * i + j) = nI (if (i < x ∨ (i = x ∧ j < y)) ∧ i + 1 < v 0 ∧ j + 1 < v 0 then wt v (sh g i) (sh g j) else wt v i j)) (v 0 - 1) (fun n' s2 hI => ?_) (fun n' y s2 hy hI ih2 => ?_) 4096 0 s (by omega) (by omega) ⟨c1, fun i j hi hj => by
        rw [c2 i j hi hj]
        by_cases e : i < x ∧ i + 1 < v 0 ∧ j + 1 < v 0
        · rw [if_pos e, if_pos (by omega)]
        · rw [if_neg e, if_neg (by omega)]⟩
    · show f_X6_dismiss_L15 post (n + 1) s.1 a (nI g) (nI x)
      simp only [f_X6_dismiss_L15]
      show gI s.1 (vB a t 0) 10 1 _
      rw [OS_gI hB (by omega) c1 (f := 1) (x := nI (v 0)) rfl, show nI (v 0) - 1 = nI (v 0 - 1) by rw [n1, pk_sub (by omega)], if_neg (nI_ge hx (by omega))]
      exact hr
    · obtain ⟨d1, d2⟩ := hI
      show f_X6_dismiss_L27 post (f_X6_dismiss_L15 post n) (n' + 1) s2.1 a (nI g) (nI x) (nI (v 0 - 1))
      simp only [f_X6_dismiss_L27, f_X6_dismiss_J90]
      show gI s2.1 (vB a t 0) 10 1 _
      rw [OS_gI hB (by omega) d1 (f := 1) (x := nI (v 0)) rfl, show nI (v 0) - 1 = nI (v 0 - 1) by rw [n1, pk_sub (by omega)], if_pos (Int32.le_refl _), nI_1]
      refine ih s2 ⟨d1, fun i j hi hj => ?_⟩
      rw [d2 i j hi hj]
      by_cases e : i < x + 1 ∧ i + 1 < v 0 ∧ j + 1 < v 0
      · rw [if_pos e, if_pos (by omega)]
      · rw [if_neg e, if_neg (by omega)]
    · obtain ⟨d1, d2⟩ := hI
      have hsx := sh_lt (g := g) (x := x) (n := v 0) (by omega)
      have hsy := sh_lt (g := g) (x := y) (n := v 0) (by omega)
      have hgx : x ≤ sh g x := by unfold sh; split <;> omega
      have hgy : y ≤ sh g y := by unfold sh; split <;> omega
      have bod : f_X6_dismiss_J63 post (f_X6_dismiss_L27 post (f_X6_dismiss_L15 post n) n') s2.1 a (nI g) (nI x) (nI y) (nI (sh g x)) (nI (sh g y)) := by
        unfold f_X6_dismiss_J63
        show gR s2.1 (vB a t 0) 10 0 _
        rw [OS_gR hB (by omega) d1 (k := 1) (f := 0) rfl]
        show isO s2.1 (vB a t 0) 10 _
        rw [OS_isO hB (by omega) d1, s_tie hB d1 (n := v 0) rfl h0 hsx hsy, d2 _ _ (by omega) (by omega), if_neg (by omega), n9, pk_mul, nI_add, nI_1]
        refine OS_sI hB (by omega) d1 (k := 1) (by omega) (show x * 9 + y < 81 by omega) (by decide) (fun S3 H3 => ?_)
        refine ih2 (S3, _) ⟨H3, fun i j hi hj => ?_⟩
        show hu s2.2 1 _ _ 1 _ = _
        rw [hu_if]
        by_cases e : i = x ∧ j = y
        · obtain ⟨rfl, rfl⟩ := e
          rw [if_pos (by omega), if_pos (by omega)]
        · rw [if_neg (by omega), d2 i j hi hj]
          by_cases e2 : (i < x ∨ (i = x ∧ j < y)) ∧ i + 1 < v 0 ∧ j + 1 < v 0
          · rw [if_pos e2, if_pos (by omega)]
          · rw [if_neg e2, if_neg (by omega)]
      show f_X6_dismiss_L27 post (f_X6_dismiss_L15 post n) (n' + 1) s2.1 a (nI g) (nI x) (nI y)
      simp only [f_X6_dismiss_L27, f_X6_dismiss_J49]
      show gI s2.1 (vB a t 0) 10 1 _
      rw [OS_gI hB (by omega) d1 (f := 1) (x := nI (v 0)) rfl, show nI (v 0) - 1 = nI (v 0 - 1) by rw [n1, pk_sub (by omega)], if_neg (nI_ge hy (by omega)), nI_1, nI_1]
      unfold sh at bod
      by_cases e1 : g ≤ x <;> by_cases e2 : g ≤ y
      · rw [if_pos (nI_le e1 (by omega)), if_pos (nI_le e2 (by omega))]
        rw [if_neg (show ¬ x < g by omega), if_neg (show ¬ y < g by omega)] at bod
        exact bod
      · rw [if_pos (nI_le e1 (by omega)), if_neg (nI_ge (by omega) (by omega))]
        rw [if_neg (show ¬ x < g by omega), if_pos (show y < g by omega)] at bod
        exact bod
      · rw [if_neg (nI_ge (by omega) (by omega)), if_pos (nI_le e2 (by omega))]
        rw [if_pos (show x < g by omega), if_neg (show ¬ y < g by omega)] at bod
        exact bod
      · rw [if_neg (nI_ge (by omega) (by omega)), if_neg (nI_ge (by omega) (by omega))]
        rw [if_pos (show x < g by omega), if_pos (show y < g by omega)] at bod
        exact bod
theorem v_unite {x y : Nat} {post : Int32 → PS → Prop} (hV : isV S a t v) (hv : okS v) (hx : x < v 0) (hy : y < v 0) (hxy : x ≠ y) (next : ∀ S1, chV a t S S1 → isV S1 a t (vMar v x y) → post (nI (if y < x then x - 1 else x)) S1) : f_X6_unite S a (nI x) (nI y) post := by
  have h0 := hv.1
  obtain ⟨hB, h, H, hw⟩ := V_os hV
  have key := loop_i (W := fun fuel k (s : PS × (Nat → Nat → Int32)) => f_X6_unite_L2 post fuel s.1 a (nI x) (nI y) (nI k))
    (I := fun k s => VS S (vB a t) (vF v) s.2 s.1 ∧ ∀ i j, i < 9 → j < 9 → s.2 1 (9 * i + j) = nI (if i = x ∧ j ≠ x ∧ j ≠ y ∧ j < k then wt v x j + wt v y j else if j = x ∧ i ≠ x ∧ i ≠ y ∧ i < k then wt v x i + wt v y i else wt v i j)) (v 0) (fun n s hI => ?_) (fun n k s hk hI ih => ?_) 4096 0 (S, h) (by omega) (by omega) ⟨H, fun i j hi hj => by
      show h 1 (9 * i + j) = _
      rw [hw i j hi hj, if_neg (by omega), if_neg (by omega)]⟩
  · exact key
  · obtain ⟨c1, c2⟩ := hI
    have hV1 : isV s.1 a t (vUni v x y) := V_of hB c1 rfl (by show nI (sds v) = _; rw [sds_uni]) rfl rfl rfl (fun i j hi hj => by rw [c2 i j hi hj, uni_w hj])
    show f_X6_unite_L2 post (n + 1) s.1 a (nI x) (nI y) (nI (v 0))
    simp only [f_X6_unite_L2]
    rw [V1 hV1, if_pos (show nI (vUni v x y 0) ≤ nI (v 0) from Int32.le_refl _)]
    unfold f_X6_unite_J45
    rw [VO hV1]
    refine v_dismiss hV1 (ok_uni (b := y) hv hx) hy (fun S2 d1 d2 => ?_)
    obtain ⟨hB2, h2, H2, hw2⟩ := V_os d2
    rw [V5 d2]
    refine OS_pV hB2 (by omega) H2 (f := 5) rfl (by show 5 < 6; decide) (fun S3 H3 => ?_)
    have hn := next S3 ((V_ch c1).trans (d1.trans (V_ch H3))) (V_of hB2 H3 rfl (by show nI (sds (vGo (vUni v x y) y)) = _; unfold vMar; rw [sds_wed]) rfl rfl (by show nI (v 3) + 1 = nI (v 3 + 1); rw [nI_1]) (fun i j hi hj => by rw [hw2 i j hi hj]; unfold vMar vWed; rw [mk_w hj]))
    by_cases e : y < x
    · rw [if_pos e] at hn
      rw [if_neg (nI_ge e (by omega)), n1, pk_sub (by omega)]; exact hn
    · rw [if_neg e] at hn
      rw [if_pos (nI_le (by omega) (by omega))]; exact hn
  · obtain ⟨c1, c2⟩ := hI
    show f_X6_unite_L2 post (n + 1) s.1 a (nI x) (nI y) (nI k)
    simp only [f_X6_unite_L2, f_X6_unite_J39]
    show gI s.1 (vB a t 0) 10 1 _
    rw [OS_gI hB (by omega) c1 (f := 1) (x := nI (v 0)) rfl, if_neg (nI_ge hk (by omega)), nI_1]
    by_cases e1 : k = x
    · rw [if_pos (by rw [e1])]
      refine ih s ⟨c1, fun i j hi hj => ?_⟩
      rw [c2 i j hi hj]
      by_cases q1 : i = x ∧ j ≠ x ∧ j ≠ y ∧ j < k
      · rw [if_pos q1, if_pos (by omega)]
      · rw [if_neg q1, if_neg (show ¬ (i = x ∧ j ≠ x ∧ j ≠ y ∧ j < k + 1) by omega)]
        by_cases q2 : j = x ∧ i ≠ x ∧ i ≠ y ∧ i < k
        · rw [if_pos q2, if_pos (by omega)]
        · rw [if_neg q2, if_neg (by omega)]
    · rw [if_neg (by rw [nI_eq (by omega) (by omega)]; exact e1)]
      by_cases e2 : k = y
      · rw [if_pos (by rw [e2])]
        refine ih s ⟨c1, fun i j hi hj => ?_⟩
        rw [c2 i j hi hj]
        by_cases q1 : i = x ∧ j ≠ x ∧ j ≠ y ∧ j < k
        · rw [if_pos q1, if_pos (by omega)]
        · rw [if_neg q1, if_neg (show ¬ (i = x ∧ j ≠ x ∧ j ≠ y ∧ j < k + 1) by omega)]
          by_cases q2 : j = x ∧ i ≠ x ∧ i ≠ y ∧ i < k
          · rw [if_pos q2, if_pos (by omega)]
          · rw [if_neg q2, if_neg (by omega)]
      · rw [if_neg (by rw [nI_eq (by omega) (by omega)]; exact e2)]
        show isO s.1 (vB a t 0) 10 _
        rw [OS_isO hB (by omega) c1, s_tie hB c1 (n := v 0) rfl h0 hx hk, c2 x k (by omega) (by omega), if_neg (by omega), if_neg (by omega)]
        show isO s.1 (vB a t 0) 10 _
        rw [OS_isO hB (by omega) c1, s_tie hB c1 (n := v 0) rfl h0 hy hk, c2 y k (by omega) (by omega), if_neg (by omega), if_neg (by omega)]
        show isO s.1 (vB a t 0) 10 _
        rw [OS_isO hB (by omega) c1, nI_add]
        refine s_set hB c1 (n := v 0) rfl h0 hx hk (fun S2 H2 => ?_)
        refine ih (S2, _) ⟨H2, fun i j hi hj => ?_⟩
        show hu (hu s.2 1 _ _) 1 _ _ 1 _ = _
        rw [hu_if, hu_if, c2 i j hi hj]
        by_cases q1 : i = x ∧ j ≠ x ∧ j ≠ y ∧ j < k + 1
        · rw [if_pos q1, if_neg (by omega)]
          by_cases q3 : j = k
          · rw [if_pos (by omega), q3]
          · rw [if_neg (by omega), if_pos (by omega)]
        · rw [if_neg q1]
          by_cases q2 : j = x ∧ i ≠ x ∧ i ≠ y ∧ i < k + 1
          · rw [if_pos q2]
            by_cases q3 : i = k
            · rw [if_pos (by omega), q3]
            · rw [if_neg (by omega), if_neg (by omega), if_neg (by omega), if_pos (by omega)]
          · rw [if_neg q2, if_neg (by omega), if_neg (by omega), if_neg (by omega), if_neg (by omega)]
theorem v_copy {b u : Nat} {w : Nat → Nat} {post : PS → Prop} (hV : isV S a t v) (hW : isV S b u w) (h1 : b ≠ a) (h2 : b ≠ t) (h3 : u ≠ a) (h4 : u ≠ t) (next : ∀ S1, chV a t S S1 → isV S1 a t w → post S1) : f_X6_copyFrom S a b post := by
  obtain ⟨hB, h, H, hw⟩ := V_os hV
  have hat := isV_ne hV
  obtain ⟨hWb, hWu, hW3, f, hW4, hW5⟩ := hW
  unfold f_X6_copyFrom
  rw [V0 ⟨hWb, hWu, hW3, f, hW4, hW5⟩, V0 hV, V0 hV]
  obtain ⟨g, hg1, hg2⟩ := hV.2.2.2
  rw [lE_eq hV.2.1 hg1 (by decide)]
  have hcl : (nI 81).toNatClampNeg = 81 := nI_clamp (by omega)
  refine ⟨hWu, hV.2.1, by decide, by decide, by decide, 81, 81, f, g, hW4, hg1, by rw [hcl]; decide, by rw [hcl]; decide, ?_⟩
  obtain ⟨S2, e2⟩ : ∃ S2, S2 = p_set S t (.inl (0, 81, .inl (va_cpy f g (0 : Int32).toNatClampNeg (0 : Int32).toNatClampNeg (nI 81).toNatClampNeg))) := ⟨_, rfl⟩
  rw [← e2]
  have H2 : VS S (vB a t) (vF v) (fun _ => va_cpy f g (0 : Int32).toNatClampNeg (0 : Int32).toNatClampNeg (nI 81).toNatClampNeg) S2 := by
    rw [e2]
    refine ⟨rfl, fun q hq => va_up_ne _ _ (hq 1 (by omega)), ?_, fun k k0 k2 => ?_⟩
    · show va_up S.2 t _ a = _
      rw [va_up_ne _ _ hat]; exact H.2.2.1
    · rw [show k = 1 by omega]; exact va_up_self _ _ _
  have hb : ∀ (F' : Nat → Int32) (h' : Nat → Nat → Int32) (S' : PS), VS S (vB a t) F' h' S' → isV S' b u w := fun F' h' S' H' => by
    have hc := V_ch H'
    exact ⟨by rw [hc.1]; exact hWb, by rw [hc.1]; exact hWu, by rw [hc.2 b h1 h2]; exact hW3, f, by rw [hc.2 u h3 h4]; exact hW4, hW5⟩
  rw [V1 (hb _ _ _ H2)]
  refine OS_pV hB (by omega) H2 (f := 1) rfl (by show 1 < 6; decide) (fun S3 H3 => ?_)
  rw [V2 (hb _ _ _ H3)]
  refine OS_pV hB (by omega) H3 (f := 2) rfl (by show 2 < 6; decide) (fun S4 H4 => ?_)
  rw [V3 (hb _ _ _ H4)]
  refine OS_pV hB (by omega) H4 (f := 3) rfl (by show 3 < 6; decide) (fun S5 H5 => ?_)
  rw [V4 (hb _ _ _ H5)]
  refine OS_pV hB (by omega) H5 (f := 4) rfl (by show 4 < 6; decide) (fun S6 H6 => ?_)
  rw [V5 (hb _ _ _ H6)]
  refine OS_pV hB (by omega) H6 (f := 5) rfl (by show 5 < 6; decide) (fun S7 H7 => ?_)
  refine next S7 (V_ch H7) (V_of hB H7 rfl rfl rfl rfl rfl (fun i j hi hj => ?_))
  show va_cpy f g (0 : Int32).toNatClampNeg (0 : Int32).toNatClampNeg (nI 81).toNatClampNeg (9 * i + j) = _
  rw [hcl, show (0 : Int32).toNatClampNeg = 0 from rfl, pk_cpy_in (by omega) (by omega), show 0 + (9 * i + j - 0) = 9 * i + j by omega, hW5 _ (by omega)]
  rfl
end VWR

