/-! the class's phases: merging, measuring, what is told of them *at the end* -/
theorem hu_if {h : Nat → Nat → Int32} {k j i : Nat} {x : Int32} : hu h k j x k i = if i = j then x else h k i := by
  by_cases e : i = j
  · subst e; rw [if_pos rfl, hu_at]
  · rw [if_neg e, hu_off e]
theorem nI_min {a b : Nat} (ha : a < 2 ^ 31) (hb : b < 2 ^ 31) : (if nI a < nI b then nI a else nI b) = nI (min a b) := by
  by_cases h : a < b
  · rw [if_pos (nI_lt h hb), Nat.min_eq_left (by omega)]
  · rw [if_neg (nI_nlt (by omega) (by omega)), Nat.min_eq_right (by omega)]
theorem nI_max {a b : Nat} (ha : a < 2 ^ 31) (hb : b < 2 ^ 31) : (if nI a < nI b then nI b else nI a) = nI (max a b) := by
  by_cases h : a < b
  · rw [if_pos (nI_lt h hb), Nat.max_eq_right (by omega)]
  · rw [if_neg (nI_nlt (by omega) (by omega)), Nat.max_eq_left (by omega)]
theorem prt_lt_low {n : Nat} {now : Nat → Nat} {m : Nat} (h : prt n now m) {j k : Nat} (hj : j < m) (hk : k < m) : low (now j) < low (now k) ↔ j < k := by
  constructor
  · intro q
    rcases Nat.lt_trichotomy j k with a | a | a
    · exact a
    · rw [a] at q; omega
    · have := h.2.2.1 k j a hj; omega
  · intro q; exact h.2.2.1 j k q hk
section CMS
variable {S0 S : PS} {B : Nat → Nat} {F : Nat → Int32} {h : Nat → Nat → Int32} {v : Nat → Nat}
theorem c_groupsIn {p : Nat} {post : Int32 → PS → Prop} (hB : oB 6 S0 B) (H : CS S0 B F h S) (hF : F 5 = nI (v 0)) (hp : p ≤ v 0) : f_X3_groupsIn S (B 0) (nI p) post = post (nI (v 0 - p)) S := by
  unfold f_X3_groupsIn
  rw [OS_gI hB (by omega) H (f := 5) (x := F 5) rfl, hF, pk_sub hp]
theorem c_groupAt {p q : Nat} {post : Int32 → PS → Prop} (hB : oB 6 S0 B) (H : CS S0 B F h S) (hF : F 5 = nI (v 0)) (h0 : v 0 ≤ 9) (hp : p < v 0 - 1) (hq : q < v 0 - p) : f_X3_groupAt S (B 0) (nI p) (nI q) post = post (h 1 (9 * p + q)) S := by
  unfold f_X3_groupAt
  rw [OS_isO hB (by omega) H, c_hasPlace hB H hF h0 hp hq, if_neg (by decide), OS_gR hB (by omega) H (k := 1) (f := 0) rfl, n9, pk_mul, nI_add, OS_aI hB H (k := 1) (by omega) (show p * 9 + q < 72 by omega) (by decide), Nat.mul_comm p 9]
theorem c_pullAt {p q : Nat} {post : Int32 → PS → Prop} (hB : oB 6 S0 B) (H : CS S0 B F h S) (hF : F 5 = nI (v 0)) (h0 : v 0 ≤ 9) (hp : p < v 0 - 1) (hq : q < v 0 - p) : f_X3_pullAt S (B 0) (nI p) (nI q) post = post (h 2 (9 * p + q)) S := by
  unfold f_X3_pullAt
  rw [OS_isO hB (by omega) H, c_hasPlace hB H hF h0 hp hq, if_neg (by decide), OS_gR hB (by omega) H (k := 2) (f := 1) rfl, n9, pk_mul, nI_add, OS_aI hB H (k := 2) (by omega) (show p * 9 + q < 72 by omega) (by decide), Nat.mul_comm p 9]
theorem c_mergeLast {now : Nat → Nat} {m p : Nat} {post : PS → Prop} (hB : oB 6 S0 B) (H : CS S0 B F h S) (hF : F 5 = nI (v 0)) (hv : okV v) (hp : p < v 0 - 1) (hm : m = v 0 - p) (hprt : prt (v 0) now m) (hci : cin v now m h) (hg : ∀ i, i < m → h 1 (9 * p + i) = nI (gq v now m i))
    (next : ∀ (S1 : PS) (h1 : Nat → Nat → Int32), CS S0 B F h1 S1 → (∀ k, k ≠ 3 → k ≠ 4 → h1 k = h k) → cin v (nxt v now m) (m - 1) h1 → post S1) : f_X3_mergeLast S (B 0) (nI p) post := by
  have h0 := hv.1
  have hi1 := (sq_spec hprt (show m - 2 < m by omega)).2.1
  have hj1 := (sq_spec hprt (show m - 1 < m by omega)).2.1
  have hne := sq_ne hprt (show m - 2 < m - 1 by omega) (by omega)
  have hgi := prt_lt hprt h0 hi1
  have hgj := prt_lt hprt h0 hj1
  have hzi := (hprt.1 _ hi1).1
  have hzj := (hprt.1 _ hj1).1
  have hli := prt_low hprt h0 hi1
  have hlj := prt_low hprt h0 hj1
  obtain ⟨a, ha⟩ : ∃ a, a = min (sq v now m (m - 2)) (sq v now m (m - 1)) := ⟨_, rfl⟩
  obtain ⟨b, hb⟩ : ∃ b, b = max (sq v now m (m - 2)) (sq v now m (m - 1)) := ⟨_, rfl⟩
  have hab : a < b := by omega
  have hbm : b < m := by omega
  have ham : a < m := by omega
  have hlow := hprt.2.2.1 a b hab hbm
  have hnx : nxt v now m = mg now a b := by unfold nxt; rw [← ha, ← hb]
  have eM : min (low (now (sq v now m (m - 2)))) (low (now (sq v now m (m - 1)))) = low (now a) := by
    rcases Nat.lt_or_ge (sq v now m (m - 2)) (sq v now m (m - 1)) with q | q
    · have := hprt.2.2.1 _ _ q hj1
      rw [ha, Nat.min_eq_left (show sq v now m (m - 2) ≤ sq v now m (m - 1) by omega)]; omega
    · have := hprt.2.2.1 (sq v now m (m - 1)) (sq v now m (m - 2)) (by omega) hi1
      rw [ha, Nat.min_eq_right (show sq v now m (m - 1) ≤ sq v now m (m - 2) by omega)]; omega
  have eG : max (low (now (sq v now m (m - 2)))) (low (now (sq v now m (m - 1)))) = low (now b) := by
    rcases Nat.lt_or_ge (sq v now m (m - 2)) (sq v now m (m - 1)) with q | q
    · have := hprt.2.2.1 _ _ q hj1
      rw [hb, Nat.max_eq_right (show sq v now m (m - 2) ≤ sq v now m (m - 1) by omega)]; omega
    · have := hprt.2.2.1 (sq v now m (m - 1)) (sq v now m (m - 2)) (by omega) hi1
      rw [hb, Nat.max_eq_left (show sq v now m (m - 1) ≤ sq v now m (m - 2) by omega)]; omega
  have hla := prt_low hprt h0 ham
  have hlb := prt_low hprt h0 hbm
  obtain ⟨M, hM⟩ : ∃ M, M = low (now a) := ⟨_, rfl⟩
  obtain ⟨G, hG⟩ : ∃ G, G = low (now b) := ⟨_, rfl⟩
  unfold f_X3_mergeLast
  rw [OS_isO hB (by omega) H, c_groupsIn hB H hF (by omega), OS_isO hB (by omega) H, n1, pk_sub (show 1 ≤ v 0 - p by omega), c_groupAt hB H hF h0 hp (by omega), ← hm, hg (m - 1) (by omega)]
  show f_X7_lowestOf S (nI (now (sq v now m (m - 1)))) _
  rw [e_low1 hzj hgj, OS_isO hB (by omega) H, c_groupsIn hB H hF (by omega), OS_isO hB (by omega) H, n2, pk_sub (show 2 ≤ v 0 - p by omega), c_groupAt hB H hF h0 hp (by omega), ← hm, hg (m - 2) (by omega)]
  show f_X7_lowestOf S (nI (now (sq v now m (m - 2)))) _
  rw [e_low1 hzi hgi, nI_min (by omega) (by omega), eM, ← hM, nI_max (by omega) (by omega), Nat.max_comm, eG, ← hG, if_pos (nI_pos' (by omega)), OS_gR hB (by omega) H (k := 4) (f := 3) rfl, OS_aI hB H (k := 4) (by omega) (show M < 9 by omega) (by decide), OS_gR hB (by omega) H (k := 4) (f := 3) rfl, OS_aI hB H (k := 4) (by omega) (show G < 9 by omega) (by decide)]
  refine OS_sI hB (by omega) H (k := 4) (by omega) (show M < 9 by omega) (by decide) (fun S2 H2 => ?_)
  rw [OS_gR hB (by omega) H2 (k := 4) (f := 3) rfl]
  refine OS_sI hB (by omega) H2 (k := 4) (by omega) (show G < 9 by omega) (by decide) (fun S3 H3 => ?_)
  have hGr : h 4 G = nI (now b) := by rw [hG]; exact hci.1 b hbm
  have hMr : h 4 M = nI (now a) := by rw [hM]; exact hci.1 a ham
  rw [hMr, hGr, b_or] at H3
  have key := loop_i (W := fun fuel i (s : PS × (Nat → Nat → Int32)) => f_X3_mergeLast_L80 post fuel s.1 (B 0) (nI M) (nI G) (nI i))
    (I := fun i s => CS S0 B F s.2 s.1 ∧ (∀ k, k ≠ 3 → s.2 k = hu (hu h 4 M (nI (now a ||| now b))) 4 G 0 k) ∧ (∀ x y, x < 9 → y < 9 → x ≠ M → y ≠ M → s.2 3 (9 * x + y) = h 3 (9 * x + y)) ∧ ∀ y, y < 9 → y ≠ M → (s.2 3 (9 * M + y) = if y < i then h 3 (9 * M + y) + h 3 (9 * G + y) else h 3 (9 * M + y)) ∧ (y < i → s.2 3 (9 * y + M) = h 3 (9 * M + y) + h 3 (9 * G + y))) 9 (fun n s hI => ?_) (fun n i s hi hI ih => ?_) 4096 0 (S3, hu (hu h 4 M (nI (now a ||| now b))) 4 G 0) (by omega) (by omega) ⟨H3, fun k hk => rfl, fun x y _ _ _ _ => by show hu (hu h 4 M (nI (now a ||| now b))) 4 G 0 3 (9 * x + y) = _; rw [hu_ne (by decide), hu_ne (by decide)], fun y _ _ => ⟨by rw [if_neg (by omega)]; show hu (hu h 4 M (nI (now a ||| now b))) 4 G 0 3 (9 * M + y) = _; rw [hu_ne (by decide), hu_ne (by decide)], fun q => by omega⟩⟩
  · exact key
  · -- the end
    obtain ⟨c1, c2, c3, c4⟩ := hI
    show f_X3_mergeLast_L80 post (n + 1) s.1 (B 0) (nI M) (nI G) (nI 9)
    simp only [f_X3_mergeLast_L80]
    rw [if_pos (by rw [n9]; exact Int32.le_refl _)]
    refine next s.1 s.2 c1 (fun k k3 k4 => by rw [c2 k k3, hu_ne k4, hu_ne k4]) ?_
    rw [hnx]
    have hl := prt_mg hprt h0 hab hbm
    -- the lowest households of the new groups
    have hlw : ∀ k, k < m - 1 → low (mg now a b k) = low (now (if k < b then k else k + 1)) := fun k hk => by
      unfold mg
      by_cases e : k < b
      · rw [if_pos e, if_pos e]
        by_cases e2 : k = a
        · rw [if_pos e2, e2]; exact low_min (hprt.1 a ham).1 (prt_lt hprt h0 ham) (hprt.1 b hbm).1 (prt_lt hprt h0 hbm) hlow
        · rw [if_neg e2]
      · rw [if_neg e, if_neg e]
    have hold : ∀ k, k < m - 1 → (if k < b then k else k + 1) < m ∧ (if k < b then k else k + 1) ≠ b := fun k hk => by split <;> omega
    have hneM : ∀ k, k < m → k ≠ a → low (now k) ≠ M := fun k hk hka e => hka (prt_linj hprt hk ham (by rw [e, hM]))
    have hneG : ∀ k, k < m → k ≠ b → low (now k) ≠ G := fun k hk hkb e => hkb (prt_linj hprt hk hbm (by rw [e, hG]))
    have hl9 : ∀ k, k < m → low (now k) < 9 := fun k hk => by have := (prt_low hprt h0 hk).1; omega
    refine ⟨fun k hk => ?_, fun l hl9' hno => ?_, fun j k hj hk hjk => ?_⟩
    · rw [hlw k hk, c2 4 (by decide), hu_if]
      obtain ⟨o1, o2⟩ := hold k hk
      rw [if_neg (hneG _ o1 o2), hu_if]
      by_cases e : k = a
      · have e3 : (if k < b then k else k + 1) = a := by rw [if_pos (by omega), e]
        rw [e3, if_pos hM.symm]
        unfold mg
        rw [if_pos (by omega), if_pos e]
      · have e3 : (if k < b then k else k + 1) ≠ a := by split <;> omega
        rw [if_neg (hneM _ o1 e3), hci.1 _ o1]
        unfold mg
        by_cases e4 : k < b
        · rw [if_pos e4, if_pos e4, if_neg e]
        · rw [if_neg e4, if_neg e4]
    · rw [c2 4 (by decide), hu_if]
      by_cases e : l = G
      · rw [if_pos e]
      · rw [if_neg e, hu_if]
        have hlM : l ≠ M := fun e2 => hno a (by omega) (by rw [hlw a (by omega), if_pos hab, e2, hM])
        rw [if_neg hlM]
        refine hci.2.1 l hl9' (fun k hk e3 => ?_)
        by_cases e4 : k = b
        · rw [e4] at e3; exact e (by rw [← e3, hG])
        · by_cases e5 : k < b
          · exact hno k (by omega) (by rw [hlw k (by omega), if_pos e5, e3])
          · exact hno (k - 1) (by omega) (by rw [hlw (k - 1) (by omega), if_neg (by omega), show k - 1 + 1 = k by omega, e3])
    · rw [hlw j hj, hlw k hk]
      obtain ⟨o1, o2⟩ := hold j hj
      obtain ⟨o3, o4⟩ := hold k hk
      have hoo : (if j < b then j else j + 1) ≠ (if k < b then k else k + 1) := by split <;> split <;> omega
      have hmg : ∀ i, i < m - 1 → i ≠ a → mg now a b i = now (if i < b then i else i + 1) := fun i _ hia => by
        unfold mg
        by_cases e4 : i < b
        · rw [if_pos e4, if_pos e4, if_neg hia]
        · rw [if_neg e4, if_neg e4]
      have hmga : mg now a b a = now a ||| now b := by unfold mg; rw [if_pos hab, if_pos rfl]
      have hia : ∀ i, i < m - 1 → i ≠ a → (if i < b then i else i + 1) ≠ a := fun i _ h => by split <;> omega
      have hand := hprt.2.1 a b ham hbm (by omega)
      by_cases ej : j = a
      · have e3 : (if j < b then j else j + 1) = a := by rw [if_pos (by omega), ej]
        have hka : k ≠ a := by omega
        rw [e3] at hoo ⊢
        rw [ej, hmga, hmg k hk hka, ← hM, (c4 _ (hl9 _ o3) (hneM _ o3 (hia k hk hka))).1, if_pos (hl9 _ o3), hM, hG, hci.2.2 a _ ham o3 (Ne.symm (hia k hk hka)), hci.2.2 b _ hbm o3 (Ne.symm o4), nI_add, tT_addL hv hand]
      · by_cases ek : k = a
        · have e3 : (if k < b then k else k + 1) = a := by rw [if_pos (by omega), ek]
          rw [e3] at hoo ⊢
          rw [ek, hmga, hmg j hj ej, ← hM, (c4 _ (hl9 _ o1) (hneM _ o1 (hia j hj ej))).2 (hl9 _ o1), hM, hG, hci.2.2 a _ ham o1 (Ne.symm (hia j hj ej)), hci.2.2 b _ hbm o1 (Ne.symm o2), nI_add, tT_addR hand, tT_sym hv (now a), tT_sym hv (now b)]
        · rw [hmg j hj ej, hmg k hk ek, c3 _ _ (hl9 _ o1) (hl9 _ o3) (hneM _ o1 (hia j hj ej)) (hneM _ o3 (hia k hk ek))]
          exact hci.2.2 _ _ o1 o3 hoo
  · -- one step
    obtain ⟨c1, c2, c3, c4⟩ := hI
    have hMG : M ≠ G := by omega
    have hM9 : M < 9 := by omega
    have hG9 : G < 9 := by omega
    show f_X3_mergeLast_L80 post (n + 1) s.1 (B 0) (nI M) (nI G) (nI i)
    simp only [f_X3_mergeLast_L80]
    rw [if_neg (by rw [n9]; exact nI_ge hi (by omega)), OS_gR hB (by omega) c1 (k := 3) (f := 2) rfl, n9, pk_mul, nI_add, OS_aI hB c1 (k := 3) (by omega) (show M * 9 + i < 81 by omega) (by decide), OS_gR hB (by omega) c1 (k := 3) (f := 2) rfl, pk_mul, nI_add, OS_aI hB c1 (k := 3) (by omega) (show G * 9 + i < 81 by omega) (by decide), OS_gR hB (by omega) c1 (k := 3) (f := 2) rfl]
    refine OS_sI hB (by omega) c1 (k := 3) (by omega) (show M * 9 + i < 81 by omega) (by decide) (fun S4 H4 => ?_)
    rw [OS_gR hB (by omega) H4 (k := 3) (f := 2) rfl, pk_mul, nI_add]
    refine OS_sI hB (by omega) H4 (k := 3) (by omega) (show i * 9 + M < 81 by omega) (by decide) (fun S5 H5 => ?_)
    rw [nI_1]
    refine ih (S5, _) ⟨H5, fun k hk => ?_, fun x y hx hy hxM hyM => ?_, fun y hy hyM => ⟨?_, fun hyi => ?_⟩⟩
    · show hu (hu s.2 3 _ _) 3 _ _ k = _
      rw [hu_ne hk, hu_ne hk]; exact c2 k hk
    · show hu (hu s.2 3 _ _) 3 _ _ 3 _ = _
      rw [hu_if, if_neg (by omega), hu_if, if_neg (by omega)]; exact c3 x y hx hy hxM hyM
    · show hu (hu s.2 3 _ _) 3 _ _ 3 _ = _
      rw [hu_if, if_neg (by omega), hu_if]
      by_cases e : y = i
      · subst e
        rw [if_pos (by omega), if_pos (by omega), Nat.mul_comm M 9, Nat.mul_comm G 9, (c4 y hy hyM).1, if_neg (by omega), c3 G y hG9 hy (Ne.symm hMG) hyM]
      · rw [if_neg (by omega), (c4 y hy hyM).1]
        by_cases e2 : y < i
        · rw [if_pos e2, if_pos (by omega)]
        · rw [if_neg e2, if_neg (by omega)]
    · show hu (hu s.2 3 _ _) 3 _ _ 3 _ = _
      rw [hu_if]
      by_cases e : y = i
      · subst e
        rw [if_pos (by omega), Nat.mul_comm M 9, Nat.mul_comm G 9, (c4 y hy hyM).1, if_neg (by omega), c3 G y hG9 hy (Ne.symm hMG) hyM]
      · rw [if_neg (by omega), hu_if, if_neg (by omega)]
        exact (c4 y hy hyM).2 (by omega)
/-- what measuring leaves -/
def cmeas (v : Nat → Nat) (F : Nat → Int32) (h : Nat → Nat → Int32) : Prop := F 5 = nI (v 0) ∧ ∀ p q, p < v 0 - 1 → q < v 0 - p → h 1 (9 * p + q) = nI (gr v p q) ∧ h 2 (9 * p + q) = nI (pl v p q)
theorem tS_bit {v : Nat → Nat} {j k : Nat} (hk : k < v 0) : tS v j (2 ^ k) = wt v j k := by
  unfold tS
  refine (sm_ext (g := fun i => if i = k then wt v j i else 0) (fun i _ => ?_)).trans (sm_pick hk)
  rw [Nat.testBit_two_pow]
  by_cases e : k = i
  · subst e; simp
  · simp [e, show ¬ i = k by omega]
theorem c_measure {a t : Nat} {post : PS → Prop} (hB : oB 6 S B) (H : CS S B F h S) (hV : isV S a t v) (hv : okV v) (hd : ∀ k, k < 6 → a ≠ B k ∧ t ≠ B k)
    (next : ∀ (S1 : PS) (F1 : Nat → Int32) (h1 : Nat → Nat → Int32), CS S B F1 h1 S1 → cmeas v F1 h1 → post S1) : f_X3_measure S (B 0) a post := by
  have h0 := hv.1
  unfold f_X3_measure
  rw [V1 hV]
  refine OS_pV hB (by omega) H (f := 5) rfl (by show 5 < 6; decide) (fun S2 H2 => ?_)
  have hF : Fu F 5 (nI (v 0)) 5 = nI (v 0) := Fu_at
  generalize Fu F 5 (nI (v 0)) = F2 at H2 hF
  -- the phases
  have ph := fun (h3 : Nat → Nat → Int32) (S3 : PS) (H3 : CS S B F2 h3 S3) (hc : 0 < v 0 → cin v (phs v 0) (v 0) h3) => loop_i (W := fun fuel p (s : PS × (Nat → Nat → Int32)) => f_X3_measure_L76 post fuel s.1 (B 0) (nI p))
    (I := fun p s => CS S B F2 s.2 s.1 ∧ (p < v 0 → cin v (phs v p) (v 0 - p) s.2) ∧ ∀ p' q, p' < p → q < v 0 - p' → s.2 1 (9 * p' + q) = nI (gr v p' q) ∧ s.2 2 (9 * p' + q) = nI (pl v p' q)) (v 0 - 1) (fun n s hI => by
      obtain ⟨c1, c2, c3⟩ := hI
      show f_X3_measure_L76 post (n + 1) s.1 (B 0) (nI (v 0 - 1))
      simp only [f_X3_measure_L76]
      rw [OS_gI hB (by omega) c1 (f := 5) (x := F2 5) rfl, hF]
      have e : nI (v 0) - 1 ≤ nI (v 0 - 1) := by
        by_cases hz : v 0 = 0
        · rw [hz]; decide
        · rw [n1, pk_sub (by omega)]; exact Int32.le_refl _
      rw [if_pos e]
      exact next s.1 F2 s.2 c1 ⟨hF, fun p q h1 h2 => c3 p q (by omega) h2⟩) (fun n p s hp hI ih => by
      obtain ⟨c1, c2, c3⟩ := hI
      have hprt := phs_prt hv (p := p) (by omega)
      show f_X3_measure_L76 post (n + 1) s.1 (B 0) (nI p)
      simp only [f_X3_measure_L76]
      rw [OS_gI hB (by omega) c1 (f := 5) (x := F2 5) rfl, hF, n1, pk_sub (by omega), if_neg (nI_ge hp (by omega)), OS_isO hB (by omega) c1]
      refine c_joinAll hB c1 hF hv hp rfl hprt (c2 (by omega)) (fun S4 h4 H4 d1 d2 d3 => ?_)
      rw [OS_isO hB (by omega) H4, nI_add]
      have hcin : cin v (phs v p) (v 0 - p) h4 := by
        have := c2 (by omega)
        unfold cin at this ⊢
        rw [d1 3 (by decide) (by decide) (by decide), d1 4 (by decide) (by decide) (by decide)]
        exact this
      refine c_mergeLast hB H4 hF hv hp rfl hprt hcin (fun i hi => (d2 i hi).1) (fun S5 h5 H5 e1 e2 => ?_)
      refine ih (S5, h5) ⟨H5, fun _ => ?_, fun p' q hp' hq => ?_⟩
      · show cin v (nxt v (phs v p) (v 0 - p)) (v 0 - (p + 1)) h5
        rw [show v 0 - (p + 1) = v 0 - p - 1 by omega]; exact e2
      · show h5 1 _ = _ ∧ h5 2 _ = _
        rw [e1 1 (by decide) (by decide), e1 2 (by decide) (by decide)]
        by_cases e : p' = p
        · subst e; exact d2 q hq
        · obtain ⟨a1, a2⟩ := d3 (9 * p' + q) (by omega)
          rw [a1, a2]; exact c3 p' q (by omega) hq) 4096 0 (S3, h3) (by omega) (by omega) ⟨H3, hc, fun p' q hp' => by omega⟩
  -- the first groups and ties
  have rw1 := loop_i (W := fun fuel i (s : PS × (Nat → Nat → Int32)) => f_X3_measure_L10 post fuel s.1 (B 0) a (nI i))
    (I := fun i s => CS S B F2 s.2 s.1 ∧ ∀ x, x < i → s.2 4 x = (if x < v 0 then nI (2 ^ x) else 0) ∧ ∀ y, y < 9 → s.2 3 (9 * x + y) = nI (wt v x y)) 9 (fun n s hI => ?_) (fun n i s hi hI ih => ?_) 4096 0 (S2, h) (by omega) (by omega) ⟨H2, fun x hx => by omega⟩
  · exact rw1
  · obtain ⟨c1, c2⟩ := hI
    show f_X3_measure_L10 post (n + 1) s.1 (B 0) a (nI 9)
    simp only [f_X3_measure_L10, f_X3_measure_J74]
    rw [if_pos (by rw [n9]; exact Int32.le_refl _)]
    refine ph s.2 s.1 c1 (fun hz => ⟨fun k hk => ?_, fun l hl hno => ?_, fun j k hj hk hjk => ?_⟩)
    · show s.2 4 (low (2 ^ k)) = nI (2 ^ k)
      rw [low_pow (by omega), (c2 k (by omega)).1, if_pos hk]
    · rw [(c2 l hl).1]
      by_cases e : l < v 0
      · exact absurd (show low (2 ^ l) = l from low_pow hl) (hno l e)
      · rw [if_neg e]
    · show s.2 3 (9 * low (2 ^ j) + low (2 ^ k)) = nI (tT v (2 ^ j) (2 ^ k))
      rw [low_pow (by omega), low_pow (by omega), (c2 j (by omega)).2 k (by omega), tT_bit hj, tS_bit hk]
  · obtain ⟨c1, c2⟩ := hI
    -- a row of ties
    have row := fun (x : Int32) (S4 : PS) (H4 : CS S B F2 (hu s.2 4 i x) S4) (hx : x = if i < v 0 then nI (2 ^ i) else 0) => loop_i (W := fun fuel j (s' : PS × (Nat → Nat → Int32)) => f_X3_measure_L39 post (f_X3_measure_L10 post n) fuel s'.1 (B 0) a (nI i) (nI j))
      (I := fun j s' => CS S B F2 s'.2 s'.1 ∧ (∀ k, k ≠ 3 → s'.2 k = hu s.2 4 i x k) ∧ (∀ y, y < 9 * i → s'.2 3 y = s.2 3 y) ∧ ∀ y, y < j → s'.2 3 (9 * i + y) = nI (wt v i y)) 9 (fun n' s' hI => by
        obtain ⟨d1, d2, d3, d4⟩ := hI
        show f_X3_measure_L39 post (f_X3_measure_L10 post n) (n' + 1) s'.1 (B 0) a (nI i) (nI 9)
        simp only [f_X3_measure_L39, f_X3_measure_J68]
        rw [if_pos (by rw [n9]; exact Int32.le_refl _), nI_1]
        refine ih s' ⟨d1, fun z hz => ?_⟩
        rw [d2 4 (by decide), hu_if]
        by_cases e : z = i
        · subst e; rw [if_pos rfl]; exact ⟨hx, d4⟩
        · rw [if_neg e]
          refine ⟨(c2 z (by omega)).1, fun y hy => ?_⟩
          rw [d3 _ (by omega)]; exact (c2 z (by omega)).2 y hy) (fun n' j s' hj hI ih2 => by
        obtain ⟨d1, d2, d3, d4⟩ := hI
        show f_X3_measure_L39 post (f_X3_measure_L10 post n) (n' + 1) s'.1 (B 0) a (nI i) (nI j)
        simp only [f_X3_measure_L39]
        have hV1 := OS_isV d1 hV hd
        rw [if_neg (by rw [n9]; exact nI_ge hj (by omega)), OS_gR hB (by omega) d1 (k := 3) (f := 2) rfl, VO hV1, e_tie hV1 hv hi hj, n9, pk_mul, nI_add, nI_1]
        refine OS_sI hB (by omega) d1 (k := 3) (by omega) (show i * 9 + j < 81 by omega) (by decide) (fun S5 H5 => ?_)
        refine ih2 (S5, _) ⟨H5, fun k hk => ?_, fun y hy => ?_, fun y hy => ?_⟩
        · show hu s'.2 3 _ _ k = _
          rw [hu_ne hk]; exact d2 k hk
        · show hu s'.2 3 _ _ 3 y = _
          rw [hu_off (by omega)]; exact d3 y hy
        · show hu s'.2 3 _ _ 3 _ = _
          rw [hu_if]
          by_cases e : y = j
          · subst e; rw [if_pos (by omega)]
          · rw [if_neg (by omega)]; exact d4 y (by omega)) 4096 0 (S4, _) (by omega) (by omega) ⟨H4, fun k _ => rfl, fun y _ => by show hu s.2 4 i x 3 y = _; rw [hu_ne (by decide)], fun y hy => by omega⟩
    show f_X3_measure_L10 post (n + 1) s.1 (B 0) a (nI i)
    simp only [f_X3_measure_L10, f_X3_measure_J36]
    rw [if_neg (by rw [n9]; exact nI_ge hi (by omega)), OS_gR hB (by omega) c1 (k := 4) (f := 3) rfl, OS_gI hB (by omega) c1 (f := 5) (x := F2 5) rfl, hF]
    by_cases e : i < v 0
    · rw [if_neg (nI_ge e (by omega)), b_bit i (by omega)]
      refine OS_sI hB (by omega) c1 (k := 4) (by omega) (show i < 9 by omega) (by decide) (fun S4 H4 => ?_)
      exact row _ S4 H4 (by rw [if_pos e])
    · rw [if_pos (nI_le (by omega) (by omega))]
      refine OS_sI hB (by omega) c1 (k := 4) (by omega) (show i < 9 by omega) (by decide) (fun S4 H4 => ?_)
      exact row _ S4 H4 (by rw [if_neg e])
theorem c_cutOf {p : Nat} {post : Int32 → PS → Prop} (hB : oB 6 S0 B) (H : CS S0 B F h S) (hm : cmeas v F h) (h0 : v 0 ≤ 9) (hp : p < v 0 - 1) : f_X3_cutOf S (B 0) (nI p) post = post (nI (cut v p)) S := by
  unfold f_X3_cutOf
  rw [OS_gI hB (by omega) H (f := 5) (x := F 5) rfl, OS_isO hB (by omega) H, hm.1, pk_sub (by omega), n1, pk_sub (by omega), c_pullAt hB H hm.1 h0 hp (by omega), (hm.2 p _ hp (by omega)).2]
  rfl
theorem c_leastPhase {post : Int32 → PS → Prop} (hB : oB 6 S0 B) (H : CS S0 B F h S) (hm : cmeas v F h) (hv : okV v) : f_X3_leastPhase S (B 0) post = post (nI (lph v (v 0 - 2))) S := by
  have h0 := hv.1
  by_cases h2 : v 0 < 2
  · unfold f_X3_leastPhase
    suffices key : ∀ n, f_X3_leastPhase_L4 post (n + 1) S (B 0) 0 1 = post (nI (lph v (v 0 - 2))) S from key 4095
    intro n
    simp only [f_X3_leastPhase_L4]
    rw [OS_gI hB (by omega) H (f := 5) (x := F 5) rfl, hm.1, if_pos (by rcases (show v 0 = 0 ∨ v 0 = 1 by omega) with e | e <;> rw [e] <;> decide), show v 0 - 2 = 0 by omega]
    rfl
  · refine lp_eqm (L := fun fuel i => f_X3_leastPhase_L4 post fuel S (B 0) (nI (lph v (i - 1))) (nI i)) (m := 1) (n := v 0 - 1) (fun fuel i h1 hi => ?_) (fun fuel => ?_) 1 4096 (by omega) (by omega) (by omega)
    · obtain ⟨j, rfl⟩ : ∃ j, i = j + 1 := ⟨i - 1, by omega⟩
      have hl := lph_le (v := v) j
      have hc1 := cut_lt hv (p := j + 1)
      have hc2 := cut_lt hv (p := lph v j)
      simp only [f_X3_leastPhase_L4, f_X3_leastPhase_J29, Nat.add_sub_cancel]
      rw [OS_gI hB (by omega) H (f := 5) (x := F 5) rfl, hm.1, n1, pk_sub (by omega), if_neg (nI_ge hi (by omega)), OS_isO hB (by omega) H, c_cutOf hB H hm h0 hi, OS_isO hB (by omega) H, c_cutOf hB H hm h0 (by omega), nI_add]
      simp only [lph]
      by_cases e : cut v (j + 1) < cut v (lph v j)
      · rw [if_neg (nI_ge e (by omega)), if_pos e]
      · rw [if_pos (nI_le (by omega) (by omega)), if_neg e]
    · simp only [f_X3_leastPhase_L4]
      rw [OS_gI hB (by omega) H (f := 5) (x := F 5) rfl, hm.1, n1, pk_sub (by omega), if_pos (Int32.le_refl _), show v 0 - 1 - 1 = v 0 - 2 by omega]
theorem c_leastGroup {post : Int32 → PS → Prop} (hB : oB 6 S0 B) (H : CS S0 B F h S) (hm : cmeas v F h) (hv : okV v) (h2 : 2 ≤ v 0) : f_X3_leastGroup S (B 0) post = post (nI (gr v (lph v (v 0 - 2)) (v 0 - lph v (v 0 - 2) - 1))) S := by
  have h0 := hv.1
  have hl := lph_le (v := v) (v 0 - 2)
  unfold f_X3_leastGroup
  rw [OS_isO hB (by omega) H, c_leastPhase hB H hm hv, OS_gI hB (by omega) H (f := 5) (x := F 5) rfl, hm.1, OS_isO hB (by omega) H, pk_sub (by omega), n1, pk_sub (by omega), c_groupAt hB H hm.1 h0 (by omega) (by omega), (hm.2 _ _ (by omega) (by omega)).1]
end CMS

