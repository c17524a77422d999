/-! lines: what they say, and that the class writes so -/
theorem dg_le : ∀ (f w : Nat), 1 ≤ f → w < 10 ^ f → (dg w).length ≤ f
  | 0, w, h, _ => by omega
  | f + 1, w, _, h => by
    by_cases e : w < 10
    · rw [dg_1 e]; show 1 ≤ f + 1; omega
    · have hf : 1 ≤ f := by
        rcases Nat.eq_zero_or_pos f with q | q
        · rw [q] at h; omega
        · exact q
      rw [dg_s (by omega), List.length_append]
      have := dg_le f (w / 10) hf (by rw [Nat.pow_succ] at h; omega)
      show _ + 1 ≤ f + 1
      omega
theorem dg_all {w : Nat} (h : w < 10000000) : ∀ c, c ∈ dg w → c < 128 := fun c hc => by
  obtain ⟨i, hi, e⟩ := List.mem_iff_getElem.mp hc
  have := (dg_lt 7 w h i c (by rw [List.getElem?_eq_getElem hi, e])).1
  omega
def bdL (v : Vt) (l : List Nat) (i j : Nat) : List Nat := (if l = [] then [] else [32]) ++ ([48 + i] ++ [48 + j] ++ [61] ++ dg (wt v i j))
def tlB (v : Vt) (l : List Nat) (q : Nat × Nat) : List Nat := if 0 < wt v q.1 q.2 then l ++ bdL v l q.1 q.2 else l
def tlL (v : Vt) : List Nat := (prs (v 0) (v 0)).foldl (tlB v) []
theorem tlB_len {v : Vt} (hv : okV v) {l : List Nat} {q : Nat × Nat} (h1 : q.1 < 9) (h2 : q.2 < 9) : l.length ≤ (tlB v l q).length ∧ (tlB v l q).length ≤ l.length + 11 := by
  have := dg_le 7 (wt v q.1 q.2) (by omega) (hv.lt h1 h2)
  unfold tlB bdL
  by_cases e : 0 < wt v q.1 q.2
  · rw [if_pos e]
    by_cases e2 : l = []
    · rw [if_pos e2]
      simp only [List.length_append, List.length_nil, List.length_singleton]
      omega
    · rw [if_neg e2]
      simp only [List.length_append, List.length_nil, List.length_singleton]
      omega
  · rw [if_neg e]; omega
def stL (s : Nat) : Nat → List Nat
  | 0 => []
  | n + 1 => stL s n ++ (if s.testBit n = true then [48 + n] else [])
theorem stL_len (s : Nat) : ∀ n, (stL s n).length ≤ n
  | 0 => Nat.le_refl _
  | n + 1 => by
    have := stL_len s n
    unfold stL
    rw [List.length_append]
    split
    · show _ + 1 ≤ n + 1; omega
    · show _ + 0 ≤ n + 1; omega
theorem stL_cut {s n : Nat} (h : s < 2 ^ n) : ∀ d, stL s (n + d) = stL s n
  | 0 => rfl
  | d + 1 => by
    show stL s (n + d) ++ (if s.testBit (n + d) = true then [48 + (n + d)] else []) = _
    rw [b_hi h (by omega), if_neg (by decide), List.append_nil]
    exact stL_cut h d
/-- the groups of a phase, from the first q on -/
def phG (v : Vt) (p : Nat) : Nat → List Nat
  | 0 => []
  | q + 1 => phG v p q ++ ((if q = 0 then [] else [60]) ++ stL (gr v p q) 9)
def phL (v : Vt) (p : Nat) : List Nat := phG v p (v 0 - p) ++ [61] ++ dg (cut v p)
theorem phG_len (v : Vt) (p : Nat) : ∀ q, (phG v p q).length ≤ 10 * q
  | 0 => Nat.le_refl _
  | q + 1 => by
    have h1 := phG_len v p q
    have h2 := stL_len (gr v p q) 9
    unfold phG
    simp only [List.length_append]
    split
    · show _ + (0 + _) ≤ _; omega
    · show _ + (1 + _) ≤ _; omega
def sdL (v : Vt) : List Nat := stL (bn (ev v) (sds v)) 9 ++ [124] ++ stL (sds v) 9
/-! room for a text that grows -/
def gkL : Nat → List Nat → Nat
  | _, [] => 0
  | cap, n :: ns => gk cap n + gkL (gro cap n) ns
def gsL : Nat → List Nat → Nat
  | _, [] => 0
  | cap, n :: ns => gsl cap n + gsL (gro cap n) ns
def grL : Nat → List Nat → Nat
  | cap, [] => cap
  | cap, n :: ns => grL (gro cap n) ns
def bg (cap bc bs : Nat) : Prop := 16 ≤ cap ∧ cap ≤ 1000 ∧ 1000 ≤ 16 * bc + cap ∧ 2000 ≤ bs + 2 * cap
theorem bg_1 {cap bc bs n : Nat} (h : bg cap bc bs) (hn : n ≤ 500) : gk cap n ≤ bc ∧ gsl cap n ≤ bs ∧ bg (gro cap n) (bc - gk cap n) (bs - gsl cap n) := by
  obtain ⟨h1, h2, h3, h4⟩ := h
  unfold bg gk gsl gro
  split
  · refine ⟨?_, ?_, ?_, ?_, ?_, ?_⟩ <;> omega
  · refine ⟨?_, ?_, ?_, ?_, ?_, ?_⟩ <;> omega
theorem bg_L : ∀ (ns : List Nat) (cap bc bs : Nat), bg cap bc bs → (∀ n, n ∈ ns → n ≤ 500) → gkL cap ns ≤ bc ∧ gsL cap ns ≤ bs ∧ bg (grL cap ns) (bc - gkL cap ns) (bs - gsL cap ns)
  | [], cap, bc, bs, h, _ => ⟨Nat.zero_le _, Nat.zero_le _, h⟩
  | n :: ns, cap, bc, bs, h, hn => by
    obtain ⟨a1, a2, a3⟩ := bg_1 h (hn n (List.mem_cons_self ..))
    obtain ⟨b1, b2, b3⟩ := bg_L ns _ _ _ a3 (fun m hm => hn m (List.mem_cons_of_mem _ hm))
    unfold gkL gsL grL
    refine ⟨by omega, by omega, ?_⟩
    rw [← Nat.sub_sub, ← Nat.sub_sub]
    exact b3
theorem sb_dig {S : PS} {ow : Ow} {c a cap w bc bs : Nat} {l : List Nat} {post : Nat → PS → Prop} (h : sb S ow c a cap l) (hw : w < 10) (hn : l.length + 1 ≤ 500) (h1 : gk cap (l.length + 1) ≤ bc) (h2 : gsl cap (l.length + 1) ≤ bs) (next : ∀ S1 ow1, keeps [c] S ow S1 ow1 → sb S1 ow1 c a (gro cap (l.length + 1)) (l ++ [48 + w]) → post a S1) : f_J4_append_bf812 S a (nI w) bc bs post := by
  have e := dg_1 hw
  have e1 : (dg w).length = 1 := by rw [e]; rfl
  refine sb_num h (by omega) (by omega) (by rw [e1]; exact h1) (by rw [e1]; exact h2) (fun S1 ow1 k1 s1 => ?_)
  rw [e1, e] at s1
  exact next S1 ow1 k1 s1
section LN
variable {S S1 : PS} {ow ow1 : Ow} {A : Nat → Nat} {v : Vt} {hs : List Vt} {sv : Option Vt} {r : Nat → Int32} {tx : List Nat} {fa : Int32} {l : List Nat} {cap : Nat}
theorem CI_9 {l1 : List Nat} {cap1 : Nat} (h : CI S ow A v hs sv r tx fa l) (k : keeps [9] S ow S1 ow1) (s : sb S1 ow1 9 (A 9) cap1 l1) : CI S1 ow1 A v hs sv r tx fa l1 := CI_up9 h k ⟨cap1, s⟩
def bdN (L d : Nat) : List Nat := [L + 1, L + 2, L + 3, L + 3 + d]
theorem x_wb {i j : Nat} {post : PS → Prop} (h : CI S ow A v hs sv r tx fa l) (h9 : sb S ow 9 (A 9) cap l) (hv : okV v) (hi : i < 9) (hj : j < 9) (hl : l.length ≤ 400) (next : ∀ S1 ow1, CI S1 ow1 A v hs sv r tx fa (l ++ [48 + i] ++ [48 + j] ++ [61] ++ dg (wt v i j)) → sb S1 ow1 9 (A 9) (grL cap (bdN l.length (dg (wt v i j)).length)) (l ++ [48 + i] ++ [48 + j] ++ [61] ++ dg (wt v i j)) → keeps [9] S ow S1 ow1 → post S1) : f_X7_writeBond_J20 post S (gkL cap (bdN l.length (dg (wt v i j)).length)) (gsL cap (bdN l.length (dg (wt v i j)).length)) (A 12) (nI i) (nI j) := by
  have hw := hv.lt hi hj
  have hd := dg_le 7 (wt v i j) (by omega) hw
  obtain ⟨d, hdd⟩ : ∃ d, d = (dg (wt v i j)).length := ⟨_, rfl⟩
  rw [← hdd] at next ⊢
  simp only [bdN, gkL, gsL, grL, Nat.add_zero] at next ⊢
  unfold f_X7_writeBond_J20
  rw [G_9 h, O_9 h]
  refine ⟨_, _, Nat.le_add_right _ _, Nat.le_add_right _ _, ?_⟩
  refine sb_dig h9 (by omega) (by omega) (Nat.le_refl _) (Nat.le_refl _) (fun S2 ow2 k2 s2 => ?_)
  have h2 := CI_9 h k2 s2
  rw [G_9 h2, O_9 h2, Nat.add_sub_cancel_left, Nat.add_sub_cancel_left]
  have l2 : (l ++ [48 + i]).length + 1 = l.length + 2 := by rw [List.length_append]; rfl
  refine ⟨_, _, Nat.le_add_right _ _, Nat.le_add_right _ _, ?_⟩
  refine sb_dig s2 (by omega) (by omega) (by rw [l2]; exact Nat.le_refl _) (by rw [l2]; exact Nat.le_refl _) (fun S3 ow3 k3 s3 => ?_)
  rw [l2] at s3
  have h3 := CI_9 h2 k3 s3
  rw [G_9 h3, O_9 h3, Nat.add_sub_cancel_left, Nat.add_sub_cancel_left]
  have l3 : (l ++ [48 + i] ++ [48 + j]).length + 1 = l.length + 3 := by rw [List.length_append, List.length_append]; rfl
  refine ⟨_, _, Nat.le_add_right _ _, Nat.le_add_right _ _, ?_⟩
  refine sb_put (x := 61) s3 (by omega) (by omega) (by rw [l3]; exact Nat.le_refl _) (by rw [l3]; exact Nat.le_refl _) (fun S4 ow4 k4 s4 => ?_)
  rw [l3] at s4
  have h4 := CI_9 h3 k4 s4
  obtain ⟨t, hV⟩ := Vx h4
  rw [G_9 h4, G_0 h4, O_0 h4, e_tie hV hv hi hj, O_9 h4, Nat.add_sub_cancel_left, Nat.add_sub_cancel_left]
  have l4 : (l ++ [48 + i] ++ [48 + j] ++ [61]).length + (dg (wt v i j)).length = l.length + 3 + d := by rw [List.length_append, List.length_append, List.length_append, ← hdd]; rfl
  refine ⟨_, _, Nat.le_refl _, Nat.le_refl _, ?_⟩
  refine sb_num s4 (by omega) (by omega) (by rw [l4]; exact Nat.le_refl _) (by rw [l4]; exact Nat.le_refl _) (fun S5 ow5 k5 s5 => ?_)
  rw [l4] at s5
  exact next S5 ow5 (CI_9 h4 k5 s5) s5 (((k2.trans k3).trans k4).trans k5)
def bdM (l : List Nat) (d : Nat) : List Nat := if l = [] then bdN 0 d else (l.length + 1) :: bdN (l.length + 1) d
theorem bdM_b {l : List Nat} {d : Nat} (hl : l.length ≤ 400) (hd : d ≤ 7) : ∀ n, n ∈ bdM l d → n ≤ 500 := by
  intro n hn
  unfold bdM bdN at hn
  split at hn <;> simp at hn <;> omega
theorem x_writeBond {i j : Nat} {post : PS → Prop} (h : CI S ow A v hs sv r tx fa l) (h9 : sb S ow 9 (A 9) cap l) (hv : okV v) (hi : i < 9) (hj : j < 9) (hl : l.length ≤ 399) (next : ∀ S1 ow1, CI S1 ow1 A v hs sv r tx fa (l ++ bdL v l i j) → sb S1 ow1 9 (A 9) (grL cap (bdM l (dg (wt v i j)).length)) (l ++ bdL v l i j) → keeps [9] S ow S1 ow1 → post S1) : f_X7_writeBond S (A 12) (nI i) (nI j) (gkL cap (bdM l (dg (wt v i j)).length)) (gsL cap (bdM l (dg (wt v i j)).length)) post := by
  unfold f_X7_writeBond
  rw [G_9 h, O_9 h, sb_len h9]
  unfold bdM bdL at next
  unfold bdM
  by_cases e : l = []
  · subst e
    rw [if_pos rfl] at next
    rw [if_pos rfl, if_pos (by decide)]
    refine x_wb h h9 hv hi hj (by omega) (fun S1 ow1 a1 a2 a3 => ?_)
    rw [List.nil_append] at a1 a2
    rw [if_pos rfl, List.nil_append, List.nil_append] at next
    exact next S1 ow1 a1 a2 a3
  · rw [if_neg e, if_neg e] at next
    have hpos : 0 < l.length := List.length_pos_iff.mpr e
    rw [if_neg e, if_neg (nI_nle hpos (by omega)), G_9 h, O_9 h]
    simp only [gkL, gsL, grL] at next ⊢
    refine ⟨_, _, Nat.le_add_right _ _, Nat.le_add_right _ _, ?_⟩
    refine sb_put (x := 32) h9 (by omega) (by omega) (Nat.le_refl _) (Nat.le_refl _) (fun S2 ow2 k2 s2 => ?_)
    have h2 := CI_9 h k2 s2
    have l2 : (l ++ [32]).length = l.length + 1 := by rw [List.length_append]; rfl
    rw [Nat.add_sub_cancel_left, Nat.add_sub_cancel_left]
    have e2 : l ++ ([32] ++ ([48 + i] ++ [48 + j] ++ [61] ++ dg (wt v i j))) = l ++ [32] ++ [48 + i] ++ [48 + j] ++ [61] ++ dg (wt v i j) := by
      simp only [List.append_assoc]
    rw [e2] at next
    have q := x_wb (post := post) h2 s2 hv hi hj (by omega) (fun S1 ow1 a1 a2 a3 => by
      rw [l2] at a2
      exact next S1 ow1 a1 a2 (k2.trans a3))
    rw [l2] at q
    exact q
/-- the needs of a set that is written, from place i on -/
def ndS (s : Nat) : Nat → Nat → List Nat
  | 0, _ => []
  | d + 1, n => if s.testBit (9 - (d + 1)) = true then (n + 1) :: ndS s d (n + 1) else ndS s d n
theorem ndS_b (s : Nat) : ∀ (d n : Nat), n + d ≤ 500 → ∀ m, m ∈ ndS s d n → m ≤ 500
  | 0, _, _, m, hm => by cases hm
  | d + 1, n, h, m, hm => by
    unfold ndS at hm
    split at hm
    · rcases List.mem_cons.mp hm with q | q
      · omega
      · exact ndS_b s d (n + 1) (by omega) m q
    · exact ndS_b s d n (by omega) m hm
theorem x_set {s : Nat} {post : PS → Prop} (hs2 : s < 2 ^ 31) : ∀ (d cap : Nat) (l : List Nat) (S : PS) (ow : Ow), d ≤ 9 → CI S ow A v hs sv r tx fa l → sb S ow 9 (A 9) cap l → l.length + d ≤ 500 → (∀ S1 ow1 l1, CI S1 ow1 A v hs sv r tx fa l1 → l1 ++ [] = l1 → (∀ pre, l = pre ++ stL s (9 - d) → l1 = pre ++ stL s 9) → sb S1 ow1 9 (A 9) (grL cap (ndS s d l.length)) l1 → keeps [9] S ow S1 ow1 → post S1) → ∀ fuel, d < fuel → f_X7_writeSet_L2 post fuel S (gkL cap (ndS s d l.length)) (gsL cap (ndS s d l.length)) (A 12) (nI s) (nI (9 - d)) := by
  intro d
  induction d with
  | zero =>
    intro cap l S ow hd9 h h9 hl next fuel hf
    obtain ⟨n, rfl⟩ : ∃ n, fuel = n + 1 := ⟨fuel - 1, by omega⟩
    simp only [f_X7_writeSet_L2]
    rw [if_pos (show (9 : Int32) ≤ nI (9 - 0) by decide)]
    exact next S ow l h (List.append_nil _) (fun pre hp => hp) h9 keeps.refl
  | succ d ih =>
    intro cap l S ow hd9 h h9 hl next fuel hf
    obtain ⟨n, rfl⟩ : ∃ n, fuel = n + 1 := ⟨fuel - 1, by omega⟩
    simp only [f_X7_writeSet_L2, f_X7_writeSet_J25]
    rw [if_neg (show ¬ (9 : Int32) ≤ nI (9 - (d + 1)) from nI_ge (b := 9) (by omega) (by omega)), e_isIn hs2 (by omega)]
    have e9 : 9 - (d + 1) + 1 = 9 - d := by omega
    have e9' : stL s (9 - d) = stL s (9 - (d + 1)) ++ (if s.testBit (9 - (d + 1)) = true then [48 + (9 - (d + 1))] else []) := by rw [← e9]; rfl
    unfold ndS at next ⊢
    cases hb : s.testBit (9 - (d + 1)) with
    | false =>
      rw [hb] at next e9'
      rw [if_neg (show ¬ false = true by decide)] at next e9' ⊢
      rw [if_neg (show ¬ false = true by decide), if_pos rfl, nI_1, e9]
      exact ih cap l S ow (by omega) h h9 (by omega) (fun S1 ow1 l1 a1 a0 a2 a3 a4 => next S1 ow1 l1 a1 a0 (fun pre hp => a2 pre (by rw [e9', List.append_nil]; exact hp)) a3 a4) n (by omega)
    | true =>
      rw [hb] at next e9'
      rw [if_pos rfl] at next e9' ⊢
      rw [if_pos rfl, if_neg (by decide), G_9 h, O_9 h]
      simp only [gkL, gsL, grL] at next ⊢
      refine ⟨_, _, Nat.le_add_right _ _, Nat.le_add_right _ _, ?_⟩
      refine sb_dig h9 (by omega) (by omega) (Nat.le_refl _) (Nat.le_refl _) (fun S2 ow2 k2 s2 => ?_)
      have l2 : (l ++ [48 + (9 - (d + 1))]).length = l.length + 1 := by rw [List.length_append]; rfl
      rw [Nat.add_sub_cancel_left, Nat.add_sub_cancel_left, nI_1, e9]
      have q := ih _ _ S2 ow2 (by omega) (CI_9 h k2 s2) s2 (by omega) (fun S1 ow1 l1 a1 a0 a2 a3 a4 => by
        rw [l2] at a3
        exact next S1 ow1 l1 a1 a0 (fun pre hp => a2 pre (by rw [e9', hp, List.append_assoc])) a3 (k2.trans a4)) n (by omega)
      rw [l2] at q
      exact q
theorem x_writeSet {s : Nat} {post : PS → Prop} (h : CI S ow A v hs sv r tx fa l) (h9 : sb S ow 9 (A 9) cap l) (hs2 : s < 2 ^ 31) (hl : l.length + 9 ≤ 500) (next : ∀ S1 ow1, CI S1 ow1 A v hs sv r tx fa (l ++ stL s 9) → sb S1 ow1 9 (A 9) (grL cap (ndS s 9 l.length)) (l ++ stL s 9) → keeps [9] S ow S1 ow1 → post S1) : f_X7_writeSet S (A 12) (nI s) (gkL cap (ndS s 9 l.length)) (gsL cap (ndS s 9 l.length)) post := by
  unfold f_X7_writeSet
  refine x_set hs2 9 cap l S ow (Nat.le_refl _) h h9 hl (fun S1 ow1 l1 a1 a0 a2 a3 a4 => ?_) 4096 (by omega)
  have := a2 l (by show l = l ++ []; rw [List.append_nil])
  rw [this] at a1 a3
  exact next S1 ow1 a1 a3 a4
/-- the line is emptied, room is left -/
theorem l_clr {bc bs : Nat} {post : PS → Prop} (h : CI S ow A v hs sv r tx fa l) (h1 : 70 ≤ bc) (h2 : 2100 ≤ bs) (next : ∀ S1 cap1, CI S1 ow A v hs sv r tx fa [] → sb S1 ow 9 (A 9) cap1 [] → bg cap1 (bc - 0) (bs - 0) → keeps [9] S ow S1 ow → post S1) : f_J4_setLength_d00df S (A 9) 0 0 0 post := by
  have h9 := h.2.2.2.2.2.2.2.2.2.2.1
  obtain ⟨cap, h9⟩ := h9
  refine sb_clr h9 (fun S1 k1 s1 => ?_)
  obtain ⟨ba, m, f, -, -, -, -, -, -, -, -, b1, b2, -⟩ := id s1
  exact next S1 cap (CI_9 h k1 s1) s1 ⟨b1, b2, by omega, by omega⟩ k1
theorem x_tell {bc bs : Nat} {post : Int32 → PS → Prop} (h : CI S ow A v hs sv r tx fa l) (hv : okV v) (h1 : 70 ≤ bc) (h2 : 2100 ≤ bs) (next : ∀ S1 ow1, CI S1 ow1 A v hs sv r tx fa (tlL v) → keeps CC S ow S1 ow1 → post (nI (tlL v).length) S1) : f_X7_tell S (A 12) bc bs post := by
  have h0 := hv.1
  have fin : ∀ (S2 : PS) (ow2 : Ow) (bc2 bs2 : Nat), keeps CC S ow S2 ow2 → CI S2 ow2 A v hs sv r tx fa (tlL v) → f_X7_tell_J66 post S2 bc2 bs2 (A 12) := fun S2 ow2 bc2 bs2 k2 c2 => by
    obtain ⟨cp, s9⟩ := c2.2.2.2.2.2.2.2.2.2.2.1
    unfold f_X7_tell_J66
    rw [G_9 c2, O_9 c2, sb_len s9]
    exact next S2 ow2 c2 k2
  have inner : ∀ (i : Nat) (e fuel : Nat), i + (e + 1) = v 0 → (∀ (S2 : PS) (ow2 : Ow) (bc2 bs2 cap2 : Nat) (l2 : List Nat), keeps CC S ow S2 ow2 → CI S2 ow2 A v hs sv r tx fa l2 → sb S2 ow2 9 (A 9) cap2 l2 → bg cap2 bc2 bs2 → (prs (v 0) e).foldl (tlB v) l2 = tlL v → l2.length + 11 * (prs (v 0) e).length ≤ 400 → f_X7_tell_L10 post fuel S2 bc2 bs2 (A 12) (nI (i + 1))) → ∀ (d fu : Nat) (S2 : PS) (ow2 : Ow) (bc2 bs2 cap2 : Nat) (l2 : List Nat), d ≤ e → d < fu → keeps CC S ow S2 ow2 → CI S2 ow2 A v hs sv r tx fa l2 → sb S2 ow2 9 (A 9) cap2 l2 → bg cap2 bc2 bs2 → (rowp (v 0) i d ++ prs (v 0) e).foldl (tlB v) l2 = tlL v → l2.length + 11 * (rowp (v 0) i d ++ prs (v 0) e).length ≤ 400 → f_X7_tell_L25 post (f_X7_tell_L10 post fuel) fu S2 bc2 bs2 (A 12) (nI i) (nI (v 0 - d)) := by
    intro i e fuel hie hout d
    induction d with
    | zero =>
      intro fu S2 ow2 bc2 bs2 cap2 l2 hde hf k2 c2 s2 b2 hL hlen
      obtain ⟨n, rfl⟩ : ∃ n, fu = n + 1 := ⟨fu - 1, by omega⟩
      obtain ⟨t, hV⟩ := Vx c2
      simp only [f_X7_tell_L25, f_X7_tell_J60]
      rw [G_0 c2, V1 hV, if_pos (nI_le (by omega) (by omega)), nI_1]
      exact hout S2 ow2 bc2 bs2 cap2 l2 k2 c2 s2 b2 hL hlen
    | succ d ih =>
      intro fu S2 ow2 bc2 bs2 cap2 l2 hde hf k2 c2 s2 b2 hL hlen
      obtain ⟨n, rfl⟩ : ∃ n, fu = n + 1 := ⟨fu - 1, by omega⟩
      obtain ⟨t, hV⟩ := Vx c2
      have hj : v 0 - (d + 1) < v 0 := by omega
      have hw := hv.lt (show i < 9 by omega) (show v 0 - (d + 1) < 9 by omega)
      have hd := dg_le 7 (wt v i (v 0 - (d + 1))) (by omega) hw
      have hL : (rowp (v 0) i d ++ prs (v 0) e).foldl (tlB v) (tlB v l2 (i, v 0 - (d + 1))) = tlL v := hL
      have hlen : l2.length + 11 * ((rowp (v 0) i d ++ prs (v 0) e).length + 1) ≤ 400 := hlen
      have hB := tlB_len hv (l := l2) (q := (i, v 0 - (d + 1))) (show i < 9 by omega) (show v 0 - (d + 1) < 9 by omega)
      simp only [f_X7_tell_L25, f_X7_tell_J54]
      rw [G_0 c2, V1 hV, if_neg (nI_ge hj (by omega)), G_0 c2, O_0 c2, e_tie hV hv (by omega) (by omega)]
      by_cases hb : 0 < wt v i (v 0 - (d + 1))
      · have hq : tlB v l2 (i, v 0 - (d + 1)) = l2 ++ bdL v l2 i (v 0 - (d + 1)) := if_pos hb
        rw [if_neg (nI_nle hb (by omega)), G_O c2]
        obtain ⟨g1, g2, g3⟩ := bg_L (bdM l2 (dg (wt v i (v 0 - (d + 1)))).length) cap2 bc2 bs2 b2 (bdM_b (by omega) hd)
        refine ⟨_, _, g1, g2, ?_⟩
        refine x_writeBond c2 s2 hv (by omega) (by omega) (by omega) (fun S3 ow3 c3 s3 k3 => ?_)
        rw [nI_1, show v 0 - (d + 1) + 1 = v 0 - d by omega]
        rw [hq] at hL hB
        exact ih n S3 ow3 _ _ _ _ (by omega) (by omega) (k2.trans (k3.mono (by decide))) c3 s3 g3 hL (by omega)
      · have hq : tlB v l2 (i, v 0 - (d + 1)) = l2 := if_neg hb
        rw [show wt v i (v 0 - (d + 1)) = 0 by omega, if_pos (show nI 0 ≤ 0 by decide), nI_1, show v 0 - (d + 1) + 1 = v 0 - d by omega]
        rw [hq] at hL
        exact ih n S2 ow2 bc2 bs2 cap2 l2 (by omega) (by omega) k2 c2 s2 b2 hL (by omega)
  have outer : ∀ (e fuel : Nat) (S2 : PS) (ow2 : Ow) (bc2 bs2 cap2 : Nat) (l2 : List Nat), e ≤ v 0 → e < fuel → keeps CC S ow S2 ow2 → CI S2 ow2 A v hs sv r tx fa l2 → sb S2 ow2 9 (A 9) cap2 l2 → bg cap2 bc2 bs2 → (prs (v 0) e).foldl (tlB v) l2 = tlL v → l2.length + 11 * (prs (v 0) e).length ≤ 400 → f_X7_tell_L10 post fuel S2 bc2 bs2 (A 12) (nI (v 0 - e)) := by
    intro e
    induction e with
    | zero =>
      intro fuel S2 ow2 bc2 bs2 cap2 l2 hde hf k2 c2 s2 b2 hL hlen
      obtain ⟨n, rfl⟩ : ∃ n, fuel = n + 1 := ⟨fuel - 1, by omega⟩
      obtain ⟨t, hV⟩ := Vx c2
      simp only [f_X7_tell_L10]
      rw [G_0 c2, V1 hV, if_pos (nI_le (by omega) (by omega))]
      have hL : l2 = tlL v := hL
      rw [hL] at c2
      exact fin S2 ow2 bc2 bs2 k2 c2
    | succ e ih =>
      intro fuel S2 ow2 bc2 bs2 cap2 l2 hde hf k2 c2 s2 b2 hL hlen
      obtain ⟨n, rfl⟩ : ∃ n, fuel = n + 1 := ⟨fuel - 1, by omega⟩
      obtain ⟨t, hV⟩ := Vx c2
      simp only [f_X7_tell_L10]
      rw [G_0 c2, V1 hV, if_neg (nI_ge (by omega) (by omega)), nI_1, show v 0 - (e + 1) + 1 = v 0 - e by omega]
      refine inner (v 0 - (e + 1)) e n (by omega) (fun S3 ow3 bc3 bs3 cap3 l3 k3 c3 s3 b3 hL3 hlen3 => ?_) e 4096 S2 ow2 bc2 bs2 cap2 l2 (Nat.le_refl _) (by omega) k2 c2 s2 b2 hL hlen
      rw [show v 0 - (e + 1) + 1 = v 0 - e by omega]
      exact ih n S3 ow3 bc3 bs3 cap3 l3 (by omega) (by omega) k3 c3 s3 b3 hL3 hlen3
  unfold f_X7_tell
  rw [G_9 h, O_9 h]
  refine ⟨0, 0, Nat.zero_le _, Nat.zero_le _, ?_⟩
  refine l_clr h h1 h2 (fun S2 cap2 c2 s2 b2 k2 => ?_)
  have hp : (prs (v 0) (v 0)).length ≤ 36 := by
    have : ∀ n, n < 10 → (prs n n).length ≤ 36 := by decide
    exact this (v 0) (by omega)
  have := outer (v 0) 4096 S2 ow _ _ cap2 [] (Nat.le_refl _) (by omega) (k2.mono (by decide)) c2 s2 b2 rfl (by show 0 + _ ≤ 400; omega)
  rw [Nat.sub_self] at this
  exact this
theorem x_tellSides {bc bs : Nat} {post : Int32 → PS → Prop} (h : CI S ow A v hs sv r tx fa l) (hv : okV v) (h1 : 70 ≤ bc) (h2 : 2100 ≤ bs) (next : ∀ S1 ow1, CI S1 ow1 A v hs sv r tx fa (sdL v) → keeps CC S ow S1 ow1 → post (nI (sdL v).length) S1) : f_X7_tellSides S (A 12) bc bs post := by
  have h0 := hv.1
  have hsd := sds_lt hv
  have hev : bn (ev v) (sds v) < 2 ^ 31 := by
    have : bn (ev v) (sds v) ≤ ev v := Nat.and_le_left
    have h2 : 2 ^ v 0 ≤ 2 ^ 9 := Nat.pow_le_pow_right (by omega) h0
    unfold ev at this ⊢
    omega
  unfold f_X7_tellSides
  rw [G_9 h, O_9 h]
  refine ⟨0, 0, Nat.zero_le _, Nat.zero_le _, ?_⟩
  refine l_clr h h1 h2 (fun S2 cap2 c2 s2 b2 k2 => ?_)
  obtain ⟨t, hV⟩ := Vx c2
  rw [G_0 c2, O_0 c2, e_every hV hv, G_0 c2, V2 hV, G_O c2, show nI (2 ^ v 0 - 1) = nI (ev v) from rfl, b_bn]
  obtain ⟨u, hu⟩ : ∃ u, u = bn (ev v) (sds v) := ⟨_, rfl⟩
  unfold sdL at next
  rw [← hu] at next hev ⊢
  obtain ⟨g1, g2, g3⟩ := bg_L (ndS u 9 0) cap2 _ _ b2 (ndS_b _ 9 0 (by omega))
  refine ⟨_, _, g1, g2, ?_⟩
  refine x_writeSet (l := []) (s := u) c2 s2 hev (by decide) (fun S3 ow3 c3 s3 k3 => ?_)
  rw [List.nil_append] at c3 s3
  have l3 := stL_len (u) 9
  obtain ⟨q1, q2, q3⟩ := bg_1 (n := (stL (u) 9).length + 1) g3 (by omega)
  rw [G_9 c3, O_9 c3]
  refine ⟨_, _, q1, q2, ?_⟩
  refine sb_put (x := 124) s3 (by omega) (by omega) (Nat.le_refl _) (Nat.le_refl _) (fun S4 ow4 k4 s4 => ?_)
  have c4 := CI_9 c3 k4 s4
  obtain ⟨t4, hV4⟩ := Vx c4
  rw [G_0 c4, V2 hV4, G_O c4]
  have l4 : (stL (u) 9 ++ [124]).length = (stL (u) 9).length + 1 := by rw [List.length_append]; rfl
  obtain ⟨w1, w2, w3⟩ := bg_L (ndS (sds v) 9 (stL (u) 9 ++ [124]).length) _ _ _ q3 (ndS_b _ 9 _ (by omega))
  refine ⟨_, _, w1, w2, ?_⟩
  refine x_writeSet (s := sds v) c4 s4 (by omega) (by omega) (fun S5 ow5 c5 s5 k5 => ?_)
  rw [G_9 c5, O_9 c5, sb_len s5]
  exact next S5 ow5 c5 ((((k2.trans k3).trans k4).trans k5).mono (by decide))
def inP (v : Vt) (x : Int32) : Bool := decide (¬ x < 0) && decide (¬ nI (v 0 - 1) ≤ x)
theorem inP_of {v : Vt} (h0 : v 0 ≤ 9) {x : Int32} (h : inP v x = true) : ix x < v 0 - 1 ∧ x = nI (ix x) := by
  unfold inP at h
  rw [Bool.and_eq_true, decide_eq_true_eq, decide_eq_true_eq] at h
  rcases pk_ix x (n := v 0 - 1) (by omega) with h2 | h2 | ⟨i, h2, rfl⟩
  · exact absurd h2 h.1
  · exact absurd h2 h.2
  · rw [ix_nI (by omega)]; exact ⟨h2, rfl⟩
theorem x_hasPhase {x : Int32} {post : Int32 → PS → Prop} (h : CI S ow A v hs sv r tx fa l) (hv : okV v) : f_X7_hasPhase S (A 12) x post = post (if inP v x = true then 1 else 0) S := by
  obtain ⟨t, hV⟩ := Vx h
  unfold f_X7_hasPhase inP
  by_cases e : x < 0
  · rw [if_pos e, nZ0, decide_eq_false (show ¬ ¬ x < 0 from fun z => z e)]; rfl
  · rw [if_neg e, G_0 h, O_0 h, e_phaseCount hV hv, decide_eq_true e, Bool.true_and]
    by_cases e2 : nI (v 0 - 1) ≤ x
    · rw [if_pos e2, nZ0, decide_eq_false (show ¬ ¬ nI (v 0 - 1) ≤ x from fun z => z e2)]; rfl
    · rw [if_neg e2, nZ1, decide_eq_true e2, if_pos rfl]
theorem x_tellPhase {x : Int32} {bc bs : Nat} {post : Int32 → PS → Prop} {postX : String → PS → Prop} (h : CI S ow A v hs sv r tx fa l) (hv : okV v) (h1 : 70 ≤ bc) (h2 : 2100 ≤ bs) (no : inP v x = false → postX "java/lang/IndexOutOfBoundsException" S) (next : inP v x = true → ∀ S1 ow1, CI S1 ow1 A v hs sv r tx fa (phL v (ix x)) → keeps CC S ow S1 ow1 → post (nI (phL v (ix x)).length) S1) : f_X7_tellPhase S (A 12) x bc bs post postX := by
  have h0 := hv.1
  unfold f_X7_tellPhase
  rw [G_O h, x_hasPhase h hv]
  cases hx : inP v x with
  | false =>
    rw [if_neg (show ¬ false = true by decide), if_pos rfl]
    exact ⟨by omega, by omega, no hx⟩
  | true =>
    obtain ⟨p1, p2⟩ := inP_of h0 hx
    obtain ⟨p, hp⟩ : ∃ p, p = ix x := ⟨_, rfl⟩
    have next := next hx
    rw [← hp] at p1 p2 next
    rw [if_pos rfl, if_neg (by decide), G_4 h, G_0 h, O_4 h]
    refine x_course h h.2.1 hv (by decide) (fun S1 B F g c1 k1 e1 hB H m => ?_)
    rw [G_9 c1, O_9 c1]
    refine ⟨0, 0, Nat.zero_le _, Nat.zero_le _, ?_⟩
    refine l_clr c1 h1 h2 (fun S2 cap2 c2 s2 b2 k2 => ?_)
    have hP1 : ∀ k, k < 6 → ow (B k) = 4 → True := fun _ _ _ => trivial
    rw [p2]
    -- the measures stand while the line is written
    have stand : ∀ (S3 : PS) (ow3 : Ow), keeps [9] S1 ow S3 ow3 → Po 6 7 cfs (fun _ => 0) crl S3 ow3 4 B F g := fun S3 ow3 k3 => by
      obtain ⟨B4, F4, g4, e4, hB4, H4, o4⟩ := c1.2.2.2.2.2.1
      have hBB : ∀ k, k < 6 → ow (B k) = 4 := fun k hk => by
        have b0 : B 0 = B4 0 := e1.trans e4.symm
        have f1 := H.2.2.1
        have f2 := H4.2.2.1
        rw [b0, f2] at f1
        injection f1 with f1
        injection f1 with f0 f1
        unfold cfs at f1
        injection f1 with q1 f1
        injection f1 with q2 f1
        injection f1 with q3 f1
        injection f1 with q4 f1
        injection f1 with q5 f1
        rcases (show k = 0 ∨ k = 1 ∨ k = 2 ∨ k = 3 ∨ k = 4 ∨ k = 5 by omega) with rfl | rfl | rfl | rfl | rfl | rfl
        · rw [b0]; exact o4 0 (by omega)
        · injection q1 with q1; rw [← q1]; exact o4 1 (by omega)
        · injection q2 with q2; rw [← q2]; exact o4 2 (by omega)
        · injection q3 with q3; rw [← q3]; exact o4 3 (by omega)
        · injection q4 with q4; rw [← q4]; exact o4 4 (by omega)
        · injection q5 with q5; rw [← q5]; exact o4 5 (by omega)
      exact Po_fr (by omega) ⟨hB, H, hBB⟩ k3 (by decide)
    have loop : ∀ (d q fuel : Nat) (S3 : PS) (ow3 : Ow) (bc3 bs3 cap3 : Nat), q + d = v 0 - p → d < fuel → keeps [9] S1 ow S3 ow3 → CI S3 ow3 A v hs sv r tx fa (phG v p q) → sb S3 ow3 9 (A 9) cap3 (phG v p q) → bg cap3 bc3 bs3 → f_X7_tellPhase_L39 post postX fuel S3 bc3 bs3 (A 12) (nI p) (nI q) := by
      intro d
      induction d with
      | zero =>
        intro q fuel S3 ow3 bc3 bs3 cap3 hq hf k3 c3 s3 b3
        obtain ⟨n, rfl⟩ : ∃ n, fuel = n + 1 := ⟨fuel - 1, by omega⟩
        obtain ⟨hB3, H3, -⟩ := stand S3 ow3 k3
        have hlen := phG_len v p q
        simp only [f_X7_tellPhase_L39]
        rw [G_4 c3, O_4 c3, ← e1, c_groupsIn hB3 H3 m.1 (by omega), if_pos (nI_le (by omega) (by omega))]
        unfold f_X7_tellPhase_J84
        obtain ⟨q1, q2, q3⟩ := bg_1 (n := (phG v p q).length + 1) b3 (by omega)
        rw [G_9 c3, O_9 c3]
        refine ⟨_, _, q1, q2, ?_⟩
        refine sb_put (x := 61) s3 (by omega) (by omega) (Nat.le_refl _) (Nat.le_refl _) (fun S4 ow4 k4 s4 => ?_)
        have c4 := CI_9 c3 k4 s4
        obtain ⟨hB4, H4, -⟩ := stand S4 ow4 (k3.trans k4)
        have hcut := cut_lt hv (p := p)
        have hd := dg_le 7 (cut v p) (by omega) hcut
        have l4 : (phG v p q ++ [61]).length = (phG v p q).length + 1 := by rw [List.length_append]; rfl
        obtain ⟨w1, w2, w3⟩ := bg_1 (n := (phG v p q ++ [61]).length + (dg (cut v p)).length) q3 (by omega)
        rw [G_9 c4, G_4 c4, O_4 c4, ← e1, c_cutOf hB4 H4 m h0 p1, O_9 c4]
        refine ⟨_, _, w1, w2, ?_⟩
        refine sb_num s4 (by omega) (by omega) (Nat.le_refl _) (Nat.le_refl _) (fun S5 ow5 k5 s5 => ?_)
        have c5 := CI_9 c4 k5 s5
        rw [G_9 c5, O_9 c5, sb_len s5]
        have hqq : q = v 0 - p := by omega
        subst hqq
        exact next S5 ow5 c5 ((k1.mono (by decide)).trans (((k3.trans k4).trans k5).mono (by decide)))
      | succ d ih =>
        intro q fuel S3 ow3 bc3 bs3 cap3 hq hf k3 c3 s3 b3
        obtain ⟨n, rfl⟩ : ∃ n, fuel = n + 1 := ⟨fuel - 1, by omega⟩
        obtain ⟨hB3, H3, -⟩ := stand S3 ow3 k3
        have hlen := phG_len v p q
        have hgr := (gr_lt hv (p := p) (q := q) (by omega) (by omega)).2
        simp only [f_X7_tellPhase_L39]
        rw [G_4 c3, O_4 c3, ← e1, c_groupsIn hB3 H3 m.1 (by omega), if_neg (nI_ge (by omega) (by omega))]
        have rest : ∀ (S4 : PS) (ow4 : Ow) (bc4 bs4 cap4 : Nat) (l4 : List Nat), l4.length ≤ 10 * q + 1 → phG v p (q + 1) = l4 ++ stL (gr v p q) 9 → keeps [9] S1 ow S4 ow4 → CI S4 ow4 A v hs sv r tx fa l4 → sb S4 ow4 9 (A 9) cap4 l4 → bg cap4 bc4 bs4 → f_X7_tellPhase_J65 post postX (f_X7_tellPhase_L39 post postX n) S4 bc4 bs4 (A 12) (nI p) (nI q) := fun S4 ow4 bc4 bs4 cap4 l4 hl4 he k4 c4 s4 b4 => by
          obtain ⟨hB4, H4, -⟩ := stand S4 ow4 k4
          unfold f_X7_tellPhase_J65
          obtain ⟨w1, w2, w3⟩ := bg_L (ndS (gr v p q) 9 l4.length) cap4 bc4 bs4 b4 (ndS_b _ 9 _ (by omega))
          rw [G_4 c4, O_4 c4, ← e1, c_groupAt hB4 H4 m.1 h0 p1 (by omega), (m.2 p q p1 (by omega)).1, G_O c4]
          refine ⟨_, _, w1, w2, ?_⟩
          refine x_writeSet (s := gr v p q) c4 s4 (by omega) (by omega) (fun S5 ow5 c5 s5 k5 => ?_)
          rw [nI_1]
          rw [← he] at c5 s5
          exact ih (q + 1) n S5 ow5 _ _ _ (by omega) (by omega) (k4.trans k5) c5 s5 w3
        by_cases e0 : q = 0
        · subst e0
          rw [if_pos (show nI 0 ≤ 0 by decide)]
          exact rest S3 ow3 bc3 bs3 cap3 [] (Nat.zero_le _) rfl k3 c3 s3 b3
        · obtain ⟨q1, q2, q3⟩ := bg_1 (n := (phG v p q).length + 1) b3 (by omega)
          rw [if_neg (nI_nle (by omega) (by omega)), G_9 c3, O_9 c3]
          refine ⟨_, _, q1, q2, ?_⟩
          refine sb_put (x := 60) s3 (by omega) (by omega) (Nat.le_refl _) (Nat.le_refl _) (fun S4 ow4 k4 s4 => ?_)
          refine rest S4 ow4 _ _ _ (phG v p q ++ [60]) (by rw [List.length_append]; show _ + 1 ≤ _; omega) ?_ (k3.trans k4) (CI_9 c3 k4 s4) s4 q3
          show phG v p q ++ ((if q = 0 then [] else [60]) ++ stL (gr v p q) 9) = _
          rw [if_neg e0, List.append_assoc]
    exact loop (v 0 - p) 0 4096 S2 ow _ _ cap2 (by omega) (by omega) k2 c2 s2 b2
theorem x_character {x : Int32} {bc bs : Nat} {post : Int32 → PS → Prop} {postX : String → PS → Prop} (h : CI S ow A v hs sv r tx fa l) (h1 : 1 ≤ bc) (h2 : 6 ≤ bs) (hl : l.length ≤ 500) (no : (∀ i, x = nI i → i < l.length → False) → postX "java/lang/IndexOutOfBoundsException" S) (next : ∀ i c, x = nI i → l[i]? = some c → c < 128 → post (nI c) S) : f_X7_character S (A 12) x bc bs post postX := by
  obtain ⟨cp, s9⟩ := h.2.2.2.2.2.2.2.2.2.2.1
  unfold f_X7_character f_X7_character_J15
  rcases pk_ix x (n := l.length) (by omega) with e | e | ⟨i, e, rfl⟩
  · rw [if_pos e]
    refine ⟨h1, h2, no (fun i hi hil => ?_)⟩
    rw [hi] at e
    exact nI_pos (by omega) e
  · have e0 : ¬ x < 0 := fun z => nI_pos (n := l.length) (by omega) (Int32.lt_of_le_of_lt e z)
    rw [if_neg e0, G_9 h, O_9 h, sb_len s9, if_neg (Int32.not_lt.mpr e)]
    refine ⟨h1, h2, no (fun i hi hil => ?_)⟩
    rw [hi] at e
    exact nI_ge hil (by omega) e
  · obtain ⟨c, hc⟩ : ∃ c, l[i]? = some c := ⟨_, List.getElem?_eq_getElem e⟩
    have hc8 : c < 128 := by
      obtain ⟨ba, m, f, -, -, -, -, -, -, -, -, -, -, hch, -⟩ := id s9
      exact (hch i c hc).1
    rw [if_neg (nI_pos (by omega)), G_9 h, O_9 h, sb_len s9, if_pos (nI_lt e (by omega)), G_9 h, O_9 h, sb_cA s9 hc, nZc (by omega)]
    exact next i c rfl hc hc8
end LN

