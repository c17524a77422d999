/-! lines, as the reference writes them -/
def psl (g : Nat → Nat → Nat) : List (Nat × Nat) → Nat
  | [] => 0
  | q :: l => g q.1 q.2 + psl g l
theorem psl_app (g : Nat → Nat → Nat) : ∀ (a b : List (Nat × Nat)), psl g (a ++ b) = psl g a + psl g b
  | [], b => by show psl g b = 0 + psl g b; omega
  | q :: a, b => by
    show g q.1 q.2 + psl g (a ++ b) = g q.1 q.2 + psl g a + psl g b
    rw [psl_app g a b]; omega
theorem psl_pr (g : Nat → Nat → Nat) (n : Nat) : pr n g = psl g (prs n n) := by
  have row : ∀ (i d : Nat), i + (d + 1) ≤ n → sm (fun j => if i < j then g i j else 0) (n - d) + psl g (rowp n i d) = sm (fun j => if i < j then g i j else 0) n := by
    intro i d
    induction d with
    | zero => intro _; rfl
    | succ d ih =>
      intro h
      rw [← ih (by omega), show n - d = n - (d + 1) + 1 by omega]
      show sm _ (n - (d + 1)) + (g i (n - (d + 1)) + psl g (rowp n i d)) = sm _ (n - (d + 1)) + (if i < n - (d + 1) then g i (n - (d + 1)) else 0) + psl g (rowp n i d)
      rw [if_pos (by omega)]; omega
  have all : ∀ (d : Nat), d ≤ n → sm (fun i => sm (fun j => if i < j then g i j else 0) n) (n - d) + psl g (prs n d) = pr n g := by
    intro d
    induction d with
    | zero => intro _; rfl
    | succ d ih =>
      intro h
      rw [← ih (by omega), show n - d = n - (d + 1) + 1 by omega]
      show sm _ (n - (d + 1)) + psl g (rowp n (n - (d + 1)) d ++ prs n d) = sm _ (n - (d + 1)) + sm (fun j => if n - (d + 1) < j then g (n - (d + 1)) j else 0) n + psl g (prs n d)
      have h1 := row (n - (d + 1)) d (by omega)
      rw [sm_zero (n := n - d) (fun k hk => if_neg (show ¬ n - (d + 1) < k by omega))] at h1
      rw [psl_app, ← h1]; omega
  have := all n (Nat.le_refl _)
  rw [Nat.sub_self] at this
  rw [← this]
  exact Nat.zero_add _
/-- the bonds in their order -/
def bnd (v : Vt) (q : Nat × Nat) : Bool := decide (0 < wt v q.1 q.2)
def bl (v : Vt) : List (Nat × Nat) := (prs (v 0) (v 0)).filter (bnd v)
theorem psl_len (v : Vt) : ∀ l : List (Nat × Nat), psl (fun i j => if 0 < wt v i j then 1 else 0) l = (l.filter (bnd v)).length
  | [] => rfl
  | q :: l => by
    show (if 0 < wt v q.1 q.2 then 1 else 0) + psl _ l = _
    rw [psl_len v l]
    by_cases e : 0 < wt v q.1 q.2
    · rw [if_pos e, List.filter_cons_of_pos (by unfold bnd; exact decide_eq_true e), List.length_cons]; omega
    · rw [if_neg e, List.filter_cons_of_neg (by unfold bnd; rw [decide_eq_false e]; decide)]; omega
theorem bm_bl {v : Vt} (hv : okV v) : bm v = (bl v).length := by
  have h0 := hv.1
  have h1 : sm (bo v) (v 0) = dbl (fun i j => if 0 < wt v i j then 1 else 0) (v 0) := rfl
  have h2 := pr_dbl (x := fun i j => if 0 < wt v i j then 1 else 0) (n := v 0) (fun i hi => by
    show (if 0 < wt v i i then 1 else 0) = 0
    rw [hv.2.2.2.2.1 i (by omega)]; rfl) (fun i j hi hj => by
    show (if 0 < wt v i j then 1 else 0) = (if 0 < wt v j i then 1 else 0)
    rw [hv.2.2.2.1 i j (by omega) (by omega)])
  unfold bm bl
  rw [h1, h2, psl_pr, psl_len]
  omega
theorem bl_fold (v : Vt) : ∀ (l : List (Nat × Nat)) (s : List Nat), l.foldl (tlB v) s = (l.filter (bnd v)).foldl (tlB v) s
  | [], _ => rfl
  | q :: l, s => by
    rw [List.foldl_cons]
    by_cases e : 0 < wt v q.1 q.2
    · rw [List.filter_cons_of_pos (by unfold bnd; exact decide_eq_true e), List.foldl_cons]
      exact bl_fold v l _
    · rw [List.filter_cons_of_neg (by unfold bnd; rw [decide_eq_false e]; decide)]
      have : tlB v s q = s := if_neg e
      rw [this]
      exact bl_fold v l s
theorem kp_lk {v : Vt} {c : Nat} {post : Int32 → PS → Prop} {S : PS} {E : Nat → Prop} (hc : c < 2 ^ 31) : ∀ (l : List (Nat × Nat)) (c0 : Nat), c0 ≤ c → c0 + l.length < 1000 → kp (lkB v (nI c) post S) E l c0 = (match (l.filter (bnd v))[c - c0]? with | some q => post (nI (10 * q.1 + q.2)) S | none => E (c0 + (l.filter (bnd v)).length))
  | [], c0, h, h2 => by
    show E c0 = _
    simp only [List.filter_nil, List.getElem?_nil, List.length_nil, Nat.add_zero]
  | q :: l, c0, h, h2 => by
    rw [List.length_cons] at h2
    show (if 0 < wt v q.1 q.2 then (if nI c0 = nI c then post (nI (10 * q.1 + q.2)) S else kp (lkB v (nI c) post S) E l (c0 + 1)) else kp (lkB v (nI c) post S) E l c0) = _
    by_cases e : 0 < wt v q.1 q.2
    · rw [if_pos e, List.filter_cons_of_pos (by unfold bnd; exact decide_eq_true e)]
      by_cases e2 : c0 = c
      · rw [if_pos (by rw [e2]), e2, Nat.sub_self]
        rfl
      · rw [if_neg (fun z => e2 ((nI_eq (by omega) (by omega)).mp z)), kp_lk hc l (c0 + 1) (by omega) (by omega), show c - c0 = c - (c0 + 1) + 1 by omega, List.getElem?_cons_succ, List.length_cons, show c0 + 1 + (l.filter (bnd v)).length = c0 + ((l.filter (bnd v)).length + 1) by omega]
    · rw [if_neg e, List.filter_cons_of_neg (by unfold bnd; rw [decide_eq_false e]; decide)]
      exact kp_lk hc l c0 h (by omega)
theorem prs36 : ∀ n, n < 10 → (prs n n).length ≤ 36 := by decide
theorem r_inG {S : PS} {x a b : Int32} {post : Int32 → PS → Prop} : f_X8_in S x a b post = post (if ¬ x < a ∧ ¬ b < x then 1 else 0) S := by
  unfold f_X8_in
  by_cases h1 : x < a
  · rw [if_pos h1, nZ0, if_neg (fun z => z.1 h1)]
  · rw [if_neg h1]
    by_cases h2 : b < x
    · rw [if_pos h2, nZ0, if_neg (fun z => z.2 h2)]
    · rw [if_neg h2, nZ1, if_pos ⟨h1, h2⟩]
def lM (F : Nat → Int32) (h : Nat → Nat → Int32) (l : List Nat) : Prop := F 24 = nI l.length ∧ ∀ (i c : Nat), l[i]? = some c → h 9 i = nI c
def lnk (F : Nat → Int32) (h : Nat → Nat → Int32) (F1 : Nat → Int32) (h1 : Nat → Nat → Int32) : Prop := (∀ i, i ≠ 24 → F1 i = F i) ∧ ∀ k, k ≠ 9 → h1 k = h k
theorem lnk.refl {F : Nat → Int32} {h : Nat → Nat → Int32} : lnk F h F h := ⟨fun _ _ => rfl, fun _ _ => rfl⟩
theorem lnk.trans {F F1 F2 : Nat → Int32} {h h1 h2 : Nat → Nat → Int32} (a : lnk F h F1 h1) (b : lnk F1 h1 F2 h2) : lnk F h F2 h2 := ⟨fun i hi => (b.1 i hi).trans (a.1 i hi), fun k hk => (b.2 k hk).trans (a.2 k hk)⟩
theorem lnk_row {F F1 : Nat → Int32} {h h1 : Nat → Nat → Int32} {n : Nat} {v : Vt} (a : lnk F h F1 h1) (hr : rowV h n v) : rowV h1 n v := fun k hk => by rw [a.2 1 (by decide)]; exact hr k hk
theorem mX_ln {F F1 : Nat → Int32} {h h1 : Nat → Nat → Int32} {hs : List Vt} {sv : Option Vt} {r : Nat → Int32} {tx : List Nat} {fa : Int32} {ln l : List Nat} (m : mX F h hs sv r tx fa ln) (a : lnk F h F1 h1) (b : lM F1 h1 l) : mX F1 h1 hs sv r tx fa l := by
  obtain ⟨a1, a2, a3, a4, a5, -⟩ := m
  refine ⟨⟨(a.1 2 (by decide)).trans a1.1, a1.2.1, fun i w hw => lnk_row a (a1.2.2 i w hw)⟩, ?_, ⟨(a.1 5 (by decide)).trans a3.1, (a.1 6 (by decide)).trans a3.2.1, (a.1 7 (by decide)).trans a3.2.2.1, fun z => (a.1 8 (by decide)).trans (a3.2.2.2 z)⟩, ⟨(a.1 17 (by decide)).trans a4.1, by rw [a.2 7 (by decide)]; exact a4.2⟩, (a.1 20 (by decide)).trans a5, b⟩
  rcases a2 with ⟨b1, b2⟩ | ⟨w, b1, b2, b3⟩
  · exact Or.inl ⟨b1, (a.1 3 (by decide)).trans b2⟩
  · exact Or.inr ⟨w, b1, (a.1 3 (by decide)).trans b2, lnk_row a b3⟩
section MLN
variable {S0 S : PS} {B : Nat → Nat} {F : Nat → Int32} {h : Nat → Nat → Int32} {v : Vt} {hs : List Vt} {sv : Option Vt} {r : Nat → Int32} {tx : List Nat} {fa : Int32} {ln l : List Nat}
theorem r_writes {c : Nat} {post : PS → Prop} (hB : oB 10 S0 B) (H : RS S0 B F h S) (a : lM F h l) (hc : c < 128) (hl : l.length < 500) (next : ∀ S1 F1 h1, RS S0 B F1 h1 S1 → lM F1 h1 (l ++ [c]) → lnk F h F1 h1 → post S1) : f_X8_writes S (B 0) (nI c) post := by
  unfold f_X8_writes
  rw [OS_gR hB (by omega) H (k := 9) (f := 23) rfl, OS_gI hB (by omega) H (f := 24) (x := F 24) rfl, a.1, c16 (by omega), c16n (by omega)]
  refine OS_sI hB (by omega) H (k := 9) (by omega) (show l.length < rrl 9 from hl) (by decide) (fun S2 H2 => ?_)
  rw [OS_gI hB (by omega) H2 (f := 24) (x := F 24) rfl, a.1, nI_1]
  refine OS_pV hB (by omega) H2 (f := 24) rfl (by show 24 < 25; decide) (fun S3 H3 => ?_)
  refine next S3 _ _ H3 ⟨?_, fun i y hy => ?_⟩ ⟨fun i hi => Fu_ne hi, fun k hk => hu_ne hk⟩
  · rw [Fu_at, List.length_append]; rfl
  · rcases ap_at hy with ⟨q1, q2⟩ | ⟨q1, q2⟩
    · rw [hu_off (by omega)]; exact a.2 i y q2
    · rw [q1, q2, hu_at]
theorem r_wnum (hB : oB 10 S0 B) : ∀ (n w : Nat) (S : PS) (F : Nat → Int32) (h : Nat → Nat → Int32) (l : List Nat) (post : PS → Prop), RS S0 B F h S → lM F h l → w < 10 ^ (n + 1) → w < 2 ^ 31 → l.length + (dg w).length ≤ 500 → (∀ S1 F1 h1, RS S0 B F1 h1 S1 → lM F1 h1 (l ++ dg w) → lnk F h F1 h1 → post S1) → f_X8_writesNumber (n + 1) S (B 0) (nI w) post := by
  intro n
  induction n with
  | zero =>
    intro w S F h l post H a hw hw31 hl next
    simp only [f_X8_writesNumber, f_X8_writesNumber_J14]
    have hw10 : w < 10 := by rw [Nat.pow_one] at hw; exact hw
    rw [if_pos (show nI w ≤ 9 from nI_le (b := 9) (by omega) (by omega)), OS_isO hB (by omega) H, show (10 : Int32) = nI 10 from rfl, pk_rem (by omega) (by omega) (by omega), show (48 : Int32) = nI 48 from rfl, nI_add, Nat.mod_eq_of_lt hw10]
    rw [dg_1 hw10] at next hl
    refine ⟨by decide, ?_⟩
    exact r_writes hB H a (by omega) (by have : l.length + 1 ≤ 500 := hl; omega) next
  | succ n ih =>
    intro w S F h l post H a hw hw31 hl next
    simp only [f_X8_writesNumber, f_X8_writesNumber_J14]
    by_cases hw10 : w < 10
    · rw [if_pos (show nI w ≤ 9 from nI_le (b := 9) (by omega) (by omega)), OS_isO hB (by omega) H, show (10 : Int32) = nI 10 from rfl, pk_rem (by omega) (by omega) (by omega), show (48 : Int32) = nI 48 from rfl, nI_add, Nat.mod_eq_of_lt hw10]
      rw [dg_1 hw10] at next hl
      refine ⟨by decide, ?_⟩
      exact r_writes hB H a (by omega) (by have : l.length + 1 ≤ 500 := hl; omega) next
    · have hs := dg_s (n := w) (by omega)
      have hlen : (dg w).length = (dg (w / 10)).length + 1 := by rw [hs, List.length_append]; rfl
      rw [if_neg (show ¬ nI w ≤ 9 from nI_ge (a := 9) (by omega) (by omega)), OS_isO hB (by omega) H, show (10 : Int32) = nI 10 from rfl, pk_rem (by omega) (by omega) (by omega), pk_div (by omega) (by omega) (by omega), show (48 : Int32) = nI 48 from rfl, nI_add]
      refine ⟨by decide, ?_⟩
      refine ih (w / 10) S F h l _ H a (by rw [Nat.pow_succ] at hw; omega) (by omega) (by omega) (fun S1 F1 h1 H1 a1 b1 => ?_)
      rw [OS_isO hB (by omega) H1]
      refine ⟨by decide, ?_⟩
      refine r_writes hB H1 a1 (by omega) (by rw [List.length_append]; omega) (fun S2 F2 h2 H2 a2 b2 => ?_)
      refine next S2 F2 h2 H2 ?_ (b1.trans b2)
      rw [hs, ← List.append_assoc]; exact a2
theorem r_wset {s : Nat} {post : PS → Prop} (hB : oB 10 S0 B) (H : RS S0 B F h S) (hr : rowV h 0 v) (h0 : v 0 ≤ 9) (hs2 : s < 2 ^ v 0) (a : lM F h l) (hl : l.length + 9 ≤ 500) (next : ∀ S1 F1 h1, RS S0 B F1 h1 S1 → lM F1 h1 (l ++ stL s 9) → lnk F h F1 h1 → post S1) : f_X8_writesSet S (B 0) (nI s) post := by
  have hs9 : s < 2 ^ 9 := Nat.lt_of_lt_of_le hs2 (Nat.pow_le_pow_right (by omega) h0)
  have key := loop_i (W := fun fuel k (s' : PS × (Nat → Int32) × (Nat → Nat → Int32)) => f_X8_writesSet_L2 post fuel s'.1 (B 0) (nI s) (nI k))
    (I := fun k s' => RS S0 B s'.2.1 s'.2.2 s'.1 ∧ lM s'.2.1 s'.2.2 (l ++ stL s k) ∧ lnk F h s'.2.1 s'.2.2) (v 0) (fun fu s' hI => ?_) (fun fu k s' hk hI ih => ?_) 4096 0 (S, F, h) (by omega) (by omega) ⟨H, by show lM F h (l ++ []); rw [List.append_nil]; exact a, lnk.refl⟩
  · exact key
  · obtain ⟨c1, c2, c3⟩ := hI
    have hR := RS_isR hB c1 (lnk_row c3 hr)
    show f_X8_writesSet_L2 post (fu + 1) s'.1 (B 0) (nI s) (nI (v 0))
    simp only [f_X8_writesSet_L2]
    rw [R0 hR, RA0 hR, if_pos (nI_le (Nat.le_refl _) (by omega))]
    refine next s'.1 s'.2.1 s'.2.2 c1 ?_ c3
    have := stL_cut hs2 (9 - v 0)
    rw [show v 0 + (9 - v 0) = 9 by omega] at this
    rw [this]; exact c2
  · obtain ⟨c1, c2, c3⟩ := hI
    have hR := RS_isR hB c1 (lnk_row c3 hr)
    show f_X8_writesSet_L2 post (fu + 1) s'.1 (B 0) (nI s) (nI k)
    simp only [f_X8_writesSet_L2, f_X8_writesSet_J28]
    have hst := stL_len s k
    have e1 : stL s (k + 1) = stL s k ++ (if s.testBit k = true then [48 + k] else []) := rfl
    rw [R0 hR, RA0 hR, if_neg (nI_ge hk (by omega)), r_holds (by omega) (by omega), nI_1]
    cases hb : s.testBit k with
    | false =>
      rw [if_neg (show ¬ false = true by decide), if_pos rfl]
      rw [hb, if_neg (show ¬ false = true by decide), List.append_nil] at e1
      exact ih s' ⟨c1, by rw [e1]; exact c2, c3⟩
    | true =>
      rw [if_pos rfl, if_neg (by decide), OS_isO hB (by omega) c1, show (48 : Int32) = nI 48 from rfl, nI_add]
      rw [hb, if_pos rfl] at e1
      refine r_writes hB c1 c2 (by omega) (by rw [List.length_append]; omega) (fun S2 F2 h2 H2 a2 b2 => ?_)
      refine ih (S2, F2, h2) ⟨H2, ?_, c3.trans b2⟩
      show lM F2 h2 (l ++ stL s (k + 1))
      rw [e1, ← List.append_assoc]; exact a2
theorem m_tell {post : Int32 → PS → Prop} (hB : oB 10 S0 B) (H : RS S0 B F h S) (hr : rowV h 0 v) (hv : okV v) (m : mX F h hs sv r tx fa ln) (next : ∀ S1 F1 h1, RS S0 B F1 h1 S1 → F1 0 = 0 → rowV h1 0 v → mX F1 h1 hs sv r tx fa (tlL v) → post (nI (tlL v).length) S1) : f_X8_tell S (B 0) post := by
  have h0 := hv.1
  have hp := prs36 (v 0) (by omega)
  have hbl : (bl v).length ≤ 36 := Nat.le_trans (List.length_filter_le _ _) hp
  unfold f_X8_tell
  refine OS_pV hB (by omega) H (f := 0) rfl (by show 0 < 25; decide) (fun S1 H1 => ?_)
  refine OS_pV hB (by omega) H1 (f := 24) rfl (by show 24 < 25; decide) (fun S2 H2 => ?_)
  obtain ⟨F2, hF2⟩ : ∃ F2, F2 = Fu (Fu F 0 0) 24 0 := ⟨_, rfl⟩
  rw [← hF2] at H2
  have l2 : lM F2 h [] := ⟨by rw [hF2]; rfl, fun i c hc => by cases hc⟩
  have m2 : mX F2 h hs sv r tx fa [] := by
    rw [hF2]
    exact mX_ln (mX_0 (x := 0) m) ⟨fun i hi => Fu_ne hi, fun _ _ => rfl⟩ (by rw [← hF2]; exact l2)
  have f0 : F2 0 = 0 := by rw [hF2]; rfl
  rw [OS_isO hB (by omega) H2, r_bondMany (RS_isR hB H2 hr) hv, bm_bl hv]
  have loop : ∀ (rest : List (Nat × Nat)) (k : Nat) (l : List Nat) (S3 : PS) (F3 : Nat → Int32) (h3 : Nat → Nat → Int32), (bl v).drop k = rest → k + rest.length = (bl v).length → rest.foldl (tlB v) l = tlL v → (l = [] ↔ k = 0) → l.length + 11 * rest.length ≤ 400 → RS S0 B F3 h3 S3 → lM F3 h3 l → lnk F2 h F3 h3 → ∀ fuel, rest.length < fuel → f_X8_tell_L17 post fuel S3 (B 0) (nI (bl v).length) (nI k) := by
    intro rest
    induction rest with
    | nil =>
      intro k l S3 F3 h3 hd hk hL hkl hlen H3 a3 b3 fuel hf
      obtain ⟨n, rfl⟩ : ∃ n, fuel = n + 1 := ⟨fuel - 1, by omega⟩
      have hk' : k + 0 = (bl v).length := hk
      have hL' : l = tlL v := hL
      simp only [f_X8_tell_L17, f_X8_tell_J88]
      rw [if_pos (nI_le (by omega) (by omega)), OS_gI hB (by omega) H3 (f := 24) (x := F3 24) rfl, a3.1]
      subst hL'
      exact next S3 F3 h3 H3 ((b3.1 0 (by decide)).trans f0) (lnk_row b3 hr) (mX_ln m2 b3 a3)
    | cons q rest ih =>
      intro k l S3 F3 h3 hd hk hL hkl hlen H3 a3 b3 fuel hf
      obtain ⟨n, rfl⟩ : ∃ n, fuel = n + 1 := ⟨fuel - 1, by omega⟩
      have hk' : k + (rest.length + 1) = (bl v).length := hk
      have hf' : rest.length + 1 < n + 1 := hf
      have hlen' : l.length + 11 * (rest.length + 1) ≤ 400 := hlen
      have hqk : (bl v)[k]? = some q := by
        have : ((bl v).drop k)[0]? = some q := by rw [hd]; rfl
        rw [List.getElem?_drop] at this
        exact this
      have hd2 : (bl v).drop (k + 1) = rest := by rw [← List.tail_drop, hd]; rfl
      have hmem := List.mem_filter.mp (List.mem_of_getElem? hqk)
      have hq9 := prs_mem (Nat.le_refl _) q hmem.1
      have hwp : 0 < wt v q.1 q.2 := of_decide_eq_true hmem.2
      have hq1 : q.1 < 9 := by omega
      have hq2 : q.2 < 9 := by omega
      have hw := hv.lt hq1 hq2
      have hdg := dg_le 7 (wt v q.1 q.2) (by omega) hw
      have hqB : tlB v l q = l ++ bdL v l q.1 q.2 := if_pos hwp
      have hBl := tlB_len hv (l := l) (q := q) hq1 hq2
      rw [List.foldl_cons] at hL
      rw [hqB] at hL hBl
      have hR3 := RS_isR hB H3 (lnk_row b3 hr)
      simp only [f_X8_tell_L17]
      rw [if_neg (nI_ge (by omega) (by omega)), OS_isO hB (by omega) H3, r_bondWith hR3 hv (nI_pos' (by omega)), kp_lk (by omega) (prs (v 0) (v 0)) 0 (Nat.zero_le _) (by omega), Nat.sub_zero, show (List.filter (bnd v) (prs (v 0) (v 0)))[k]? = some q from hqk]
      dsimp only
      have j38 : ∀ (S4 : PS) (F4 : Nat → Int32) (h4 : Nat → Nat → Int32) (l4 : List Nat), l4.length ≤ l.length + 1 → l ++ bdL v l q.1 q.2 = l4 ++ [48 + q.1] ++ [48 + q.2] ++ [61] ++ dg (wt v q.1 q.2) → RS S0 B F4 h4 S4 → lM F4 h4 l4 → lnk F2 h F4 h4 → f_X8_tell_J38 post (f_X8_tell_L17 post n) S4 (B 0) (nI (bl v).length) (nI k) (nI (10 * q.1 + q.2)) := fun S4 F4 h4 l4 hl4 he H4 a4 b4 => by
        unfold f_X8_tell_J38
        rw [show (10 : Int32) = nI 10 from rfl, pk_rem (by omega) (by omega) (by omega), pk_div (by omega) (by omega) (by omega), show (10 * q.1 + q.2) / 10 = q.1 by omega, show (10 * q.1 + q.2) % 10 = q.2 by omega, show (48 : Int32) = nI 48 from rfl, nI_add, nI_add, OS_isO hB (by omega) H4]
        refine ⟨by decide, ?_⟩
        refine r_writes hB H4 a4 (by omega) (by omega) (fun S5 F5 h5 H5 a5 b5 => ?_)
        rw [OS_isO hB (by omega) H5]
        have e5 : (l4 ++ [48 + q.1]).length = l4.length + 1 := by rw [List.length_append]; rfl
        refine ⟨by decide, ?_⟩
        refine r_writes hB H5 a5 (by omega) (by omega) (fun S6 F6 h6 H6 a6 b6 => ?_)
        rw [OS_isO hB (by omega) H6]
        have e6 : (l4 ++ [48 + q.1] ++ [48 + q.2]).length = l4.length + 2 := by rw [List.length_append, e5]; rfl
        show f_X8_writes S6 (B 0) (nI 61) _
        refine r_writes hB H6 a6 (by omega) (by omega) (fun S7 F7 h7 H7 a7 b7 => ?_)
        have e7 : (l4 ++ [48 + q.1] ++ [48 + q.2] ++ [61]).length = l4.length + 3 := by rw [List.length_append, e6]; rfl
        have b47 := ((b4.trans b5).trans b6).trans b7
        have hR7 := RS_isR hB H7 (lnk_row b47 hr)
        rw [OS_isO hB (by omega) H7]
        refine ⟨by decide, by decide, ?_⟩
        rw [r_w hR7 hq1 hq2, OS_isO hB (by omega) H7]
        refine r_wnum hB 11 (wt v q.1 q.2) S7 F7 h7 _ _ H7 a7 (by omega) (by omega) (by omega) (fun S8 F8 h8 H8 a8 b8 => ?_)
        rw [nI_1]
        rw [← he] at a8
        refine ih (k + 1) _ S8 F8 h8 hd2 (by omega) hL ⟨fun z => ?_, fun z => by omega⟩ (by omega) H8 a8 (b47.trans b8) n (by omega)
        rw [z] at he
        have := congrArg List.length he
        rw [List.length_append, e7] at this
        have e0 : ([] : List Nat).length = 0 := rfl
        omega
      by_cases e : k = 0
      · have hl0 : l = [] := hkl.mpr e
        rw [if_pos (by rw [e]; decide)]
        refine j38 S3 F3 h3 l (by omega) ?_ H3 a3 b3
        unfold bdL
        rw [if_pos hl0, List.nil_append]
        simp only [List.append_assoc]
      · have hl0 : ¬ l = [] := fun z => e (hkl.mp z)
        rw [if_neg (nI_nle (by omega) (by omega)), OS_isO hB (by omega) H3]
        show f_X8_writes S3 (B 0) (nI 32) _
        refine r_writes hB H3 a3 (by omega) (by omega) (fun S4 F4 h4 H4 a4 b4 => ?_)
        refine j38 S4 F4 h4 (l ++ [32]) (by rw [List.length_append]; exact Nat.le_refl _) ?_ H4 a4 (b3.trans b4)
        unfold bdL
        rw [if_neg hl0]
        simp only [List.append_assoc]
  exact loop (bl v) 0 [] S2 F2 h rfl (by omega) (bl_fold v (prs (v 0) (v 0)) []).symm ⟨fun _ => rfl, fun _ => rfl⟩ (by show 0 + _ ≤ 400; omega) H2 l2 lnk.refl 4096 (by omega)
theorem m_tellSides {post : Int32 → PS → Prop} (hB : oB 10 S0 B) (H : RS S0 B F h S) (hr : rowV h 0 v) (hv : okV v) (m : mX F h hs sv r tx fa ln) (next : ∀ S1 F1 h1, RS S0 B F1 h1 S1 → F1 0 = 0 → rowV h1 0 v → mX F1 h1 hs sv r tx fa (sdL v) → post (nI (sdL v).length) S1) : f_X8_tellSides S (B 0) post := by
  have h0 := hv.1
  unfold f_X8_tellSides
  refine OS_pV hB (by omega) H (f := 0) rfl (by show 0 < 25; decide) (fun S1 H1 => ?_)
  refine OS_pV hB (by omega) H1 (f := 24) rfl (by show 24 < 25; decide) (fun S2 H2 => ?_)
  obtain ⟨F2, hF2⟩ : ∃ F2, F2 = Fu (Fu F 0 0) 24 0 := ⟨_, rfl⟩
  rw [← hF2] at H2
  have l2 : lM F2 h [] := ⟨by rw [hF2]; rfl, fun i c hc => by cases hc⟩
  have m2 : mX F2 h hs sv r tx fa [] := by
    rw [hF2]
    exact mX_ln (mX_0 (x := 0) m) ⟨fun i hi => Fu_ne hi, fun _ _ => rfl⟩ (by rw [← hF2]; exact l2)
  have f0 : F2 0 = 0 := by rw [hF2]; rfl
  have hR := RS_isR hB H2 hr
  have hsd : sds v < 2 ^ v 0 := by
    refine b_lt_of (fun k hk => ?_)
    rcases Nat.lt_or_ge k 9 with q | q
    · unfold sds
      rw [mk9_tb hv.2.1 k, hv.2.2.1 k q hk, show decide ((0 : Nat) = 1) = false from rfl, Bool.and_false]
    · exact b_hi (sds_lt hv) q
  have hev : bn (ev v) (sds v) < 2 ^ v 0 := by
    have : bn (ev v) (sds v) ≤ ev v := Nat.and_le_left
    have h2 := Nat.pow_pos (n := v 0) (show 0 < 2 by omega)
    unfold ev at this ⊢
    omega
  rw [OS_isO hB (by omega) H2, r_every hR hv, OS_isO hB (by omega) H2, r_sideSet hR hv, OS_isO hB (by omega) H2, b_bn]
  obtain ⟨u, hu⟩ : ∃ u, u = bn (ev v) (sds v) := ⟨_, rfl⟩
  unfold sdL at next
  rw [← hu] at next hev ⊢
  refine r_wset (l := []) (v := v) hB H2 hr h0 hev l2 (by decide) (fun S3 F3 h3 H3 a3 b3 => ?_)
  rw [List.nil_append] at a3
  have l3 := stL_len u 9
  rw [OS_isO hB (by omega) H3]
  show f_X8_writes S3 (B 0) (nI 124) _
  refine r_writes hB H3 a3 (by omega) (by omega) (fun S4 F4 h4 H4 a4 b4 => ?_)
  have b24 := b3.trans b4
  have hr4 := lnk_row b24 hr
  rw [OS_isO hB (by omega) H4, r_sideSet (RS_isR hB H4 hr4) hv, OS_isO hB (by omega) H4]
  have l4 : (stL u 9 ++ [124]).length = (stL u 9).length + 1 := by rw [List.length_append]; rfl
  refine r_wset hB H4 hr4 h0 hsd a4 (by omega) (fun S5 F5 h5 H5 a5 b5 => ?_)
  have b25 := b24.trans b5
  rw [OS_gI hB (by omega) H5 (f := 24) (x := F5 24) rfl, a5.1]
  exact next S5 F5 h5 H5 ((b25.1 0 (by decide)).trans f0) (lnk_row b25 hr) (mX_ln m2 b25 a5)
theorem inP_in {x : Int32} (h0 : v 0 ≤ 9) : (¬ x < 0 ∧ ¬ nI (v 0) - 2 < x) ↔ inP v x = true := by
  unfold inP
  rw [Bool.and_eq_true, decide_eq_true_eq, decide_eq_true_eq]
  have h2 : ∀ n, n < 10 → (nI n - 2).toInt = (n : Int) - 2 := by decide
  have h3 := h2 (v 0) (by omega)
  constructor
  · rintro ⟨z1, z2⟩
    refine ⟨z1, fun z3 => z2 ?_⟩
    rw [Int32.lt_iff_toInt_lt] at z1 ⊢
    rw [Int32.le_iff_toInt_le, nI_toInt (by omega)] at z3
    rw [h3]
    have : (0 : Int32).toInt = 0 := rfl
    omega
  · rintro ⟨z1, z2⟩
    refine ⟨z1, fun z3 => z2 ?_⟩
    rw [Int32.lt_iff_toInt_lt, h3] at z3
    rw [Int32.lt_iff_toInt_lt] at z1
    rw [Int32.le_iff_toInt_le, nI_toInt (by omega)]
    have : (0 : Int32).toInt = 0 := rfl
    omega
theorem r_isPhase {x : Int32} {post : Int32 → PS → Prop} (hB : oB 10 S0 B) (H : RS S0 B F h S) (hr : rowV h 0 v) (h0 : v 0 ≤ 9) : f_X8_isPhase S (B 0) x post = post (if inP v x = true then 1 else 0) S := by
  have hR := RS_isR hB H hr
  unfold f_X8_isPhase
  rw [R0 hR, RA0 hR, r_inG]
  cases hx : inP v x with
  | true => rw [if_pos ((inP_in h0).mpr hx), nZ1, if_pos rfl]
  | false => rw [if_neg (fun z => by rw [(inP_in h0).mp z] at hx; cases hx), nZ0, if_neg (by decide)]
theorem mX_laid {F1 : Nat → Int32} {h1 : Nat → Nat → Int32} (m : mX F h hs sv r tx fa ln) (d : laid v F h F1 h1) : mX F1 h1 hs sv r tx fa ln :=
  mX_ext m ⟨d.1 2 (by decide) (by decide), d.1 3 (by decide) (by decide), d.1 5 (by decide) (by decide), d.1 6 (by decide) (by decide), d.1 7 (by decide) (by decide), d.1 8 (by decide) (by decide), d.1 17 (by decide) (by decide), d.1 20 (by decide) (by decide), d.1 24 (by decide) (by decide)⟩ (d.2.1 7 (by decide) (by decide) (by decide) (by decide)) (d.2.1 9 (by decide) (by decide) (by decide) (by decide)) (fun x _ _ => by rw [d.2.1 1 (by decide) (by decide) (by decide) (by decide)])
theorem laid_row {F1 : Nat → Int32} {h1 : Nat → Nat → Int32} (hr : rowV h 0 v) (d : laid v F h F1 h1) : rowV h1 0 v := fun k hk => by rw [d.2.1 1 (by decide) (by decide) (by decide) (by decide)]; exact hr k hk
theorem gr_in (hv : okV v) {p q : Nat} (hp : p < v 0) (hq : q < v 0 - p) : gr v p q < 2 ^ v 0 := by
  have h := phs_prt hv (p := p) hp
  exact (h.1 _ (sq_spec h hq).2.1).2
theorem m_tellPhase {x : Int32} {post : Int32 → PS → Prop} (hB : oB 10 S0 B) (H : RS S0 B F h S) (hr : rowV h 0 v) (hv : okV v) (m : mX F h hs sv r tx fa ln) (no : inP v x = false → ∀ S1 F1 h1, RS S0 B F1 h1 S1 → F1 0 = 1 → rowV h1 0 v → mX F1 h1 hs sv r tx fa ln → post 0 S1) (next : inP v x = true → ∀ S1 F1 h1, RS S0 B F1 h1 S1 → F1 0 = 0 → rowV h1 0 v → mX F1 h1 hs sv r tx fa (phL v (ix x)) → post (nI (phL v (ix x)).length) S1) : f_X8_tellPhase S (B 0) x post := by
  have h0 := hv.1
  unfold f_X8_tellPhase
  rw [OS_isO hB (by omega) H, r_isPhase hB H hr h0, OS_isO hB (by omega) H]
  cases hx : inP v x with
  | false =>
    rw [if_neg (show ¬ false = true by decide)]
    refine r_isThere0 hB H (fun S1 H1 => ?_)
    rw [if_pos rfl]
    exact no hx S1 _ h H1 Fu_at hr (mX_0 m)
  | true =>
    obtain ⟨p1, p2⟩ := inP_of h0 hx
    obtain ⟨p, hp⟩ : ∃ p, p = ix x := ⟨_, rfl⟩
    have next := next hx
    rw [← hp] at p1 p2 next
    rw [if_pos rfl]
    refine r_isThere1 hB H (fun S1 H1 => ?_)
    rw [if_neg (by decide), OS_isO hB (by omega) H1]
    refine r_lays hB H1 hr hv (fun S2 F2 h2 H2 d2 => ?_)
    have f0 : F2 0 = 0 := (d2.1 0 (by decide) (by decide)).trans Fu_at
    have hr2 := laid_row hr d2
    have m2 := mX_laid (mX_0 (x := 0) m) d2
    refine OS_pV hB (by omega) H2 (f := 24) rfl (by show 24 < 25; decide) (fun S3 H3 => ?_)
    have l3 : lM (Fu F2 24 0) h2 [] := ⟨rfl, fun i c hc => by cases hc⟩
    have b3 : lnk F2 h2 (Fu F2 24 0) h2 := ⟨fun i hi => Fu_ne hi, fun _ _ => rfl⟩
    rw [p2]
    have loop : ∀ (d q fuel : Nat) (S4 : PS) (F4 : Nat → Int32) (h4 : Nat → Nat → Int32), q + d = v 0 - p → d < fuel → RS S0 B F4 h4 S4 → lM F4 h4 (phG v p q) → lnk F2 h2 F4 h4 → f_X8_tellPhase_L25 post fuel S4 (B 0) (nI p) (nI q) := by
      intro d
      induction d with
      | zero =>
        intro q fuel S4 F4 h4 hq hf H4 a4 b4
        obtain ⟨n, rfl⟩ : ∃ n, fuel = n + 1 := ⟨fuel - 1, by omega⟩
        have hR4 := RS_isR hB H4 (lnk_row b4 hr2)
        have hlen := phG_len v p q
        simp only [f_X8_tellPhase_L25, f_X8_tellPhase_J68]
        rw [R0 hR4, RA0 hR4, pk_sub (by omega), if_pos (nI_le (by omega) (by omega)), OS_isO hB (by omega) H4]
        show f_X8_writes S4 (B 0) (nI 61) _
        refine r_writes hB H4 a4 (by omega) (by omega) (fun S5 F5 h5 H5 a5 b5 => ?_)
        have b25 := b4.trans b5
        have hcut := cut_lt hv (p := p)
        have hd := dg_le 7 (cut v p) (by omega) hcut
        have e5 : (phG v p q ++ [61]).length = (phG v p q).length + 1 := by rw [List.length_append]; rfl
        have c5 : h5 4 p = nI (cut v p) := by rw [b25.2 4 (by decide)]; exact d2.2.2.2.1 p p1
        rw [OS_gR hB (by omega) H5 (k := 4) (f := 11) rfl, OS_aI hB H5 (k := 4) (by omega) (show p < rrl 4 from (show p < 9 by omega)) (by decide), OS_isO hB (by omega) H5, c5]
        refine r_wnum hB 11 (cut v p) S5 F5 h5 _ _ H5 a5 (by omega) (by omega) (by omega) (fun S6 F6 h6 H6 a6 b6 => ?_)
        have b26 := b25.trans b6
        rw [OS_gI hB (by omega) H6 (f := 24) (x := F6 24) rfl, a6.1]
        have hqq : q = v 0 - p := by omega
        subst hqq
        exact next S6 F6 h6 H6 ((b26.1 0 (by decide)).trans f0) (lnk_row b26 hr2) (mX_ln m2 b26 a6)
      | succ d ih =>
        intro q fuel S4 F4 h4 hq hf H4 a4 b4
        obtain ⟨n, rfl⟩ : ∃ n, fuel = n + 1 := ⟨fuel - 1, by omega⟩
        have hR4 := RS_isR hB H4 (lnk_row b4 hr2)
        have hlen := phG_len v p q
        have hgr := gr_in hv (p := p) (q := q) (by omega) (by omega)
        simp only [f_X8_tellPhase_L25]
        rw [R0 hR4, RA0 hR4, pk_sub (by omega), if_neg (nI_ge (by omega) (by omega))]
        have rest : ∀ (S5 : PS) (F5 : Nat → Int32) (h5 : Nat → Nat → Int32) (l5 : List Nat), l5.length ≤ 10 * q + 1 → phG v p (q + 1) = l5 ++ stL (gr v p q) 9 → RS S0 B F5 h5 S5 → lM F5 h5 l5 → lnk F2 h2 F5 h5 → f_X8_tellPhase_J47 post (f_X8_tellPhase_L25 post n) S5 (B 0) (nI p) (nI q) := fun S5 F5 h5 l5 hl5 he H5 a5 b5 => by
          unfold f_X8_tellPhase_J47
          have c5 : h5 2 (9 * p + q) = nI (gr v p q) := by rw [b5.2 2 (by decide)]; exact (d2.2.2.1 p q p1 (by omega)).1
          rw [OS_gR hB (by omega) H5 (k := 2) (f := 9) rfl, show (9 : Int32) = nI 9 from rfl, pk_mul, nI_add, OS_aI hB H5 (k := 2) (by omega) (show 9 * p + q < rrl 2 from (show 9 * p + q < 81 by omega)) (by decide), OS_isO hB (by omega) H5, c5]
          refine r_wset hB H5 (lnk_row b5 hr2) h0 hgr a5 (by omega) (fun S6 F6 h6 H6 a6 b6 => ?_)
          rw [nI_1]
          rw [← he] at a6
          exact ih (q + 1) n S6 F6 h6 (by omega) (by omega) H6 a6 (b5.trans b6)
        by_cases e0 : q = 0
        · subst e0
          rw [if_pos (show nI 0 ≤ 0 by decide)]
          exact rest S4 F4 h4 [] (Nat.zero_le _) rfl H4 a4 b4
        · rw [if_neg (nI_nle (by omega) (by omega)), OS_isO hB (by omega) H4]
          show f_X8_writes S4 (B 0) (nI 60) _
          refine r_writes hB H4 a4 (by omega) (by omega) (fun S5 F5 h5 H5 a5 b5 => ?_)
          refine rest S5 F5 h5 (phG v p q ++ [60]) (by rw [List.length_append]; show _ + 1 ≤ _; omega) ?_ H5 a5 (b4.trans b5)
          show phG v p q ++ ((if q = 0 then [] else [60]) ++ stL (gr v p q) 9) = _
          rw [if_neg e0, List.append_assoc]
    exact loop (v 0 - p) 0 4096 S3 _ h2 (by omega) (by omega) H3 l3 b3
theorem m_character {x : Int32} {post : Int32 → PS → Prop} (hB : oB 10 S0 B) (H : RS S0 B F h S) (hr : rowV h 0 v) (m : mX F h hs sv r tx fa ln) (hl : ln.length ≤ 500) (hb : ∀ (i c : Nat), ln[i]? = some c → c < 128) (no : (∀ i, x = nI i → i < ln.length → False) → ∀ S1 F1 h1, RS S0 B F1 h1 S1 → F1 0 = 1 → rowV h1 0 v → mX F1 h1 hs sv r tx fa ln → post 0 S1) (next : ∀ i c, x = nI i → ln[i]? = some c → c < 128 → ∀ S1 F1 h1, RS S0 B F1 h1 S1 → F1 0 = 0 → rowV h1 0 v → mX F1 h1 hs sv r tx fa ln → post (nI c) S1) : f_X8_character S (B 0) x post := by
  obtain ⟨g1, g2⟩ := m.2.2.2.2.2
  unfold f_X8_character
  rw [OS_gI hB (by omega) H (f := 24) (x := F 24) rfl, g1, r_inG, OS_isO hB (by omega) H]
  have hc : (¬ x < 0 ∧ ¬ nI ln.length - 1 < x) ↔ ∃ i, x = nI i ∧ i < ln.length := by
    rcases Nat.eq_zero_or_pos ln.length with e | e
    · rw [e]
      constructor
      · rintro ⟨z1, z2⟩
        rcases pk_ix x (n := 0) (by omega) with q | q | ⟨i, hi, -⟩
        · exact absurd q z1
        · exact absurd (Int32.lt_of_lt_of_le (show nI 0 - 1 < nI 0 by decide) q) z2
        · omega
      · rintro ⟨i, -, hi⟩; omega
    · obtain ⟨k, hk⟩ : ∃ k, ln.length = k + 1 := ⟨ln.length - 1, by omega⟩
      rw [hk, nI_pred]
      constructor
      · rintro ⟨z1, z2⟩
        rcases pk_ix x (n := k + 1) (by omega) with q | q | ⟨i, hi, hx⟩
        · exact absurd q z1
        · exact absurd (Int32.lt_of_lt_of_le (nI_lt (Nat.lt_succ_self k) (by omega)) q) z2
        · exact ⟨i, hx, hi⟩
      · rintro ⟨i, rfl, hi⟩
        exact ⟨nI_pos (by omega), nI_nlt (by omega) (by omega)⟩
  by_cases e : ∃ i, x = nI i ∧ i < ln.length
  · rw [if_pos (hc.mpr e)]
    obtain ⟨i, rfl, hi⟩ := e
    obtain ⟨c, hcc⟩ : ∃ c, ln[i]? = some c := ⟨_, List.getElem?_eq_getElem hi⟩
    refine r_isThere1 hB H (fun S1 H1 => ?_)
    rw [if_neg (by decide), OS_gR hB (by omega) H1 (k := 9) (f := 23) rfl, OS_aI hB H1 (k := 9) (by omega) (show i < rrl 9 from (show i < 500 by omega)) (by decide), g2 i c hcc, nZc (by have := hb i c hcc; omega)]
    exact next i c rfl hcc (hb i c hcc) S1 _ h H1 Fu_at hr (mX_0 m)
  · rw [if_neg (fun z => e (hc.mp z))]
    refine r_isThere0 hB H (fun S1 H1 => ?_)
    rw [if_pos rfl]
    show nZ .char (nI 0) _
    rw [nZc (by decide)]
    exact no (fun i h1 h2 => e ⟨i, h1, h2⟩) S1 _ h H1 Fu_at hr (mX_0 m)
end MLN
