/-! lines, as the reference writes them -/
def psl (g : Nat → Nat → Nat) : List (Nat × Nat) → Nat
  | [] => 0
  | q :: l => g q.1 q.2 + psl g l
theorem psl_app (g : Nat → Nat → Nat) : ∀ (a b : List (Nat × Nat)), psl g (a ++ b) = psl g a + psl g b
  | [], b => by show psl g b = 0 + psl g b; omega
  | q :: a, b => by
    show g q.1 q.2 + psl g (a ++ b) = g q.1 q.2 + psl g a + psl g b
    rw [psl_app g a b]; omega
theorem psl_pr (g : Nat → Nat → Nat) (n : Nat) : pr n g = psl g (prs n n) := by
  have row : ∀ (i d : Nat), i + (d + 1) ≤ n → sm (fun j => if i < j then g i j else 0) (n - d) + psl g (rowp n i d) = sm (fun j => if i < j then g i j else 0) n := by
    intro i d
    induction d with
    | zero => intro _; rfl
    | succ d ih =>
      intro h
      rw [← ih (by omega), show n - d = n - (d + 1) + 1 by omega]
      show sm _ (n - (d + 1)) + (g i (n - (d + 1)) + psl g (rowp n i d)) = sm _ (n - (d + 1)) + (if i < n - (d + 1) then g i (n - (d + 1)) else 0) + psl g (rowp n i d)
      rw [if_pos (by omega)]; omega
  have all : ∀ (d : Nat), d ≤ n → sm (fun i => sm (fun j => if i < j then g i j else 0) n) (n - d) + psl g (prs n d) = pr n g := by
    intro d
    induction d with
    | zero => intro _; rfl
    | succ d ih =>
      intro h
      rw [← ih (by omega), show n - d = n - (d + 1) + 1 by omega]
      show sm _ (n - (d + 1)) + psl g (rowp n (n - (d + 1)) d ++ prs n d) = sm _ (n - (d + 1)) + sm (fun j => if n - (d + 1) < j then g (n - (d + 1)) j else 0) n + psl g (prs n d)
      have h1 := row (n - (d + 1)) d (by omega)
      rw [sm_zero (n := n - d) (fun k hk => if_neg (show ¬ n - (d + 1) < k by omega))] at h1
      rw [psl_app, ← h1]; omega
  have := all n (Nat.le_refl _)
  rw [Nat.sub_self] at this
  rw [← this]
  exact Nat.zero_add _
/-- the bonds in their order -/
def bnd (v : Vt) (q : Nat × Nat) : Bool := decide (0 < wt v q.1 q.2)
def bl (v : Vt) : List (Nat × Nat) := (prs (v 0) (v 0)).filter (bnd v)
theorem psl_len (v : Vt) : ∀ l : List (Nat × Nat), psl (fun i j => if 0 < wt v i j then 1 else 0) l = (l.filter (bnd v)).length
  | [] => rfl
  | q :: l => by
    show (if 0 < wt v q.1 q.2 then 1 else 0) + psl _ l = _
    rw [psl_len v l]
    by_cases e : 0 < wt v q.1 q.2
    · rw [if_pos e, List.filter_cons_of_pos (by unfold bnd; exact decide_eq_true e), List.length_cons]; omega
    · rw [if_neg e, List.filter_cons_of_neg (by unfold bnd; rw [decide_eq_false e]; decide)]; omega
theorem bm_bl {v : Vt} (hv : okV v) : bm v = (bl v).length := by
  have h0 := hv.1
  have h1 : sm (bo v) (v 0) = dbl (fun i j => if 0 < wt v i j then 1 else 0) (v 0) := rfl
  have h2 := pr_dbl (x := fun i j => if 0 < wt v i j then 1 else 0) (n := v 0) (fun i hi => by
    show (if 0 < wt v i i then 1 else 0) = 0
    rw [hv.2.2.2.2.1 i (by omega)]; rfl) (fun i j hi hj => by
    show (if 0 < wt v i j then 1 else 0) = (if 0 < wt v j i then 1 else 0)
    rw [hv.2.2.2.1 i j (by omega) (by omega)])
  unfold bm bl
  rw [h1, h2, psl_pr, psl_len]
  omega
theorem bl_fold (v : Vt) : ∀ (l : List (Nat × Nat)) (s : List Nat), l.foldl (tlB v) s = (l.filter (bnd v)).foldl (tlB v) s
  | [], _ => rfl
  | q :: l, s => by
    rw [List.foldl_cons]
    by_cases e : 0 < wt v q.1 q.2
    · rw [List.filter_cons_of_pos (by unfold bnd; exact decide_eq_true e), List.foldl_cons]
      exact bl_fold v l _
    · rw [List.filter_cons_of_neg (by unfold bnd; rw [decide_eq_false e]; decide)]
      have : tlB v s q = s := if_neg e
      rw [this]
      exact bl_fold v l s
theorem kp_lk {v : Vt} {c : Nat} {post : Int32 → PS → Prop} {S : PS} {E : Nat → Prop} (hc : c < 2 ^ 31) : ∀ (l : List (Nat × Nat)) (c0 : Nat), c0 ≤ c → c0 + l.length < 1000 → kp (lkB v (nI c) post S) E l c0 = (match (l.filter (bnd v))[c - c0]? with | some q => post (nI (10 * q.1 + q.2)) S | none => E (c0 + (l.filter (bnd v)).length))
  | [], c0, h, h2 => by
    show E c0 = _
    simp only [List.filter_nil, List.getElem?_nil, List.length_nil, Nat.add_zero]
  | q :: l, c0, h, h2 => by
    rw [List.length_cons] at h2
    show (if 0 < wt v q.1 q.2 then (if nI c0 = nI c then post (nI (10 * q.1 + q.2)) S else kp (lkB v (nI c) post S) E l (c0 + 1)) else kp (lkB v (nI c) post S) E l c0) = _
    by_cases e : 0 < wt v q.1 q.2
    · rw [if_pos e, List.filter_cons_of_pos (by unfold bnd; exact decide_eq_true e)]
      by_cases e2 : c0 = c
      · rw [if_pos (by rw [e2]), e2, Nat.sub_self]
        rfl
      · rw [if_neg (fun z => e2 ((nI_eq (by omega) (by omega)).mp z)), kp_lk hc l (c0 + 1) (by omega) (by omega), show c - c0 = c - (c0 + 1) + 1 by omega, List.getElem?_cons_succ, List.length_cons, show c0 + 1 + (l.filter (bnd v)).length = c0 + ((l.filter (bnd v)).length + 1) by omega]
    · rw [if_neg e, List.filter_cons_of_neg (by unfold bnd; rw [decide_eq_false e]; decide)]
      exact kp_lk hc l c0 h (by omega)
theorem prs36 : ∀ n, n < 10 → (prs n n).length ≤ 36 := by decide
def lM (F : Nat → Int32) (h : Nat → Nat → Int32) (l : List Nat) : Prop := F 24 = nI l.length ∧ ∀ (i c : Nat), l[i]? = some c → h 9 i = nI c
def lnk (F : Nat → Int32) (h : Nat → Nat → Int32) (F1 : Nat → Int32) (h1 : Nat → Nat → Int32) : Prop := (∀ i, i ≠ 24 → F1 i = F i) ∧ ∀ k, k ≠ 9 → h1 k = h k
theorem lnk.refl {F : Nat → Int32} {h : Nat → Nat → Int32} : lnk F h F h := ⟨fun _ _ => rfl, fun _ _ => rfl⟩
theorem lnk.trans {F F1 F2 : Nat → Int32} {h h1 h2 : Nat → Nat → Int32} (a : lnk F h F1 h1) (b : lnk F1 h1 F2 h2) : lnk F h F2 h2 := ⟨fun i hi => (b.1 i hi).trans (a.1 i hi), fun k hk => (b.2 k hk).trans (a.2 k hk)⟩
theorem lnk_row {F F1 : Nat → Int32} {h h1 : Nat → Nat → Int32} {n : Nat} {v : Vt} (a : lnk F h F1 h1) (hr : rowV h n v) : rowV h1 n v := fun k hk => by rw [a.2 1 (by decide)]; exact hr k hk
theorem mX_ln {F F1 : Nat → Int32} {h h1 : Nat → Nat → Int32} {hs : List Vt} {sv : Option Vt} {r : Nat → Int32} {tx : List Nat} {fa : Int32} {ln l : List Nat} (m : mX F h hs sv r tx fa ln) (a : lnk F h F1 h1) (b : lM F1 h1 l) : mX F1 h1 hs sv r tx fa l := by
  obtain ⟨a1, a2, a3, a4, a5, -⟩ := m
  refine ⟨⟨(a.1 2 (by decide)).trans a1.1, a1.2.1, fun i w hw => lnk_row a (a1.2.2 i w hw)⟩, ?_, ⟨(a.1 5 (by decide)).trans a3.1, (a.1 6 (by decide)).trans a3.2.1, (a.1 7 (by decide)).trans a3.2.2.1, fun z => (a.1 8 (by decide)).trans (a3.2.2.2 z)⟩, ⟨(a.1 17 (by decide)).trans a4.1, by rw [a.2 7 (by decide)]; exact a4.2⟩, (a.1 20 (by decide)).trans a5, b⟩
  rcases a2 with ⟨b1, b2⟩ | ⟨w, b1, b2, b3⟩
  · exact Or.inl ⟨b1, (a.1 3 (by decide)).trans b2⟩
  · exact Or.inr ⟨w, b1, (a.1 3 (by decide)).trans b2, lnk_row a b3⟩
section MLN
variable {S0 S : PS} {B : Nat → Nat} {F : Nat → Int32} {h : Nat → Nat → Int32} {v : Vt} {hs : List Vt} {sv : Option Vt} {r : Nat → Int32} {tx : List Nat} {fa : Int32} {ln l : List Nat}
theorem inP_in {x : Int32} (h0 : v 0 ≤ 9) : (¬ x < 0 ∧ ¬ nI (v 0) - 2 < x) ↔ inP v x = true := by
  unfold inP
  rw [Bool.and_eq_true, decide_eq_true_eq, decide_eq_true_eq]
  have h2 : ∀ n, n < 10 → (nI n - 2).toInt = (n : Int) - 2 := by decide
  have h3 := h2 (v 0) (by omega)
  constructor
  · rintro ⟨z1, z2⟩
    refine ⟨z1, fun z3 => z2 ?_⟩
    rw [Int32.lt_iff_toInt_lt] at z1 ⊢
    rw [Int32.le_iff_toInt_le, nI_toInt (by omega)] at z3
    rw [h3]
    have : (0 : Int32).toInt = 0 := rfl
    omega
  · rintro ⟨z1, z2⟩
    refine ⟨z1, fun z3 => z2 ?_⟩
    rw [Int32.lt_iff_toInt_lt, h3] at z3
    rw [Int32.lt_iff_toInt_lt] at z1
    rw [Int32.le_iff_toInt_le, nI_toInt (by omega)]
    have : (0 : Int32).toInt = 0 := rfl
    omega
theorem mX_laid {F1 : Nat → Int32} {h1 : Nat → Nat → Int32} (m : mX F h hs sv r tx fa ln) (d : laid v F h F1 h1) : mX F1 h1 hs sv r tx fa ln :=
  mX_ext m ⟨d.1 2 (by decide) (by decide), d.1 3 (by decide) (by decide), d.1 5 (by decide) (by decide), d.1 6 (by decide) (by decide), d.1 7 (by decide) (by decide), d.1 8 (by decide) (by decide), d.1 17 (by decide) (by decide), d.1 20 (by decide) (by decide), d.1 24 (by decide) (by decide)⟩ (d.2.1 7 (by decide) (by decide) (by decide) (by decide)) (d.2.1 9 (by decide) (by decide) (by decide) (by decide)) (fun x _ _ => by rw [d.2.1 1 (by decide) (by decide) (by decide) (by decide)])
theorem laid_row {F1 : Nat → Int32} {h1 : Nat → Nat → Int32} (hr : rowV h 0 v) (d : laid v F h F1 h1) : rowV h1 0 v := fun k hk => by rw [d.2.1 1 (by decide) (by decide) (by decide) (by decide)]; exact hr k hk
theorem gr_in (hv : okV v) {p q : Nat} (hp : p < v 0) (hq : q < v 0 - p) : gr v p q < 2 ^ v 0 := by
  have h := phs_prt hv (p := p) hp
  exact (h.1 _ (sq_spec h hq).2.1).2
end MLN

