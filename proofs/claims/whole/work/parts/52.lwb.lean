/-! the law: class and reference side by side -/
def MI (S : PS) (ow : Ow) (A : Nat → Nat) (v : Vt) (hs : List Vt) (sv : Option Vt) (r : Nat → Int32) (tx : List Nat) (fa : Int32) (ln : List Nat) : Prop := ∃ B F h, B 0 = A 15 ∧ Po 10 12 rfs rrk rrl S ow 15 B F h ∧ rowV h 0 v ∧ mX F h hs sv r tx fa ln
def oL (S : PS) (ow : Ow) (A : Nat → Nat) (f : Nat → Int64) : Prop := A 13 ∈ S.1 ∧ ow (A 13) = 13 ∧ S.2 (A 13) = .inl (4, 1, .inr (.inl f))
def oDb (S : PS) (ow : Ow) (A : Nat → Nat) (f : Nat → UInt64) : Prop := A 14 ∈ S.1 ∧ ow (A 14) = 14 ∧ S.2 (A 14) = .inl (5, 1, .inr (.inr (.inr (.inl f))))
def LIv (S : PS) (ow : Ow) (A : Nat → Nat) (v : Vt) (hs : List Vt) (sv : Option Vt) (r : Nat → Int32) (tx : List Nat) (fa : Int32) (ln : List Nat) : Prop := CI S ow A v hs sv r tx fa ln ∧ MI S ow A v hs sv r tx fa ln ∧ (∃ f, oL S ow A f) ∧ ∃ f, oDb S ow A f
def LB (i : Nat) (v : Vt) (hs : List Vt) (sv : Option Vt) (tx ln : List Nat) : Prop := (okV v ∧ tot v ≤ 3000 * i) ∧ (∀ w, w ∈ hs → okV w ∧ tot w ≤ 3000 * i) ∧ (∀ w, sv = some w → okV w ∧ tot w ≤ 3000 * i) ∧ tx.length ≤ 60 ∧ ln.length ≤ 500
theorem LB_up {i : Nat} {v : Vt} {hs : List Vt} {sv : Option Vt} {tx ln : List Nat} (b : LB i v hs sv tx ln) : LB (i + 1) v hs sv tx ln := by
  obtain ⟨⟨a1, a2⟩, b1, c1, d1, e1⟩ := b
  exact ⟨⟨a1, by omega⟩, fun w hw => ⟨(b1 w hw).1, by have := (b1 w hw).2; omega⟩, fun w hw => ⟨(c1 w hw).1, by have := (c1 w hw).2; omega⟩, d1, e1⟩
theorem MI_fr {S S1 : PS} {ow ow1 : Ow} {A : Nat → Nat} {v : Vt} {hs : List Vt} {sv : Option Vt} {r : Nat → Int32} {tx : List Nat} {fa : Int32} {ln : List Nat} {C : List Nat} (h : MI S ow A v hs sv r tx fa ln) (hk : keeps C S ow S1 ow1) (hc : 15 ∉ C) : MI S1 ow1 A v hs sv r tx fa ln := by
  obtain ⟨B, F, g, e, hP, hr, m⟩ := h
  exact ⟨B, F, g, e, Po_fr (by omega) hP hk hc, hr, m⟩
theorem oL_fr {S S1 : PS} {ow ow1 : Ow} {A : Nat → Nat} {f : Nat → Int64} {C : List Nat} (h : oL S ow A f) (hk : keeps C S ow S1 ow1) (hc : 13 ∉ C) : oL S1 ow1 A f := by
  obtain ⟨h1, h2, h3⟩ := h
  obtain ⟨a1, a2, a3⟩ := hk _ h1
  exact ⟨a1, a2.trans h2, by rw [a3 (by rw [h2]; exact hc)]; exact h3⟩
theorem oD_fr {S S1 : PS} {ow ow1 : Ow} {A : Nat → Nat} {f : Nat → UInt64} {C : List Nat} (h : oDb S ow A f) (hk : keeps C S ow S1 ow1) (hc : 14 ∉ C) : oDb S1 ow1 A f := by
  obtain ⟨h1, h2, h3⟩ := h
  obtain ⟨a1, a2, a3⟩ := hk _ h1
  exact ⟨a1, a2.trans h2, by rw [a3 (by rw [h2]; exact hc)]; exact h3⟩
theorem CC_n (c : Nat) (h : c = 13 ∨ c = 14 ∨ c = 15) : c ∉ CC := by rcases h with rfl | rfl | rfl <;> decide
theorem CC_o {C : List Nat} (h : ∀ c, c ∈ C → c = 13 ∨ c = 14 ∨ c = 15) : ∀ c, c ∈ CC → c ∉ C := fun c h1 h2 => CC_n c (h c h2) h1
section LW
variable {S : PS} {ow : Ow} {A : Nat → Nat} {v v' : Vt} {hs hs' : List Vt} {sv sv' : Option Vt} {r r' : Nat → Int32} {tx tx' : List Nat} {fa fa' : Int32} {ln ln' : List Nat} {o : Nat × Int32}
/-- the class's call through its helper -/
theorem hl_g {fC : Nat → Nat → (Int32 → PS → Prop) → (String → PS → Prop) → Prop} {EX : String → PS → Prop} {E : Nat → String} {post : Int32 → PS → Prop} (hL : LIv S ow A v hs sv r tx fa ln)
    (hC : ∀ post postX, (∀ S1 ow1, CI S1 ow1 A v' hs' sv' r' tx' fa' ln' → keeps CC S ow S1 ow1 → rs E o post postX S1) → fC 70 2100 post postX)
    (hEX : ∀ S4, o.1 ≠ 0 → post (nI o.1) S4 → EX (E o.1) S4)
    (next : ∀ S1 ow1 f, CI S1 ow1 A v' hs' sv' r' tx' fa' ln' → MI S1 ow1 A v hs sv r tx fa ln → oL S1 ow1 A f → (o.1 = 0 → f 0 = o.2.toInt64) → (∃ f, oDb S1 ow1 A f) → post (nI o.1) S1) :
    isO S (A 12) 11 (∃ mc2 ms2 : Nat, mc2 ≤ 70 ∧ ms2 ≤ 2100 ∧ fC mc2 ms2 (fun v3 S1 => sL S1 (A 13) 0 v3.toInt64 fun S5 => post 0 S5) EX) := by
  obtain ⟨hc, hm, ⟨f, hf⟩, ⟨g, hg⟩⟩ := hL
  rw [G_O hc]
  refine ⟨70, 2100, Nat.le_refl _, Nat.le_refl _, hC _ _ (fun S1 ow1 c1 k1 => ?_)⟩
  have m1 := MI_fr hm k1 (CC_n 15 (by omega))
  have f1 := oL_fr hf k1 (CC_n 13 (by omega))
  have g1 := oD_fr hg k1 (CC_n 14 (by omega))
  obtain ⟨n, x⟩ := o
  cases n with
  | zero =>
    obtain ⟨p1, p2, p3⟩ := f1
    refine ⟨p1, 1, f, p3, by show vp_in (nI 0) 1; exact vp_in_nI (by omega) (by omega), ?_⟩
    obtain ⟨S5, e5⟩ : ∃ S5, S5 = p_set S1 (A 13) (.inl (4, 1, .inr (.inl (vp_updL f (0 : Int32).toNatClampNeg x.toInt64)))) := ⟨_, rfl⟩
    rw [← e5]
    have k5 : keeps [13] S1 ow1 S5 ow1 := by rw [e5]; exact keeps_set p2
    exact next S5 ow1 (vp_updL f (0 : Int32).toNatClampNeg x.toInt64) (CI_fr c1 k5 (CC_o (fun c hc => by simp at hc; omega))) (MI_fr m1 k5 (by decide)) ⟨by rw [e5]; exact p1, p2, by rw [e5]; exact set_at⟩ (fun _ => pk_uLs) ⟨g, oD_fr g1 k5 (by decide)⟩
  | succ n =>
    exact hEX S1 (Nat.succ_ne_zero n) (next S1 ow1 f c1 m1 f1 (fun z => absurd z (Nat.succ_ne_zero n)) ⟨g, g1⟩)
theorem eE_1 {a : String} {E4 : String} {n : Nat} {P : Int32 → Prop} (h1 : n ≤ 1) (h0 : n ≠ 0) (hE : E4 = eE a "" n) (h : P (nI n)) : E4 = a ∧ P 1 := by
  have : n = 1 := by omega
  subst this
  exact ⟨hE, h⟩
theorem eE_2 {a b : String} {E4 : String} {n : Nat} {P : Int32 → Prop} (h1 : n ≤ 2) (h0 : n ≠ 0) (hE : E4 = eE a b n) (h : P (nI n)) : (E4 = a ∧ P 1) ∨ (E4 = b ∧ P 2) := by
  rcases (show n = 1 ∨ n = 2 by omega) with e | e
  · subst e
    exact Or.inl ⟨hE, h⟩
  · subst e
    exact Or.inr ⟨hE, h⟩
/-- then the reference's, and what it answers is compared -/
theorem ml_g {fM : PS → Nat → (Int32 → PS → Prop) → Prop} {kk : PS → Prop} {f : Nat → Int64} (hc : CI S ow A v' hs' sv' r' tx' fa' ln') (hm : MI S ow A v hs sv r tx fa ln) (h13 : oL S ow A f) (hf : o.1 = 0 → f 0 = o.2.toInt64) (h14 : ∃ f, oDb S ow A f) (ho : o.1 ≤ 2)
    (hM : ∀ B F h post, oB 10 S B → RS S B F h S → rowV h 0 v → mX F h hs sv r tx fa ln → mN S B v' hs' sv' r' tx' fa' ln' o post → fM S (B 0) post)
    (next : ∀ S6, LIv S6 ow A v' hs' sv' r' tx' fa' ln' → kk S6) :
    isO S (A 15) 12 (fM S (A 15) fun v5 S4 => isO S4 (A 15) 12 (f_X8_thrown S4 (A 15) fun v7 S6 => if v7 = nI o.1 then (if nI o.1 = 0 then aL S6 (A 13) 0 fun v10 => (if lg_cmp v10 v5.toInt64 = 0 then kk S6 else False) else kk S6) else False)) := by
  obtain ⟨B, F, h, e, hP, hr, m⟩ := hm
  obtain ⟨hB, H, hob⟩ := hP
  obtain ⟨g, hg⟩ := h14
  rw [← e, OS_isO hB (by omega) H]
  refine hM B F h _ hB H hr m (fun S4 F1 h1 H1 a0 a1 a2 => ?_)
  have k4 := keeps_OS H1 hob
  have hL : LIv S4 ow A v' hs' sv' r' tx' fa' ln' := ⟨CI_fr hc k4 (CC_o (fun c hc => by simp at hc; omega)), ⟨B, F1, h1, e, Po_of hB H1 hob, a1, a2⟩, ⟨f, oL_fr h13 k4 (by decide)⟩, ⟨g, oD_fr hg k4 (by decide)⟩⟩
  have hk := next S4 hL
  obtain ⟨p1, p2, p3⟩ := oL_fr h13 k4 (by decide)
  rw [OS_isO hB (by omega) H1]
  unfold f_X8_thrown
  rw [OS_gI hB (by omega) H1 (f := 0) (x := F1 0) rfl, a0]
  try dsimp only
  rw [if_pos rfl]
  by_cases z : o.1 = 0
  · rw [if_pos (by rw [z]; rfl)]
    refine ⟨p1, 1, f, p3, by show vp_in (nI 0) 1; exact vp_in_nI (by omega) (by omega), ?_⟩
    rw [show f (0 : Int32).toNatClampNeg = o.2.toInt64 from hf z]
    try dsimp only
    rw [if_pos ((lg_cmp_eq _ _).mpr rfl)]
    exact hk
  · rw [if_neg (nI_ne0 (by omega) (by omega))]
    exact hk
/-- calls that answer straight -/
theorem lb_g {z : Int32} {fC : (Int32 → PS → Prop) → Prop} {fM : PS → Nat → (Int32 → PS → Prop) → Prop} {kk : PS → Prop} (hL : LIv S ow A v hs sv r tx fa ln)
    (hC : ∀ post, (∀ S1 ow1, CI S1 ow1 A v' hs' sv' r' tx' fa' ln' → keeps CC S ow S1 ow1 → post z S1) → fC post)
    (hM : ∀ S1 B F h post, oB 10 S1 B → RS S1 B F h S1 → rowV h 0 v → mX F h hs sv r tx fa ln → mN S1 B v' hs' sv' r' tx' fa' ln' (0, z) post → fM S1 (B 0) post)
    (next : ∀ S6 ow6, LIv S6 ow6 A v' hs' sv' r' tx' fa' ln' → kk S6) :
    fC (fun v2 S1 => isO S1 (A 15) 12 (fM S1 (A 15) fun v4 S3 => if v2 = v4 then kk S3 else False)) := by
  obtain ⟨hc, hm, ⟨f, hf⟩, ⟨g, hg⟩⟩ := hL
  refine hC _ (fun S1 ow1 c1 k1 => ?_)
  obtain ⟨B, F, h, e, hP, hr, m⟩ := MI_fr hm k1 (CC_n 15 (by omega))
  obtain ⟨hB, H, hob⟩ := hP
  rw [← e, OS_isO hB (by omega) H]
  refine hM S1 B F h _ hB H hr m (fun S4 F1 h1 H1 a0 a1 a2 => ?_)
  have k4 := keeps_OS H1 hob
  rw [if_pos rfl]
  exact next S4 ow1 ⟨CI_fr c1 k4 (CC_o (fun c hc => by simp at hc; omega)), ⟨B, F1, h1, e, Po_of hB H1 hob, a1, a2⟩, ⟨f, oL_fr (oL_fr hf k1 (CC_n 13 (by omega))) k4 (by decide)⟩, ⟨g, oD_fr (oD_fr hg k1 (CC_n 14 (by omega))) k4 (by decide)⟩⟩
end LW
/-- where the law's loop stands -/
def CX (L : Nat) (g28 : PS → Nat → Nat → Nat → Nat → Nat → Nat → Int32 → Prop) (A : Nat → Nat) (S : PS) (ow : Ow) (v : Vt) (hs : List Vt) (sv : Option Vt) (r : Nat → Int32) (tx : List Nat) (fa : Int32) (ln : List Nat) (i l bc bs : Nat) : Prop := LIv S ow A v hs sv r tx fa ln ∧ LB i v hs sv tx ln ∧ i < 512 ∧ l + 4 ≤ L ∧ L ≤ 2048 ∧ 70 ≤ bc ∧ 2100 ≤ bs ∧ ∀ S1 ow1 v1 hs1 sv1 r1 tx1 fa1 ln1 bc1 bs1, LIv S1 ow1 A v1 hs1 sv1 r1 tx1 fa1 ln1 → LB (i + 1) v1 hs1 sv1 tx1 ln1 → bc ≤ bc1 + 70 → bs ≤ bs1 + 2100 → g28 S1 bc1 bs1 (A 12) (A 15) (A 13) (A 14) (nI l + 4)
theorem CX_in {L : Nat} {g28 : PS → Nat → Nat → Nat → Nat → Nat → Nat → Int32 → Prop} {A : Nat → Nat} {S : PS} {ow : Ow} {v : Vt} {hs : List Vt} {sv : Option Vt} {r : Nat → Int32} {tx : List Nat} {fa : Int32} {ln : List Nat} {i l bc bs : Nat} (cx : CX L g28 A S ow v hs sv r tx fa ln i l bc bs) : vp_in (nI l + 1) L ∧ vp_in (nI l + 2) L ∧ vp_in (nI l + 3) L := by
  obtain ⟨-, -, -, h1, h2, -⟩ := cx
  refine ⟨?_, ?_, ?_⟩
  · show vp_in (nI l + nI 1) L
    rw [nI_add]; exact vp_in_nI (by omega) (by omega)
  · show vp_in (nI l + nI 2) L
    rw [nI_add]; exact vp_in_nI (by omega) (by omega)
  · show vp_in (nI l + nI 3) L
    rw [nI_add]; exact vp_in_nI (by omega) (by omega)
