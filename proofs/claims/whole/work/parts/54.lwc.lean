/-! the law: calls that change something -/
theorem tlL_len {v : Vt} (hv : okV v) : (tlL v).length ≤ 500 := by
  have go : ∀ (l : List (Nat × Nat)) (s : List Nat), (∀ q, q ∈ l → q.1 < 9 ∧ q.2 < 9) → (l.foldl (tlB v) s).length ≤ s.length + 11 * l.length
    := by
    intro l
    induction l with
    | nil => intro s _; exact Nat.le_refl _
    | cons q l ih =>
      intro s h
      have h1 := h q List.mem_cons_self
      have h2 := (tlB_len hv (l := s) h1.1 h1.2).2
      have h3 := ih (tlB v s q) (fun z hz => h z (List.mem_cons_of_mem _ hz))
      rw [List.foldl_cons, List.length_cons]
      omega
  have h0 := hv.1
  have h1 := go (prs (v 0) (v 0)) [] (fun q hq => by have := prs_mem (Nat.le_refl _) q hq; omega)
  have h2 := prs36 (v 0) (by omega)
  have h3 : ([] : List Nat).length = 0 := rfl
  unfold tlL
  omega
theorem phL_len {v : Vt} (hv : okV v) {p : Nat} : (phL v p).length ≤ 500 := by
  have h0 := hv.1
  have h1 := phG_len v p (v 0 - p)
  have h2 := dg_le 7 (cut v p) (by omega) (cut_lt hv)
  unfold phL
  rw [List.length_append, List.length_append]
  show _ + 1 + _ ≤ 500
  omega
theorem sdL_len {v : Vt} : (sdL v).length ≤ 500 := by
  have h1 := stL_len (bn (ev v) (sds v)) 9
  have h2 := stL_len (sds v) 9
  unfold sdL
  rw [List.length_append, List.length_append]
  show _ + 1 + _ ≤ 500
  omega
def oRsn (r : Nat → Int32) (x y : Int32) : Nat × Int32 := if x = 0 ∨ x = 1 then (if (if x = 0 then r 0 else r 2) = 0 then (2, 0) else (0, rsn r x y)) else (1, 0)
theorem oRsn_b {r : Nat → Int32} {x y : Int32} : (oRsn r x y).1 ≤ 2 := by
  unfold oRsn
  by_cases h : x = 0 ∨ x = 1
  · rw [if_pos h]
    by_cases h2 : (if x = 0 then r 0 else r 2) = 0
    · rw [if_pos h2]; exact Nat.le_refl _
    · rw [if_neg h2]; exact Nat.zero_le _
  · rw [if_neg h]; exact Nat.le_succ 1
section LWC
variable {adK : Nat → Nat} {L : Nat} {xs : Nat → Int32} {g28 : PS → Nat → Nat → Nat → Nat → Nat → Nat → Int32 → Prop} {A : Nat → Nat} {S : PS} {ow : Ow} {v v' : Vt} {hs hs' : List Vt} {sv sv' : Option Vt} {r r' : Nat → Int32} {tx tx' : List Nat} {fa fa' : Int32} {ln ln' : List Nat} {i l bc bs : Nat} {o : Nat × Int32}
theorem LB_step {w : Vt} (b : LB i v hs sv tx ln) (hw : okV w) (ht : tot w ≤ tot v + 3000) (htx : tx'.length ≤ 60) (hln : ln'.length ≤ 500) : LB (i + 1) w ((v :: hs).take 8) sv tx' ln' := by
  obtain ⟨⟨a1, a2⟩, c1, d1, -, -⟩ := b
  refine ⟨⟨hw, by omega⟩, fun u hu => ?_, fun u hu => ⟨(d1 u hu).1, by have := (d1 u hu).2; omega⟩, htx, hln⟩
  rcases List.mem_cons.mp (List.mem_of_mem_take hu) with e | e
  · rw [e]; exact ⟨a1, by omega⟩
  · exact ⟨(c1 u e).1, by have := (c1 u e).2; omega⟩
theorem LB_w (b : LB i v hs sv tx ln) (htx : tx'.length ≤ 60) (hln : ln'.length ≤ 500) : LB (i + 1) v hs sv tx' ln' := by
  obtain ⟨a, c, d, -, -⟩ := LB_up b
  exact ⟨a, c, d, htx, hln⟩
theorem CI_b9 (h : CI S ow A v hs sv r tx fa ln) : ∀ (i c : Nat), ln[i]? = some c → c < 128 := fun i c hc => by
  obtain ⟨cp, ba, m, f, -, -, -, -, -, -, -, -, -, -, hch, -⟩ := h.2.2.2.2.2.2.2.2.2.2.1
  exact (hch i c hc).1
theorem h_household0 {post : Int32 → PS → Prop} (hL : LIv S ow A v hs sv r tx fa ln) (hv : okV v) (ht : tot v + 3000 < 10000000) {q : Int32 × Int32} (hq : refR v 0 0 0 0 = some q) (next : ∀ S1 ow1 f, CI S1 ow1 A v hs sv (rK q.1 q.2) tx fa ln → MI S1 ow1 A v hs sv r tx fa ln → oL S1 ow1 A f → (((1, 0) : Nat × Int32).1 = 0 → f 0 = ((1, 0) : Nat × Int32).2.toInt64) → (∃ f, oDb S1 ow1 A f) → post (nI ((1, 0) : Nat × Int32).1) S1) : f_L_household S (A 12) (A 13) 70 2100 post := by
  unfold f_L_household
  exact hl_g (o := ((1, 0) : Nat × Int32)) (E := eE "java/lang/UnsupportedOperationException" "") (fC := fun bc bs p px => f_X7_household S (A 12) bc bs p px) hL (fun post postX nx => x_change (o := 0) hL.1 hv ht (by omega) (by omega) (by omega) (fun q2 h2 S1 c1 k1 => by rw [hq] at h2; cases h2; exact nx S1 ow c1 k1) (fun h2 => by rw [hq] at h2; cases h2)) (fun S4 h0 hq => eE_1 (P := fun z => post z S4) (by first | exact Nat.le_refl _ | exact Nat.zero_le _) h0 rfl hq) next
theorem h_household1 {post : Int32 → PS → Prop} (hL : LIv S ow A v hs sv r tx fa ln) (hv : okV v) (ht : tot v + 3000 < 10000000) (hq : refR v 0 0 0 0 = none) (next : ∀ S1 ow1 f, CI S1 ow1 A (doV v 0 0 0 0) ((v :: hs).take 8) sv r tx fa ln → MI S1 ow1 A v hs sv r tx fa ln → oL S1 ow1 A f → (((0, nI (doA v 0 0 0 0)) : Nat × Int32).1 = 0 → f 0 = ((0, nI (doA v 0 0 0 0)) : Nat × Int32).2.toInt64) → (∃ f, oDb S1 ow1 A f) → post (nI ((0, nI (doA v 0 0 0 0)) : Nat × Int32).1) S1) : f_L_household S (A 12) (A 13) 70 2100 post := by
  unfold f_L_household
  exact hl_g (o := ((0, nI (doA v 0 0 0 0)) : Nat × Int32)) (E := eE "java/lang/UnsupportedOperationException" "") (fC := fun bc bs p px => f_X7_household S (A 12) bc bs p px) hL (fun post postX nx => x_change (o := 0) hL.1 hv ht (by omega) (by omega) (by omega) (fun q2 h2 => by rw [hq] at h2; cases h2) (fun _ S1 ow1 c1 k1 => nx S1 ow1 c1 k1)) (fun S4 h0 hq => eE_1 (P := fun z => post z S4) (by first | exact Nat.le_refl _ | exact Nat.zero_le _) h0 rfl hq) next
theorem j_household (cx : CX L g28 A S ow v hs sv r tx fa ln i l bc bs) : f_L_law_J244 adK L xs g28 S bc bs (A 12) (A 15) (A 13) (A 14) (nI l) := by
  obtain ⟨cx1, cx2, cx3⟩ := CX_in cx
  obtain ⟨hL, b1, b2, b3, b4, b5, b6, kk⟩ := cx
  have hv := b1.1.1
  have ht : tot v + 3000 < 10000000 := by have := b1.1.2; omega
  unfold f_L_law_J244
  refine ⟨70, 2100, b5, b6, ?_⟩
  cases e : refR v 0 0 0 0 with
  | some q =>
    refine h_household0 hL hv ht e (fun S1 ow1 f c1 m1 f1 f0 g1 => ?_)
    refine ml_g (o := (1, 0)) (fM := fun S q m => f_X8_household S q m) c1 m1 f1 f0 g1 (by decide) (fun B F h post hB H hr m nx => m_chg (o := 0) hB H hr m hv (by omega) (fun h2 => by rw [e] at h2; cases h2) (fun q2 h2 S2 F2 h2' H2 a0 a1 a2 => by rw [e] at h2; cases h2; exact nx S2 F2 h2' H2 a0 a1 a2) (fun h2 => by rw [e] at h2; cases h2)) (fun S6 hL6 => ?_)
    exact kk S6 ow1 v hs sv (rK q.1 q.2) tx fa ln _ _ hL6 (LB_up b1) (by omega) (by omega)
  | none =>
    obtain ⟨d1, d2⟩ := doV_ok hv 0 0 0 0 e
    have d3 := okV_of d1 (Nat.lt_of_le_of_lt d2 (by omega))
    refine h_household1 hL hv ht e (fun S1 ow1 f c1 m1 f1 f0 g1 => ?_)
    refine ml_g (o := (0, nI (doA v 0 0 0 0))) (fM := fun S q m => f_X8_household S q m) c1 m1 f1 f0 g1 (Nat.zero_le _) (fun B F h post hB H hr m nx => m_chg (o := 0) hB H hr m hv (by omega) (fun _ => d3) (fun q2 h2 => by rw [e] at h2; cases h2) (fun _ S2 F2 h2' H2 a0 a1 a2 => nx S2 F2 h2' H2 a0 a1 a2)) (fun S6 hL6 => ?_)
    exact kk S6 ow1 _ _ sv r tx fa ln _ _ hL6 (LB_step b1 d3 (by omega) b1.2.2.2.1 b1.2.2.2.2) (by omega) (by omega)
theorem h_leave0 {x1 : Int32} {post : Int32 → PS → Prop} (hL : LIv S ow A v hs sv r tx fa ln) (hv : okV v) (ht : tot v + 3000 < 10000000) {q : Int32 × Int32} (hq : refR v 1 x1 0 0 = some q) (next : ∀ S1 ow1 f, CI S1 ow1 A v hs sv (rK q.1 q.2) tx fa ln → MI S1 ow1 A v hs sv r tx fa ln → oL S1 ow1 A f → (((1, 0) : Nat × Int32).1 = 0 → f 0 = ((1, 0) : Nat × Int32).2.toInt64) → (∃ f, oDb S1 ow1 A f) → post (nI ((1, 0) : Nat × Int32).1) S1) : f_L_leave S (A 12) x1 (A 13) 70 2100 post := by
  unfold f_L_leave
  exact hl_g (o := ((1, 0) : Nat × Int32)) (E := eE "java/lang/UnsupportedOperationException" "") (fC := fun bc bs p px => f_X7_leave S (A 12) x1 bc bs p px) hL (fun post postX nx => x_change (o := 1) hL.1 hv ht (by omega) (by omega) (by omega) (fun q2 h2 S1 c1 k1 => by rw [hq] at h2; cases h2; exact nx S1 ow c1 k1) (fun h2 => by rw [hq] at h2; cases h2)) (fun S4 h0 hq => eE_1 (P := fun z => post z S4) (by first | exact Nat.le_refl _ | exact Nat.zero_le _) h0 rfl hq) next
theorem h_leave1 {x1 : Int32} {post : Int32 → PS → Prop} (hL : LIv S ow A v hs sv r tx fa ln) (hv : okV v) (ht : tot v + 3000 < 10000000) (hq : refR v 1 x1 0 0 = none) (next : ∀ S1 ow1 f, CI S1 ow1 A (doV v 1 x1 0 0) ((v :: hs).take 8) sv r tx fa ln → MI S1 ow1 A v hs sv r tx fa ln → oL S1 ow1 A f → (((0, nI (doA v 1 x1 0 0)) : Nat × Int32).1 = 0 → f 0 = ((0, nI (doA v 1 x1 0 0)) : Nat × Int32).2.toInt64) → (∃ f, oDb S1 ow1 A f) → post (nI ((0, nI (doA v 1 x1 0 0)) : Nat × Int32).1) S1) : f_L_leave S (A 12) x1 (A 13) 70 2100 post := by
  unfold f_L_leave
  exact hl_g (o := ((0, nI (doA v 1 x1 0 0)) : Nat × Int32)) (E := eE "java/lang/UnsupportedOperationException" "") (fC := fun bc bs p px => f_X7_leave S (A 12) x1 bc bs p px) hL (fun post postX nx => x_change (o := 1) hL.1 hv ht (by omega) (by omega) (by omega) (fun q2 h2 => by rw [hq] at h2; cases h2) (fun _ S1 ow1 c1 k1 => nx S1 ow1 c1 k1)) (fun S4 h0 hq => eE_1 (P := fun z => post z S4) (by first | exact Nat.le_refl _ | exact Nat.zero_le _) h0 rfl hq) next
theorem j_leave (cx : CX L g28 A S ow v hs sv r tx fa ln i l bc bs) : f_L_law_J288 adK L xs g28 S bc bs (A 12) (A 15) (A 13) (A 14) (nI l) := by
  obtain ⟨cx1, cx2, cx3⟩ := CX_in cx
  obtain ⟨hL, b1, b2, b3, b4, b5, b6, kk⟩ := cx
  have hv := b1.1.1
  have ht : tot v + 3000 < 10000000 := by have := b1.1.2; omega
  unfold f_L_law_J288
  refine ⟨cx1, 70, 2100, b5, b6, ?_⟩
  cases e : refR v 1 (xs (nI l + 1).toNatClampNeg) 0 0 with
  | some q =>
    refine h_leave0 hL hv ht e (fun S1 ow1 f c1 m1 f1 f0 g1 => ?_)
    refine ⟨cx1, ?_⟩
    refine ml_g (o := (1, 0)) (fM := fun S q m => f_X8_leave S q (xs (nI l + 1).toNatClampNeg) m) c1 m1 f1 f0 g1 (by decide) (fun B F h post hB H hr m nx => m_chg (o := 1) hB H hr m hv (by omega) (fun h2 => by rw [e] at h2; cases h2) (fun q2 h2 S2 F2 h2' H2 a0 a1 a2 => by rw [e] at h2; cases h2; exact nx S2 F2 h2' H2 a0 a1 a2) (fun h2 => by rw [e] at h2; cases h2)) (fun S6 hL6 => ?_)
    exact kk S6 ow1 v hs sv (rK q.1 q.2) tx fa ln _ _ hL6 (LB_up b1) (by omega) (by omega)
  | none =>
    obtain ⟨d1, d2⟩ := doV_ok hv 1 (xs (nI l + 1).toNatClampNeg) 0 0 e
    have d3 := okV_of d1 (Nat.lt_of_le_of_lt d2 (by omega))
    refine h_leave1 hL hv ht e (fun S1 ow1 f c1 m1 f1 f0 g1 => ?_)
    refine ⟨cx1, ?_⟩
    refine ml_g (o := (0, nI (doA v 1 (xs (nI l + 1).toNatClampNeg) 0 0))) (fM := fun S q m => f_X8_leave S q (xs (nI l + 1).toNatClampNeg) m) c1 m1 f1 f0 g1 (Nat.zero_le _) (fun B F h post hB H hr m nx => m_chg (o := 1) hB H hr m hv (by omega) (fun _ => d3) (fun q2 h2 => by rw [e] at h2; cases h2) (fun _ S2 F2 h2' H2 a0 a1 a2 => nx S2 F2 h2' H2 a0 a1 a2)) (fun S6 hL6 => ?_)
    exact kk S6 ow1 _ _ sv r tx fa ln _ _ hL6 (LB_step b1 d3 (by omega) b1.2.2.2.1 b1.2.2.2.2) (by omega) (by omega)
theorem h_bond0 {x1 x2 x3 : Int32} {post : Int32 → PS → Prop} (hL : LIv S ow A v hs sv r tx fa ln) (hv : okV v) (ht : tot v + 3000 < 10000000) {q : Int32 × Int32} (hq : refR v 2 x1 x2 x3 = some q) (next : ∀ S1 ow1 f, CI S1 ow1 A v hs sv (rK q.1 q.2) tx fa ln → MI S1 ow1 A v hs sv r tx fa ln → oL S1 ow1 A f → (((1, 0) : Nat × Int32).1 = 0 → f 0 = ((1, 0) : Nat × Int32).2.toInt64) → (∃ f, oDb S1 ow1 A f) → post (nI ((1, 0) : Nat × Int32).1) S1) : f_L_bond S (A 12) x1 x2 x3 (A 13) 70 2100 post := by
  unfold f_L_bond
  exact hl_g (o := ((1, 0) : Nat × Int32)) (E := eE "java/lang/UnsupportedOperationException" "") (fC := fun bc bs p px => f_X7_bond S (A 12) x1 x2 x3 bc bs p px) hL (fun post postX nx => x_change (o := 2) hL.1 hv ht (by omega) (by omega) (by omega) (fun q2 h2 S1 c1 k1 => by rw [hq] at h2; cases h2; exact nx S1 ow c1 k1) (fun h2 => by rw [hq] at h2; cases h2)) (fun S4 h0 hq => eE_1 (P := fun z => post z S4) (by first | exact Nat.le_refl _ | exact Nat.zero_le _) h0 rfl hq) next
theorem h_bond1 {x1 x2 x3 : Int32} {post : Int32 → PS → Prop} (hL : LIv S ow A v hs sv r tx fa ln) (hv : okV v) (ht : tot v + 3000 < 10000000) (hq : refR v 2 x1 x2 x3 = none) (next : ∀ S1 ow1 f, CI S1 ow1 A (doV v 2 x1 x2 x3) ((v :: hs).take 8) sv r tx fa ln → MI S1 ow1 A v hs sv r tx fa ln → oL S1 ow1 A f → (((0, nI (doA v 2 x1 x2 x3)) : Nat × Int32).1 = 0 → f 0 = ((0, nI (doA v 2 x1 x2 x3)) : Nat × Int32).2.toInt64) → (∃ f, oDb S1 ow1 A f) → post (nI ((0, nI (doA v 2 x1 x2 x3)) : Nat × Int32).1) S1) : f_L_bond S (A 12) x1 x2 x3 (A 13) 70 2100 post := by
  unfold f_L_bond
  exact hl_g (o := ((0, nI (doA v 2 x1 x2 x3)) : Nat × Int32)) (E := eE "java/lang/UnsupportedOperationException" "") (fC := fun bc bs p px => f_X7_bond S (A 12) x1 x2 x3 bc bs p px) hL (fun post postX nx => x_change (o := 2) hL.1 hv ht (by omega) (by omega) (by omega) (fun q2 h2 => by rw [hq] at h2; cases h2) (fun _ S1 ow1 c1 k1 => nx S1 ow1 c1 k1)) (fun S4 h0 hq => eE_1 (P := fun z => post z S4) (by first | exact Nat.le_refl _ | exact Nat.zero_le _) h0 rfl hq) next
theorem j_bond (cx : CX L g28 A S ow v hs sv r tx fa ln i l bc bs) : f_L_law_J344 adK L xs g28 S bc bs (A 12) (A 15) (A 13) (A 14) (nI l) := by
  obtain ⟨cx1, cx2, cx3⟩ := CX_in cx
  obtain ⟨hL, b1, b2, b3, b4, b5, b6, kk⟩ := cx
  have hv := b1.1.1
  have ht : tot v + 3000 < 10000000 := by have := b1.1.2; omega
  unfold f_L_law_J344
  refine ⟨cx1, cx2, cx3, 70, 2100, b5, b6, ?_⟩
  cases e : refR v 2 (xs (nI l + 1).toNatClampNeg) (xs (nI l + 2).toNatClampNeg) (xs (nI l + 3).toNatClampNeg) with
  | some q =>
    refine h_bond0 hL hv ht e (fun S1 ow1 f c1 m1 f1 f0 g1 => ?_)
    refine ⟨cx1, cx2, cx3, ?_⟩
    refine ml_g (o := (1, 0)) (fM := fun S q m => f_X8_bond S q (xs (nI l + 1).toNatClampNeg) (xs (nI l + 2).toNatClampNeg) (xs (nI l + 3).toNatClampNeg) m) c1 m1 f1 f0 g1 (by decide) (fun B F h post hB H hr m nx => m_chg (o := 2) hB H hr m hv (by omega) (fun h2 => by rw [e] at h2; cases h2) (fun q2 h2 S2 F2 h2' H2 a0 a1 a2 => by rw [e] at h2; cases h2; exact nx S2 F2 h2' H2 a0 a1 a2) (fun h2 => by rw [e] at h2; cases h2)) (fun S6 hL6 => ?_)
    exact kk S6 ow1 v hs sv (rK q.1 q.2) tx fa ln _ _ hL6 (LB_up b1) (by omega) (by omega)
  | none =>
    obtain ⟨d1, d2⟩ := doV_ok hv 2 (xs (nI l + 1).toNatClampNeg) (xs (nI l + 2).toNatClampNeg) (xs (nI l + 3).toNatClampNeg) e
    have d3 := okV_of d1 (Nat.lt_of_le_of_lt d2 (by omega))
    refine h_bond1 hL hv ht e (fun S1 ow1 f c1 m1 f1 f0 g1 => ?_)
    refine ⟨cx1, cx2, cx3, ?_⟩
    refine ml_g (o := (0, nI (doA v 2 (xs (nI l + 1).toNatClampNeg) (xs (nI l + 2).toNatClampNeg) (xs (nI l + 3).toNatClampNeg)))) (fM := fun S q m => f_X8_bond S q (xs (nI l + 1).toNatClampNeg) (xs (nI l + 2).toNatClampNeg) (xs (nI l + 3).toNatClampNeg) m) c1 m1 f1 f0 g1 (Nat.zero_le _) (fun B F h post hB H hr m nx => m_chg (o := 2) hB H hr m hv (by omega) (fun _ => d3) (fun q2 h2 => by rw [e] at h2; cases h2) (fun _ S2 F2 h2' H2 a0 a1 a2 => nx S2 F2 h2' H2 a0 a1 a2)) (fun S6 hL6 => ?_)
    exact kk S6 ow1 _ _ sv r tx fa ln _ _ hL6 (LB_step b1 d3 (by omega) b1.2.2.2.1 b1.2.2.2.2) (by omega) (by omega)
theorem h_loosen0 {x1 x2 : Int32} {post : Int32 → PS → Prop} (hL : LIv S ow A v hs sv r tx fa ln) (hv : okV v) (ht : tot v + 3000 < 10000000) {q : Int32 × Int32} (hq : refR v 3 x1 x2 0 = some q) (next : ∀ S1 ow1 f, CI S1 ow1 A v hs sv (rK q.1 q.2) tx fa ln → MI S1 ow1 A v hs sv r tx fa ln → oL S1 ow1 A f → (((1, 0) : Nat × Int32).1 = 0 → f 0 = ((1, 0) : Nat × Int32).2.toInt64) → (∃ f, oDb S1 ow1 A f) → post (nI ((1, 0) : Nat × Int32).1) S1) : f_L_loosen S (A 12) x1 x2 (A 13) 70 2100 post := by
  unfold f_L_loosen
  exact hl_g (o := ((1, 0) : Nat × Int32)) (E := eE "java/lang/UnsupportedOperationException" "") (fC := fun bc bs p px => f_X7_loosen S (A 12) x1 x2 bc bs p px) hL (fun post postX nx => x_change (o := 3) hL.1 hv ht (by omega) (by omega) (by omega) (fun q2 h2 S1 c1 k1 => by rw [hq] at h2; cases h2; exact nx S1 ow c1 k1) (fun h2 => by rw [hq] at h2; cases h2)) (fun S4 h0 hq => eE_1 (P := fun z => post z S4) (by first | exact Nat.le_refl _ | exact Nat.zero_le _) h0 rfl hq) next
theorem h_loosen1 {x1 x2 : Int32} {post : Int32 → PS → Prop} (hL : LIv S ow A v hs sv r tx fa ln) (hv : okV v) (ht : tot v + 3000 < 10000000) (hq : refR v 3 x1 x2 0 = none) (next : ∀ S1 ow1 f, CI S1 ow1 A (doV v 3 x1 x2 0) ((v :: hs).take 8) sv r tx fa ln → MI S1 ow1 A v hs sv r tx fa ln → oL S1 ow1 A f → (((0, nI (doA v 3 x1 x2 0)) : Nat × Int32).1 = 0 → f 0 = ((0, nI (doA v 3 x1 x2 0)) : Nat × Int32).2.toInt64) → (∃ f, oDb S1 ow1 A f) → post (nI ((0, nI (doA v 3 x1 x2 0)) : Nat × Int32).1) S1) : f_L_loosen S (A 12) x1 x2 (A 13) 70 2100 post := by
  unfold f_L_loosen
  exact hl_g (o := ((0, nI (doA v 3 x1 x2 0)) : Nat × Int32)) (E := eE "java/lang/UnsupportedOperationException" "") (fC := fun bc bs p px => f_X7_loosen S (A 12) x1 x2 bc bs p px) hL (fun post postX nx => x_change (o := 3) hL.1 hv ht (by omega) (by omega) (by omega) (fun q2 h2 => by rw [hq] at h2; cases h2) (fun _ S1 ow1 c1 k1 => nx S1 ow1 c1 k1)) (fun S4 h0 hq => eE_1 (P := fun z => post z S4) (by first | exact Nat.le_refl _ | exact Nat.zero_le _) h0 rfl hq) next
theorem j_loosen (cx : CX L g28 A S ow v hs sv r tx fa ln i l bc bs) : f_L_law_J424 adK L xs g28 S bc bs (A 12) (A 15) (A 13) (A 14) (nI l) := by
  obtain ⟨cx1, cx2, cx3⟩ := CX_in cx
  obtain ⟨hL, b1, b2, b3, b4, b5, b6, kk⟩ := cx
  have hv := b1.1.1
  have ht : tot v + 3000 < 10000000 := by have := b1.1.2; omega
  unfold f_L_law_J424
  refine ⟨cx1, cx2, 70, 2100, b5, b6, ?_⟩
  cases e : refR v 3 (xs (nI l + 1).toNatClampNeg) (xs (nI l + 2).toNatClampNeg) 0 with
  | some q =>
    refine h_loosen0 hL hv ht e (fun S1 ow1 f c1 m1 f1 f0 g1 => ?_)
    refine ⟨cx1, cx2, ?_⟩
    refine ml_g (o := (1, 0)) (fM := fun S q m => f_X8_loosen S q (xs (nI l + 1).toNatClampNeg) (xs (nI l + 2).toNatClampNeg) m) c1 m1 f1 f0 g1 (by decide) (fun B F h post hB H hr m nx => m_chg (o := 3) hB H hr m hv (by omega) (fun h2 => by rw [e] at h2; cases h2) (fun q2 h2 S2 F2 h2' H2 a0 a1 a2 => by rw [e] at h2; cases h2; exact nx S2 F2 h2' H2 a0 a1 a2) (fun h2 => by rw [e] at h2; cases h2)) (fun S6 hL6 => ?_)
    exact kk S6 ow1 v hs sv (rK q.1 q.2) tx fa ln _ _ hL6 (LB_up b1) (by omega) (by omega)
  | none =>
    obtain ⟨d1, d2⟩ := doV_ok hv 3 (xs (nI l + 1).toNatClampNeg) (xs (nI l + 2).toNatClampNeg) 0 e
    have d3 := okV_of d1 (Nat.lt_of_le_of_lt d2 (by omega))
    refine h_loosen1 hL hv ht e (fun S1 ow1 f c1 m1 f1 f0 g1 => ?_)
    refine ⟨cx1, cx2, ?_⟩
    refine ml_g (o := (0, nI (doA v 3 (xs (nI l + 1).toNatClampNeg) (xs (nI l + 2).toNatClampNeg) 0))) (fM := fun S q m => f_X8_loosen S q (xs (nI l + 1).toNatClampNeg) (xs (nI l + 2).toNatClampNeg) m) c1 m1 f1 f0 g1 (Nat.zero_le _) (fun B F h post hB H hr m nx => m_chg (o := 3) hB H hr m hv (by omega) (fun _ => d3) (fun q2 h2 => by rw [e] at h2; cases h2) (fun _ S2 F2 h2' H2 a0 a1 a2 => nx S2 F2 h2' H2 a0 a1 a2)) (fun S6 hL6 => ?_)
    exact kk S6 ow1 _ _ sv r tx fa ln _ _ hL6 (LB_step b1 d3 (by omega) b1.2.2.2.1 b1.2.2.2.2) (by omega) (by omega)
theorem h_marry0 {x1 x2 : Int32} {post : Int32 → PS → Prop} (hL : LIv S ow A v hs sv r tx fa ln) (hv : okV v) (ht : tot v + 3000 < 10000000) {q : Int32 × Int32} (hq : refR v 4 x1 x2 0 = some q) (next : ∀ S1 ow1 f, CI S1 ow1 A v hs sv (rK q.1 q.2) tx fa ln → MI S1 ow1 A v hs sv r tx fa ln → oL S1 ow1 A f → (((1, 0) : Nat × Int32).1 = 0 → f 0 = ((1, 0) : Nat × Int32).2.toInt64) → (∃ f, oDb S1 ow1 A f) → post (nI ((1, 0) : Nat × Int32).1) S1) : f_L_marry S (A 12) x1 x2 (A 13) 70 2100 post := by
  unfold f_L_marry
  exact hl_g (o := ((1, 0) : Nat × Int32)) (E := eE "java/lang/UnsupportedOperationException" "") (fC := fun bc bs p px => f_X7_marry S (A 12) x1 x2 bc bs p px) hL (fun post postX nx => x_change (o := 4) hL.1 hv ht (by omega) (by omega) (by omega) (fun q2 h2 S1 c1 k1 => by rw [hq] at h2; cases h2; exact nx S1 ow c1 k1) (fun h2 => by rw [hq] at h2; cases h2)) (fun S4 h0 hq => eE_1 (P := fun z => post z S4) (by first | exact Nat.le_refl _ | exact Nat.zero_le _) h0 rfl hq) next
theorem h_marry1 {x1 x2 : Int32} {post : Int32 → PS → Prop} (hL : LIv S ow A v hs sv r tx fa ln) (hv : okV v) (ht : tot v + 3000 < 10000000) (hq : refR v 4 x1 x2 0 = none) (next : ∀ S1 ow1 f, CI S1 ow1 A (doV v 4 x1 x2 0) ((v :: hs).take 8) sv r tx fa ln → MI S1 ow1 A v hs sv r tx fa ln → oL S1 ow1 A f → (((0, nI (doA v 4 x1 x2 0)) : Nat × Int32).1 = 0 → f 0 = ((0, nI (doA v 4 x1 x2 0)) : Nat × Int32).2.toInt64) → (∃ f, oDb S1 ow1 A f) → post (nI ((0, nI (doA v 4 x1 x2 0)) : Nat × Int32).1) S1) : f_L_marry S (A 12) x1 x2 (A 13) 70 2100 post := by
  unfold f_L_marry
  exact hl_g (o := ((0, nI (doA v 4 x1 x2 0)) : Nat × Int32)) (E := eE "java/lang/UnsupportedOperationException" "") (fC := fun bc bs p px => f_X7_marry S (A 12) x1 x2 bc bs p px) hL (fun post postX nx => x_change (o := 4) hL.1 hv ht (by omega) (by omega) (by omega) (fun q2 h2 => by rw [hq] at h2; cases h2) (fun _ S1 ow1 c1 k1 => nx S1 ow1 c1 k1)) (fun S4 h0 hq => eE_1 (P := fun z => post z S4) (by first | exact Nat.le_refl _ | exact Nat.zero_le _) h0 rfl hq) next
theorem j_marry (cx : CX L g28 A S ow v hs sv r tx fa ln i l bc bs) : f_L_law_J492 adK L xs g28 S bc bs (A 12) (A 15) (A 13) (A 14) (nI l) := by
  obtain ⟨cx1, cx2, cx3⟩ := CX_in cx
  obtain ⟨hL, b1, b2, b3, b4, b5, b6, kk⟩ := cx
  have hv := b1.1.1
  have ht : tot v + 3000 < 10000000 := by have := b1.1.2; omega
  unfold f_L_law_J492
  refine ⟨cx1, cx2, 70, 2100, b5, b6, ?_⟩
  cases e : refR v 4 (xs (nI l + 1).toNatClampNeg) (xs (nI l + 2).toNatClampNeg) 0 with
  | some q =>
    refine h_marry0 hL hv ht e (fun S1 ow1 f c1 m1 f1 f0 g1 => ?_)
    refine ⟨cx1, cx2, ?_⟩
    refine ml_g (o := (1, 0)) (fM := fun S q m => f_X8_marry S q (xs (nI l + 1).toNatClampNeg) (xs (nI l + 2).toNatClampNeg) m) c1 m1 f1 f0 g1 (by decide) (fun B F h post hB H hr m nx => m_chg (o := 4) hB H hr m hv (by omega) (fun h2 => by rw [e] at h2; cases h2) (fun q2 h2 S2 F2 h2' H2 a0 a1 a2 => by rw [e] at h2; cases h2; exact nx S2 F2 h2' H2 a0 a1 a2) (fun h2 => by rw [e] at h2; cases h2)) (fun S6 hL6 => ?_)
    exact kk S6 ow1 v hs sv (rK q.1 q.2) tx fa ln _ _ hL6 (LB_up b1) (by omega) (by omega)
  | none =>
    obtain ⟨d1, d2⟩ := doV_ok hv 4 (xs (nI l + 1).toNatClampNeg) (xs (nI l + 2).toNatClampNeg) 0 e
    have d3 := okV_of d1 (Nat.lt_of_le_of_lt d2 (by omega))
    refine h_marry1 hL hv ht e (fun S1 ow1 f c1 m1 f1 f0 g1 => ?_)
    refine ⟨cx1, cx2, ?_⟩
    refine ml_g (o := (0, nI (doA v 4 (xs (nI l + 1).toNatClampNeg) (xs (nI l + 2).toNatClampNeg) 0))) (fM := fun S q m => f_X8_marry S q (xs (nI l + 1).toNatClampNeg) (xs (nI l + 2).toNatClampNeg) m) c1 m1 f1 f0 g1 (Nat.zero_le _) (fun B F h post hB H hr m nx => m_chg (o := 4) hB H hr m hv (by omega) (fun _ => d3) (fun q2 h2 => by rw [e] at h2; cases h2) (fun _ S2 F2 h2' H2 a0 a1 a2 => nx S2 F2 h2' H2 a0 a1 a2)) (fun S6 hL6 => ?_)
    exact kk S6 ow1 _ _ sv r tx fa ln _ _ hL6 (LB_step b1 d3 (by omega) b1.2.2.2.1 b1.2.2.2.2) (by omega) (by omega)
theorem h_stand0 {x1 x2 : Int32} {post : Int32 → PS → Prop} (hL : LIv S ow A v hs sv r tx fa ln) (hv : okV v) (ht : tot v + 3000 < 10000000) {q : Int32 × Int32} (hq : refR v 5 x1 x2 0 = some q) (next : ∀ S1 ow1 f, CI S1 ow1 A v hs sv (rK q.1 q.2) tx fa ln → MI S1 ow1 A v hs sv r tx fa ln → oL S1 ow1 A f → (((1, 0) : Nat × Int32).1 = 0 → f 0 = ((1, 0) : Nat × Int32).2.toInt64) → (∃ f, oDb S1 ow1 A f) → post (nI ((1, 0) : Nat × Int32).1) S1) : f_L_stand S (A 12) x1 x2 (A 13) 70 2100 post := by
  unfold f_L_stand
  exact hl_g (o := ((1, 0) : Nat × Int32)) (E := eE "java/lang/UnsupportedOperationException" "") (fC := fun bc bs p px => f_X7_stand S (A 12) x1 x2 bc bs p px) hL (fun post postX nx => x_change (o := 5) hL.1 hv ht (by omega) (by omega) (by omega) (fun q2 h2 S1 c1 k1 => by rw [hq] at h2; cases h2; exact nx S1 ow c1 k1) (fun h2 => by rw [hq] at h2; cases h2)) (fun S4 h0 hq => eE_1 (P := fun z => post z S4) (by first | exact Nat.le_refl _ | exact Nat.zero_le _) h0 rfl hq) next
theorem h_stand1 {x1 x2 : Int32} {post : Int32 → PS → Prop} (hL : LIv S ow A v hs sv r tx fa ln) (hv : okV v) (ht : tot v + 3000 < 10000000) (hq : refR v 5 x1 x2 0 = none) (next : ∀ S1 ow1 f, CI S1 ow1 A (doV v 5 x1 x2 0) ((v :: hs).take 8) sv r tx fa ln → MI S1 ow1 A v hs sv r tx fa ln → oL S1 ow1 A f → (((0, nI (doA v 5 x1 x2 0)) : Nat × Int32).1 = 0 → f 0 = ((0, nI (doA v 5 x1 x2 0)) : Nat × Int32).2.toInt64) → (∃ f, oDb S1 ow1 A f) → post (nI ((0, nI (doA v 5 x1 x2 0)) : Nat × Int32).1) S1) : f_L_stand S (A 12) x1 x2 (A 13) 70 2100 post := by
  unfold f_L_stand
  exact hl_g (o := ((0, nI (doA v 5 x1 x2 0)) : Nat × Int32)) (E := eE "java/lang/UnsupportedOperationException" "") (fC := fun bc bs p px => f_X7_stand S (A 12) x1 x2 bc bs p px) hL (fun post postX nx => x_change (o := 5) hL.1 hv ht (by omega) (by omega) (by omega) (fun q2 h2 => by rw [hq] at h2; cases h2) (fun _ S1 ow1 c1 k1 => nx S1 ow1 c1 k1)) (fun S4 h0 hq => eE_1 (P := fun z => post z S4) (by first | exact Nat.le_refl _ | exact Nat.zero_le _) h0 rfl hq) next
theorem j_stand (cx : CX L g28 A S ow v hs sv r tx fa ln i l bc bs) : f_L_law_J560 adK L xs g28 S bc bs (A 12) (A 15) (A 13) (A 14) (nI l) := by
  obtain ⟨cx1, cx2, cx3⟩ := CX_in cx
  obtain ⟨hL, b1, b2, b3, b4, b5, b6, kk⟩ := cx
  have hv := b1.1.1
  have ht : tot v + 3000 < 10000000 := by have := b1.1.2; omega
  unfold f_L_law_J560
  refine ⟨cx1, cx2, 70, 2100, b5, b6, ?_⟩
  cases e : refR v 5 (xs (nI l + 1).toNatClampNeg) (xs (nI l + 2).toNatClampNeg) 0 with
  | some q =>
    refine h_stand0 hL hv ht e (fun S1 ow1 f c1 m1 f1 f0 g1 => ?_)
    refine ⟨cx1, cx2, ?_⟩
    refine ml_g (o := (1, 0)) (fM := fun S q m => f_X8_stand S q (xs (nI l + 1).toNatClampNeg) (xs (nI l + 2).toNatClampNeg) m) c1 m1 f1 f0 g1 (by decide) (fun B F h post hB H hr m nx => m_chg (o := 5) hB H hr m hv (by omega) (fun h2 => by rw [e] at h2; cases h2) (fun q2 h2 S2 F2 h2' H2 a0 a1 a2 => by rw [e] at h2; cases h2; exact nx S2 F2 h2' H2 a0 a1 a2) (fun h2 => by rw [e] at h2; cases h2)) (fun S6 hL6 => ?_)
    exact kk S6 ow1 v hs sv (rK q.1 q.2) tx fa ln _ _ hL6 (LB_up b1) (by omega) (by omega)
  | none =>
    obtain ⟨d1, d2⟩ := doV_ok hv 5 (xs (nI l + 1).toNatClampNeg) (xs (nI l + 2).toNatClampNeg) 0 e
    have d3 := okV_of d1 (Nat.lt_of_le_of_lt d2 (by omega))
    refine h_stand1 hL hv ht e (fun S1 ow1 f c1 m1 f1 f0 g1 => ?_)
    refine ⟨cx1, cx2, ?_⟩
    refine ml_g (o := (0, nI (doA v 5 (xs (nI l + 1).toNatClampNeg) (xs (nI l + 2).toNatClampNeg) 0))) (fM := fun S q m => f_X8_stand S q (xs (nI l + 1).toNatClampNeg) (xs (nI l + 2).toNatClampNeg) m) c1 m1 f1 f0 g1 (Nat.zero_le _) (fun B F h post hB H hr m nx => m_chg (o := 5) hB H hr m hv (by omega) (fun _ => d3) (fun q2 h2 => by rw [e] at h2; cases h2) (fun _ S2 F2 h2' H2 a0 a1 a2 => nx S2 F2 h2' H2 a0 a1 a2)) (fun S6 hL6 => ?_)
    exact kk S6 ow1 _ _ sv r tx fa ln _ _ hL6 (LB_step b1 d3 (by omega) b1.2.2.2.1 b1.2.2.2.2) (by omega) (by omega)
theorem h_part0 {post : Int32 → PS → Prop} (hL : LIv S ow A v hs sv r tx fa ln) (hv : okV v) (ht : tot v + 3000 < 10000000) {q : Int32 × Int32} (hq : refR v 6 0 0 0 = some q) (next : ∀ S1 ow1 f, CI S1 ow1 A v hs sv (rK q.1 q.2) tx fa ln → MI S1 ow1 A v hs sv r tx fa ln → oL S1 ow1 A f → (((1, 0) : Nat × Int32).1 = 0 → f 0 = ((1, 0) : Nat × Int32).2.toInt64) → (∃ f, oDb S1 ow1 A f) → post (nI ((1, 0) : Nat × Int32).1) S1) : f_L_part S (A 12) (A 13) 70 2100 post := by
  unfold f_L_part
  exact hl_g (o := ((1, 0) : Nat × Int32)) (E := eE "java/lang/UnsupportedOperationException" "") (fC := fun bc bs p px => f_X7_part S (A 12) bc bs p px) hL (fun post postX nx => x_change (o := 6) hL.1 hv ht (by omega) (by omega) (by omega) (fun q2 h2 S1 c1 k1 => by rw [hq] at h2; cases h2; exact nx S1 ow c1 k1) (fun h2 => by rw [hq] at h2; cases h2)) (fun S4 h0 hq => eE_1 (P := fun z => post z S4) (by first | exact Nat.le_refl _ | exact Nat.zero_le _) h0 rfl hq) next
theorem h_part1 {post : Int32 → PS → Prop} (hL : LIv S ow A v hs sv r tx fa ln) (hv : okV v) (ht : tot v + 3000 < 10000000) (hq : refR v 6 0 0 0 = none) (next : ∀ S1 ow1 f, CI S1 ow1 A (doV v 6 0 0 0) ((v :: hs).take 8) sv r tx fa ln → MI S1 ow1 A v hs sv r tx fa ln → oL S1 ow1 A f → (((0, nI (doA v 6 0 0 0)) : Nat × Int32).1 = 0 → f 0 = ((0, nI (doA v 6 0 0 0)) : Nat × Int32).2.toInt64) → (∃ f, oDb S1 ow1 A f) → post (nI ((0, nI (doA v 6 0 0 0)) : Nat × Int32).1) S1) : f_L_part S (A 12) (A 13) 70 2100 post := by
  unfold f_L_part
  exact hl_g (o := ((0, nI (doA v 6 0 0 0)) : Nat × Int32)) (E := eE "java/lang/UnsupportedOperationException" "") (fC := fun bc bs p px => f_X7_part S (A 12) bc bs p px) hL (fun post postX nx => x_change (o := 6) hL.1 hv ht (by omega) (by omega) (by omega) (fun q2 h2 => by rw [hq] at h2; cases h2) (fun _ S1 ow1 c1 k1 => nx S1 ow1 c1 k1)) (fun S4 h0 hq => eE_1 (P := fun z => post z S4) (by first | exact Nat.le_refl _ | exact Nat.zero_le _) h0 rfl hq) next
theorem j_part (cx : CX L g28 A S ow v hs sv r tx fa ln i l bc bs) : f_L_law_J628 adK L xs g28 S bc bs (A 12) (A 15) (A 13) (A 14) (nI l) := by
  obtain ⟨cx1, cx2, cx3⟩ := CX_in cx
  obtain ⟨hL, b1, b2, b3, b4, b5, b6, kk⟩ := cx
  have hv := b1.1.1
  have ht : tot v + 3000 < 10000000 := by have := b1.1.2; omega
  unfold f_L_law_J628
  refine ⟨70, 2100, b5, b6, ?_⟩
  cases e : refR v 6 0 0 0 with
  | some q =>
    refine h_part0 hL hv ht e (fun S1 ow1 f c1 m1 f1 f0 g1 => ?_)
    refine ml_g (o := (1, 0)) (fM := fun S q m => f_X8_part S q m) c1 m1 f1 f0 g1 (by decide) (fun B F h post hB H hr m nx => m_chg (o := 6) hB H hr m hv (by omega) (fun h2 => by rw [e] at h2; cases h2) (fun q2 h2 S2 F2 h2' H2 a0 a1 a2 => by rw [e] at h2; cases h2; exact nx S2 F2 h2' H2 a0 a1 a2) (fun h2 => by rw [e] at h2; cases h2)) (fun S6 hL6 => ?_)
    exact kk S6 ow1 v hs sv (rK q.1 q.2) tx fa ln _ _ hL6 (LB_up b1) (by omega) (by omega)
  | none =>
    obtain ⟨d1, d2⟩ := doV_ok hv 6 0 0 0 e
    have d3 := okV_of d1 (Nat.lt_of_le_of_lt d2 (by omega))
    refine h_part1 hL hv ht e (fun S1 ow1 f c1 m1 f1 f0 g1 => ?_)
    refine ml_g (o := (0, nI (doA v 6 0 0 0))) (fM := fun S q m => f_X8_part S q m) c1 m1 f1 f0 g1 (Nat.zero_le _) (fun B F h post hB H hr m nx => m_chg (o := 6) hB H hr m hv (by omega) (fun _ => d3) (fun q2 h2 => by rw [e] at h2; cases h2) (fun _ S2 F2 h2' H2 a0 a1 a2 => nx S2 F2 h2' H2 a0 a1 a2)) (fun S6 hL6 => ?_)
    exact kk S6 ow1 _ _ sv r tx fa ln _ _ hL6 (LB_step b1 d3 (by omega) b1.2.2.2.1 b1.2.2.2.2) (by omega) (by omega)
end LWC
