/-! the law: calls that only answer -/
section LWR
variable {adK : Nat → Nat} {L : Nat} {xs : Nat → Int32} {g28 : PS → Nat → Nat → Nat → Nat → Nat → Nat → Int32 → Prop} {A : Nat → Nat} {S : PS} {ow : Ow} {v : Vt} {hs : List Vt} {sv : Option Vt} {r : Nat → Int32} {tx : List Nat} {fa : Int32} {ln : List Nat} {i l bc bs : Nat}
theorem oWgt_b {v : Vt} {x1 x2 : Int32} : (oWgt v x1 x2).1 ≤ 1 := by
  unfold oWgt
  repeat' split
  all_goals first | exact Nat.zero_le _ | exact Nat.le_refl _ | exact Nat.le_succ 1
theorem h_weight {x1 x2 : Int32} {post : Int32 → PS → Prop} (hL : LIv S ow A v hs sv r tx fa ln) (hv : okV v) (next : ∀ S1 ow1 f, CI S1 ow1 A v hs sv r tx fa ln → MI S1 ow1 A v hs sv r tx fa ln → oL S1 ow1 A f → ((oWgt v x1 x2).1 = 0 → f 0 = (oWgt v x1 x2).2.toInt64) → (∃ f, oDb S1 ow1 A f) → post (nI (oWgt v x1 x2).1) S1) : f_L_weight S (A 12) x1 x2 (A 13) 70 2100 post := by
  unfold f_L_weight
  exact hl_g (o := oWgt v x1 x2) (E := eE "java/lang/IndexOutOfBoundsException" "") (fC := fun bc bs p px => f_X7_weight S (A 12) x1 x2 bc bs p px) hL (fun post postX nx => x_weight hL.1 hv (by omega) (by omega) (nx S ow hL.1 keeps.refl)) (fun S4 h0 hq => eE_1 (P := fun z => post z S4) oWgt_b h0 rfl hq) next
theorem j_weight (cx : CX L g28 A S ow v hs sv r tx fa ln i l bc bs) : f_L_law_J672 adK L xs g28 S bc bs (A 12) (A 15) (A 13) (A 14) (nI l) := by
  obtain ⟨cx1, cx2, cx3⟩ := CX_in cx
  obtain ⟨hL, b1, b2, b3, b4, b5, b6, kk⟩ := cx
  have hv := b1.1.1
  have ht : tot v + 3000 < 10000000 := by have := b1.1.2; omega
  unfold f_L_law_J672
  refine ⟨cx1, cx2, 70, 2100, b5, b6, ?_⟩
  refine h_weight hL hv (fun S1 ow1 f c1 m1 f1 f0 g1 => ?_)
  refine ⟨cx1, cx2, ?_⟩
  refine ml_g (fM := fun S q m => f_X8_weight S q (xs (nI l + 1).toNatClampNeg) (xs (nI l + 2).toNatClampNeg) m) c1 m1 f1 f0 g1 (Nat.le_trans oWgt_b (by omega)) (fun B F h post hB H hr m nx => m_weight hB H hr hv m nx) (fun S6 hL6 => ?_)
  exact kk S6 ow1 v hs sv r tx fa ln _ _ hL6 (LB_up b1) (by omega) (by omega)
theorem oHou_b {v : Vt} {x1 x2 : Int32} : (oHou v x1 x2).1 ≤ 2 := by
  unfold oHou
  repeat' split
  all_goals first | exact Nat.zero_le _ | exact Nat.le_refl _ | exact Nat.le_succ 1
theorem h_householdOf {x1 x2 : Int32} {post : Int32 → PS → Prop} (hL : LIv S ow A v hs sv r tx fa ln) (hv : okV v) (next : ∀ S1 ow1 f, CI S1 ow1 A v hs sv r tx fa ln → MI S1 ow1 A v hs sv r tx fa ln → oL S1 ow1 A f → ((oHou v x1 x2).1 = 0 → f 0 = (oHou v x1 x2).2.toInt64) → (∃ f, oDb S1 ow1 A f) → post (nI (oHou v x1 x2).1) S1) : f_L_householdOf S (A 12) x1 x2 (A 13) 70 2100 post := by
  unfold f_L_householdOf
  exact hl_g (o := oHou v x1 x2) (E := eE "java/lang/IndexOutOfBoundsException" "java/lang/IllegalArgumentException") (fC := fun bc bs p px => f_X7_householdOf S (A 12) x1 x2 bc bs p px) hL (fun post postX nx => x_householdOf hL.1 hv (by omega) (by omega) (nx S ow hL.1 keeps.refl)) (fun S4 h0 hq => eE_2 (P := fun z => post z S4) oHou_b h0 rfl hq) next
theorem j_householdOf (cx : CX L g28 A S ow v hs sv r tx fa ln i l bc bs) : f_L_law_J740 adK L xs g28 S bc bs (A 12) (A 15) (A 13) (A 14) (nI l) := by
  obtain ⟨cx1, cx2, cx3⟩ := CX_in cx
  obtain ⟨hL, b1, b2, b3, b4, b5, b6, kk⟩ := cx
  have hv := b1.1.1
  have ht : tot v + 3000 < 10000000 := by have := b1.1.2; omega
  unfold f_L_law_J740
  refine ⟨cx1, cx2, 70, 2100, b5, b6, ?_⟩
  refine h_householdOf hL hv (fun S1 ow1 f c1 m1 f1 f0 g1 => ?_)
  refine ⟨cx1, cx2, ?_⟩
  refine ml_g (fM := fun S q m => f_X8_householdOf S q (xs (nI l + 1).toNatClampNeg) (xs (nI l + 2).toNatClampNeg) m) c1 m1 f1 f0 g1 (Nat.le_trans oHou_b (by omega)) (fun B F h post hB H hr m nx => m_householdOf hB H hr hv m nx) (fun S6 hL6 => ?_)
  exact kk S6 ow1 v hs sv r tx fa ln _ _ hL6 (LB_up b1) (by omega) (by omega)
theorem oTie_b {v : Vt} {x1 x2 : Int32} : (oTie v x1 x2).1 ≤ 1 := by
  unfold oTie
  repeat' split
  all_goals first | exact Nat.zero_le _ | exact Nat.le_refl _ | exact Nat.le_succ 1
theorem h_tied {x1 x2 : Int32} {post : Int32 → PS → Prop} (hL : LIv S ow A v hs sv r tx fa ln) (hv : okV v) (next : ∀ S1 ow1 f, CI S1 ow1 A v hs sv r tx fa ln → MI S1 ow1 A v hs sv r tx fa ln → oL S1 ow1 A f → ((oTie v x1 x2).1 = 0 → f 0 = (oTie v x1 x2).2.toInt64) → (∃ f, oDb S1 ow1 A f) → post (nI (oTie v x1 x2).1) S1) : f_L_tied S (A 12) x1 x2 (A 13) 70 2100 post := by
  unfold f_L_tied
  exact hl_g (o := oTie v x1 x2) (E := eE "java/lang/IllegalArgumentException" "") (fC := fun bc bs p px => f_X7_tied S (A 12) x1 x2 bc bs p px) hL (fun post postX nx => x_tied hL.1 hv (by omega) (by omega) (nx S ow hL.1 keeps.refl)) (fun S4 h0 hq => eE_1 (P := fun z => post z S4) oTie_b h0 rfl hq) next
theorem j_tied (cx : CX L g28 A S ow v hs sv r tx fa ln i l bc bs) : f_L_law_J808 adK L xs g28 S bc bs (A 12) (A 15) (A 13) (A 14) (nI l) := by
  obtain ⟨cx1, cx2, cx3⟩ := CX_in cx
  obtain ⟨hL, b1, b2, b3, b4, b5, b6, kk⟩ := cx
  have hv := b1.1.1
  have ht : tot v + 3000 < 10000000 := by have := b1.1.2; omega
  unfold f_L_law_J808
  refine ⟨cx1, cx2, 70, 2100, b5, b6, ?_⟩
  refine h_tied hL hv (fun S1 ow1 f c1 m1 f1 f0 g1 => ?_)
  refine ⟨cx1, cx2, ?_⟩
  refine ml_g (fM := fun S q m => f_X8_tied S q (xs (nI l + 1).toNatClampNeg) (xs (nI l + 2).toNatClampNeg) m) c1 m1 f1 f0 g1 (Nat.le_trans oTie_b (by omega)) (fun B F h post hB H hr m nx => m_tied hB H hr hv m nx) (fun S6 hL6 => ?_)
  exact kk S6 ow1 v hs sv r tx fa ln _ _ hL6 (LB_up b1) (by omega) (by omega)
theorem oPhO_b {v : Vt} {x1 x2 : Int32} : (oPhO v x1 x2).1 ≤ 2 := by
  unfold oPhO
  repeat' split
  all_goals first | exact Nat.zero_le _ | exact Nat.le_refl _ | exact Nat.le_succ 1
theorem h_phaseOf {x1 x2 : Int32} {post : Int32 → PS → Prop} (hL : LIv S ow A v hs sv r tx fa ln) (hv : okV v) (next : ∀ S1 ow1 f, CI S1 ow1 A v hs sv r tx fa ln → MI S1 ow1 A v hs sv r tx fa ln → oL S1 ow1 A f → ((oPhO v x1 x2).1 = 0 → f 0 = (oPhO v x1 x2).2.toInt64) → (∃ f, oDb S1 ow1 A f) → post (nI (oPhO v x1 x2).1) S1) : f_L_phaseOf S (A 12) x1 x2 (A 13) 70 2100 post := by
  unfold f_L_phaseOf
  exact hl_g (o := oPhO v x1 x2) (E := eE "java/lang/IndexOutOfBoundsException" "java/lang/IllegalArgumentException") (fC := fun bc bs p px => f_X7_phaseOf S (A 12) x1 x2 bc bs p px) hL (fun post postX nx => x_phaseOf hL.1 hv (by omega) (by omega) (fun S1 c1 k1 => nx S1 ow c1 k1)) (fun S4 h0 hq => eE_2 (P := fun z => post z S4) oPhO_b h0 rfl hq) next
theorem j_phaseOf (cx : CX L g28 A S ow v hs sv r tx fa ln i l bc bs) : f_L_law_J915 adK L xs g28 S bc bs (A 12) (A 15) (A 13) (A 14) (nI l) := by
  obtain ⟨cx1, cx2, cx3⟩ := CX_in cx
  obtain ⟨hL, b1, b2, b3, b4, b5, b6, kk⟩ := cx
  have hv := b1.1.1
  have ht : tot v + 3000 < 10000000 := by have := b1.1.2; omega
  unfold f_L_law_J915
  refine ⟨cx1, cx2, 70, 2100, b5, b6, ?_⟩
  refine h_phaseOf hL hv (fun S1 ow1 f c1 m1 f1 f0 g1 => ?_)
  refine ⟨cx1, cx2, ?_⟩
  refine ml_g (fM := fun S q m => f_X8_phaseOf S q (xs (nI l + 1).toNatClampNeg) (xs (nI l + 2).toNatClampNeg) m) c1 m1 f1 f0 g1 (Nat.le_trans oPhO_b (by omega)) (fun B F h post hB H hr m nx => m_phaseOf hB H hr hv m nx) (fun S6 hL6 => ?_)
  exact kk S6 ow1 v hs sv r tx fa ln _ _ hL6 (LB_up b1) (by omega) (by omega)
theorem oJoi_b {v : Vt} {x1 x2 : Int32} : (oJoi v x1 x2).1 ≤ 2 := by
  unfold oJoi
  repeat' split
  all_goals first | exact Nat.zero_le _ | exact Nat.le_refl _ | exact Nat.le_succ 1
theorem h_joined {x1 x2 : Int32} {post : Int32 → PS → Prop} (hL : LIv S ow A v hs sv r tx fa ln) (hv : okV v) (next : ∀ S1 ow1 f, CI S1 ow1 A v hs sv r tx fa ln → MI S1 ow1 A v hs sv r tx fa ln → oL S1 ow1 A f → ((oJoi v x1 x2).1 = 0 → f 0 = (oJoi v x1 x2).2.toInt64) → (∃ f, oDb S1 ow1 A f) → post (nI (oJoi v x1 x2).1) S1) : f_L_joined S (A 12) x1 x2 (A 13) 70 2100 post := by
  unfold f_L_joined
  exact hl_g (o := oJoi v x1 x2) (E := eE "java/lang/IndexOutOfBoundsException" "java/util/NoSuchElementException") (fC := fun bc bs p px => f_X7_joined S (A 12) x1 x2 bc bs p px) hL (fun post postX nx => x_joined hL.1 hv (by omega) (by omega) (fun S1 c1 k1 => nx S1 ow c1 k1)) (fun S4 h0 hq => eE_2 (P := fun z => post z S4) oJoi_b h0 rfl hq) next
theorem j_joined (cx : CX L g28 A S ow v hs sv r tx fa ln i l bc bs) : f_L_law_J983 adK L xs g28 S bc bs (A 12) (A 15) (A 13) (A 14) (nI l) := by
  obtain ⟨cx1, cx2, cx3⟩ := CX_in cx
  obtain ⟨hL, b1, b2, b3, b4, b5, b6, kk⟩ := cx
  have hv := b1.1.1
  have ht : tot v + 3000 < 10000000 := by have := b1.1.2; omega
  unfold f_L_law_J983
  refine ⟨cx1, cx2, 70, 2100, b5, b6, ?_⟩
  refine h_joined hL hv (fun S1 ow1 f c1 m1 f1 f0 g1 => ?_)
  refine ⟨cx1, cx2, ?_⟩
  refine ml_g (fM := fun S q m => f_X8_joined S q (xs (nI l + 1).toNatClampNeg) (xs (nI l + 2).toNatClampNeg) m) c1 m1 f1 f0 g1 (Nat.le_trans oJoi_b (by omega)) (fun B F h post hB H hr m nx => m_joined hB H hr hv m nx) (fun S6 hL6 => ?_)
  exact kk S6 ow1 v hs sv r tx fa ln _ _ hL6 (LB_up b1) (by omega) (by omega)
theorem oTat_b {v : Vt} {x1 x2 : Int32} : (oTat v x1 x2).1 ≤ 2 := by
  unfold oTat
  repeat' split
  all_goals first | exact Nat.zero_le _ | exact Nat.le_refl _ | exact Nat.le_succ 1
theorem h_tieAt {x1 x2 : Int32} {post : Int32 → PS → Prop} (hL : LIv S ow A v hs sv r tx fa ln) (hv : okV v) (next : ∀ S1 ow1 f, CI S1 ow1 A v hs sv r tx fa ln → MI S1 ow1 A v hs sv r tx fa ln → oL S1 ow1 A f → ((oTat v x1 x2).1 = 0 → f 0 = (oTat v x1 x2).2.toInt64) → (∃ f, oDb S1 ow1 A f) → post (nI (oTat v x1 x2).1) S1) : f_L_tieAt S (A 12) x1 x2 (A 13) 70 2100 post := by
  unfold f_L_tieAt
  exact hl_g (o := oTat v x1 x2) (E := eE "java/lang/IndexOutOfBoundsException" "java/util/NoSuchElementException") (fC := fun bc bs p px => f_X7_tieAt S (A 12) x1 x2 bc bs p px) hL (fun post postX nx => x_tieAt hL.1 hv (by omega) (by omega) (fun S1 c1 k1 => nx S1 ow c1 k1)) (fun S4 h0 hq => eE_2 (P := fun z => post z S4) oTat_b h0 rfl hq) next
theorem j_tieAt (cx : CX L g28 A S ow v hs sv r tx fa ln i l bc bs) : f_L_law_J1051 adK L xs g28 S bc bs (A 12) (A 15) (A 13) (A 14) (nI l) := by
  obtain ⟨cx1, cx2, cx3⟩ := CX_in cx
  obtain ⟨hL, b1, b2, b3, b4, b5, b6, kk⟩ := cx
  have hv := b1.1.1
  have ht : tot v + 3000 < 10000000 := by have := b1.1.2; omega
  unfold f_L_law_J1051
  refine ⟨cx1, cx2, 70, 2100, b5, b6, ?_⟩
  refine h_tieAt hL hv (fun S1 ow1 f c1 m1 f1 f0 g1 => ?_)
  refine ⟨cx1, cx2, ?_⟩
  refine ml_g (fM := fun S q m => f_X8_tieAt S q (xs (nI l + 1).toNatClampNeg) (xs (nI l + 2).toNatClampNeg) m) c1 m1 f1 f0 g1 (Nat.le_trans oTat_b (by omega)) (fun B F h post hB H hr m nx => m_tieAt hB H hr hv m nx) (fun S6 hL6 => ?_)
  exact kk S6 ow1 v hs sv r tx fa ln _ _ hL6 (LB_up b1) (by omega) (by omega)
theorem oLst_b {v : Vt} : (oLst v).1 ≤ 1 := by
  unfold oLst
  repeat' split
  all_goals first | exact Nat.zero_le _ | exact Nat.le_refl _ | exact Nat.le_succ 1
theorem h_least {post : Int32 → PS → Prop} (hL : LIv S ow A v hs sv r tx fa ln) (hv : okV v) (next : ∀ S1 ow1 f, CI S1 ow1 A v hs sv r tx fa ln → MI S1 ow1 A v hs sv r tx fa ln → oL S1 ow1 A f → ((oLst v).1 = 0 → f 0 = (oLst v).2.toInt64) → (∃ f, oDb S1 ow1 A f) → post (nI (oLst v).1) S1) : f_L_least S (A 12) (A 13) 70 2100 post := by
  unfold f_L_least
  exact hl_g (o := oLst v) (E := eE "java/util/NoSuchElementException" "") (fC := fun bc bs p px => f_X7_least S (A 12) bc bs p px) hL (fun post postX nx => x_least hL.1 hv (by omega) (by omega) (fun S1 c1 k1 => nx S1 ow c1 k1)) (fun S4 h0 hq => eE_1 (P := fun z => post z S4) oLst_b h0 rfl hq) next
theorem j_least (cx : CX L g28 A S ow v hs sv r tx fa ln i l bc bs) : f_L_law_J1119 adK L xs g28 S bc bs (A 12) (A 15) (A 13) (A 14) (nI l) := by
  obtain ⟨cx1, cx2, cx3⟩ := CX_in cx
  obtain ⟨hL, b1, b2, b3, b4, b5, b6, kk⟩ := cx
  have hv := b1.1.1
  have ht : tot v + 3000 < 10000000 := by have := b1.1.2; omega
  unfold f_L_law_J1119
  refine ⟨70, 2100, b5, b6, ?_⟩
  refine h_least hL hv (fun S1 ow1 f c1 m1 f1 f0 g1 => ?_)
  refine ml_g (fM := fun S q m => f_X8_least S q m) c1 m1 f1 f0 g1 (Nat.le_trans oLst_b (by omega)) (fun B F h post hB H hr m nx => m_least hB H hr hv m nx) (fun S6 hL6 => ?_)
  exact kk S6 ow1 v hs sv r tx fa ln _ _ hL6 (LB_up b1) (by omega) (by omega)
theorem h_leastAgain {post : Int32 → PS → Prop} (hL : LIv S ow A v hs sv r tx fa ln) (hv : okV v) (next : ∀ S1 ow1 f, CI S1 ow1 A v hs sv r tx fa ln → MI S1 ow1 A v hs sv r tx fa ln → oL S1 ow1 A f → ((oLst v).1 = 0 → f 0 = (oLst v).2.toInt64) → (∃ f, oDb S1 ow1 A f) → post (nI (oLst v).1) S1) : f_L_leastAgain S (A 12) (A 13) 70 2100 post := by
  unfold f_L_leastAgain
  exact hl_g (o := oLst v) (E := eE "java/util/NoSuchElementException" "") (fC := fun bc bs p px => f_X7_leastAgain S (A 12) bc bs p px) hL (fun post postX nx => x_leastAgain hL.1 hv (by omega) (by omega) (fun S1 c1 k1 => nx S1 ow c1 k1)) (fun S4 h0 hq => eE_1 (P := fun z => post z S4) oLst_b h0 rfl hq) next
theorem j_leastAgain (cx : CX L g28 A S ow v hs sv r tx fa ln i l bc bs) : f_L_law_J1163 adK L xs g28 S bc bs (A 12) (A 15) (A 13) (A 14) (nI l) := by
  obtain ⟨cx1, cx2, cx3⟩ := CX_in cx
  obtain ⟨hL, b1, b2, b3, b4, b5, b6, kk⟩ := cx
  have hv := b1.1.1
  have ht : tot v + 3000 < 10000000 := by have := b1.1.2; omega
  unfold f_L_law_J1163
  refine ⟨70, 2100, b5, b6, ?_⟩
  refine h_leastAgain hL hv (fun S1 ow1 f c1 m1 f1 f0 g1 => ?_)
  refine ml_g (fM := fun S q m => f_X8_leastAgain S q m) c1 m1 f1 f0 g1 (Nat.le_trans oLst_b (by omega)) (fun B F h post hB H hr m nx => m_leastAgain hB H hr hv m nx) (fun S6 hL6 => ?_)
  exact kk S6 ow1 v hs sv r tx fa ln _ _ hL6 (LB_up b1) (by omega) (by omega)
theorem oMet_b {v : Vt} : (oMet v).1 ≤ 1 := by
  unfold oMet
  repeat' split
  all_goals first | exact Nat.zero_le _ | exact Nat.le_refl _ | exact Nat.le_succ 1
theorem h_met {post : Int32 → PS → Prop} (hL : LIv S ow A v hs sv r tx fa ln) (hv : okV v) (next : ∀ S1 ow1 f, CI S1 ow1 A v hs sv r tx fa ln → MI S1 ow1 A v hs sv r tx fa ln → oL S1 ow1 A f → ((oMet v).1 = 0 → f 0 = (oMet v).2.toInt64) → (∃ f, oDb S1 ow1 A f) → post (nI (oMet v).1) S1) : f_L_met S (A 12) (A 13) 70 2100 post := by
  unfold f_L_met
  exact hl_g (o := oMet v) (E := eE "java/util/NoSuchElementException" "") (fC := fun bc bs p px => f_X7_met S (A 12) bc bs p px) hL (fun post postX nx => x_met hL.1 hv (by omega) (by omega) (fun S1 c1 k1 => nx S1 ow c1 k1)) (fun S4 h0 hq => eE_1 (P := fun z => post z S4) oMet_b h0 rfl hq) next
theorem j_met (cx : CX L g28 A S ow v hs sv r tx fa ln i l bc bs) : f_L_law_J1207 adK L xs g28 S bc bs (A 12) (A 15) (A 13) (A 14) (nI l) := by
  obtain ⟨cx1, cx2, cx3⟩ := CX_in cx
  obtain ⟨hL, b1, b2, b3, b4, b5, b6, kk⟩ := cx
  have hv := b1.1.1
  have ht : tot v + 3000 < 10000000 := by have := b1.1.2; omega
  unfold f_L_law_J1207
  refine ⟨70, 2100, b5, b6, ?_⟩
  refine h_met hL hv (fun S1 ow1 f c1 m1 f1 f0 g1 => ?_)
  refine ml_g (fM := fun S q m => f_X8_met S q m) c1 m1 f1 f0 g1 (Nat.le_trans oMet_b (by omega)) (fun B F h post hB H hr m nx => m_met hB H hr hv m nx) (fun S6 hL6 => ?_)
  exact kk S6 ow1 v hs sv r tx fa ln _ _ hL6 (LB_up b1) (by omega) (by omega)
theorem oLsd_b {v : Vt} : (oLsd v).1 ≤ 1 := by
  unfold oLsd
  repeat' split
  all_goals first | exact Nat.zero_le _ | exact Nat.le_refl _ | exact Nat.le_succ 1
theorem h_leastSides {post : Int32 → PS → Prop} (hL : LIv S ow A v hs sv r tx fa ln) (hv : okV v) (next : ∀ S1 ow1 f, CI S1 ow1 A v hs sv r tx fa ln → MI S1 ow1 A v hs sv r tx fa ln → oL S1 ow1 A f → ((oLsd v).1 = 0 → f 0 = (oLsd v).2.toInt64) → (∃ f, oDb S1 ow1 A f) → post (nI (oLsd v).1) S1) : f_L_leastSides S (A 12) (A 13) 70 2100 post := by
  unfold f_L_leastSides
  exact hl_g (o := oLsd v) (E := eE "java/util/NoSuchElementException" "") (fC := fun bc bs p px => f_X7_leastSides S (A 12) bc bs p px) hL (fun post postX nx => x_leastSides hL.1 hv (by omega) (by omega) (fun S1 c1 k1 => nx S1 ow c1 k1)) (fun S4 h0 hq => eE_1 (P := fun z => post z S4) oLsd_b h0 rfl hq) next
theorem j_leastSides (cx : CX L g28 A S ow v hs sv r tx fa ln i l bc bs) : f_L_law_J1251 adK L xs g28 S bc bs (A 12) (A 15) (A 13) (A 14) (nI l) := by
  obtain ⟨cx1, cx2, cx3⟩ := CX_in cx
  obtain ⟨hL, b1, b2, b3, b4, b5, b6, kk⟩ := cx
  have hv := b1.1.1
  have ht : tot v + 3000 < 10000000 := by have := b1.1.2; omega
  unfold f_L_law_J1251
  refine ⟨70, 2100, b5, b6, ?_⟩
  refine h_leastSides hL hv (fun S1 ow1 f c1 m1 f1 f0 g1 => ?_)
  refine ml_g (fM := fun S q m => f_X8_leastSides S q m) c1 m1 f1 f0 g1 (Nat.le_trans oLsd_b (by omega)) (fun B F h post hB H hr m nx => m_leastSides hB H hr hv m nx) (fun S6 hL6 => ?_)
  exact kk S6 ow1 v hs sv r tx fa ln _ _ hL6 (LB_up b1) (by omega) (by omega)
theorem oBtw_b {v : Vt} {x1 x2 : Int32} : (oBtw v x1 x2).1 ≤ 2 := by
  unfold oBtw
  repeat' split
  all_goals first | exact Nat.zero_le _ | exact Nat.le_refl _ | exact Nat.le_succ 1
theorem h_between {x1 x2 : Int32} {post : Int32 → PS → Prop} (hL : LIv S ow A v hs sv r tx fa ln) (hv : okV v) (next : ∀ S1 ow1 f, CI S1 ow1 A v hs sv r tx fa ln → MI S1 ow1 A v hs sv r tx fa ln → oL S1 ow1 A f → ((oBtw v x1 x2).1 = 0 → f 0 = (oBtw v x1 x2).2.toInt64) → (∃ f, oDb S1 ow1 A f) → post (nI (oBtw v x1 x2).1) S1) : f_L_between S (A 12) x1 x2 (A 13) 70 2100 post := by
  unfold f_L_between
  exact hl_g (o := oBtw v x1 x2) (E := eE "java/lang/IndexOutOfBoundsException" "java/lang/IllegalArgumentException") (fC := fun bc bs p px => f_X7_between S (A 12) x1 x2 bc bs p px) hL (fun post postX nx => x_between hL.1 hv (by omega) (by omega) (fun S1 c1 k1 => nx S1 ow c1 k1)) (fun S4 h0 hq => eE_2 (P := fun z => post z S4) oBtw_b h0 rfl hq) next
theorem j_between (cx : CX L g28 A S ow v hs sv r tx fa ln i l bc bs) : f_L_law_J1295 adK L xs g28 S bc bs (A 12) (A 15) (A 13) (A 14) (nI l) := by
  obtain ⟨cx1, cx2, cx3⟩ := CX_in cx
  obtain ⟨hL, b1, b2, b3, b4, b5, b6, kk⟩ := cx
  have hv := b1.1.1
  have ht : tot v + 3000 < 10000000 := by have := b1.1.2; omega
  unfold f_L_law_J1295
  refine ⟨cx1, cx2, 70, 2100, b5, b6, ?_⟩
  refine h_between hL hv (fun S1 ow1 f c1 m1 f1 f0 g1 => ?_)
  refine ⟨cx1, cx2, ?_⟩
  refine ml_g (fM := fun S q m => f_X8_between S q (xs (nI l + 1).toNatClampNeg) (xs (nI l + 2).toNatClampNeg) m) c1 m1 f1 f0 g1 (Nat.le_trans oBtw_b (by omega)) (fun B F h post hB H hr m nx => m_between hB H hr hv m nx) (fun S6 hL6 => ?_)
  exact kk S6 ow1 v hs sv r tx fa ln _ _ hL6 (LB_up b1) (by omega) (by omega)
theorem h_betweenAgain {x1 x2 : Int32} {post : Int32 → PS → Prop} (hL : LIv S ow A v hs sv r tx fa ln) (hv : okV v) (next : ∀ S1 ow1 f, CI S1 ow1 A v hs sv r tx fa ln → MI S1 ow1 A v hs sv r tx fa ln → oL S1 ow1 A f → ((oBtw v x1 x2).1 = 0 → f 0 = (oBtw v x1 x2).2.toInt64) → (∃ f, oDb S1 ow1 A f) → post (nI (oBtw v x1 x2).1) S1) : f_L_betweenAgain S (A 12) x1 x2 (A 13) 70 2100 post := by
  unfold f_L_betweenAgain
  exact hl_g (o := oBtw v x1 x2) (E := eE "java/lang/IndexOutOfBoundsException" "java/lang/IllegalArgumentException") (fC := fun bc bs p px => f_X7_betweenAgain S (A 12) x1 x2 bc bs p px) hL (fun post postX nx => x_betweenAgain hL.1 hv (by omega) (by omega) (fun S1 c1 k1 => nx S1 ow c1 k1)) (fun S4 h0 hq => eE_2 (P := fun z => post z S4) oBtw_b h0 rfl hq) next
theorem j_betweenAgain (cx : CX L g28 A S ow v hs sv r tx fa ln i l bc bs) : f_L_law_J1363 adK L xs g28 S bc bs (A 12) (A 15) (A 13) (A 14) (nI l) := by
  obtain ⟨cx1, cx2, cx3⟩ := CX_in cx
  obtain ⟨hL, b1, b2, b3, b4, b5, b6, kk⟩ := cx
  have hv := b1.1.1
  have ht : tot v + 3000 < 10000000 := by have := b1.1.2; omega
  unfold f_L_law_J1363
  refine ⟨cx1, cx2, 70, 2100, b5, b6, ?_⟩
  refine h_betweenAgain hL hv (fun S1 ow1 f c1 m1 f1 f0 g1 => ?_)
  refine ⟨cx1, cx2, ?_⟩
  refine ml_g (fM := fun S q m => f_X8_betweenAgain S q (xs (nI l + 1).toNatClampNeg) (xs (nI l + 2).toNatClampNeg) m) c1 m1 f1 f0 g1 (Nat.le_trans oBtw_b (by omega)) (fun B F h post hB H hr m nx => m_betweenAgain hB H hr hv m nx) (fun S6 hL6 => ?_)
  exact kk S6 ow1 v hs sv r tx fa ln _ _ hL6 (LB_up b1) (by omega) (by omega)
theorem oBst_b {v : Vt} : (oBst v).1 ≤ 1 := by
  unfold oBst
  repeat' split
  all_goals first | exact Nat.zero_le _ | exact Nat.le_refl _ | exact Nat.le_succ 1
theorem h_bestMove {post : Int32 → PS → Prop} (hL : LIv S ow A v hs sv r tx fa ln) (hv : okV v) (next : ∀ S1 ow1 f, CI S1 ow1 A v hs sv r tx fa ln → MI S1 ow1 A v hs sv r tx fa ln → oL S1 ow1 A f → ((oBst v).1 = 0 → f 0 = (oBst v).2.toInt64) → (∃ f, oDb S1 ow1 A f) → post (nI (oBst v).1) S1) : f_L_bestMove S (A 12) (A 13) 70 2100 post := by
  unfold f_L_bestMove
  exact hl_g (o := oBst v) (E := eE "java/util/NoSuchElementException" "") (fC := fun bc bs p px => f_X7_bestMove S (A 12) bc bs p px) hL (fun post postX nx => x_bestMove hL.1 hv (by omega) (by omega) (nx S ow hL.1 keeps.refl)) (fun S4 h0 hq => eE_1 (P := fun z => post z S4) oBst_b h0 rfl hq) next
theorem j_bestMove (cx : CX L g28 A S ow v hs sv r tx fa ln i l bc bs) : f_L_law_J1431 adK L xs g28 S bc bs (A 12) (A 15) (A 13) (A 14) (nI l) := by
  obtain ⟨cx1, cx2, cx3⟩ := CX_in cx
  obtain ⟨hL, b1, b2, b3, b4, b5, b6, kk⟩ := cx
  have hv := b1.1.1
  have ht : tot v + 3000 < 10000000 := by have := b1.1.2; omega
  unfold f_L_law_J1431
  refine ⟨70, 2100, b5, b6, ?_⟩
  refine h_bestMove hL hv (fun S1 ow1 f c1 m1 f1 f0 g1 => ?_)
  refine ml_g (fM := fun S q m => f_X8_bestMove S q m) c1 m1 f1 f0 g1 (Nat.le_trans oBst_b (by omega)) (fun B F h post hB H hr m nx => m_bestMove hB H hr hv m nx) (fun S6 hL6 => ?_)
  exact kk S6 ow1 v hs sv r tx fa ln _ _ hL6 (LB_up b1) (by omega) (by omega)
theorem oIfM_b {v : Vt} {x1 : Int32} : (oIfM v x1).1 ≤ 1 := by
  unfold oIfM
  repeat' split
  all_goals first | exact Nat.zero_le _ | exact Nat.le_refl _ | exact Nat.le_succ 1
theorem h_ifMoved {x1 : Int32} {post : Int32 → PS → Prop} (hL : LIv S ow A v hs sv r tx fa ln) (hv : okV v) (next : ∀ S1 ow1 f, CI S1 ow1 A v hs sv r tx fa ln → MI S1 ow1 A v hs sv r tx fa ln → oL S1 ow1 A f → ((oIfM v x1).1 = 0 → f 0 = (oIfM v x1).2.toInt64) → (∃ f, oDb S1 ow1 A f) → post (nI (oIfM v x1).1) S1) : f_L_ifMoved S (A 12) x1 (A 13) 70 2100 post := by
  unfold f_L_ifMoved
  exact hl_g (o := oIfM v x1) (E := eE "java/lang/IndexOutOfBoundsException" "") (fC := fun bc bs p px => f_X7_ifMoved S (A 12) x1 bc bs p px) hL (fun post postX nx => x_ifMoved hL.1 hv (by omega) (by omega) (nx S ow hL.1 keeps.refl)) (fun S4 h0 hq => eE_1 (P := fun z => post z S4) oIfM_b h0 rfl hq) next
theorem j_ifMoved (cx : CX L g28 A S ow v hs sv r tx fa ln i l bc bs) : f_L_law_J1475 adK L xs g28 S bc bs (A 12) (A 15) (A 13) (A 14) (nI l) := by
  obtain ⟨cx1, cx2, cx3⟩ := CX_in cx
  obtain ⟨hL, b1, b2, b3, b4, b5, b6, kk⟩ := cx
  have hv := b1.1.1
  have ht : tot v + 3000 < 10000000 := by have := b1.1.2; omega
  unfold f_L_law_J1475
  refine ⟨cx1, 70, 2100, b5, b6, ?_⟩
  refine h_ifMoved hL hv (fun S1 ow1 f c1 m1 f1 f0 g1 => ?_)
  refine ⟨cx1, ?_⟩
  refine ml_g (fM := fun S q m => f_X8_ifMoved S q (xs (nI l + 1).toNatClampNeg) m) c1 m1 f1 f0 g1 (Nat.le_trans oIfM_b (by omega)) (fun B F h post hB H hr m nx => m_ifMoved hB H hr hv m nx) (fun S6 hL6 => ?_)
  exact kk S6 ow1 v hs sv r tx fa ln _ _ hL6 (LB_up b1) (by omega) (by omega)
theorem oIfB_b {v : Vt} {x1 x2 x3 : Int32} : (oIfB v x1 x2 x3).1 ≤ 2 := by
  unfold oIfB
  repeat' split
  all_goals first | exact Nat.zero_le _ | exact Nat.le_refl _ | exact Nat.le_succ 1
theorem h_ifBond {x1 x2 x3 : Int32} {post : Int32 → PS → Prop} (hL : LIv S ow A v hs sv r tx fa ln) (hv : okV v) (ht : tot v + 3000 < 10000000) (next : ∀ S1 ow1 f, CI S1 ow1 A v hs sv r tx fa ln → MI S1 ow1 A v hs sv r tx fa ln → oL S1 ow1 A f → ((oIfB v x1 x2 x3).1 = 0 → f 0 = (oIfB v x1 x2 x3).2.toInt64) → (∃ f, oDb S1 ow1 A f) → post (nI (oIfB v x1 x2 x3).1) S1) : f_L_ifBond S (A 12) x1 x2 x3 (A 13) 70 2100 post := by
  unfold f_L_ifBond
  exact hl_g (o := oIfB v x1 x2 x3) (E := eE "java/lang/IndexOutOfBoundsException" "java/lang/IllegalArgumentException") (fC := fun bc bs p px => f_X7_ifBond S (A 12) x1 x2 x3 bc bs p px) hL (fun post postX nx => x_ifBond hL.1 hv ht (by omega) (by omega) (fun S1 c1 k1 => nx S1 ow c1 k1)) (fun S4 h0 hq => eE_2 (P := fun z => post z S4) oIfB_b h0 rfl hq) next
theorem j_ifBond (cx : CX L g28 A S ow v hs sv r tx fa ln i l bc bs) : f_L_law_J1531 adK L xs g28 S bc bs (A 12) (A 15) (A 13) (A 14) (nI l) := by
  obtain ⟨cx1, cx2, cx3⟩ := CX_in cx
  obtain ⟨hL, b1, b2, b3, b4, b5, b6, kk⟩ := cx
  have hv := b1.1.1
  have ht : tot v + 3000 < 10000000 := by have := b1.1.2; omega
  unfold f_L_law_J1531
  refine ⟨cx1, cx2, cx3, 70, 2100, b5, b6, ?_⟩
  refine h_ifBond hL hv ht (fun S1 ow1 f c1 m1 f1 f0 g1 => ?_)
  refine ⟨cx1, cx2, cx3, ?_⟩
  refine ml_g (fM := fun S q m => f_X8_ifBond S q (xs (nI l + 1).toNatClampNeg) (xs (nI l + 2).toNatClampNeg) (xs (nI l + 3).toNatClampNeg) m) c1 m1 f1 f0 g1 (Nat.le_trans oIfB_b (by omega)) (fun B F h post hB H hr m nx => m_ifBond hB H hr hv ht m nx) (fun S6 hL6 => ?_)
  exact kk S6 ow1 v hs sv r tx fa ln _ _ hL6 (LB_up b1) (by omega) (by omega)
theorem oPof_b {v : Vt} {x1 : Int32} : (oPof v x1).1 ≤ 1 := by
  unfold oPof
  repeat' split
  all_goals first | exact Nat.zero_le _ | exact Nat.le_refl _ | exact Nat.le_succ 1
theorem h_partOf {x1 : Int32} {post : Int32 → PS → Prop} (hL : LIv S ow A v hs sv r tx fa ln) (hv : okV v) (next : ∀ S1 ow1 f, CI S1 ow1 A v hs sv r tx fa ln → MI S1 ow1 A v hs sv r tx fa ln → oL S1 ow1 A f → ((oPof v x1).1 = 0 → f 0 = (oPof v x1).2.toInt64) → (∃ f, oDb S1 ow1 A f) → post (nI (oPof v x1).1) S1) : f_L_partOf S (A 12) x1 (A 13) 70 2100 post := by
  unfold f_L_partOf
  exact hl_g (o := oPof v x1) (E := eE "java/lang/IndexOutOfBoundsException" "") (fC := fun bc bs p px => f_X7_partOf S (A 12) x1 bc bs p px) hL (fun post postX nx => x_partOf hL.1 hv (by omega) (by omega) (nx S ow hL.1 keeps.refl)) (fun S4 h0 hq => eE_1 (P := fun z => post z S4) oPof_b h0 rfl hq) next
theorem j_partOf (cx : CX L g28 A S ow v hs sv r tx fa ln i l bc bs) : f_L_law_J1699 adK L xs g28 S bc bs (A 12) (A 15) (A 13) (A 14) (nI l) := by
  obtain ⟨cx1, cx2, cx3⟩ := CX_in cx
  obtain ⟨hL, b1, b2, b3, b4, b5, b6, kk⟩ := cx
  have hv := b1.1.1
  have ht : tot v + 3000 < 10000000 := by have := b1.1.2; omega
  unfold f_L_law_J1699
  refine ⟨cx1, 70, 2100, b5, b6, ?_⟩
  refine h_partOf hL hv (fun S1 ow1 f c1 m1 f1 f0 g1 => ?_)
  refine ⟨cx1, ?_⟩
  refine ml_g (fM := fun S q m => f_X8_partOf S q (xs (nI l + 1).toNatClampNeg) m) c1 m1 f1 f0 g1 (Nat.le_trans oPof_b (by omega)) (fun B F h post hB H hr m nx => m_partOf hB H hr hv m nx) (fun S6 hL6 => ?_)
  exact kk S6 ow1 v hs sv r tx fa ln _ _ hL6 (LB_up b1) (by omega) (by omega)
theorem oBat_b {v : Vt} {x1 : Int32} : (oBat v x1).1 ≤ 1 := by
  unfold oBat
  repeat' split
  all_goals first | exact Nat.zero_le _ | exact Nat.le_refl _ | exact Nat.le_succ 1
theorem h_bondAt {x1 : Int32} {post : Int32 → PS → Prop} (hL : LIv S ow A v hs sv r tx fa ln) (hv : okV v) (next : ∀ S1 ow1 f, CI S1 ow1 A v hs sv r tx fa ln → MI S1 ow1 A v hs sv r tx fa ln → oL S1 ow1 A f → ((oBat v x1).1 = 0 → f 0 = (oBat v x1).2.toInt64) → (∃ f, oDb S1 ow1 A f) → post (nI (oBat v x1).1) S1) : f_L_bondAt S (A 12) x1 (A 13) 70 2100 post := by
  unfold f_L_bondAt
  exact hl_g (o := oBat v x1) (E := eE "java/util/NoSuchElementException" "") (fC := fun bc bs p px => f_X7_bondAt S (A 12) x1 bc bs p px) hL (fun post postX nx => x_bondAt hL.1 hv (by omega) (by omega) (nx S ow hL.1 keeps.refl)) (fun S4 h0 hq => eE_1 (P := fun z => post z S4) oBat_b h0 rfl hq) next
theorem j_bondAt (cx : CX L g28 A S ow v hs sv r tx fa ln i l bc bs) : f_L_law_J1755 adK L xs g28 S bc bs (A 12) (A 15) (A 13) (A 14) (nI l) := by
  obtain ⟨cx1, cx2, cx3⟩ := CX_in cx
  obtain ⟨hL, b1, b2, b3, b4, b5, b6, kk⟩ := cx
  have hv := b1.1.1
  have ht : tot v + 3000 < 10000000 := by have := b1.1.2; omega
  unfold f_L_law_J1755
  refine ⟨cx1, 70, 2100, b5, b6, ?_⟩
  refine h_bondAt hL hv (fun S1 ow1 f c1 m1 f1 f0 g1 => ?_)
  refine ⟨cx1, ?_⟩
  refine ml_g (fM := fun S q m => f_X8_bondAt S q (xs (nI l + 1).toNatClampNeg) m) c1 m1 f1 f0 g1 (Nat.le_trans oBat_b (by omega)) (fun B F h post hB H hr m nx => m_bondAt hB H hr hv m nx) (fun S6 hL6 => ?_)
  exact kk S6 ow1 v hs sv r tx fa ln _ _ hL6 (LB_up b1) (by omega) (by omega)
theorem oHvy_b {v : Vt} : (oHvy v).1 ≤ 1 := by
  unfold oHvy
  repeat' split
  all_goals first | exact Nat.zero_le _ | exact Nat.le_refl _ | exact Nat.le_succ 1
theorem h_heaviest {post : Int32 → PS → Prop} (hL : LIv S ow A v hs sv r tx fa ln) (hv : okV v) (next : ∀ S1 ow1 f, CI S1 ow1 A v hs sv r tx fa ln → MI S1 ow1 A v hs sv r tx fa ln → oL S1 ow1 A f → ((oHvy v).1 = 0 → f 0 = (oHvy v).2.toInt64) → (∃ f, oDb S1 ow1 A f) → post (nI (oHvy v).1) S1) : f_L_heaviest S (A 12) (A 13) 70 2100 post := by
  unfold f_L_heaviest
  exact hl_g (o := oHvy v) (E := eE "java/util/NoSuchElementException" "") (fC := fun bc bs p px => f_X7_heaviest S (A 12) bc bs p px) hL (fun post postX nx => x_heaviest hL.1 hv (by omega) (by omega) (nx S ow hL.1 keeps.refl)) (fun S4 h0 hq => eE_1 (P := fun z => post z S4) oHvy_b h0 rfl hq) next
theorem j_heaviest (cx : CX L g28 A S ow v hs sv r tx fa ln i l bc bs) : f_L_law_J1811 adK L xs g28 S bc bs (A 12) (A 15) (A 13) (A 14) (nI l) := by
  obtain ⟨cx1, cx2, cx3⟩ := CX_in cx
  obtain ⟨hL, b1, b2, b3, b4, b5, b6, kk⟩ := cx
  have hv := b1.1.1
  have ht : tot v + 3000 < 10000000 := by have := b1.1.2; omega
  unfold f_L_law_J1811
  refine ⟨70, 2100, b5, b6, ?_⟩
  refine h_heaviest hL hv (fun S1 ow1 f c1 m1 f1 f0 g1 => ?_)
  refine ml_g (fM := fun S q m => f_X8_heaviest S q m) c1 m1 f1 f0 g1 (Nat.le_trans oHvy_b (by omega)) (fun B F h post hB H hr m nx => m_heaviest hB H hr hv m nx) (fun S6 hL6 => ?_)
  exact kk S6 ow1 v hs sv r tx fa ln _ _ hL6 (LB_up b1) (by omega) (by omega)
theorem oRnk_b {v : Vt} {x1 x2 : Int32} : (oRnk v x1 x2).1 ≤ 2 := by
  unfold oRnk
  repeat' split
  all_goals first | exact Nat.zero_le _ | exact Nat.le_refl _ | exact Nat.le_succ 1
theorem h_ranked {x1 x2 : Int32} {post : Int32 → PS → Prop} (hL : LIv S ow A v hs sv r tx fa ln) (hv : okV v) (next : ∀ S1 ow1 f, CI S1 ow1 A v hs sv r tx fa ln → MI S1 ow1 A v hs sv r tx fa ln → oL S1 ow1 A f → ((oRnk v x1 x2).1 = 0 → f 0 = (oRnk v x1 x2).2.toInt64) → (∃ f, oDb S1 ow1 A f) → post (nI (oRnk v x1 x2).1) S1) : f_L_ranked S (A 12) x1 x2 (A 13) 70 2100 post := by
  unfold f_L_ranked
  exact hl_g (o := oRnk v x1 x2) (E := eE "java/lang/IllegalArgumentException" "java/util/NoSuchElementException") (fC := fun bc bs p px => f_X7_ranked S (A 12) x1 x2 bc bs p px) hL (fun post postX nx => x_ranked hL.1 hv (by omega) (by omega) (fun S1 c1 k1 => nx S1 ow c1 k1)) (fun S4 h0 hq => eE_2 (P := fun z => post z S4) oRnk_b h0 rfl hq) next
theorem j_ranked (cx : CX L g28 A S ow v hs sv r tx fa ln i l bc bs) : f_L_law_J1855 adK L xs g28 S bc bs (A 12) (A 15) (A 13) (A 14) (nI l) := by
  obtain ⟨cx1, cx2, cx3⟩ := CX_in cx
  obtain ⟨hL, b1, b2, b3, b4, b5, b6, kk⟩ := cx
  have hv := b1.1.1
  have ht : tot v + 3000 < 10000000 := by have := b1.1.2; omega
  unfold f_L_law_J1855
  refine ⟨cx1, cx2, 70, 2100, b5, b6, ?_⟩
  refine h_ranked hL hv (fun S1 ow1 f c1 m1 f1 f0 g1 => ?_)
  refine ⟨cx1, cx2, ?_⟩
  refine ml_g (fM := fun S q m => f_X8_ranked S q (xs (nI l + 1).toNatClampNeg) (xs (nI l + 2).toNatClampNeg) m) c1 m1 f1 f0 g1 (Nat.le_trans oRnk_b (by omega)) (fun B F h post hB H hr m nx => m_ranked hB H hr hv m nx) (fun S6 hL6 => ?_)
  exact kk S6 ow1 v hs sv r tx fa ln _ _ hL6 (LB_up b1) (by omega) (by omega)
theorem oAcc_b {v : Vt} {x1 : Int32} {n m : Nat} : (oAcc v n m x1).1 ≤ 1 := by
  unfold oAcc
  repeat' split
  all_goals first | exact Nat.zero_le _ | exact Nat.le_refl _ | exact Nat.le_succ 1
theorem h_account {x1 : Int32} {post : Int32 → PS → Prop} (hL : LIv S ow A v hs sv r tx fa ln) (hv : okV v) (next : ∀ S1 ow1 f, CI S1 ow1 A v hs sv r tx fa ln → MI S1 ow1 A v hs sv r tx fa ln → oL S1 ow1 A f → ((oAcc v tx.length hs.length x1).1 = 0 → f 0 = (oAcc v tx.length hs.length x1).2.toInt64) → (∃ f, oDb S1 ow1 A f) → post (nI (oAcc v tx.length hs.length x1).1) S1) : f_L_account S (A 12) x1 (A 13) 70 2100 post := by
  unfold f_L_account
  exact hl_g (o := oAcc v tx.length hs.length x1) (E := eE "java/lang/IllegalArgumentException" "") (fC := fun bc bs p px => f_X7_account S (A 12) x1 bc bs p px) hL (fun post postX nx => x_account hL.1 hv (by omega) (by omega) (nx S ow hL.1 keeps.refl)) (fun S4 h0 hq => eE_1 (P := fun z => post z S4) oAcc_b h0 rfl hq) next
theorem j_account (cx : CX L g28 A S ow v hs sv r tx fa ln i l bc bs) : f_L_law_J2273 adK L xs g28 S bc bs (A 12) (A 15) (A 13) (A 14) (nI l) := by
  obtain ⟨cx1, cx2, cx3⟩ := CX_in cx
  obtain ⟨hL, b1, b2, b3, b4, b5, b6, kk⟩ := cx
  have hv := b1.1.1
  have ht : tot v + 3000 < 10000000 := by have := b1.1.2; omega
  unfold f_L_law_J2273
  refine ⟨cx1, 70, 2100, b5, b6, ?_⟩
  refine h_account hL hv (fun S1 ow1 f c1 m1 f1 f0 g1 => ?_)
  refine ⟨cx1, ?_⟩
  refine ml_g (fM := fun S q m => f_X8_account S q (xs (nI l + 1).toNatClampNeg) m) c1 m1 f1 f0 g1 (Nat.le_trans oAcc_b (by omega)) (fun B F h post hB H hr m nx => m_account hB H hr hv m nx) (fun S6 hL6 => ?_)
  exact kk S6 ow1 v hs sv r tx fa ln _ _ hL6 (LB_up b1) (by omega) (by omega)
theorem j_feud (cx : CX L g28 A S ow v hs sv r tx fa ln i l bc bs) : f_L_law_J876 adK L xs g28 S bc bs (A 12) (A 15) (A 13) (A 14) (nI l) := by
  obtain ⟨hL, b1, b2, b3, b4, b5, b6, kk⟩ := cx
  have hv := b1.1.1
  unfold f_L_law_J876
  rw [G_O hL.1]
  exact lb_g (z := nI (fo v (sds v))) (fC := fun p => f_X7_feud S (A 12) p) (fM := fun S q m => f_X8_feud S q m) hL (fun post nx => x_feud hL.1 hv (nx S ow hL.1 keeps.refl)) (fun S1 B F h post hB H hr m nx => m_feud hB H hr hv m nx) (fun S6 ow6 hL6 => kk S6 ow6 v hs sv r tx fa ln _ _ hL6 (LB_up b1) (by omega) (by omega))
theorem j_feudAgain (cx : CX L g28 A S ow v hs sv r tx fa ln i l bc bs) : f_L_law_J889 adK L xs g28 S bc bs (A 12) (A 15) (A 13) (A 14) (nI l) := by
  obtain ⟨hL, b1, b2, b3, b4, b5, b6, kk⟩ := cx
  have hv := b1.1.1
  unfold f_L_law_J889
  rw [G_O hL.1]
  exact lb_g (z := nI (fo v (sds v))) (fC := fun p => f_X7_feudAgain S (A 12) p) (fM := fun S q m => f_X8_feudAgain S q m) hL (fun post nx => x_feudAgain hL.1 hv (nx S ow hL.1 keeps.refl)) (fun S1 B F h post hB H hr m nx => m_feudAgain hB H hr hv m nx) (fun S6 ow6 hL6 => kk S6 ow6 v hs sv r tx fa ln _ _ hL6 (LB_up b1) (by omega) (by omega))
theorem j_phases (cx : CX L g28 A S ow v hs sv r tx fa ln i l bc bs) : f_L_law_J902 adK L xs g28 S bc bs (A 12) (A 15) (A 13) (A 14) (nI l) := by
  obtain ⟨hL, b1, b2, b3, b4, b5, b6, kk⟩ := cx
  have hv := b1.1.1
  unfold f_L_law_J902
  rw [G_O hL.1]
  exact lb_g (z := nI (v 0 - 1)) (fC := fun p => f_X7_phases S (A 12) p) (fM := fun S q m => f_X8_phases S q m) hL (fun post nx => x_phases hL.1 hv (nx S ow hL.1 keeps.refl)) (fun S1 B F h post hB H hr m nx => m_phases hB H hr hv m nx) (fun S6 ow6 hL6 => kk S6 ow6 v hs sv r tx fa ln _ _ hL6 (LB_up b1) (by omega) (by omega))
theorem j_parts (cx : CX L g28 A S ow v hs sv r tx fa ln i l bc bs) : f_L_law_J1686 adK L xs g28 S bc bs (A 12) (A 15) (A 13) (A 14) (nI l) := by
  obtain ⟨hL, b1, b2, b3, b4, b5, b6, kk⟩ := cx
  have hv := b1.1.1
  unfold f_L_law_J1686
  rw [G_O hL.1]
  exact lb_g (z := nI (ptn v (v 0))) (fC := fun p => f_X7_parts S (A 12) p) (fM := fun S q m => f_X8_parts S q m) hL (fun post nx => x_parts hL.1 hv (nx S ow hL.1 keeps.refl)) (fun S1 B F h post hB H hr m nx => m_parts hB H hr hv m nx) (fun S6 ow6 hL6 => kk S6 ow6 v hs sv r tx fa ln _ _ hL6 (LB_up b1) (by omega) (by omega))
theorem j_isTold (cx : CX L g28 A S ow v hs sv r tx fa ln i l bc bs) : f_L_law_J1923 adK L xs g28 S bc bs (A 12) (A 15) (A 13) (A 14) (nI l) := by
  obtain ⟨hL, b1, b2, b3, b4, b5, b6, kk⟩ := cx
  have hv := b1.1.1
  unfold f_L_law_J1923
  rw [G_O hL.1]
  exact lb_g (z := 1) (fC := fun p => f_X7_isTold S (A 12) p) (fM := fun S q m => f_X8_isTold S q m) hL (fun post nx => x_isTold hL.1 hv (fun S1 c1 k1 => nx S1 ow c1 k1)) (fun S1 B F h post hB H hr m nx => m_isTold hB H hr m nx) (fun S6 ow6 hL6 => kk S6 ow6 v hs sv r tx fa ln _ _ hL6 (LB_up b1) (by omega) (by omega))
end LWR
