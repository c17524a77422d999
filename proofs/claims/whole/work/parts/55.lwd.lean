/-! the law: input, runs, lines, what is taken back or saved -/
section MSV
variable {S0 S : PS} {B : Nat → Nat} {F : Nat → Int32} {h : Nat → Nat → Int32} {v : Vt} {hs : List Vt} {sv : Option Vt} {r : Nat → Int32} {tx : List Nat} {fa : Int32} {ln : List Nat}
theorem m_save0 {post : Int32 → PS → Prop} (hB : oB 10 S0 B) (H : RS S0 B F h S) (hr : rowV h 0 v) (m : mX F h hs sv r tx fa ln) (next : ∀ S1 F1 h1, RS S0 B F1 h1 S1 → F1 0 = 0 → rowV h1 0 v → mX F1 h1 hs (some v) r tx fa ln → post (nI (v 0)) S1) : f_X8_save S (B 0) post := by
  obtain ⟨⟨a1, a2, a3⟩, b, c, ⟨d1, d2⟩, f, g1, g2⟩ := m
  unfold f_X8_save
  refine OS_pV hB (by omega) H (f := 0) rfl (by show 0 < 25; decide) (fun S1 H1 => ?_)
  refine OS_pV hB (by omega) H1 (f := 3) rfl (by show 3 < 25; decide) (fun S2 H2 => ?_)
  rw [OS_isO hB (by omega) H2]
  show f_X8_copies S2 (B 0) (nI 0) (nI 9) _
  refine r_copies hB H2 (by omega) (by omega) (by omega) (fun S3 h3 H3 cc => ?_)
  have hr3 := cps_ot cc (show 0 ≠ 9 by omega) hr
  have hR := RS_isR hB H3 hr3
  rw [R0 hR, RA0 hR]
  refine next S3 _ h3 H3 rfl hr3 ⟨⟨a1, a2, fun i w hw => ?_⟩, Or.inr ⟨v, rfl, rfl, cps_to cc hr⟩, c, ⟨d1, by rw [cc.1 7 (by decide)]; exact d2⟩, f, g1, by rw [cc.1 9 (by decide)]; exact g2⟩
  exact cps_ot cc (by omega) (a3 i w hw)
end MSV
section LWS
variable {adK : Nat → Nat} {L : Nat} {xs : Nat → Int32} {g28 : PS → Nat → Nat → Nat → Nat → Nat → Nat → Int32 → Prop} {A : Nat → Nat} {S : PS} {ow : Ow} {v v' : Vt} {hs hs' : List Vt} {sv sv' : Option Vt} {r r' : Nat → Int32} {tx tx' : List Nat} {fa fa' : Int32} {ln ln' : List Nat} {i l bc bs : Nat} {o : Nat × Int32}
theorem j_append (cx : CX L g28 A S ow v hs sv r tx fa ln i l bc bs) : f_L_law_J1936 adK L xs g28 S bc bs (A 12) (A 15) (A 13) (A 14) (nI l) := by
  obtain ⟨cx1, cx2, cx3⟩ := CX_in cx
  obtain ⟨hL, b1, b2, b3, b4, b5, b6, kk⟩ := cx
  have h60 := b1.2.2.2.1
  obtain ⟨x, hx⟩ : ∃ x, x = (((xs (nI l + 1).toNatClampNeg).toUInt32 % 65536).toInt32) := ⟨_, rfl⟩
  unfold f_L_law_J1936
  rw [← hx]
  refine ⟨cx1, 70, 2100, b5, b6, ?_⟩
  by_cases hin : ¬ x < 32 ∧ ¬ 126 < x
  · obtain ⟨c, hc, ec⟩ := nI_of2 (x := x) (M := 126) (n := 126) (by decide) (fun z => hin.1 (Int32.lt_trans z (by decide))) (Int32.not_lt.mp hin.2)
    by_cases hf : tx.length = 60
    · refine h_append (o := (2, 0)) hL (fun post postX nx => x_append hL.1 h60 (by omega) (by omega) (fun z => absurd hin z) (fun _ _ => nx S ow hL.1 keeps.refl) (fun _ _ _ _ z => by omega)) (Nat.le_refl _) (fun S1 ow1 f c1 m1 f1 f0 g1 => ?_)
      refine ⟨cx1, ?_⟩
      refine ml_g (o := (2, 0)) (fM := fun S q m => f_X8_append S q x m) c1 m1 f1 f0 g1 (Nat.le_refl _) (fun B F h post hB H hr m nx => m_append hB H hr m h60 (fun z => absurd hin z) (fun _ _ S2 F2 h2 H2 a0 a1 a2 => nx S2 F2 h2 H2 a0 a1 a2) (fun _ _ _ _ z => by omega)) (fun S6 hL6 => ?_)
      exact kk S6 ow1 v hs sv r tx fa ln _ _ hL6 (LB_up b1) (by omega) (by omega)
    · have hlt : tx.length < 60 := by omega
      have hcc : ∀ c2, x = nI c2 → c2 < 128 → c2 = c := fun c2 e2 h2 => (nI_eq (by omega) (by omega)).mp (e2.symm.trans ec)
      refine h_append (o := (0, nI (tx.length + 1))) (tx' := tx ++ [c]) hL (fun post postX nx => x_append hL.1 h60 (by omega) (by omega) (fun z => absurd hin z) (fun _ z => absurd z hf) (fun c2 e2 _ h2 _ S1 ow1 c1 k1 => by rw [hcc c2 e2 h2] at c1; exact nx S1 ow1 c1 k1)) (Nat.zero_le _) (fun S1 ow1 f c1 m1 f1 f0 g1 => ?_)
      refine ⟨cx1, ?_⟩
      refine ml_g (o := (0, nI (tx.length + 1))) (fM := fun S q m => f_X8_append S q x m) c1 m1 f1 f0 g1 (Nat.zero_le _) (fun B F h post hB H hr m nx => m_append hB H hr m h60 (fun z => absurd hin z) (fun _ z => absurd z hf) (fun c2 e2 _ h2 _ S2 F2 h2' H2 a0 a1 a2 => by rw [hcc c2 e2 h2] at a2; exact nx S2 F2 h2' H2 a0 a1 a2)) (fun S6 hL6 => ?_)
      exact kk S6 ow1 v hs sv r (tx ++ [c]) fa ln _ _ hL6 (LB_w b1 (by rw [List.length_append]; show tx.length + 1 ≤ 60; omega) b1.2.2.2.2) (by omega) (by omega)
  · refine h_append (o := (1, 0)) hL (fun post postX nx => x_append hL.1 h60 (by omega) (by omega) (fun _ => nx S ow hL.1 keeps.refl) (fun z => absurd z hin) (fun _ _ z => absurd z hin)) (Nat.le_succ 1) (fun S1 ow1 f c1 m1 f1 f0 g1 => ?_)
    refine ⟨cx1, ?_⟩
    refine ml_g (o := (1, 0)) (fM := fun S q m => f_X8_append S q x m) c1 m1 f1 f0 g1 (Nat.le_succ 1) (fun B F h post hB H hr m nx => m_append hB H hr m h60 (fun _ S2 F2 h2 H2 a0 a1 a2 => nx S2 F2 h2 H2 a0 a1 a2) (fun z => absurd z hin) (fun _ _ z => absurd z hin)) (fun S6 hL6 => ?_)
    exact kk S6 ow1 v hs sv r tx fa ln _ _ hL6 (LB_up b1) (by omega) (by omega)
theorem j_run (cx : CX L g28 A S ow v hs sv r tx fa ln i l bc bs) : f_L_law_J1994 adK L xs g28 S bc bs (A 12) (A 15) (A 13) (A 14) (nI l) := by
  obtain ⟨hL, b1, b2, b3, b4, b5, b6, kk⟩ := cx
  have h60 := b1.2.2.2.1
  have hv := b1.1.1
  have ht : tot v + 3000 < 10000000 := by have := b1.1.2; omega
  have hb := CI_b hL.1
  unfold f_L_law_J1994
  refine ⟨70, 2100, b5, b6, ?_⟩
  cases e : (rdT tx).2.1 with
  | false =>
    refine h_run (o := (1, 0)) (tx' := []) (fa' := nI (rdT tx).1) hL (fun post postX nx => x_run hL.1 hv ht h60 (by omega) (by omega) (fun _ S1 c1 k1 => nx S1 ow c1 k1) (fun z => by rw [e] at z; cases z) (fun z => by rw [e] at z; cases z)) (Nat.le_succ 1) (fun S1 ow1 f c1 m1 f1 f0 g1 => ?_)
    refine ml_g (o := (1, 0)) (fM := fun S q m => f_X8_run S q m) c1 m1 f1 f0 g1 (Nat.le_succ 1) (fun B F h post hB H hr m nx => m_run hB H hr m hv ht h60 hb (fun _ S2 F2 h2 H2 a0 a1 a2 => nx S2 F2 h2 H2 a0 a1 a2) (fun z => by rw [e] at z; cases z) (fun z => by rw [e] at z; cases z)) (fun S6 hL6 => ?_)
    exact kk S6 ow1 v hs sv r [] _ ln _ _ hL6 (LB_w b1 (Nat.zero_le _) b1.2.2.2.2) (by omega) (by omega)
  | true =>
    obtain ⟨g1, g2⟩ := rdT_go tx
    obtain ⟨g3, g4⟩ := g2 e
    cases e2 : (runL v (rdT tx).2.2 0).2 with
    | some jq =>
      obtain ⟨j, q⟩ := jq
      refine h_run (o := (2, 0)) (r' := rB (rK q.1 q.2) 8 (nI j)) (tx' := []) (fa' := -1) hL (fun post postX nx => x_run hL.1 hv ht h60 (by omega) (by omega) (fun z => by rw [e] at z; cases z) (fun _ j2 q2 h2 S1 c1 k1 => by rw [e2] at h2; cases h2; exact nx S1 ow c1 k1) (fun _ z => by rw [e2] at z; cases z)) (Nat.le_refl _) (fun S1 ow1 f c1 m1 f1 f0 g1 => ?_)
      refine ml_g (o := (2, 0)) (fM := fun S q m => f_X8_run S q m) c1 m1 f1 f0 g1 (Nat.le_refl _) (fun B F h post hB H hr m nx => m_run hB H hr m hv ht h60 hb (fun z => by rw [e] at z; cases z) (fun _ j2 q2 h2 S2 F2 h2' H2 a0 a1 a2 => by rw [e2] at h2; cases h2; exact nx S2 F2 h2' H2 a0 a1 a2) (fun _ z => by rw [e2] at z; cases z)) (fun S6 hL6 => ?_)
      exact kk S6 ow1 v hs sv _ [] _ ln _ _ hL6 (LB_w b1 (Nat.zero_le _) b1.2.2.2.2) (by omega) (by omega)
    | none =>
      obtain ⟨w1, w2⟩ := runL_tot (rdT tx).2.2 v 0 (runL v (rdT tx).2.2 0).1 hv (by omega) (by rw [← e2])
      refine h_run (o := (0, nI (rdT tx).2.2.length)) (v' := (runL v (rdT tx).2.2 0).1) (hs' := (v :: hs).take 8) (tx' := []) (fa' := -1) hL (fun post postX nx => x_run hL.1 hv ht h60 (by omega) (by omega) (fun z => by rw [e] at z; cases z) (fun _ j2 q2 h2 => by rw [e2] at h2; cases h2) (fun _ _ S1 ow1 c1 k1 => nx S1 ow1 c1 k1)) (Nat.zero_le _) (fun S1 ow1 f c1 m1 f1 f0 g1 => ?_)
      refine ml_g (o := (0, nI (rdT tx).2.2.length)) (fM := fun S q m => f_X8_run S q m) c1 m1 f1 f0 g1 (Nat.zero_le _) (fun B F h post hB H hr m nx => m_run hB H hr m hv ht h60 hb (fun z => by rw [e] at z; cases z) (fun _ j2 q2 h2 => by rw [e2] at h2; cases h2) (fun _ _ S2 F2 h2 H2 a0 a1 a2 => nx S2 F2 h2 H2 a0 a1 a2)) (fun S6 hL6 => ?_)
      exact kk S6 ow1 _ _ sv r [] _ ln _ _ hL6 (LB_step b1 w1 (by omega) (Nat.zero_le _) b1.2.2.2.2) (by omega) (by omega)
theorem j_fault (cx : CX L g28 A S ow v hs sv r tx fa ln i l bc bs) : f_L_law_J2038 adK L xs g28 S bc bs (A 12) (A 15) (A 13) (A 14) (nI l) := by
  obtain ⟨hL, b1, b2, b3, b4, b5, b6, kk⟩ := cx
  unfold f_L_law_J2038
  rw [G_O hL.1]
  exact lb_g (z := fa) (fC := fun p => f_X7_faultPosition S (A 12) p) (fM := fun S q m => f_X8_faultPosition S q m) hL (fun post nx => by rw [x_fault hL.1]; exact nx S ow hL.1 keeps.refl) (fun S1 B F h post hB H hr m nx => m_fault hB H hr m (fun S2 F2 h2 H2 a0 a1 a2 => nx S2 F2 h2 H2 a0 a1 a2)) (fun S6 ow6 hL6 => kk S6 ow6 v hs sv r tx fa ln _ _ hL6 (LB_up b1) (by omega) (by omega))
theorem j_reason (cx : CX L g28 A S ow v hs sv r tx fa ln i l bc bs) : f_L_law_J2051 adK L xs g28 S bc bs (A 12) (A 15) (A 13) (A 14) (nI l) := by
  obtain ⟨cx1, cx2, cx3⟩ := CX_in cx
  obtain ⟨hL, b1, b2, b3, b4, b5, b6, kk⟩ := cx
  have core : ∀ t0 : Int32, (∀ (P Q : Prop), (if (xs (nI l + 2).toNatClampNeg) = 0 then P else Q) = (if t0 = 0 then P else Q)) → (t0 = 0 ∨ t0 = 1) → f_L_law_J2072 adK L xs g28 S bc bs (A 12) (A 15) (A 13) (A 14) (nI l) t0 (xs (nI l + 1).toNatClampNeg) (A 12) := fun t0 ht0 ht1 => by
    obtain ⟨x, hx⟩ : ∃ x, x = xs (nI l + 1).toNatClampNeg := ⟨_, rfl⟩
    rw [← hx]
    unfold f_L_law_J2072
    refine ⟨70, 2100, b5, b6, ?_⟩
    refine h_reason (v' := v) (hs' := hs) (sv' := sv) (r' := r) (tx' := tx) (fa' := fa) (ln' := ln) (o := oRsn r x t0) hL (fun post postX nx => ?_) oRsn_b (fun S1 ow1 f c1 m1 f1 f0 g1 => ?_)
    · have nx := nx S ow hL.1 keeps.refl
      unfold oRsn at nx
      exact x_reason hL.1 (by omega) (by omega) (fun z => by rw [if_neg z] at nx; exact nx) (fun z1 z2 => by rw [if_pos z1, if_pos z2] at nx; exact nx) (fun z1 z2 => by rw [if_pos z1, if_neg z2] at nx; exact nx)
    · refine ⟨cx1, cx2, ?_⟩
      have m99 : isO S1 (A 15) 12 (f_X8_reason S1 (A 15) x t0 fun v5 S4 => isO S4 (A 15) 12 (f_X8_thrown S4 (A 15) fun v7 S6 => if v7 = nI (oRsn r x t0).1 then (if nI (oRsn r x t0).1 = 0 then aL S6 (A 13) 0 fun v10 => (if lg_cmp v10 v5.toInt64 = 0 then f_L_law_J2132 adK L xs g28 S6 (bc - 70) (bs - 2100) (A 12) (A 15) (A 13) (A 14) (nI l) else False) else f_L_law_J2132 adK L xs g28 S6 (bc - 70) (bs - 2100) (A 12) (A 15) (A 13) (A 14) (nI l)) else False)) := by
        refine ml_g (o := oRsn r x t0) (fM := fun S q m => f_X8_reason S q x t0 m) c1 m1 f1 f0 g1 oRsn_b (fun B F h post hB H hr m nx => ?_) (fun S6 hL6 => ?_)
        · unfold oRsn at nx
          exact m_reason hB H hr m (fun z S2 F2 h2 H2 a0 a1 a2 => by rw [if_neg z] at nx; exact nx S2 F2 h2 H2 a0 a1 a2) (fun z1 z2 S2 F2 h2 H2 a0 a1 a2 => by rw [if_pos z1, if_pos z2] at nx; exact nx S2 F2 h2 H2 a0 a1 a2) (fun z1 z2 S2 F2 h2 H2 a0 a1 a2 => by rw [if_pos z1, if_neg z2] at nx; exact nx S2 F2 h2 H2 a0 a1 a2)
        · exact kk S6 ow1 v hs sv r tx fa ln _ _ hL6 (LB_up b1) (by omega) (by omega)
      rw [ht0]
      rcases ht1 with e | e
      · subst e
        rw [if_pos rfl]
        unfold f_L_law_J2099
        rw [← hx]
        exact m99
      · subst e
        rw [if_neg (by decide)]
        unfold f_L_law_J2099
        rw [← hx]
        exact m99
  unfold f_L_law_J2051
  refine ⟨cx1, cx2, ?_⟩
  by_cases e : (xs (nI l + 2).toNatClampNeg) = 0
  · rw [if_pos e]
    exact core 0 (fun P Q => by rw [if_pos e, if_pos rfl]) (Or.inl rfl)
  · rw [if_neg e]
    exact core 1 (fun P Q => by rw [if_neg e, if_neg (by decide)]) (Or.inr rfl)
theorem j_tell (cx : CX L g28 A S ow v hs sv r tx fa ln i l bc bs) : f_L_law_J2135 adK L xs g28 S bc bs (A 12) (A 15) (A 13) (A 14) (nI l) := by
  obtain ⟨hL, b1, b2, b3, b4, b5, b6, kk⟩ := cx
  have hv := b1.1.1
  unfold f_L_law_J2135
  rw [G_O hL.1]
  refine ⟨70, 2100, b5, b6, ?_⟩
  exact lb_g (z := nI (tlL v).length) (fC := fun p => f_X7_tell S (A 12) 70 2100 p) (fM := fun S q m => f_X8_tell S q m) hL (fun post nx => x_tell hL.1 hv (Nat.le_refl _) (Nat.le_refl _) nx) (fun S1 B F h post hB H hr m nx => m_tell hB H hr hv m (fun S2 F2 h2 H2 a0 a1 a2 => nx S2 F2 h2 H2 a0 a1 a2)) (fun S6 ow6 hL6 => kk S6 ow6 v hs sv r tx fa _ _ _ hL6 (LB_w b1 b1.2.2.2.1 (tlL_len hv)) (by omega) (by omega))
theorem j_tellSides (cx : CX L g28 A S ow v hs sv r tx fa ln i l bc bs) : f_L_law_J2204 adK L xs g28 S bc bs (A 12) (A 15) (A 13) (A 14) (nI l) := by
  obtain ⟨hL, b1, b2, b3, b4, b5, b6, kk⟩ := cx
  have hv := b1.1.1
  unfold f_L_law_J2204
  rw [G_O hL.1]
  refine ⟨70, 2100, b5, b6, ?_⟩
  exact lb_g (z := nI (sdL v).length) (fC := fun p => f_X7_tellSides S (A 12) 70 2100 p) (fM := fun S q m => f_X8_tellSides S q m) hL (fun post nx => x_tellSides hL.1 hv (Nat.le_refl _) (Nat.le_refl _) nx) (fun S1 B F h post hB H hr m nx => m_tellSides hB H hr hv m (fun S2 F2 h2 H2 a0 a1 a2 => nx S2 F2 h2 H2 a0 a1 a2)) (fun S6 ow6 hL6 => kk S6 ow6 v hs sv r tx fa _ _ _ hL6 (LB_w b1 b1.2.2.2.1 sdL_len) (by omega) (by omega))
theorem j_tellPhase (cx : CX L g28 A S ow v hs sv r tx fa ln i l bc bs) : f_L_law_J2148 adK L xs g28 S bc bs (A 12) (A 15) (A 13) (A 14) (nI l) := by
  obtain ⟨cx1, cx2, cx3⟩ := CX_in cx
  obtain ⟨hL, b1, b2, b3, b4, b5, b6, kk⟩ := cx
  have hv := b1.1.1
  obtain ⟨x, hx⟩ : ∃ x, x = xs (nI l + 1).toNatClampNeg := ⟨_, rfl⟩
  unfold f_L_law_J2148
  rw [← hx]
  refine ⟨cx1, 70, 2100, b5, b6, ?_⟩
  cases e : inP v x with
  | false =>
    refine h_tellPhase (o := (1, 0)) hL (fun post postX nx => x_tellPhase hL.1 hv (Nat.le_refl _) (Nat.le_refl _) (fun _ => nx S ow hL.1 keeps.refl) (fun z => by rw [e] at z; cases z)) (Nat.le_refl _) (fun S1 ow1 f c1 m1 f1 f0 g1 => ?_)
    refine ⟨cx1, ?_⟩
    refine ml_g (o := (1, 0)) (fM := fun S q m => f_X8_tellPhase S q x m) c1 m1 f1 f0 g1 (Nat.le_succ 1) (fun B F h post hB H hr m nx => m_tellPhase hB H hr hv m (fun _ S2 F2 h2 H2 a0 a1 a2 => nx S2 F2 h2 H2 a0 a1 a2) (fun z => by rw [e] at z; cases z)) (fun S6 hL6 => ?_)
    exact kk S6 ow1 v hs sv r tx fa ln _ _ hL6 (LB_up b1) (by omega) (by omega)
  | true =>
    refine h_tellPhase (o := (0, nI (phL v (ix x)).length)) (ln' := phL v (ix x)) hL (fun post postX nx => x_tellPhase hL.1 hv (Nat.le_refl _) (Nat.le_refl _) (fun z => by rw [e] at z; cases z) (fun _ S1 ow1 c1 k1 => nx S1 ow1 c1 k1)) (Nat.zero_le _) (fun S1 ow1 f c1 m1 f1 f0 g1 => ?_)
    refine ⟨cx1, ?_⟩
    refine ml_g (o := (0, nI (phL v (ix x)).length)) (fM := fun S q m => f_X8_tellPhase S q x m) c1 m1 f1 f0 g1 (Nat.zero_le _) (fun B F h post hB H hr m nx => m_tellPhase hB H hr hv m (fun z => by rw [e] at z; cases z) (fun _ S2 F2 h2 H2 a0 a1 a2 => nx S2 F2 h2 H2 a0 a1 a2)) (fun S6 hL6 => ?_)
    exact kk S6 ow1 v hs sv r tx fa _ _ _ hL6 (LB_w b1 b1.2.2.2.1 (phL_len hv)) (by omega) (by omega)
theorem j_character (cx : CX L g28 A S ow v hs sv r tx fa ln i l bc bs) : f_L_law_J2217 adK L xs g28 S bc bs (A 12) (A 15) (A 13) (A 14) (nI l) := by
  obtain ⟨cx1, cx2, cx3⟩ := CX_in cx
  obtain ⟨hL, b1, b2, b3, b4, b5, b6, kk⟩ := cx
  have h500 := b1.2.2.2.2
  have hb := CI_b9 hL.1
  obtain ⟨x, hx⟩ : ∃ x, x = xs (nI l + 1).toNatClampNeg := ⟨_, rfl⟩
  unfold f_L_law_J2217
  rw [← hx]
  refine ⟨cx1, 70, 2100, b5, b6, ?_⟩
  rcases Classical.em (∃ k, x = nI k ∧ k < ln.length) with ⟨k, ek, hk⟩ | hno
  · obtain ⟨c, hc⟩ : ∃ c, ln[k]? = some c := ⟨_, List.getElem?_eq_getElem hk⟩
    have un : ∀ k2 c2, x = nI k2 → ln[k2]? = some c2 → c2 = c := fun k2 c2 e2 h2 => by
      have hk2 := lt_len h2
      have : k2 = k := (nI_eq (by omega) (by omega)).mp (e2.symm.trans ek)
      rw [this, hc] at h2
      injection h2 with h2
      exact h2.symm
    have nof : ∀ {P : Prop}, (∀ i, x = nI i → i < ln.length → False) → P := fun z => (z k ek hk).elim
    refine h_character (o := (0, nI c)) hL (fun post postX nx => x_character hL.1 (by omega) (by omega) h500 (fun z => nof z) (fun k2 c2 e2 h2 _ => by rw [un k2 c2 e2 h2]; exact nx S ow hL.1 keeps.refl)) (Nat.zero_le _) (fun S1 ow1 f c1 m1 f1 f0 g1 => ?_)
    refine ⟨cx1, ?_⟩
    refine ml_g (o := (0, nI c)) (fM := fun S q m => f_X8_character S q x m) c1 m1 f1 f0 g1 (Nat.zero_le _) (fun B F h post hB H hr m nx => m_character hB H hr m h500 hb (fun z => nof z) (fun k2 c2 e2 h2 _ S2 F2 h2' H2 a0 a1 a2 => by rw [un k2 c2 e2 h2]; exact nx S2 F2 h2' H2 a0 a1 a2)) (fun S6 hL6 => ?_)
    exact kk S6 ow1 v hs sv r tx fa ln _ _ hL6 (LB_up b1) (by omega) (by omega)
  · have nos : ∀ {P : Prop} (k2 c2 : Nat), x = nI k2 → ln[k2]? = some c2 → P := fun k2 c2 e2 h2 => (hno ⟨k2, e2, lt_len h2⟩).elim
    refine h_character (o := (1, 0)) hL (fun post postX nx => x_character hL.1 (by omega) (by omega) h500 (fun _ => nx S ow hL.1 keeps.refl) (fun k2 c2 e2 h2 _ => nos k2 c2 e2 h2)) (Nat.le_refl _) (fun S1 ow1 f c1 m1 f1 f0 g1 => ?_)
    refine ⟨cx1, ?_⟩
    refine ml_g (o := (1, 0)) (fM := fun S q m => f_X8_character S q x m) c1 m1 f1 f0 g1 (Nat.le_succ 1) (fun B F h post hB H hr m nx => m_character hB H hr m h500 hb (fun _ S2 F2 h2' H2 a0 a1 a2 => nx S2 F2 h2' H2 a0 a1 a2) (fun k2 c2 e2 h2 _ => nos k2 c2 e2 h2)) (fun S6 hL6 => ?_)
    exact kk S6 ow1 v hs sv r tx fa ln _ _ hL6 (LB_up b1) (by omega) (by omega)
theorem j_undo (cx : CX L g28 A S ow v hs sv r tx fa ln i l bc bs) : f_L_law_J2460 adK L xs g28 S bc bs (A 12) (A 15) (A 13) (A 14) (nI l) := by
  obtain ⟨hL, b1, b2, b3, b4, b5, b6, kk⟩ := cx
  unfold f_L_law_J2460
  refine ⟨70, 2100, b5, b6, ?_⟩
  cases hs with
  | nil =>
    refine h_undo (o := (1, 0)) hL (fun post postX nx => x_undo hL.1 (by omega) (by omega) (fun _ => nx S ow hL.1 keeps.refl) (fun w tl z => by cases z)) (Nat.le_refl _) (fun S1 ow1 f c1 m1 f1 f0 g1 => ?_)
    refine ml_g (o := (1, 0)) (fM := fun S q m => f_X8_undo S q m) c1 m1 f1 f0 g1 (Nat.le_succ 1) (fun B F h post hB H hr m nx => m_undo hB H hr m (fun _ S2 F2 h2' H2 a0 a1 a2 => nx S2 F2 h2' H2 a0 a1 a2) (fun w tl z => by cases z)) (fun S6 hL6 => ?_)
    exact kk S6 ow1 v [] sv r tx fa ln _ _ hL6 (LB_up b1) (by omega) (by omega)
  | cons w tl =>
    refine h_undo (o := (0, nI tl.length)) (v' := w) (hs' := tl) hL (fun post postX nx => x_undo hL.1 (by omega) (by omega) (fun z => by cases z) (fun w2 tl2 z S1 c1 k1 => by cases z; exact nx S1 ow c1 k1)) (Nat.zero_le _) (fun S1 ow1 f c1 m1 f1 f0 g1 => ?_)
    refine ml_g (o := (0, nI tl.length)) (fM := fun S q m => f_X8_undo S q m) c1 m1 f1 f0 g1 (Nat.zero_le _) (fun B F h post hB H hr m nx => m_undo hB H hr m (fun z => by cases z) (fun w2 tl2 z S2 F2 h2' H2 a0 a1 a2 => by cases z; exact nx S2 F2 h2' H2 a0 a1 a2)) (fun S6 hL6 => ?_)
    obtain ⟨-, u2, u3, u4, u5⟩ := LB_up b1
    exact kk S6 ow1 w tl sv r tx fa ln _ _ hL6 ⟨u2 w List.mem_cons_self, fun z hz => u2 z (List.mem_cons_of_mem _ hz), u3, u4, u5⟩ (by omega) (by omega)
theorem j_save (cx : CX L g28 A S ow v hs sv r tx fa ln i l bc bs) : f_L_law_J2504 adK L xs g28 S bc bs (A 12) (A 15) (A 13) (A 14) (nI l) := by
  obtain ⟨hL, b1, b2, b3, b4, b5, b6, kk⟩ := cx
  have hv := b1.1.1
  unfold f_L_law_J2504
  rw [G_O hL.1]
  refine ⟨70, 2100, b5, b6, ?_⟩
  obtain ⟨u1, u2, u3, u4, u5⟩ := LB_up b1
  refine lb_g (z := nI (v 0)) (fC := fun p => f_X7_save S (A 12) 70 2100 p) (fM := fun S q m => f_X8_save S q m) (sv' := some v) hL (fun post nx => x_save hL.1 (by omega) (by omega) nx) (fun S1 B F h post hB H hr m nx => ?_) (fun S6 ow6 hL6 => kk S6 ow6 v hs (some v) r tx fa ln _ _ hL6 ⟨u1, u2, fun w hw => by cases hw; exact u1, u4, u5⟩ (by omega) (by omega))
  exact m_save0 hB H hr m nx
theorem j_restore (cx : CX L g28 A S ow v hs sv r tx fa ln i l bc bs) : f_L_law_J2517 adK L xs g28 S bc bs (A 12) (A 15) (A 13) (A 14) (nI l) := by
  obtain ⟨hL, b1, b2, b3, b4, b5, b6, kk⟩ := cx
  unfold f_L_law_J2517
  refine ⟨70, 2100, b5, b6, ?_⟩
  obtain ⟨u1, u2, u3, u4, u5⟩ := LB_up b1
  cases sv with
  | none =>
    refine h_restore (o := (1, 0)) hL (fun post postX nx => x_restore hL.1 (by omega) (by omega) (fun _ => nx S ow hL.1 keeps.refl) (fun w z => by cases z)) (Nat.le_refl _) (fun S1 ow1 f c1 m1 f1 f0 g1 => ?_)
    refine ml_g (o := (1, 0)) (fM := fun S q m => f_X8_restore S q m) c1 m1 f1 f0 g1 (Nat.le_succ 1) (fun B F h post hB H hr m nx => m_restore hB H hr m (fun _ S2 F2 h2' H2 a0 a1 a2 => nx S2 F2 h2' H2 a0 a1 a2) (fun w z => by cases z)) (fun S6 hL6 => ?_)
    exact kk S6 ow1 v hs none r tx fa ln _ _ hL6 ⟨u1, u2, u3, u4, u5⟩ (by omega) (by omega)
  | some w =>
    refine h_restore (o := (0, nI (w 0))) (v' := w) (hs' := []) hL (fun post postX nx => x_restore hL.1 (by omega) (by omega) (fun z => by cases z) (fun w2 z S1 c1 k1 => by cases z; exact nx S1 ow c1 k1)) (Nat.zero_le _) (fun S1 ow1 f c1 m1 f1 f0 g1 => ?_)
    refine ml_g (o := (0, nI (w 0))) (fM := fun S q m => f_X8_restore S q m) c1 m1 f1 f0 g1 (Nat.zero_le _) (fun B F h post hB H hr m nx => m_restore hB H hr m (fun z => by cases z) (fun w2 z S2 F2 h2' H2 a0 a1 a2 => by cases z; exact nx S2 F2 h2' H2 a0 a1 a2)) (fun S6 hL6 => ?_)
    exact kk S6 ow1 w [] (some w) r tx fa ln _ _ hL6 ⟨u3 w rfl, fun z hz => (by cases hz), u3, u4, u5⟩ (by omega) (by omega)
/-! the law on what is critical -/
theorem hl_c {x y : Int32} {post : Int32 → PS → Prop} (hL : LIv S ow A v hs sv r tx fa ln) (hv : okV v) (ht : tot v + 3000 < 10000000) (h01 : (oCrt v x y).1 = 0 → (oCrt v x y).2 = 0 ∨ (oCrt v x y).2 = 1) (hb : (oCrt v x y).1 ≤ 2) (next : ∀ S1 ow1 f, CI S1 ow1 A v hs sv r tx fa ln → MI S1 ow1 A v hs sv r tx fa ln → oL S1 ow1 A f → ((oCrt v x y).1 = 0 → f 0 = (oCrt v x y).2.toInt64) → (∃ f, oDb S1 ow1 A f) → post (nI (oCrt v x y).1) S1) : f_L_isCritical S (A 12) x y (A 13) 70 2100 post := by
  have hg := hl_g (o := oCrt v x y) (E := eE "java/lang/IndexOutOfBoundsException" "java/lang/IllegalStateException") (EX := fun E4 S4 => (E4 = "java/lang/IndexOutOfBoundsException" ∧ (post 1 S4)) ∨ (E4 = "java/lang/IllegalStateException" ∧ (post 2 S4))) (post := post) (fC := fun _ _ p px => ∀ p2 : Int32 → PS → Prop, (∀ S1, (oCrt v x y).1 = 0 → p (oCrt v x y).2 S1 → p2 (oCrt v x y).2 S1) → f_X7_isCritical S (A 12) x y 70 2100 p2 px) hL (fun post postX nx p2 hp2 => x_isCritical hL.1 hv ht (by omega) (by omega) (fun S1 c1 k1 => ?_)) (fun S4 h0 hq => eE_2 (P := fun z => post z S4) hb h0 rfl hq) next
  · rw [G_O hL.1] at hg
    obtain ⟨mc, ms, -, -, hg⟩ := hg
    unfold f_L_isCritical
    rw [G_O hL.1]
    refine ⟨70, 2100, Nat.le_refl _, Nat.le_refl _, hg _ (fun S1 z hp => ?_)⟩
    unfold f_L_isCritical_J16
    rcases h01 z with e | e
    · rw [e] at hp ⊢
      rw [if_pos rfl]; exact hp
    · rw [e] at hp ⊢
      rw [if_neg (by decide)]; exact hp
  · have nx := nx S1 ow c1 k1
    obtain ⟨q, hq⟩ : ∃ q, q = oCrt v x y := ⟨_, rfl⟩
    rw [← hq] at nx hp2 ⊢
    obtain ⟨n, w⟩ := q
    cases n with
    | zero => exact hp2 S1 rfl nx
    | succ n => exact nx
theorem j_isCritical (cx : CX L g28 A S ow v hs sv r tx fa ln i l bc bs) : f_L_law_J1611 adK L xs g28 S bc bs (A 12) (A 15) (A 13) (A 14) (nI l) := by
  obtain ⟨cx1, cx2, cx3⟩ := CX_in cx
  obtain ⟨hL, b1, b2, b3, b4, b5, b6, kk⟩ := cx
  have hv := b1.1.1
  have ht : tot v + 3000 < 10000000 := by have := b1.1.2; omega
  obtain ⟨x, hx⟩ : ∃ x, x = xs (nI l + 1).toNatClampNeg := ⟨_, rfl⟩
  obtain ⟨y, hy⟩ : ∃ y, y = xs (nI l + 2).toNatClampNeg := ⟨_, rfl⟩
  have hb : (oCrt v x y).1 ≤ 2 := by
    unfold oCrt
    repeat' split
    all_goals first | exact Nat.zero_le _ | exact Nat.le_refl _ | exact Nat.le_succ 1
  have h01 : (oCrt v x y).1 = 0 → (oCrt v x y).2 = 0 ∨ (oCrt v x y).2 = 1 := by
    unfold oCrt
    repeat' split
    all_goals intro z
    all_goals first | exact absurd z (by decide) | exact Or.inl rfl | exact Or.inr rfl
  unfold f_L_law_J1611
  rw [← hx, ← hy]
  refine ⟨cx1, cx2, 70, 2100, b5, b6, ?_⟩
  refine hl_c hL hv ht h01 hb (fun S1 ow1 f c1 m1 f1 f0 g1 => ?_)
  refine ⟨cx1, cx2, ?_⟩
  obtain ⟨B, F, h, e, hP, hr, m⟩ := m1
  obtain ⟨hB, H, hob⟩ := hP
  obtain ⟨g, hg⟩ := g1
  rw [← e, OS_isO hB (by omega) H]
  refine m_isCritical hB H hr hv ht m (fun S4 F1 h1 H1 a0 a1 a2 => ?_)
  have k4 := keeps_OS H1 hob
  have hL4 : LIv S4 ow1 A v hs sv r tx fa ln := ⟨CI_fr c1 k4 (CC_o (fun c hc => by simp at hc; omega)), ⟨B, F1, h1, e, Po_of hB H1 hob, a1, a2⟩, ⟨f, oL_fr f1 k4 (by decide)⟩, ⟨g, oD_fr hg k4 (by decide)⟩⟩
  have hk := kk S4 ow1 v hs sv r tx fa ln (bc - 70) (bs - 2100) hL4 (LB_up b1) (by omega) (by omega)
  rw [← e] at hk
  obtain ⟨p1, p2, p3⟩ := oL_fr f1 k4 (by decide)
  rw [OS_isO hB (by omega) H1]
  unfold f_X8_thrown
  rw [OS_gI hB (by omega) H1 (f := 0) (x := F1 0) rfl, a0]
  try dsimp only
  rw [if_pos rfl]
  by_cases z : (oCrt v x y).1 = 0
  · rw [if_pos (by rw [z]; rfl)]
    refine ⟨p1, 1, f, p3, by show vp_in (nI 0) 1; exact vp_in_nI (by omega) (by omega), ?_⟩
    rw [show f (0 : Int32).toNatClampNeg = (oCrt v x y).2.toInt64 from f0 z]
    unfold f_L_law_J1677
    rcases h01 z with e2 | e2
    · rw [e2, if_pos rfl, if_pos (by decide)]
      exact hk
    · rw [e2, if_neg (by decide), if_pos (by decide)]
      exact hk
  · rw [if_neg (nI_ne0 (by omega) (by omega))]
    exact hk
end LWS
