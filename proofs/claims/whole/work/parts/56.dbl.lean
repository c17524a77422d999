/-! the law: the mean, the share (numbers that are none are never met) -/
/-- bonds and weights: none, or some -/
theorem bm_pr {v : Vt} (hv : okV v) : bm v = pr (v 0) (fun i j => if 0 < wt v i j then 1 else 0) := by
  have h0 := hv.1
  have h1 : sm (bo v) (v 0) = dbl (fun i j => if 0 < wt v i j then 1 else 0) (v 0) := rfl
  have h2 := pr_dbl (x := fun i j => if 0 < wt v i j then 1 else 0) (n := v 0) (fun i hi => by
    show (if 0 < wt v i i then 1 else 0) = 0
    rw [hv.2.2.2.2.1 i (by omega)]; rfl) (fun i j hi hj => by
    show (if 0 < wt v i j then 1 else 0) = (if 0 < wt v j i then 1 else 0)
    rw [hv.2.2.2.1 i j (by omega) (by omega)])
  unfold bm
  rw [h1, h2]
  omega
theorem ws_pr {v : Vt} (hv : okV v) : ws v = pr (v 0) (wt v) := by
  have h0 := hv.1
  have h1 : sm (fun k => tS v k (ev v)) (v 0) = dbl (wt v) (v 0) := sm_ext (fun k hk => sm_ext (fun j hj => by rw [ev_tb, decide_eq_true hj, if_pos rfl]))
  have h2 := pr_dbl (x := wt v) (n := v 0) (fun i hi => hv.2.2.2.2.1 i (by omega)) (fun i j hi hj => hv.2.2.2.1 i j (by omega) (by omega))
  unfold ws
  rw [h1, h2]
  omega
theorem ws_bm {v : Vt} (hv : okV v) : ws v = 0 ↔ bm v = 0 := by
  rw [ws_pr hv, bm_pr hv]
  constructor
  · intro h
    refine Nat.le_zero.mp (Nat.le_trans (sm_le (fun i hi => sm_le (fun j hj => ?_))) (Nat.le_of_eq h))
    by_cases e : i < j
    · rw [if_pos e, if_pos e]
      show (if 0 < wt v i j then 1 else 0) ≤ wt v i j
      by_cases e2 : 0 < wt v i j
      · rw [if_pos e2]; exact e2
      · rw [if_neg e2]; exact Nat.zero_le _
    · rw [if_neg e, if_neg e]; exact Nat.le_refl _
  · intro h
    refine sm_zero (fun i hi => sm_zero (fun j hj => ?_))
    have h1 := sm_one (f := fun i => sm (fun j => if i < j then (if 0 < wt v i j then 1 else 0) else 0) (v 0)) hi
    have h2 := sm_one (f := fun j => if i < j then (if 0 < wt v i j then 1 else 0) else 0) hj
    have h3 : sm (fun i => sm (fun j => if i < j then (if 0 < wt v i j then 1 else 0) else 0) (v 0)) (v 0) = 0 := h
    rw [h3] at h1
    have h4 := Nat.le_trans h2 h1
    by_cases e : i < j
    · rw [if_pos e]
      simp only [if_pos e] at h4
      by_cases e2 : 0 < wt v i j
      · rw [if_pos e2] at h4; omega
      · omega
    · rw [if_neg e]
theorem bm_lt {v : Vt} (hv : okV v) : bm v < 100 := by
  have h0 := hv.1
  have h1 := sm_bd (f := bo v) (c := 9) (n := v 0) (fun k _ => Nat.le_trans bo_le h0)
  unfold bm
  omega
theorem ws_lt {v : Vt} (hv : okV v) : ws v < 10000000 := by
  have h1 := tT_lt hv (r := ev v) (s := ev v)
  rw [ws_tT]
  omega
section LWD
variable {adK : Nat → Nat} {L : Nat} {xs : Nat → Int32} {g28 : PS → Nat → Nat → Nat → Nat → Nat → Nat → Int32 → Prop} {A : Nat → Nat} {S S0 : PS} {B : Nat → Nat} {F : Nat → Int32} {h : Nat → Nat → Int32} {ow : Ow} {v : Vt} {hs : List Vt} {sv : Option Vt} {r : Nat → Int32} {tx : List Nat} {fa : Int32} {ln : List Nat} {i l bc bs : Nat}
def mnD (v : Vt) : UInt64 := FP.ddiv (FP.i2d (nI (ws v))) (FP.i2d (nI (bm v)))
def shF (v : Vt) : UInt32 := FP.fdiv (FP.i2f (nI (fo v (sds v)))) (FP.i2f (nI (ws v)))
theorem x_mean {post : UInt64 → PS → Prop} {postX : String → PS → Prop} (h : CI S ow A v hs sv r tx fa ln) (hv : okV v) (h1 : 1 ≤ bc) (h2 : 6 ≤ bs) (n0 : bm v = 0 → postX "java/lang/ArithmeticException" S) (next : bm v ≠ 0 → post (mnD v) S) : f_X7_meanWeight S (A 12) bc bs post postX := by
  obtain ⟨t, hV⟩ := Vx h
  have hb := bm_lt hv
  unfold f_X7_meanWeight
  rw [G_0 h, O_0 h, e_bondCount hV hv]
  by_cases e : bm v = 0
  · rw [if_pos (by rw [e]; rfl)]
    exact ⟨h1, h2, n0 e⟩
  · have hn : ¬ nI (bm v) = 0 := nI_ne0 (by omega) (by omega)
    rw [if_neg hn, G_0 h, O_0 h, e_weightSum hV hv]
    exact ⟨n64_of (dd_ok hn), next e⟩
theorem x_share {post : UInt32 → PS → Prop} {postX : String → PS → Prop} (h : CI S ow A v hs sv r tx fa ln) (hv : okV v) (h1 : 1 ≤ bc) (h2 : 6 ≤ bs) (n0 : bm v = 0 → postX "java/lang/ArithmeticException" S) (next : bm v ≠ 0 → post (shF v) S) : f_X7_feudShare S (A 12) bc bs post postX := by
  obtain ⟨t, hV⟩ := Vx h
  have hb := ws_lt hv
  unfold f_X7_feudShare
  rw [G_0 h, O_0 h, e_weightSum hV hv]
  by_cases e : bm v = 0
  · have e2 := (ws_bm hv).mpr e
    rw [if_pos (by rw [e2]; rfl)]
    exact ⟨h1, h2, n0 e⟩
  · have e2 : ws v ≠ 0 := fun z => e ((ws_bm hv).mp z)
    have hn : ¬ nI (ws v) = 0 := nI_ne0 (by omega) (by omega)
    rw [if_neg hn, G_0 h, O_0 h, e_feud hV hv, fb_fo hv]
    exact ⟨n32_of (fd_ok hn), next e⟩
theorem m_mean {post : UInt64 → PS → Prop} (hB : oB 10 S0 B) (H : RS S0 B F h S) (hr : rowV h 0 v) (hv : okV v) (m : mX F h hs sv r tx fa ln) (n0 : bm v = 0 → ∀ S1 F1 h1, RS S0 B F1 h1 S1 → F1 0 = 1 → rowV h1 0 v → mX F1 h1 hs sv r tx fa ln → post 0 S1) (next : bm v ≠ 0 → ∀ S1 F1 h1, RS S0 B F1 h1 S1 → F1 0 = 0 → rowV h1 0 v → mX F1 h1 hs sv r tx fa ln → post (mnD v) S1) : f_X8_meanWeight S (B 0) post := by
  have hR := RS_isR hB H hr
  have hb := bm_lt hv
  unfold f_X8_meanWeight f_X8_meanWeight_J15
  rw [OS_isO hB (by omega) H, r_bondMany hR hv]
  by_cases e : bm v = 0
  · rw [if_pos (show nI (bm v) ≤ 0 by rw [e]; decide), OS_isO hB (by omega) H]
    refine r_isThere0 hB H (fun S1 H1 => ?_)
    rw [if_pos rfl]
    exact n0 e S1 _ h H1 Fu_at hr (mX_0 m)
  · have hn : ¬ nI (bm v) = 0 := nI_ne0 (by omega) (by omega)
    rw [if_neg (nI_nle (by omega) (by omega)), OS_isO hB (by omega) H]
    refine r_isThere1 hB H (fun S1 H1 => ?_)
    rw [if_neg (by decide), OS_isO hB (by omega) H1, r_weights (RS_isR hB H1 hr) hv, ← ws_tT]
    exact ⟨n64_of (dd_ok hn), next e S1 _ h H1 Fu_at hr (mX_0 m)⟩
theorem m_share {post : UInt32 → PS → Prop} (hB : oB 10 S0 B) (H : RS S0 B F h S) (hr : rowV h 0 v) (hv : okV v) (m : mX F h hs sv r tx fa ln) (n0 : bm v = 0 → ∀ S1 F1 h1, RS S0 B F1 h1 S1 → F1 0 = 1 → rowV h1 0 v → mX F1 h1 hs sv r tx fa ln → post 0 S1) (next : bm v ≠ 0 → ∀ S1 F1 h1, RS S0 B F1 h1 S1 → F1 0 = 0 → rowV h1 0 v → mX F1 h1 hs sv r tx fa ln → post (shF v) S1) : f_X8_feudShare S (B 0) post := by
  have hR := RS_isR hB H hr
  have hb := bm_lt hv
  have hw := ws_lt hv
  have hs9 := sds_lt hv
  unfold f_X8_feudShare f_X8_feudShare_J13
  rw [OS_isO hB (by omega) H, r_bondMany hR hv]
  by_cases e : bm v = 0
  · rw [if_pos (show nI (bm v) ≤ 0 by rw [e]; decide), OS_isO hB (by omega) H]
    refine r_isThere0 hB H (fun S1 H1 => ?_)
    rw [if_pos rfl]
    exact n0 e S1 _ h H1 Fu_at hr (mX_0 m)
  · have e2 : ws v ≠ 0 := fun z => e ((ws_bm hv).mp z)
    have hn : ¬ nI (ws v) = 0 := nI_ne0 (by omega) (by omega)
    rw [if_neg (nI_nle (by omega) (by omega)), OS_isO hB (by omega) H]
    refine r_isThere1 hB H (fun S1 H1 => ?_)
    have hR1 := RS_isR hB H1 hr
    rw [if_neg (by decide), OS_isO hB (by omega) H1, r_sideSet hR1 hv, OS_isO hB (by omega) H1, r_feudOf hR1 hv (by omega), OS_isO hB (by omega) H1, r_weights hR1 hv, ← ws_tT]
    exact ⟨n32_of (fd_ok hn), next e S1 _ h H1 Fu_at hr (mX_0 m)⟩
theorem sD_to {x : UInt64} {kk : PS → Prop} {f : Nat → UInt64} (hc : CI S ow A v hs sv r tx fa ln) (hm : MI S ow A v hs sv r tx fa ln) (hf : ∃ f, oL S ow A f) (g1 : oDb S ow A f) (next : ∀ S1 f1, CI S1 ow A v hs sv r tx fa ln → MI S1 ow A v hs sv r tx fa ln → (∃ f, oL S1 ow A f) → oDb S1 ow A f1 → f1 0 = x → kk S1) : sD S (A 14) 0 x kk := by
  obtain ⟨p1, p2, p3⟩ := g1
  obtain ⟨f0, hf0⟩ := hf
  refine ⟨p1, 1, f, p3, by show vp_in (nI 0) 1; exact vp_in_nI (by omega) (by omega), ?_⟩
  obtain ⟨S5, e5⟩ : ∃ S5, S5 = p_set S (A 14) (.inl (5, 1, .inr (.inr (.inr (.inl (vf_upd f (0 : Int32).toNatClampNeg x)))))) := ⟨_, rfl⟩
  rw [← e5]
  have k5 : keeps [14] S ow S5 ow := by rw [e5]; exact keeps_set p2
  exact next S5 (vf_upd f (0 : Int32).toNatClampNeg x) (CI_fr hc k5 (CC_o (fun c hc => by simp at hc; omega))) (MI_fr hm k5 (by decide)) ⟨f0, oL_fr hf0 k5 (by decide)⟩ ⟨by rw [e5]; exact p1, p2, by rw [e5]; exact set_at⟩ (if_pos rfl)
theorem aD_of {f : Nat → UInt64} {kk : UInt64 → Prop} (g : oDb S ow A f) (next : kk (f 0)) : aD S (A 14) 0 kk := by
  obtain ⟨p1, p2, p3⟩ := g
  exact ⟨p1, 1, f, p3, by show vp_in (nI 0) 1; exact vp_in_nI (by omega) (by omega), next⟩
theorem j_mean (cx : CX L g28 A S ow v hs sv r tx fa ln i l bc bs) : f_L_law_J2329 adK L xs g28 S bc bs (A 12) (A 15) (A 13) (A 14) (nI l) := by
  obtain ⟨hL, b1, b2, b3, b4, b5, b6, kk⟩ := cx
  have hv := b1.1.1
  obtain ⟨hc, hm, hf, g, hg⟩ := hL
  unfold f_L_law_J2329
  refine ⟨70, 2100, b5, b6, ?_⟩
  unfold f_L_meanWeight
  rw [G_O hc]
  refine ⟨70, 2100, Nat.le_refl _, Nat.le_refl _, ?_⟩
  refine x_mean hc hv (by omega) (by omega) (fun e => ⟨rfl, ?_⟩) (fun e => ?_)
  · obtain ⟨B, F, h, e1, hP, hr, m⟩ := hm
    obtain ⟨hB, H, hob⟩ := hP
    obtain ⟨f, hf⟩ := hf
    rw [← e1, OS_isO hB (by omega) H]
    refine m_mean hB H hr hv m (fun _ S4 F1 h1 H1 a0 a1 a2 => ?_) (fun z => absurd e z)
    have k4 := keeps_OS H1 hob
    have hk := kk S4 ow v hs sv r tx fa ln (bc - 70) (bs - 2100) ⟨CI_fr hc k4 (CC_o (fun c hc => by simp at hc; omega)), ⟨B, F1, h1, e1, Po_of hB H1 hob, a1, a2⟩, ⟨f, oL_fr hf k4 (by decide)⟩, ⟨g, oD_fr hg k4 (by decide)⟩⟩ (LB_up b1) (by omega) (by omega)
    rw [← e1] at hk
    rw [OS_isO hB (by omega) H1]
    unfold f_X8_thrown
    rw [OS_gI hB (by omega) H1 (f := 0) (x := F1 0) rfl, a0]
    try dsimp only
    rw [if_pos rfl, if_neg (by decide)]
    exact hk
  · refine sD_to hc hm hf hg (fun S1 f1 c1 m1 f2 g1 gx => ?_)
    obtain ⟨B, F, h, e1, hP, hr, m⟩ := m1
    obtain ⟨hB, H, hob⟩ := hP
    obtain ⟨f2, hf2⟩ := f2
    have hd : FP.Core.dIsNaN (mnD v) = false := dd_ok (nI_ne0 (Nat.pos_of_ne_zero e) (by have := bm_lt hv; omega))
    rw [← e1, OS_isO hB (by omega) H]
    refine m_mean hB H hr hv m (fun z => absurd z e) (fun _ S4 F1 h1 H1 a0 a1 a2 => ?_)
    have k4 := keeps_OS H1 hob
    have g4 := oD_fr g1 k4 (by decide)
    have hk := kk S4 ow v hs sv r tx fa ln (bc - 70) (bs - 2100) ⟨CI_fr c1 k4 (CC_o (fun c hc => by simp at hc; omega)), ⟨B, F1, h1, e1, Po_of hB H1 hob, a1, a2⟩, ⟨f2, oL_fr hf2 k4 (by decide)⟩, ⟨f1, g4⟩⟩ (LB_up b1) (by omega) (by omega)
    rw [← e1] at hk
    rw [OS_isO hB (by omega) H1]
    unfold f_X8_thrown
    rw [OS_gI hB (by omega) H1 (f := 0) (x := F1 0) rfl, a0]
    try dsimp only
    rw [if_pos rfl, if_pos rfl]
    refine aD_of g4 ?_
    rw [gx, if_pos (dc_0 hd)]
    exact hk
theorem j_share (cx : CX L g28 A S ow v hs sv r tx fa ln i l bc bs) : f_L_law_J2394 adK L xs g28 S bc bs (A 12) (A 15) (A 13) (A 14) (nI l) := by
  obtain ⟨hL, b1, b2, b3, b4, b5, b6, kk⟩ := cx
  have hv := b1.1.1
  obtain ⟨hc, hm, hf, g, hg⟩ := hL
  unfold f_L_law_J2394
  refine ⟨70, 2100, b5, b6, ?_⟩
  unfold f_L_feudShare
  rw [G_O hc]
  refine ⟨70, 2100, Nat.le_refl _, Nat.le_refl _, ?_⟩
  refine x_share hc hv (by omega) (by omega) (fun e => ⟨rfl, ?_⟩) (fun e => ?_)
  · obtain ⟨B, F, h, e1, hP, hr, m⟩ := hm
    obtain ⟨hB, H, hob⟩ := hP
    obtain ⟨f, hf⟩ := hf
    rw [← e1, OS_isO hB (by omega) H]
    refine m_share hB H hr hv m (fun _ S4 F1 h1 H1 a0 a1 a2 => ?_) (fun z => absurd e z)
    have k4 := keeps_OS H1 hob
    have hk := kk S4 ow v hs sv r tx fa ln (bc - 70) (bs - 2100) ⟨CI_fr hc k4 (CC_o (fun c hc => by simp at hc; omega)), ⟨B, F1, h1, e1, Po_of hB H1 hob, a1, a2⟩, ⟨f, oL_fr hf k4 (by decide)⟩, ⟨g, oD_fr hg k4 (by decide)⟩⟩ (LB_up b1) (by omega) (by omega)
    rw [← e1] at hk
    rw [OS_isO hB (by omega) H1]
    unfold f_X8_thrown
    rw [OS_gI hB (by omega) H1 (f := 0) (x := F1 0) rfl, a0]
    try dsimp only
    rw [if_pos rfl, if_neg (by decide)]
    exact hk
  · have hd : FP.Core.fIsNaN (shF v) = false := fd_ok (nI_ne0 (Nat.pos_of_ne_zero (fun z => e ((ws_bm hv).mp z))) (by have := ws_lt hv; omega))
    refine ⟨n64_of (f2_ok hd), sD_to hc hm hf hg (fun S1 f1 c1 m1 f2 g1 gx => ?_)⟩
    obtain ⟨B, F, h, e1, hP, hr, m⟩ := m1
    obtain ⟨hB, H, hob⟩ := hP
    obtain ⟨f2, hf2⟩ := f2
    rw [← e1, OS_isO hB (by omega) H]
    refine m_share hB H hr hv m (fun z => absurd z e) (fun _ S4 F1 h1 H1 a0 a1 a2 => ?_)
    have k4 := keeps_OS H1 hob
    have g4 := oD_fr g1 k4 (by decide)
    have hk := kk S4 ow v hs sv r tx fa ln (bc - 70) (bs - 2100) ⟨CI_fr c1 k4 (CC_o (fun c hc => by simp at hc; omega)), ⟨B, F1, h1, e1, Po_of hB H1 hob, a1, a2⟩, ⟨f2, oL_fr hf2 k4 (by decide)⟩, ⟨f1, g4⟩⟩ (LB_up b1) (by omega) (by omega)
    rw [← e1] at hk
    rw [OS_isO hB (by omega) H1]
    unfold f_X8_thrown
    rw [OS_gI hB (by omega) H1 (f := 0) (x := F1 0) rfl, a0]
    try dsimp only
    rw [if_pos rfl, if_pos rfl]
    refine aD_of g4 ⟨n64_of (f2_ok hd), ?_⟩
    rw [gx, if_pos (dc_0 (f2_ok hd))]
    exact hk
end LWD
