/-! the law: the mean, the share (numbers that are none are never met) -/
/-- bonds and weights: none, or some -/
theorem bm_pr {v : Vt} (hv : okV v) : bm v = pr (v 0) (fun i j => if 0 < wt v i j then 1 else 0) := by
  have h0 := hv.1
  have h1 : sm (bo v) (v 0) = dbl (fun i j => if 0 < wt v i j then 1 else 0) (v 0) := rfl
  have h2 := pr_dbl (x := fun i j => if 0 < wt v i j then 1 else 0) (n := v 0) (fun i hi => by
    show (if 0 < wt v i i then 1 else 0) = 0
    rw [hv.2.2.2.2.1 i (by omega)]; rfl) (fun i j hi hj => by
    show (if 0 < wt v i j then 1 else 0) = (if 0 < wt v j i then 1 else 0)
    rw [hv.2.2.2.1 i j (by omega) (by omega)])
  unfold bm
  rw [h1, h2]
  omega
theorem ws_pr {v : Vt} (hv : okV v) : ws v = pr (v 0) (wt v) := by
  have h0 := hv.1
  have h1 : sm (fun k => tS v k (ev v)) (v 0) = dbl (wt v) (v 0) := sm_ext (fun k hk => sm_ext (fun j hj => by rw [ev_tb, decide_eq_true hj, if_pos rfl]))
  have h2 := pr_dbl (x := wt v) (n := v 0) (fun i hi => hv.2.2.2.2.1 i (by omega)) (fun i j hi hj => hv.2.2.2.1 i j (by omega) (by omega))
  unfold ws
  rw [h1, h2]
  omega
theorem ws_bm {v : Vt} (hv : okV v) : ws v = 0 ↔ bm v = 0 := by
  rw [ws_pr hv, bm_pr hv]
  constructor
  · intro h
    refine Nat.le_zero.mp (Nat.le_trans (sm_le (fun i hi => sm_le (fun j hj => ?_))) (Nat.le_of_eq h))
    by_cases e : i < j
    · rw [if_pos e, if_pos e]
      show (if 0 < wt v i j then 1 else 0) ≤ wt v i j
      by_cases e2 : 0 < wt v i j
      · rw [if_pos e2]; exact e2
      · rw [if_neg e2]; exact Nat.zero_le _
    · rw [if_neg e, if_neg e]; exact Nat.le_refl _
  · intro h
    refine sm_zero (fun i hi => sm_zero (fun j hj => ?_))
    have h1 := sm_one (f := fun i => sm (fun j => if i < j then (if 0 < wt v i j then 1 else 0) else 0) (v 0)) hi
    have h2 := sm_one (f := fun j => if i < j then (if 0 < wt v i j then 1 else 0) else 0) hj
    have h3 : sm (fun i => sm (fun j => if i < j then (if 0 < wt v i j then 1 else 0) else 0) (v 0)) (v 0) = 0 := h
    rw [h3] at h1
    have h4 := Nat.le_trans h2 h1
    by_cases e : i < j
    · rw [if_pos e]
      simp only [if_pos e] at h4
      by_cases e2 : 0 < wt v i j
      · rw [if_pos e2] at h4; omega
      · omega
    · rw [if_neg e]
theorem bm_lt {v : Vt} (hv : okV v) : bm v < 100 := by
  have h0 := hv.1
  have h1 := sm_bd (f := bo v) (c := 9) (n := v 0) (fun k _ => Nat.le_trans bo_le h0)
  unfold bm
  omega
theorem ws_lt {v : Vt} (hv : okV v) : ws v < 10000000 := by
  have h1 := tT_lt hv (r := ev v) (s := ev v)
  rw [ws_tT]
  omega
section LWD
variable {adK : Nat → Nat} {L : Nat} {xs : Nat → Int32} {g28 : PS → Nat → Nat → Nat → Nat → Nat → Nat → Int32 → Prop} {A : Nat → Nat} {S S0 : PS} {B : Nat → Nat} {F : Nat → Int32} {h : Nat → Nat → Int32} {ow : Ow} {v : Vt} {hs : List Vt} {sv : Option Vt} {r : Nat → Int32} {tx : List Nat} {fa : Int32} {ln : List Nat} {i l bc bs : Nat}
def mnD (v : Vt) : UInt64 := FP.ddiv (FP.i2d (nI (ws v))) (FP.i2d (nI (bm v)))
def shF (v : Vt) : UInt32 := FP.fdiv (FP.i2f (nI (fo v (sds v)))) (FP.i2f (nI (ws v)))
theorem x_mean {post : UInt64 → PS → Prop} {postX : String → PS → Prop} (h : CI S ow A v hs sv r tx fa ln) (hv : okV v) (h1 : 1 ≤ bc) (h2 : 6 ≤ bs) (n0 : bm v = 0 → postX "java/lang/ArithmeticException" S) (next : bm v ≠ 0 → post (mnD v) S) : f_X7_meanWeight S (A 12) bc bs post postX := by
  obtain ⟨t, hV⟩ := Vx h
  have hb := bm_lt hv
  unfold f_X7_meanWeight
  rw [G_0 h, O_0 h, e_bondCount hV hv]
  by_cases e : bm v = 0
  · rw [if_pos (by rw [e]; rfl)]
    exact ⟨h1, h2, n0 e⟩
  · have hn : ¬ nI (bm v) = 0 := nI_ne0 (by omega) (by omega)
    rw [if_neg hn, G_0 h, O_0 h, e_weightSum hV hv]
    exact ⟨n64_of (dd_ok hn), next e⟩
theorem x_share {post : UInt32 → PS → Prop} {postX : String → PS → Prop} (h : CI S ow A v hs sv r tx fa ln) (hv : okV v) (h1 : 1 ≤ bc) (h2 : 6 ≤ bs) (n0 : bm v = 0 → postX "java/lang/ArithmeticException" S) (next : bm v ≠ 0 → post (shF v) S) : f_X7_feudShare S (A 12) bc bs post postX := by
  obtain ⟨t, hV⟩ := Vx h
  have hb := ws_lt hv
  unfold f_X7_feudShare
  rw [G_0 h, O_0 h, e_weightSum hV hv]
  by_cases e : bm v = 0
  · have e2 := (ws_bm hv).mpr e
    rw [if_pos (by rw [e2]; rfl)]
    exact ⟨h1, h2, n0 e⟩
  · have e2 : ws v ≠ 0 := fun z => e ((ws_bm hv).mp z)
    have hn : ¬ nI (ws v) = 0 := nI_ne0 (by omega) (by omega)
    rw [if_neg hn, G_0 h, O_0 h, e_feud hV hv, fb_fo hv]
    exact ⟨n32_of (fd_ok hn), next e⟩
end LWD

