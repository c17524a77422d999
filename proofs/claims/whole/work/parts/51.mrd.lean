/-! what the reference answers -/
def mN (S0 : PS) (B : Nat → Nat) (v : Vt) (hs : List Vt) (sv : Option Vt) (r : Nat → Int32) (tx : List Nat) (fa : Int32) (ln : List Nat) (o : Nat × Int32) (post : Int32 → PS → Prop) : Prop := ∀ S1 F1 h1, RS S0 B F1 h1 S1 → F1 0 = nI o.1 → rowV h1 0 v → mX F1 h1 hs sv r tx fa ln → post o.2 S1
section MRD
variable {S0 S : PS} {B : Nat → Nat} {F : Nat → Int32} {h : Nat → Nat → Int32} {v : Vt} {hs : List Vt} {sv : Option Vt} {r : Nat → Int32} {tx : List Nat} {fa : Int32} {ln : List Nat} {post : Int32 → PS → Prop}
theorem m_weight {x y : Int32} (hB : oB 10 S0 B) (H : RS S0 B F h S) (hr : rowV h 0 v) (hv : okV v) (m : mX F h hs sv r tx fa ln) (next : mN S0 B v hs sv r tx fa ln (oWgt v x y) post) : f_X8_weight S (B 0) x y post := by
  have h0 := hv.1
  have hR := RS_isR hB H hr
  have bad : mN S0 B v hs sv r tx fa ln (1, 0) post → f_X8_weight_J21 post S (B 0) x y (B 0) := fun nx => by
    unfold f_X8_weight_J21 f_X8_weight_J22
    rw [OS_isO hB (by omega) H]
    refine r_isThere0 hB H (fun S1 H1 => ?_)
    rw [if_pos rfl]
    exact nx S1 _ h H1 Fu_at hr (mX_0 m)
  unfold f_X8_weight
  unfold oWgt at next
  rw [OS_isO hB (by omega) H, r_isHouse hR h0]
  by_cases hx : inb v x = true
  · rw [if_pos hx] at next
    rw [if_pos hx, if_neg (by decide), OS_isO hB (by omega) H, r_isHouse hR h0]
    by_cases hy : inb v y = true
    · rw [if_pos hy] at next
      obtain ⟨b1, b2⟩ := inb_of h0 hx
      obtain ⟨b3, b4⟩ := inb_of h0 hy
      rw [if_pos hy, if_neg (by decide)]
      unfold f_X8_weight_J22
      rw [OS_isO hB (by omega) H]
      refine r_isThere1 hB H (fun S1 H1 => ?_)
      have hR1 := RS_isR hB H1 hr
      have ew : ∀ q : Int32 → PS → Prop, f_X8_w S1 (B 0) x y q = q (nI (wt v (ix x) (ix y))) S1 := fun q => by
        have := r_w (post := q) hR1 (i := ix x) (j := ix y) (by omega) (by omega)
        rw [← b2, ← b4] at this; exact this
      rw [if_neg (by decide), OS_isO hB (by omega) H1, ew]
      exact next S1 _ h H1 Fu_at hr (mX_0 m)
    · rw [if_neg hy] at next
      rw [if_neg hy, if_pos rfl]
      exact bad next
  · rw [if_neg hx] at next
    rw [if_neg hx, if_pos rfl]
    exact bad next
theorem m_householdOf {x y : Int32} (hB : oB 10 S0 B) (H : RS S0 B F h S) (hr : rowV h 0 v) (hv : okV v) (m : mX F h hs sv r tx fa ln) (next : mN S0 B v hs sv r tx fa ln (oHou v x y) post) : f_X8_householdOf S (B 0) x y post := by
  have h0 := hv.1
  have hR := RS_isR hB H hr
  have bad : ∀ t : Nat, t ≠ 0 → t < 100 → mN S0 B v hs sv r tx fa ln (t, 0) post → f_X8_householdOf_J27 post S (B 0) x y (nI t) (B 0) := fun t ht ht2 nx => by
    unfold f_X8_householdOf_J27
    refine OS_pV hB (by omega) H (f := 0) rfl (by show 0 < 25; decide) (fun S1 H1 => ?_)
    rw [OS_gI hB (by omega) H1 (f := 0) (x := nI t) rfl, if_neg (nI_ne0 (by omega) (by omega))]
    exact nx S1 _ h H1 Fu_at hr (mX_0 m)
  unfold f_X8_householdOf
  unfold oHou at next
  rw [OS_isO hB (by omega) H, r_isHouse hR h0]
  by_cases hx : inb v x = true
  · rw [if_pos hx] at next
    obtain ⟨b1, b2⟩ := inb_of h0 hx
    obtain ⟨i, hi⟩ : ∃ i, i = ix x := ⟨_, rfl⟩
    rw [← hi] at next b1 b2
    subst b2
    rw [if_pos hx, if_neg (by decide)]
    show f_X8_in S y (nI 0) (nI 5) _
    rw [r_in (m := 0) (by omega) (by omega)]
    have l1 := ss_lt hv (k := i)
    have l2 := os_lt hv (k := i)
    have hp := Nat.pow_le_pow_right (show 0 < 2 by omega) h0
    have hev : ev v < 2 ^ 9 := by unfold ev; omega
    have h2i : 2 ^ i < 2 ^ 9 := Nat.pow_lt_pow_right (by omega) (by omega)
    by_cases hy : ¬ y < nI 0 ∧ ¬ nI 5 < y
    · rw [if_pos hy, if_neg (by decide)]
      unfold f_X8_householdOf_J27
      refine OS_pV hB (by omega) H (f := 0) rfl (by show 0 < 25; decide) (fun S1 H1 => ?_)
      have hR1 := RS_isR hB H1 hr
      rw [OS_gI hB (by omega) H1 (f := 0) (x := 0) rfl, if_pos rfl]
      have e1 : ∀ q : Int32 → PS → Prop, f_X8_onSide S1 (B 0) (nI i) 1 q = q (nI (os v i)) S1 := fun q => r_onSide hR1 hv (show i < 9 by omega) true
      have e0 : ∀ q : Int32 → PS → Prop, f_X8_onSide S1 (B 0) (nI i) 0 q = q (nI (ss v i)) S1 := fun q => r_onSide hR1 hv (show i < 9 by omega) false
      obtain ⟨j, hj, rfl⟩ := nI_of2 (M := 5) (n := 5) (by decide) hy.1 (Int32.not_lt.mp hy.2)
      have fin : ∀ z : Int32, mN S0 B v hs sv r tx fa ln (0, z) post → post z S1 := fun z nx => nx S1 _ h H1 Fu_at hr (mX_0 m)
      rcases (show j = 0 ∨ j = 1 ∨ j = 2 ∨ j = 3 ∨ j = 4 ∨ j = 5 by omega) with rfl | rfl | rfl | rfl | rfl | rfl
      · rw [if_pos (by decide)] at next
        rw [if_pos (by decide), R0 hR1, show (4 : Int32) = nI 4 from rfl, nI_add, RA hR1 (by omega)]
        exact fin _ next
      · rw [if_neg (by decide), if_pos (by decide)] at next
        rw [if_neg (by decide), if_pos (by decide), OS_isO hB (by omega) H1, r_bondsOf hR1 hv (by omega)]
        exact fin _ next
      · rw [if_neg (by decide), if_neg (by decide), if_pos (by decide)] at next
        rw [if_neg (by decide), if_neg (by decide), if_pos (by decide), OS_isO hB (by omega) H1, r_every hR1 hv, OS_isO hB (by omega) H1, b_bit i (by omega), r_tie hR1 hv (by omega) (by omega), tT_bit b1]
        exact fin _ next
      · rw [if_neg (by decide), if_neg (by decide), if_neg (by decide), if_pos (by decide)] at next
        rw [if_neg (by decide), if_neg (by decide), if_neg (by decide), if_pos (by decide), OS_isO hB (by omega) H1, e0, OS_isO hB (by omega) H1, b_bit i (by omega), r_tie hR1 hv (by omega) (by omega), tT_bit b1]
        exact fin _ next
      · rw [if_neg (by decide), if_neg (by decide), if_neg (by decide), if_neg (by decide), if_pos (by decide)] at next
        rw [if_neg (by decide), if_neg (by decide), if_neg (by decide), if_neg (by decide), if_pos (by decide), OS_isO hB (by omega) H1, e1, OS_isO hB (by omega) H1, b_bit i (by omega), r_tie hR1 hv (by omega) (by omega), tT_bit b1]
        exact fin _ next
      · rw [if_neg (by decide), if_neg (by decide), if_neg (by decide), if_neg (by decide), if_neg (by decide), if_pos (by decide)] at next
        rw [if_neg (by decide), if_neg (by decide), if_neg (by decide), if_neg (by decide), if_neg (by decide), OS_isO hB (by omega) H1, r_tiedMost hR1 hv (by omega)]
        exact fin _ next
    · rw [if_neg hy, if_pos rfl]
      have ne : ∀ j : Nat, j ≤ 5 → ¬ y = nI j := fun j hj z => hy (by rw [z]; exact ⟨nI_nlt (Nat.zero_le _) (by omega), nI_nlt hj (by omega)⟩)
      rw [if_neg (show ¬ y = 0 from ne 0 (by omega)), if_neg (show ¬ y = 1 from ne 1 (by omega)), if_neg (show ¬ y = 2 from ne 2 (by omega)), if_neg (show ¬ y = 3 from ne 3 (by omega)), if_neg (show ¬ y = 4 from ne 4 (by omega)), if_neg (show ¬ y = 5 from ne 5 (by omega))] at next
      exact bad 2 (by omega) (by omega) next
  · rw [if_neg hx] at next
    rw [if_neg hx, if_pos rfl]
    exact bad 1 (by omega) (by omega) next
theorem m_tied {x y : Int32} (hB : oB 10 S0 B) (H : RS S0 B F h S) (hr : rowV h 0 v) (hv : okV v) (m : mX F h hs sv r tx fa ln) (next : mN S0 B v hs sv r tx fa ln (oTie v x y) post) : f_X8_tied S (B 0) x y post := by
  have h0 := hv.1
  have hR := RS_isR hB H hr
  have hp := Nat.pow_le_pow_right (show 0 < 2 by omega) h0
  have bad : mN S0 B v hs sv r tx fa ln (1, 0) post → f_X8_tied_J27 post S (B 0) x y (B 0) := fun nx => by
    unfold f_X8_tied_J27 f_X8_tied_J28
    rw [OS_isO hB (by omega) H]
    refine r_isThere0 hB H (fun S1 H1 => ?_)
    rw [if_pos rfl]
    exact nx S1 _ h H1 Fu_at hr (mX_0 m)
  unfold f_X8_tied
  unfold oTie at next
  rw [OS_isO hB (by omega) H]
  by_cases hx : inB v x = true
  · rw [if_pos hx] at next
    obtain ⟨b1, b2⟩ := inB_of h0 hx
    have ex : ∀ q : Int32 → PS → Prop, f_X8_isSet S (B 0) x q = q 1 S := fun q => by rw [b2]; exact r_isSetY hR hv b1
    rw [ex, if_neg (by decide), OS_isO hB (by omega) H]
    by_cases hy : inB v y = true
    · rw [if_pos hy] at next
      obtain ⟨b3, b4⟩ := inB_of h0 hy
      have ey : ∀ q : Int32 → PS → Prop, f_X8_isSet S (B 0) y q = q 1 S := fun q => by rw [b4]; exact r_isSetY hR hv b3
      rw [ey, if_neg (by decide)]
      by_cases e : x &&& y = 0
      · rw [if_pos e] at next ⊢
        unfold f_X8_tied_J28
        rw [OS_isO hB (by omega) H]
        refine r_isThere1 hB H (fun S1 H1 => ?_)
        have hR1 := RS_isR hB H1 hr
        have et : ∀ q : Int32 → PS → Prop, f_X8_tie S1 (B 0) x y q = q (nI (tT v (ix x) (ix y))) S1 := fun q => by
          have := r_tie (post := q) hR1 hv (r := ix x) (s := ix y) (by omega) (by omega)
          rw [← b2, ← b4] at this; exact this
        rw [if_neg (by decide), OS_isO hB (by omega) H1, et]
        exact next S1 _ h H1 Fu_at hr (mX_0 m)
      · rw [if_neg e] at next ⊢
        exact bad next
    · rw [if_neg hy] at next
      rw [r_isSetN hR hv (fun z => hy ((inB_iff h0).mpr z)), if_pos rfl]
      exact bad next
  · rw [if_neg hx] at next
    rw [r_isSetN hR hv (fun z => hx ((inB_iff h0).mpr z)), if_pos rfl]
    exact bad next
theorem m_feud (hB : oB 10 S0 B) (H : RS S0 B F h S) (hr : rowV h 0 v) (hv : okV v) (m : mX F h hs sv r tx fa ln) (next : mN S0 B v hs sv r tx fa ln (0, nI (fo v (sds v))) post) : f_X8_feud S (B 0) post := by
  unfold f_X8_feud
  refine OS_pV hB (by omega) H (f := 0) rfl (by show 0 < 25; decide) (fun S1 H1 => ?_)
  have hR1 := RS_isR hB H1 hr
  rw [OS_isO hB (by omega) H1, r_sideSet hR1 hv, OS_isO hB (by omega) H1, r_feudOf hR1 hv (by have := sds_lt hv; omega)]
  exact next S1 _ h H1 Fu_at hr (mX_0 m)
theorem m_feudAgain (hB : oB 10 S0 B) (H : RS S0 B F h S) (hr : rowV h 0 v) (hv : okV v) (m : mX F h hs sv r tx fa ln) (next : mN S0 B v hs sv r tx fa ln (0, nI (fo v (sds v))) post) : f_X8_feudAgain S (B 0) post := by
  unfold f_X8_feudAgain
  rw [OS_isO hB (by omega) H]
  exact m_feud hB H hr hv m next
theorem r_amv {k : Nat} {S : PS} {F : Nat → Int32} (hB : oB 10 S0 B) (H : RS S0 B F h S) (hr : rowV h 0 v) (hv : okV v) (hk : k < v 0) : f_X8_feudOf S (B 0) (nI (sds v) ^^^ ((1 : Int32) <<< (nI k &&& 31))) post = post (nI (amv v k)) S := by
  have hR := RS_isR hB H hr
  have h0 := hv.1
  have hs := sds_lt hv
  have h2k : 2 ^ k < 2 ^ 9 := Nat.pow_lt_pow_right (by omega) (by omega)
  have hx : sds v ^^^ 2 ^ k < 2 ^ 9 := Nat.xor_lt_two_pow hs h2k
  rw [b_bit k (by omega), b_xor, r_feudOf hR hv (by omega)]; rfl
theorem m_bestMove (hB : oB 10 S0 B) (H : RS S0 B F h S) (hr : rowV h 0 v) (hv : okV v) (m : mX F h hs sv r tx fa ln) (next : mN S0 B v hs sv r tx fa ln (oBst v) post) : f_X8_bestMove S (B 0) post := by
  have h0 := hv.1
  have hR := RS_isR hB H hr
  unfold f_X8_bestMove f_X8_bestMove_J15
  unfold oBst at next
  rw [R0 hR, RA0 hR]
  by_cases e : v 0 = 0
  · rw [if_pos e] at next
    rw [if_pos (by rw [e]; decide), OS_isO hB (by omega) H]
    refine r_isThere0 hB H (fun S1 H1 => ?_)
    rw [if_pos rfl]
    exact next S1 _ h H1 Fu_at hr (mX_0 m)
  · rw [if_neg e] at next
    rw [if_neg (nI_nle (by omega) (by omega)), OS_isO hB (by omega) H]
    refine r_isThere1 hB H (fun S1 H1 => ?_)
    have hR1 := RS_isR hB H1 hr
    rw [if_neg (by decide)]
    have nx := next S1 _ h H1 Fu_at hr (mX_0 m)
    have am : ∀ k, amv v k < 10000000 := fun k => tT_lt hv
    have key := loop_i (W := fun fuel k (s : Unit) => f_X8_bestMove_L27 post fuel S1 (B 0) (nI (bsm (amv v) k)) (nI k)) (I := fun k _ => 1 ≤ k) (v 0) (fun n s hI => ?_) (fun n k s hk hI ih => ?_) 4096 1 () (by omega) (by omega) (Nat.le_refl _)
    · exact key
    · show f_X8_bestMove_L27 post (n + 1) S1 (B 0) _ _
      simp only [f_X8_bestMove_L27]
      rw [R0 hR1, RA0 hR1, if_pos (nI_le (Nat.le_refl _) (by omega))]
      exact nx
    · have hb := bsm_lt (amv v) k (by omega)
      have e1 : bsm (amv v) (k + 1) = if amv v (bsm (amv v) k) ≤ amv v k then bsm (amv v) k else k := if_neg (by omega)
      have ih := ih () (by omega)
      have ih : f_X8_bestMove_L27 post n S1 (B 0) (nI (bsm (amv v) (k + 1))) (nI (k + 1)) := ih
      have a1 := am k
      have a2 := am (bsm (amv v) k)
      show f_X8_bestMove_L27 post (n + 1) S1 (B 0) _ _
      simp only [f_X8_bestMove_L27, f_X8_bestMove_J69]
      rw [R0 hR1, RA0 hR1, if_neg (nI_ge hk (by omega)), OS_isO hB (by omega) H1, r_sideSet hR1 hv, OS_isO hB (by omega) H1, r_amv hB H1 hr hv hk, OS_isO hB (by omega) H1, r_sideSet hR1 hv, OS_isO hB (by omega) H1, r_amv hB H1 hr hv (show bsm (amv v) k < v 0 by omega), nI_1]
      rw [e1] at ih
      by_cases q : amv v (bsm (amv v) k) ≤ amv v k
      · rw [if_pos q] at ih
        rw [if_pos (nI_le q (by omega))]
        exact ih
      · rw [if_neg q] at ih
        rw [if_neg (nI_ge (Nat.not_le.mp q) (by omega))]
        exact ih
theorem m_ifMoved {x : Int32} (hB : oB 10 S0 B) (H : RS S0 B F h S) (hr : rowV h 0 v) (hv : okV v) (m : mX F h hs sv r tx fa ln) (next : mN S0 B v hs sv r tx fa ln (oIfM v x) post) : f_X8_ifMoved S (B 0) x post := by
  have h0 := hv.1
  have hR := RS_isR hB H hr
  unfold f_X8_ifMoved
  unfold oIfM at next
  rw [OS_isO hB (by omega) H, r_isHouse hR h0, OS_isO hB (by omega) H]
  by_cases hx : inb v x = true
  · rw [if_pos hx] at next ⊢
    obtain ⟨b1, b2⟩ := inb_of h0 hx
    refine r_isThere1 hB H (fun S1 H1 => ?_)
    have hR1 := RS_isR hB H1 hr
    have ea : ∀ q : Int32 → PS → Prop, f_X8_feudOf S1 (B 0) (nI (sds v) ^^^ ((1 : Int32) <<< (x &&& 31))) q = q (nI (amv v (ix x))) S1 := fun q => by
      have := r_amv (post := q) hB H1 hr hv b1
      rw [← b2] at this; exact this
    rw [if_neg (by decide), OS_isO hB (by omega) H1, r_sideSet hR1 hv, OS_isO hB (by omega) H1, ea]
    exact next S1 _ h H1 Fu_at hr (mX_0 m)
  · rw [if_neg hx] at next ⊢
    refine r_isThere0 hB H (fun S1 H1 => ?_)
    rw [if_pos rfl]
    exact next S1 _ h H1 Fu_at hr (mX_0 m)
theorem m_parts (hB : oB 10 S0 B) (H : RS S0 B F h S) (hr : rowV h 0 v) (hv : okV v) (m : mX F h hs sv r tx fa ln) (next : mN S0 B v hs sv r tx fa ln (0, nI (ptn v (v 0))) post) : f_X8_parts S (B 0) post := by
  have h0 := hv.1
  unfold f_X8_parts
  refine OS_pV hB (by omega) H (f := 0) rfl (by show 0 < 25; decide) (fun S1 H1 => ?_)
  have hR1 := RS_isR hB H1 hr
  have nx := next S1 _ h H1 Fu_at hr (mX_0 m)
  have key := lp_eq (L := fun fuel k => f_X8_parts_L9 post fuel S1 (B 0) (nI (ptn v k)) (nI k)) (P := post (nI (ptn v (v 0))) S1) (n := v 0) (fun n k hk => ?_) (fun n => ?_) 0 4096 (by omega) (by omega)
  · have key : f_X8_parts_L9 post 4096 S1 (B 0) (nI (ptn v 0)) (nI 0) = post (nI (ptn v (v 0))) S1 := key
    have e0 : ptn v 0 = 0 := rfl
    rw [e0] at key
    show f_X8_parts_L9 post 4096 S1 (B 0) (nI 0) (nI 0)
    rw [key]; exact nx
  · obtain ⟨r1, r2⟩ := rch_b hv hk
    show f_X8_parts_L9 post (n + 1) S1 (B 0) (nI (ptn v k)) (nI k) = f_X8_parts_L9 post n S1 (B 0) (nI (ptn v (k + 1))) (nI (k + 1))
    have e1 : ptn v (k + 1) = ptn v k + (if low (rch v k) = k then 1 else 0) := rfl
    have hl := (low_spec r1 r2).1
    rw [f_X8_parts_L9]
    rw [R0 hR1, RA0 hR1, if_neg (nI_ge hk (by omega)), OS_isO hB (by omega) H1, r_reached hR1 hv hk, r_low r1 r2, e1]
    unfold f_X8_parts_J37
    by_cases q : low (rch v k) = k
    · rw [if_pos q, if_pos (by rw [q]), nI_1, nI_1]
    · rw [if_neg q, if_neg (fun z => q ((nI_eq (by omega) (by omega)).mp z)), nI_1, Int32.add_zero]; rfl
  · show f_X8_parts_L9 post (n + 1) S1 (B 0) (nI (ptn v (v 0))) (nI (v 0)) = _
    rw [f_X8_parts_L9]
    rw [R0 hR1, RA0 hR1, if_pos (nI_le (Nat.le_refl _) (by omega))]
theorem m_partOf {x : Int32} (hB : oB 10 S0 B) (H : RS S0 B F h S) (hr : rowV h 0 v) (hv : okV v) (m : mX F h hs sv r tx fa ln) (next : mN S0 B v hs sv r tx fa ln (oPof v x) post) : f_X8_partOf S (B 0) x post := by
  have h0 := hv.1
  have hR := RS_isR hB H hr
  unfold f_X8_partOf
  unfold oPof at next
  rw [OS_isO hB (by omega) H, r_isHouse hR h0, OS_isO hB (by omega) H]
  by_cases hx : inb v x = true
  · rw [if_pos hx] at next ⊢
    obtain ⟨b1, b2⟩ := inb_of h0 hx
    refine r_isThere1 hB H (fun S1 H1 => ?_)
    have hR1 := RS_isR hB H1 hr
    have ea : ∀ q : Int32 → PS → Prop, f_X8_reached S1 (B 0) x q = q (nI (rch v (ix x))) S1 := fun q => by
      have := r_reached (post := q) hR1 hv b1
      rw [← b2] at this; exact this
    rw [if_neg (by decide), OS_isO hB (by omega) H1, ea]
    exact next S1 _ h H1 Fu_at hr (mX_0 m)
  · rw [if_neg hx] at next ⊢
    refine r_isThere0 hB H (fun S1 H1 => ?_)
    rw [if_pos rfl]
    exact next S1 _ h H1 Fu_at hr (mX_0 m)
theorem m_bondAt {x : Int32} (hB : oB 10 S0 B) (H : RS S0 B F h S) (hr : rowV h 0 v) (hv : okV v) (m : mX F h hs sv r tx fa ln) (next : mN S0 B v hs sv r tx fa ln (oBat v x) post) : f_X8_bondAt S (B 0) x post := by
  have h0 := hv.1
  have hR := RS_isR hB H hr
  have hp := prs36 (v 0) (by omega)
  have bad : mN S0 B v hs sv r tx fa ln (1, 0) post → f_X8_bondAt_J13 post S (B 0) (-1) := fun nx => by
    unfold f_X8_bondAt_J13 f_X8_bondAt_J25
    rw [if_pos rfl, OS_isO hB (by omega) H]
    refine r_isThere0 hB H (fun S1 H1 => ?_)
    rw [if_pos rfl]
    exact nx S1 _ h H1 Fu_at hr (mX_0 m)
  unfold f_X8_bondAt
  unfold oBat at next
  by_cases hx : 0 ≤ x
  · rw [if_pos hx] at next
    rw [if_pos hx, OS_isO hB (by omega) H, r_bondWith hR hv hx]
    obtain ⟨c, hc, rfl⟩ := nI_of (Int32.not_lt.mpr hx)
    rw [ix_nI hc] at next
    rw [kp_lk hc (prs (v 0) (v 0)) 0 (Nat.zero_le _) (by omega), Nat.sub_zero, show (List.filter (bnd v) (prs (v 0) (v 0)))[c]? = (bl v)[c]? from rfl]
    cases e : (bl v)[c]? with
    | none =>
      rw [e] at next
      exact bad next
    | some q =>
      rw [e] at next
      have hmem := List.mem_filter.mp (List.mem_of_getElem? e)
      have hq := prs_mem (Nat.le_refl _) q hmem.1
      dsimp only
      unfold f_X8_bondAt_J13 f_X8_bondAt_J25
      rw [if_neg (show ¬ nI (10 * q.1 + q.2) = -1 from fun z => nI_pos (n := 10 * q.1 + q.2) (by omega) (by rw [z]; decide)), OS_isO hB (by omega) H]
      refine r_isThere1 hB H (fun S1 H1 => ?_)
      rw [if_neg (by decide)]
      exact next S1 _ h H1 Fu_at hr (mX_0 m)
  · rw [if_neg hx] at next
    rw [if_neg hx]
    exact bad next
theorem m_heaviest (hB : oB 10 S0 B) (H : RS S0 B F h S) (hr : rowV h 0 v) (hv : okV v) (m : mX F h hs sv r tx fa ln) (next : mN S0 B v hs sv r tx fa ln (oHvy v) post) : f_X8_heaviest S (B 0) post := by
  have hR := RS_isR hB H hr
  unfold f_X8_heaviest f_X8_heaviest_J17
  unfold oHvy at next
  rw [OS_isO hB (by omega) H, r_heaviest hR hv]
  by_cases e : hvF v = -1
  · rw [if_pos e] at next ⊢
    rw [OS_isO hB (by omega) H]
    refine r_isThere0 hB H (fun S1 H1 => ?_)
    rw [if_pos rfl]
    exact next S1 _ h H1 Fu_at hr (mX_0 m)
  · rw [if_neg e] at next ⊢
    rw [OS_isO hB (by omega) H]
    refine r_isThere1 hB H (fun S1 H1 => ?_)
    rw [if_neg (by decide)]
    exact next S1 _ h H1 Fu_at hr (mX_0 m)
theorem m_phases (hB : oB 10 S0 B) (H : RS S0 B F h S) (hr : rowV h 0 v) (hv : okV v) (m : mX F h hs sv r tx fa ln) (next : mN S0 B v hs sv r tx fa ln (0, nI (v 0 - 1)) post) : f_X8_phases S (B 0) post := by
  have h0 := hv.1
  unfold f_X8_phases
  refine OS_pV hB (by omega) H (f := 0) rfl (by show 0 < 25; decide) (fun S1 H1 => ?_)
  have hR1 := RS_isR hB H1 hr
  have nx := next S1 _ h H1 Fu_at hr (mX_0 m)
  rw [R0 hR1, RA0 hR1]
  by_cases e : v 0 ≤ 1
  · rw [if_pos (show nI (v 0) ≤ 1 from nI_le (b := 1) e (by omega))]
    have : v 0 - 1 = 0 := by omega
    rw [this] at nx
    exact nx
  · rw [if_neg (show ¬ nI (v 0) ≤ 1 from nI_ge (a := 1) (by omega) (by omega)), R0 hR1, RA0 hR1, show (1 : Int32) = nI 1 from rfl, pk_sub (by omega)]
    exact nx
theorem m_account {x : Int32} (hB : oB 10 S0 B) (H : RS S0 B F h S) (hr : rowV h 0 v) (hv : okV v) (m : mX F h hs sv r tx fa ln) (next : mN S0 B v hs sv r tx fa ln (oAcc v tx.length hs.length x) post) : f_X8_account S (B 0) x post := by
  have h0 := hv.1
  unfold f_X8_account f_X8_account_J100
  unfold oAcc at next
  show f_X8_in S x (nI 0) (nI 10) _
  rw [r_in (m := 0) (by omega) (by omega), OS_isO hB (by omega) H]
  by_cases hx : ¬ x < nI 0 ∧ ¬ nI 10 < x
  · rw [if_pos hx]
    refine r_isThere1 hB H (fun S1 H1 => ?_)
    have hR1 := RS_isR hB H1 hr
    rw [if_neg (by decide)]
    have fin : ∀ z : Int32, mN S0 B v hs sv r tx fa ln (0, z) post → post z S1 := fun z nx => nx S1 _ h H1 Fu_at hr (mX_0 m)
    obtain ⟨j, hj, rfl⟩ := nI_of2 (M := 10) (n := 10) (by decide) hx.1 (Int32.not_lt.mp hx.2)
    have e17 : ∀ q : Int32 → Prop, gI S1 (B 0) 12 17 q = q (nI tx.length) := fun q => by rw [OS_gI hB (by omega) H1 (f := 17) (x := F 17) rfl, m.2.2.2.1.1]
    have e2 : ∀ q : Int32 → Prop, gI S1 (B 0) 12 2 q = q (nI hs.length) := fun q => by rw [OS_gI hB (by omega) H1 (f := 2) (x := F 2) rfl, m.1.1]
    rcases (show j = 0 ∨ j = 1 ∨ j = 2 ∨ j = 3 ∨ j = 4 ∨ j = 5 ∨ j = 6 ∨ j = 7 ∨ j = 8 ∨ j = 9 ∨ j = 10 by omega) with rfl | rfl | rfl | rfl | rfl | rfl | rfl | rfl | rfl | rfl | rfl
    · show gR S1 (B 0) 12 1 _
      rw [R0 hR1, RA0 hR1]; exact fin _ next
    · show isO S1 (B 0) 12 _
      rw [OS_isO hB (by omega) H1, r_bondMany hR1 hv]; exact fin _ next
    · show isO S1 (B 0) 12 _
      rw [OS_isO hB (by omega) H1, r_weights hR1 hv, ← ws_tT]; exact fin _ next
    · show isO S1 (B 0) 12 _
      rw [OS_isO hB (by omega) H1, r_onOne hR1 hv]; exact fin _ next
    · show isO S1 (B 0) 12 _
      rw [OS_isO hB (by omega) H1, r_across hR1 hv]; exact fin _ next
    · show gR S1 (B 0) 12 1 _
      rw [R0 hR1, show (nI 5 - 4 : Int32) = nI 1 by decide, RA hR1 (by omega)]; exact fin _ next
    · show gR S1 (B 0) 12 1 _
      rw [R0 hR1, show (nI 6 - 4 : Int32) = nI 2 by decide, RA hR1 (by omega)]; exact fin _ next
    · show gR S1 (B 0) 12 1 _
      rw [R0 hR1, show (nI 7 - 4 : Int32) = nI 3 by decide, RA hR1 (by omega)]; exact fin _ next
    · show isO S1 (B 0) 12 _
      rw [OS_isO hB (by omega) H1, r_lonely hR1 hv]; exact fin _ next
    · show gI S1 (B 0) 12 17 _
      rw [e17]; exact fin _ next
    · show gI S1 (B 0) 12 2 _
      rw [e2]; exact fin _ next
  · have ne : ∀ j : Nat, j ≤ 10 → ¬ x = nI j := fun j hj z => hx (by rw [z]; exact ⟨nI_nlt (Nat.zero_le _) (by omega), nI_nlt hj (by omega)⟩)
    rw [if_neg (show ¬ x = 0 from ne 0 (by omega)), if_neg (show ¬ x = 1 from ne 1 (by omega)), if_neg (show ¬ x = 2 from ne 2 (by omega)), if_neg (show ¬ x = 3 from ne 3 (by omega)), if_neg (show ¬ x = 4 from ne 4 (by omega)), if_neg (show ¬ x = 5 from ne 5 (by omega)), if_neg (show ¬ x = 6 from ne 6 (by omega)), if_neg (show ¬ x = 7 from ne 7 (by omega)), if_neg (show ¬ x = 8 from ne 8 (by omega)), if_neg (show ¬ x = 9 from ne 9 (by omega)), if_neg (show ¬ x = 10 from ne 10 (by omega))] at next
    rw [if_neg hx]
    refine r_isThere0 hB H (fun S1 H1 => ?_)
    rw [if_pos rfl]
    exact next S1 _ h H1 Fu_at hr (mX_0 m)
theorem m_phaseOf {x y : Int32} (hB : oB 10 S0 B) (H : RS S0 B F h S) (hr : rowV h 0 v) (hv : okV v) (m : mX F h hs sv r tx fa ln) (next : mN S0 B v hs sv r tx fa ln (oPhO v x y) post) : f_X8_phaseOf S (B 0) x y post := by
  have h0 := hv.1
  have bad : ∀ t : Nat, t ≠ 0 → t < 100 → mN S0 B v hs sv r tx fa ln (t, 0) post → f_X8_phaseOf_J27 post S (B 0) x y (nI t) (B 0) := fun t ht ht2 nx => by
    unfold f_X8_phaseOf_J27
    refine OS_pV hB (by omega) H (f := 0) rfl (by show 0 < 25; decide) (fun S1 H1 => ?_)
    rw [OS_gI hB (by omega) H1 (f := 0) (x := nI t) rfl, if_neg (nI_ne0 (by omega) (by omega))]
    exact nx S1 _ h H1 Fu_at hr (mX_0 m)
  unfold f_X8_phaseOf
  unfold oPhO at next
  rw [OS_isO hB (by omega) H, r_isPhase hB H hr h0]
  by_cases hx : inP v x = true
  · obtain ⟨p1, p2⟩ := inP_of h0 hx
    rw [if_pos hx] at next
    obtain ⟨p, hp⟩ : ∃ p, p = ix x := ⟨_, rfl⟩
    rw [← hp] at p1 p2 next
    subst p2
    rw [if_pos hx, if_neg (by decide)]
    show f_X8_in S y (nI 0) (nI 4) _
    rw [r_in (m := 0) (by omega) (by omega)]
    by_cases hy : ¬ y < nI 0 ∧ ¬ nI 4 < y
    · rw [if_pos hy, if_neg (by decide)]
      unfold f_X8_phaseOf_J27
      refine OS_pV hB (by omega) H (f := 0) rfl (by show 0 < 25; decide) (fun S1 H1 => ?_)
      rw [OS_gI hB (by omega) H1 (f := 0) (x := 0) rfl, if_pos rfl, OS_isO hB (by omega) H1]
      refine r_lays hB H1 hr hv (fun S2 F2 h2 H2 d2 => ?_)
      have hr2 := laid_row hr d2
      have hR2 := RS_isR hB H2 hr2
      have fin : ∀ z : Int32, mN S0 B v hs sv r tx fa ln (0, z) post → post z S2 := fun z nx => nx S2 _ h2 H2 ((d2.1 0 (by decide) (by decide)).trans Fu_at) hr2 (mX_laid (mX_0 m) d2)
      have g : ∀ q, q < v 0 - p → ∀ kk : Int32 → Prop, aI S2 (B 2) 0 (nI (9 * p + q)) kk = kk (nI (gr v p q)) := fun q hq kk => by rw [OS_aI hB H2 (k := 2) (by omega) (show 9 * p + q < rrl 2 from (show 9 * p + q < 81 by omega)) (by decide), (d2.2.2.1 p q p1 hq).1]
      have ei : ∀ j, j ≤ 2 → (9 : Int32) * nI p + (nI (v 0) - nI p) - nI j = nI (9 * p + (v 0 - p - j)) := fun j hj => by
        rw [show (9 : Int32) = nI 9 from rfl, pk_mul, pk_sub (by omega), nI_add, pk_sub (by omega), show 9 * p + (v 0 - p) - j = 9 * p + (v 0 - p - j) by omega]
      obtain ⟨j, hj, rfl⟩ := nI_of2 (M := 4) (n := 4) (by decide) hy.1 (Int32.not_lt.mp hy.2)
      rw [R0 hR2, RA0 hR2]
      rcases (show j = 0 ∨ j = 1 ∨ j = 2 ∨ j = 3 ∨ j = 4 by omega) with rfl | rfl | rfl | rfl | rfl
      · show gR S2 (B 0) 12 11 _
        rw [OS_gR hB (by omega) H2 (k := 4) (f := 11) rfl, OS_aI hB H2 (k := 4) (by omega) (show p < rrl 4 from (show p < 9 by omega)) (by decide), d2.2.2.2.1 p p1]
        exact fin _ next
      · show post (nI (v 0) - nI p) S2
        rw [pk_sub (by omega)]
        exact fin _ next
      · obtain ⟨l1, l2⟩ := gr_lt hv (p := p) (q := v 0 - p - 1) (by omega) (by omega)
        show gR S2 (B 0) 12 9 _
        rw [OS_gR hB (by omega) H2 (k := 2) (f := 9) rfl, show (1 : Int32) = nI 1 from rfl, ei 1 (by omega), g _ (by omega), r_low l1 l2]
        exact fin _ next
      · obtain ⟨l1, l2⟩ := gr_lt hv (p := p) (q := v 0 - p - 2) (by omega) (by omega)
        show gR S2 (B 0) 12 9 _
        rw [OS_gR hB (by omega) H2 (k := 2) (f := 9) rfl, show (2 : Int32) = nI 2 from rfl, ei 2 (by omega), g _ (by omega), r_low l1 l2]
        exact fin _ next
      · show gR S2 (B 0) 12 9 _
        rw [OS_gR hB (by omega) H2 (k := 2) (f := 9) rfl, show (1 : Int32) = nI 1 from rfl, ei 1 (by omega), g _ (by omega)]
        exact fin _ next
    · rw [if_neg hy, if_pos rfl]
      have ne : ∀ j : Nat, j ≤ 4 → ¬ y = nI j := fun j hj z => hy (by rw [z]; exact ⟨nI_nlt (Nat.zero_le _) (by omega), nI_nlt hj (by omega)⟩)
      rw [if_neg (show ¬ y = 0 from ne 0 (by omega)), if_neg (show ¬ y = 1 from ne 1 (by omega)), if_neg (show ¬ y = 2 from ne 2 (by omega)), if_neg (show ¬ y = 3 from ne 3 (by omega)), if_neg (show ¬ y = 4 from ne 4 (by omega))] at next
      exact bad 2 (by omega) (by omega) next
  · rw [if_neg hx] at next
    rw [if_neg hx, if_pos rfl]
    exact bad 1 (by omega) (by omega) next
theorem r_place {x y : Int32} {q : Int32 → PS → Prop} (hB : oB 10 S0 B) (H : RS S0 B F h S) (hr : rowV h 0 v) (hv : okV v) (m : mX F h hs sv r tx fa ln) (no : ∀ t : Nat, (inP v x = false ∧ t = 1 ∨ inP v x = true ∧ inQ v (ix x) y = false ∧ t = 2) → ∀ S1 F1 h1, RS S0 B F1 h1 S1 → F1 0 = nI t → rowV h1 0 v → mX F1 h1 hs sv r tx fa ln → q 0 S1) (yes : inP v x = true → inQ v (ix x) y = true → ∀ S1 F1 h1, RS S0 B F1 h1 S1 → F1 0 = nI 0 → rowV h1 0 v → mX F1 h1 hs sv r tx fa ln → (∀ a b, a < v 0 - 1 → b < v 0 - a → h1 2 (9 * a + b) = nI (gr v a b) ∧ h1 3 (9 * a + b) = nI (pl v a b)) → q 1 S1) : f_X8_isPlace S (B 0) x y q := by
  have h0 := hv.1
  have hR := RS_isR hB H hr
  have j36 : ∀ t : Nat, t < 100 → (∀ S1 F1 h1, RS S0 B F1 h1 S1 → F1 0 = nI t → rowV h1 0 v → mX F1 h1 hs sv r tx fa ln → (∀ a b, a < v 0 - 1 → b < v 0 - a → h1 2 (9 * a + b) = nI (gr v a b) ∧ h1 3 (9 * a + b) = nI (pl v a b)) → q (if t = 0 then 1 else 0) S1) → f_X8_isPlace_J36 q S (B 0) (nI t) (B 0) := fun t ht nx => by
    unfold f_X8_isPlace_J36
    refine OS_pV hB (by omega) H (f := 0) rfl (by show 0 < 25; decide) (fun S1 H1 => ?_)
    rw [OS_isO hB (by omega) H1]
    refine r_lays hB H1 hr hv (fun S2 F2 h2 H2 d2 => ?_)
    have f0 : F2 0 = nI t := (d2.1 0 (by decide) (by decide)).trans Fu_at
    have := nx S2 F2 h2 H2 f0 (laid_row hr d2) (mX_laid (mX_0 m) d2) d2.2.2.1
    rw [OS_gI hB (by omega) H2 (f := 0) (x := F2 0) rfl, f0]
    by_cases e : t = 0
    · rw [if_pos e] at this
      rw [if_pos (by rw [e]; rfl), nZ1]; exact this
    · rw [if_neg e] at this
      rw [if_neg (nI_ne0 (by omega) (by omega)), nZ0]; exact this
  unfold f_X8_isPlace
  rw [OS_isO hB (by omega) H, r_isPhase hB H hr h0]
  cases hx : inP v x with
  | true =>
    obtain ⟨p1, p2⟩ := inP_of h0 hx
    obtain ⟨p, hp⟩ : ∃ p, p = ix x := ⟨_, rfl⟩
    rw [← hp] at p1 p2 no yes
    subst p2
    have ii : (¬ y < 0 ∧ ¬ nI (v 0) - nI p - 1 < y) ↔ inQ v p y = true := by
      rw [show (1 : Int32) = nI 1 from rfl, pk_sub (by omega), pk_sub (by omega)]
      unfold inQ
      rw [Bool.and_eq_true, decide_eq_true_eq, decide_eq_true_eq]
      constructor
      · rintro ⟨z1, z2⟩
        refine ⟨z1, fun z3 => z2 ?_⟩
        exact Int32.lt_of_lt_of_le (nI_lt (by omega) (by omega)) z3
      · rintro ⟨z1, z2⟩
        refine ⟨z1, fun z3 => z2 ?_⟩
        obtain ⟨j, hj, rfl⟩ := nI_of z1
        rw [nI_ltI (by omega) hj] at z3
        exact nI_le (by omega) hj
    rw [if_pos rfl, if_neg (by decide), R0 hR, RA0 hR, r_inG]
    cases hy : inQ v p y with
    | true =>
      rw [if_pos (ii.mpr hy), if_neg (by decide)]
      exact j36 0 (by omega) (fun S1 F1 h1 H1 a1 a2 a3 a4 => yes hx hy S1 F1 h1 H1 a1 a2 a3 a4)
    | false =>
      rw [if_neg (show ¬ (¬ y < 0 ∧ ¬ nI (v 0) - nI p - 1 < y) from fun z => by rw [ii.mp z] at hy; cases hy), if_pos rfl]
      exact j36 2 (by omega) (fun S1 F1 h1 H1 a1 a2 a3 a4 => no 2 (Or.inr ⟨hx, hy, rfl⟩) S1 F1 h1 H1 a1 a2 a3)
  | false =>
    rw [if_neg (show ¬ false = true by decide), if_pos rfl]
    exact j36 1 (by omega) (fun S1 F1 h1 H1 a1 a2 a3 a4 => no 1 (Or.inl ⟨hx, rfl⟩) S1 F1 h1 H1 a1 a2 a3)
theorem m_joined {x y : Int32} (hB : oB 10 S0 B) (H : RS S0 B F h S) (hr : rowV h 0 v) (hv : okV v) (m : mX F h hs sv r tx fa ln) (next : mN S0 B v hs sv r tx fa ln (oJoi v x y) post) : f_X8_joined S (B 0) x y post := by
  have h0 := hv.1
  unfold f_X8_joined
  unfold oJoi at next
  rw [OS_isO hB (by omega) H]
  refine r_place hB H hr hv m (fun t ht S1 F1 h1 H1 a1 a2 a3 => ?_) (fun hx hy S1 F1 h1 H1 a1 a2 a3 a4 => ?_)
  · rw [if_pos rfl]
    rcases ht with ⟨z1, rfl⟩ | ⟨z1, z2, rfl⟩
    · rw [z1, if_neg (by decide)] at next
      exact next S1 F1 h1 H1 a1 a2 a3
    · rw [z1, if_pos rfl, z2, if_neg (by decide)] at next
      exact next S1 F1 h1 H1 a1 a2 a3
  · rw [hx, if_pos rfl, hy, if_pos rfl] at next
    obtain ⟨p1, p2⟩ := inP_of h0 hx
    obtain ⟨q1, q2⟩ := inQ_of h0 hy
    have ei : (9 : Int32) * x + y = nI (9 * ix x + ix y) := by
      have : (9 : Int32) * nI (ix x) + nI (ix y) = nI (9 * ix x + ix y) := by rw [show (9 : Int32) = nI 9 from rfl, pk_mul, nI_add]
      rw [← p2, ← q2] at this; exact this
    obtain ⟨l1, l2⟩ := gr_lt hv (p := ix x) (q := ix y) (by omega) q1
    rw [if_neg (by decide), OS_gR hB (by omega) H1 (k := 2) (f := 9) rfl, ei, OS_aI hB H1 (k := 2) (by omega) (show 9 * ix x + ix y < rrl 2 from (show 9 * ix x + ix y < 81 by omega)) (by decide), (a4 _ _ p1 q1).1, r_low l1 l2]
    exact next S1 F1 h1 H1 a1 a2 a3
theorem m_tieAt {x y : Int32} (hB : oB 10 S0 B) (H : RS S0 B F h S) (hr : rowV h 0 v) (hv : okV v) (m : mX F h hs sv r tx fa ln) (next : mN S0 B v hs sv r tx fa ln (oTat v x y) post) : f_X8_tieAt S (B 0) x y post := by
  have h0 := hv.1
  unfold f_X8_tieAt
  unfold oTat at next
  rw [OS_isO hB (by omega) H]
  refine r_place hB H hr hv m (fun t ht S1 F1 h1 H1 a1 a2 a3 => ?_) (fun hx hy S1 F1 h1 H1 a1 a2 a3 a4 => ?_)
  · rw [if_pos rfl]
    rcases ht with ⟨z1, rfl⟩ | ⟨z1, z2, rfl⟩
    · rw [z1, if_neg (by decide)] at next
      exact next S1 F1 h1 H1 a1 a2 a3
    · rw [z1, if_pos rfl, z2, if_neg (by decide)] at next
      exact next S1 F1 h1 H1 a1 a2 a3
  · rw [hx, if_pos rfl, hy, if_pos rfl] at next
    obtain ⟨p1, p2⟩ := inP_of h0 hx
    obtain ⟨q1, q2⟩ := inQ_of h0 hy
    have ei : (9 : Int32) * x + y = nI (9 * ix x + ix y) := by
      have : (9 : Int32) * nI (ix x) + nI (ix y) = nI (9 * ix x + ix y) := by rw [show (9 : Int32) = nI 9 from rfl, pk_mul, nI_add]
      rw [← p2, ← q2] at this; exact this
    rw [if_neg (by decide), OS_gR hB (by omega) H1 (k := 3) (f := 10) rfl, ei, OS_aI hB H1 (k := 3) (by omega) (show 9 * ix x + ix y < rrl 3 from (show 9 * ix x + ix y < 81 by omega)) (by decide), (a4 _ _ p1 q1).2]
    exact next S1 F1 h1 H1 a1 a2 a3
theorem r_two {q : Int32 → PS → Prop} (hB : oB 10 S0 B) (H : RS S0 B F h S) (hr : rowV h 0 v) (hv : okV v) (no : v 0 < 2 → ∀ S1, RS S0 B (Fu F 0 1) h S1 → q 0 S1) (yes : ¬ v 0 < 2 → ∀ S1, RS S0 B (Fu F 0 0) h S1 → q 1 S1) : f_X8_areTwo S (B 0) q := by
  have h0 := hv.1
  have hR := RS_isR hB H hr
  unfold f_X8_areTwo f_X8_areTwo_J16
  rw [R0 hR, RA0 hR]
  by_cases e : v 0 < 2
  · rw [if_pos (show nI (v 0) ≤ 1 from nI_le (b := 1) (by omega) (by omega)), OS_isO hB (by omega) H]
    refine r_isThere0 hB H (fun S1 H1 => ?_)
    rw [nZ0]; exact no e S1 H1
  · rw [if_neg (show ¬ nI (v 0) ≤ 1 from nI_ge (a := 1) (by omega) (by omega)), OS_isO hB (by omega) H]
    refine r_isThere1 hB H (fun S1 H1 => ?_)
    rw [nZ1]; exact yes e S1 H1
theorem r_now {q : Int32 → PS → Prop} (hB : oB 10 S0 B) (H : RS S0 B F h S) (hr : rowV h 0 v) (hv : okV v) (h2 : 2 ≤ v 0) (next : ∀ S1 F1 h1, RS S0 B F1 h1 S1 → laid v F h F1 h1 → q (nI (lcut v)) S1) : f_X8_leastNow S (B 0) q := by
  unfold f_X8_leastNow
  rw [OS_isO hB (by omega) H]
  refine r_lays hB H hr hv (fun S2 F2 h2' H2 d2 => ?_)
  rw [OS_gI hB (by omega) H2 (f := 14) (x := F2 14) rfl, d2.2.2.2.2.2 h2]
  exact next S2 F2 h2' H2 d2
theorem m_least (hB : oB 10 S0 B) (H : RS S0 B F h S) (hr : rowV h 0 v) (hv : okV v) (m : mX F h hs sv r tx fa ln) (next : mN S0 B v hs sv r tx fa ln (oLst v) post) : f_X8_least S (B 0) post := by
  unfold f_X8_least
  unfold oLst at next
  rw [OS_isO hB (by omega) H]
  refine r_two hB H hr hv (fun e S1 H1 => ?_) (fun e S1 H1 => ?_)
  · rw [if_pos e] at next
    rw [if_pos rfl]
    exact next S1 _ h H1 Fu_at hr (mX_0 m)
  · rw [if_neg e] at next
    rw [if_neg (by decide), OS_isO hB (by omega) H1]
    exact r_now hB H1 hr hv (by omega) (fun S2 F2 h2 H2 d2 => next S2 F2 h2 H2 ((d2.1 0 (by decide) (by decide)).trans Fu_at) (laid_row hr d2) (mX_laid (mX_0 m) d2))
theorem m_leastAgain (hB : oB 10 S0 B) (H : RS S0 B F h S) (hr : rowV h 0 v) (hv : okV v) (m : mX F h hs sv r tx fa ln) (next : mN S0 B v hs sv r tx fa ln (oLst v) post) : f_X8_leastAgain S (B 0) post := by
  unfold f_X8_leastAgain
  rw [OS_isO hB (by omega) H]
  exact m_least hB H hr hv m next
theorem m_met (hB : oB 10 S0 B) (H : RS S0 B F h S) (hr : rowV h 0 v) (hv : okV v) (m : mX F h hs sv r tx fa ln) (next : mN S0 B v hs sv r tx fa ln (oMet v) post) : f_X8_met S (B 0) post := by
  unfold f_X8_met
  unfold oMet at next
  rw [OS_isO hB (by omega) H]
  refine r_two hB H hr hv (fun e S1 H1 => ?_) (fun e S1 H1 => ?_)
  · rw [if_pos e] at next
    rw [if_pos rfl]
    exact next S1 _ h H1 Fu_at hr (mX_0 m)
  · rw [if_neg e] at next
    rw [if_neg (by decide), OS_isO hB (by omega) H1]
    refine r_lays hB H1 hr hv (fun S2 F2 h2 H2 d2 => ?_)
    rw [OS_gI hB (by omega) H2 (f := 13) (x := F2 13) rfl, d2.2.2.2.2.1]
    exact next S2 F2 h2 H2 ((d2.1 0 (by decide) (by decide)).trans Fu_at) (laid_row hr d2) (mX_laid (mX_0 m) d2)
theorem m_leastSides (hB : oB 10 S0 B) (H : RS S0 B F h S) (hr : rowV h 0 v) (hv : okV v) (m : mX F h hs sv r tx fa ln) (next : mN S0 B v hs sv r tx fa ln (oLsd v) post) : f_X8_leastSides S (B 0) post := by
  unfold f_X8_leastSides
  unfold oLsd at next
  rw [OS_isO hB (by omega) H]
  refine r_two hB H hr hv (fun e S1 H1 => ?_) (fun e S1 H1 => ?_)
  · rw [if_pos e] at next
    rw [if_pos rfl]
    exact next S1 _ h H1 Fu_at hr (mX_0 m)
  · rw [if_neg e] at next
    rw [if_neg (by decide), OS_isO hB (by omega) H1]
    refine r_now hB H1 hr hv (by omega) (fun S2 F2 h2 H2 d2 => ?_)
    have hr2 := laid_row hr d2
    rw [r_sides (RS_isR hB H2 hr2) hv (by omega)]
    exact next S2 F2 h2 H2 ((d2.1 0 (by decide) (by decide)).trans Fu_at) hr2 (mX_laid (mX_0 m) d2)
theorem m_between {x y : Int32} (hB : oB 10 S0 B) (H : RS S0 B F h S) (hr : rowV h 0 v) (hv : okV v) (m : mX F h hs sv r tx fa ln) (next : mN S0 B v hs sv r tx fa ln (oBtw v x y) post) : f_X8_between S (B 0) x y post := by
  have h0 := hv.1
  have hR := RS_isR hB H hr
  have bad : ∀ t : Nat, t ≠ 0 → t < 100 → mN S0 B v hs sv r tx fa ln (t, 0) post → f_X8_between_J31 post S (B 0) x y (nI t) (B 0) := fun t ht ht2 nx => by
    unfold f_X8_between_J31
    refine OS_pV hB (by omega) H (f := 0) rfl (by show 0 < 25; decide) (fun S1 H1 => ?_)
    rw [OS_gI hB (by omega) H1 (f := 0) (x := nI t) rfl, if_neg (nI_ne0 (by omega) (by omega))]
    exact nx S1 _ h H1 Fu_at hr (mX_0 m)
  unfold f_X8_between f_X8_between_J17
  unfold oBtw at next
  rw [OS_isO hB (by omega) H, r_isHouse hR h0]
  by_cases hx : inb v x = true
  · rw [if_pos hx] at next
    rw [if_pos hx, if_neg (by decide), OS_isO hB (by omega) H, r_isHouse hR h0]
    by_cases hy : inb v y = true
    · rw [if_pos hy] at next
      rw [if_pos hy, if_neg (by decide)]
      by_cases e : x = y
      · rw [if_pos e] at next ⊢
        exact bad 2 (by omega) (by omega) next
      · rw [if_neg e] at next ⊢
        obtain ⟨b1, b2⟩ := inb_of h0 hx
        obtain ⟨b3, b4⟩ := inb_of h0 hy
        unfold f_X8_between_J31
        refine OS_pV hB (by omega) H (f := 0) rfl (by show 0 < 25; decide) (fun S1 H1 => ?_)
        have hR1 := RS_isR hB H1 hr
        have eb : ∀ q : Int32 → PS → Prop, f_X8_betweenOf S1 (B 0) x y q = q (nI (bt v (ix x) (ix y))) S1 := fun q => by
          have := r_between (post := q) hR1 hv (i := ix x) (j := ix y) (by omega) (by omega)
          rw [← b2, ← b4] at this; exact this
        rw [OS_gI hB (by omega) H1 (f := 0) (x := 0) rfl, if_pos rfl, OS_isO hB (by omega) H1, eb]
        exact next S1 _ h H1 Fu_at hr (mX_0 m)
    · rw [if_neg hy] at next
      rw [if_neg hy, if_pos rfl]
      exact bad 1 (by omega) (by omega) next
  · rw [if_neg hx] at next
    rw [if_neg hx, if_pos rfl]
    exact bad 1 (by omega) (by omega) next
theorem m_betweenAgain {x y : Int32} (hB : oB 10 S0 B) (H : RS S0 B F h S) (hr : rowV h 0 v) (hv : okV v) (m : mX F h hs sv r tx fa ln) (next : mN S0 B v hs sv r tx fa ln (oBtw v x y) post) : f_X8_betweenAgain S (B 0) x y post := by
  unfold f_X8_betweenAgain
  rw [OS_isO hB (by omega) H]
  exact m_between hB H hr hv m next
theorem mX_rst {h1 : Nat → Nat → Int32} (m : mX F h hs sv r tx fa ln) (t : rst h h1) : mX F h1 hs sv r tx fa ln := mX_ext m ⟨rfl, rfl, rfl, rfl, rfl, rfl, rfl, rfl, rfl⟩ (t.1 7 (by decide)) (t.1 9 (by decide)) (fun x h2 _ => t.2 x h2)
theorem r_with {i j w : Nat} {q : Int32 → PS → Prop} (hB : oB 10 S0 B) (H : RS S0 B F h S) (hr : rowV h 0 v) (hv : okV v) (hvb : okV (vBnd v i j w)) (hi : i < v 0) (hj : j < v 0) (hij : i ≠ j) (m : mX F h hs sv r tx fa ln) (next : ∀ S1 F1 h1, RS S0 B F1 h1 S1 → F1 0 = F 0 → rowV h1 0 v → mX F1 h1 hs sv r tx fa ln → q (nI (lcut (vBnd v i j w))) S1) : f_X8_leastWith S (B 0) (nI i) (nI j) (nI w) q := by
  have h0 := hv.1
  have hR := RS_isR hB H hr
  have hr' : rowV h 0 (mkV (v 0) (v 1) (v 2) (v 3) (fun k => v (4 + k)) (wt v)) := by rw [mkV_id]; exact hr
  unfold f_X8_leastWith
  rw [OS_isO hB (by omega) H, r_w hR (by omega) (by omega), OS_isO hB (by omega) H]
  refine r_setBond hB H hr' (by omega) (by omega) (fun S1 h1 H1 t1 r1 => ?_)
  have r1' : rowV h1 0 (vBnd v i j w) := r1
  rw [OS_isO hB (by omega) H1]
  refine r_now hB H1 r1' hvb (by show 2 ≤ v 0; omega) (fun S2 F2 h2 H2 d2 => ?_)
  have r2 := laid_row r1' d2
  rw [OS_isO hB (by omega) H2]
  refine r_setBond hB H2 r2 (by omega) (by omega) (fun S3 h3 H3 t3 r3 => ?_)
  have r4 : rowV h3 0 v := by
    have := row_ext (s' := fun k => v (4 + k)) (W' := wt v) r3 (fun _ _ => rfl) (fun a b ha hb => by
      by_cases e : (a = i ∧ b = j) ∨ (a = j ∧ b = i)
      · rw [if_pos e]
        rcases e with ⟨rfl, rfl⟩ | ⟨rfl, rfl⟩
        · rfl
        · exact hv.2.2.2.1 _ _ (by omega) (by omega)
      · rw [if_neg e, if_neg e])
    rw [mkV_id] at this
    exact this
  exact next S3 F2 h3 H3 (d2.1 0 (by decide) (by decide)) r4 (mX_rst (mX_laid (mX_rst m t1) d2) t3)
theorem m_ifBond {x y w : Int32} (hB : oB 10 S0 B) (H : RS S0 B F h S) (hr : rowV h 0 v) (hv : okV v) (ht : tot v + 3000 < 10000000) (m : mX F h hs sv r tx fa ln) (next : mN S0 B v hs sv r tx fa ln (oIfB v x y w) post) : f_X8_ifBond S (B 0) x y w post := by
  have h0 := hv.1
  have hR := RS_isR hB H hr
  have bad : ∀ t : Nat, t ≠ 0 → t < 100 → mN S0 B v hs sv r tx fa ln (t, 0) post → f_X8_ifBond_J41 post S (B 0) x y w (nI t) (B 0) := fun t ht ht2 nx => by
    unfold f_X8_ifBond_J41
    refine OS_pV hB (by omega) H (f := 0) rfl (by show 0 < 25; decide) (fun S1 H1 => ?_)
    rw [OS_gI hB (by omega) H1 (f := 0) (x := nI t) rfl, if_neg (nI_ne0 (by omega) (by omega))]
    exact nx S1 _ h H1 Fu_at hr (mX_0 m)
  unfold f_X8_ifBond f_X8_ifBond_J17 f_X8_ifBond_J36
  unfold oIfB at next
  rw [OS_isO hB (by omega) H, r_isHouse hR h0]
  by_cases hx : inb v x = true
  · rw [if_pos hx] at next
    rw [if_pos hx, if_neg (by decide), OS_isO hB (by omega) H, r_isHouse hR h0]
    by_cases hy : inb v y = true
    · rw [if_pos hy] at next
      rw [if_pos hy, if_neg (by decide)]
      by_cases e : x = y
      · rw [if_pos e] at next ⊢
        exact bad 2 (by omega) (by omega) next
      rw [if_neg e] at next ⊢
      rw [r_inG]
      by_cases e2 : w < 0
      · rw [if_pos e2] at next
        rw [if_neg (show ¬ (¬ w < 0 ∧ ¬ (99 : Int32) < w) from fun z => z.1 e2), if_pos rfl]
        exact bad 2 (by omega) (by omega) next
      rw [if_neg e2] at next
      by_cases e3 : w ≤ 99
      · rw [if_pos e3] at next
        obtain ⟨b1, b2⟩ := inb_of h0 hx
        obtain ⟨b3, b4⟩ := inb_of h0 hy
        obtain ⟨k, hk, rfl⟩ := nI_of2 (M := 99) (n := 99) (by decide) e2 e3
        rw [ix_nI (by omega)] at next
        obtain ⟨i, hi⟩ : ∃ i, i = ix x := ⟨_, rfl⟩
        obtain ⟨j, hj⟩ : ∃ j, j = ix y := ⟨_, rfl⟩
        rw [← hi] at next b1 b2
        rw [← hj] at next b3 b4
        subst b2
        subst b4
        have hij : i ≠ j := fun z => e (by rw [z])
        rw [if_pos (show ¬ nI k < 0 ∧ ¬ (99 : Int32) < nI k from ⟨e2, Int32.not_lt.mpr e3⟩), if_neg (by decide)]
        unfold f_X8_ifBond_J41
        refine OS_pV hB (by omega) H (f := 0) rfl (by show 0 < 25; decide) (fun S1 H1 => ?_)
        rw [OS_gI hB (by omega) H1 (f := 0) (x := 0) rfl, if_pos rfl, OS_isO hB (by omega) H1]
        exact r_with hB H1 hr hv (bnd_ok hv ht b1 b3 hij hk) b1 b3 hij (mX_0 m) (fun S2 F2 h2 H2 f2 r2 m2 => next S2 F2 h2 H2 (f2.trans Fu_at) r2 m2)
      · rw [if_neg e3] at next
        rw [if_neg (show ¬ (¬ w < 0 ∧ ¬ (99 : Int32) < w) from fun z => e3 (Int32.not_lt.mp z.2)), if_pos rfl]
        exact bad 2 (by omega) (by omega) next
    · rw [if_neg hy] at next
      rw [if_neg hy, if_pos rfl]
      exact bad 1 (by omega) (by omega) next
  · rw [if_neg hx] at next
    rw [if_neg hx, if_pos rfl]
    exact bad 1 (by omega) (by omega) next
theorem m_isCritical {x y : Int32} (hB : oB 10 S0 B) (H : RS S0 B F h S) (hr : rowV h 0 v) (hv : okV v) (ht : tot v + 3000 < 10000000) (m : mX F h hs sv r tx fa ln) (next : mN S0 B v hs sv r tx fa ln (oCrt v x y) post) : f_X8_isCritical S (B 0) x y post := by
  have h0 := hv.1
  have hR := RS_isR hB H hr
  have bad : ∀ t : Nat, t ≠ 0 → t < 100 → mN S0 B v hs sv r tx fa ln (t, 0) post → f_X8_isCritical_J40 post S (B 0) x y (nI t) (B 0) := fun t ht ht2 nx => by
    unfold f_X8_isCritical_J40
    refine OS_pV hB (by omega) H (f := 0) rfl (by show 0 < 25; decide) (fun S1 H1 => ?_)
    rw [OS_gI hB (by omega) H1 (f := 0) (x := nI t) rfl, if_neg (nI_ne0 (by omega) (by omega)), nZ0]
    exact nx S1 _ h H1 Fu_at hr (mX_0 m)
  unfold f_X8_isCritical f_X8_isCritical_J17 f_X8_isCritical_J35
  unfold oCrt at next
  rw [OS_isO hB (by omega) H, r_isHouse hR h0]
  by_cases hx : inb v x = true
  · rw [if_pos hx] at next
    rw [if_pos hx, if_neg (by decide), OS_isO hB (by omega) H, r_isHouse hR h0]
    by_cases hy : inb v y = true
    · rw [if_pos hy] at next
      rw [if_pos hy, if_neg (by decide)]
      by_cases e : x = y
      · rw [if_pos e] at next ⊢
        exact bad 2 (by omega) (by omega) next
      rw [if_neg e] at next ⊢
      obtain ⟨b1, b2⟩ := inb_of h0 hx
      obtain ⟨b3, b4⟩ := inb_of h0 hy
      obtain ⟨i, hi⟩ : ∃ i, i = ix x := ⟨_, rfl⟩
      obtain ⟨j, hj⟩ : ∃ j, j = ix y := ⟨_, rfl⟩
      rw [← hi] at next b1 b2
      rw [← hj] at next b3 b4
      subst b2
      subst b4
      have hij : i ≠ j := fun z => e (by rw [z])
      have hlt := hv.lt (show i < 9 by omega) (show j < 9 by omega)
      rw [OS_isO hB (by omega) H, r_w hR (by omega) (by omega)]
      by_cases e2 : wt v i j = 0
      · rw [if_pos e2] at next
        rw [if_pos (by rw [e2]; rfl)]
        exact bad 2 (by omega) (by omega) next
      · rw [if_neg e2] at next
        rw [if_neg (nI_ne0 (by omega) (by omega))]
        have hb := bnd_ok hv ht b1 b3 hij (w := 0) (by omega)
        have l1 := lcut_lt hb
        have l2 := lcut_lt hv
        unfold f_X8_isCritical_J40
        refine OS_pV hB (by omega) H (f := 0) rfl (by show 0 < 25; decide) (fun S1 H1 => ?_)
        rw [OS_gI hB (by omega) H1 (f := 0) (x := 0) rfl, if_pos rfl, OS_isO hB (by omega) H1]
        refine r_with (w := 0) hB H1 hr hv hb b1 b3 hij (mX_0 m) (fun S2 F2 h2 H2 f2 r2 m2 => ?_)
        rw [OS_isO hB (by omega) H2]
        refine r_now hB H2 r2 hv (by omega) (fun S3 F3 h3 H3 d3 => ?_)
        have nx := next S3 F3 h3 H3 (((d3.1 0 (by decide) (by decide)).trans f2).trans Fu_at) (laid_row r2 d3) (mX_laid m2 d3)
        by_cases e3 : lcut v ≤ lcut (vBnd v i j 0)
        · rw [if_pos e3] at nx
          rw [if_pos (nI_le e3 (by omega)), nZ0]; exact nx
        · rw [if_neg e3] at nx
          rw [if_neg (nI_ge (by omega) (by omega)), nZ1]; exact nx
    · rw [if_neg hy] at next
      rw [if_neg hy, if_pos rfl]
      exact bad 1 (by omega) (by omega) next
  · rw [if_neg hx] at next
    rw [if_neg hx, if_pos rfl]
    exact bad 1 (by omega) (by omega) next
theorem m_isTold (hB : oB 10 S0 B) (H : RS S0 B F h S) (hr : rowV h 0 v) (m : mX F h hs sv r tx fa ln) (next : mN S0 B v hs sv r tx fa ln (0, 1) post) : f_X8_isTold S (B 0) post := by
  unfold f_X8_isTold
  refine OS_pV hB (by omega) H (f := 0) rfl (by show 0 < 25; decide) (fun S1 H1 => ?_)
  rw [nZ1]
  exact next S1 _ h H1 Fu_at hr (mX_0 m)
/-- the key of a household, as the reference takes it -/
theorem r_meas {x : Int32} {k : Nat} {S : PS} {F : Nat → Int32} {h : Nat → Nat → Int32} (hB : oB 10 S0 B) (H : RS S0 B F h S) (hr : rowV h 0 v) (hv : okV v) (hk : k < v 0) : f_X8_measure S (B 0) x (nI k) post = post (kyO (-100000000) v x k) S := by
  have h0 := hv.1
  have hR := RS_isR hB H hr
  have hp := Nat.pow_le_pow_right (show 0 < 2 by omega) h0
  have hev : ev v < 2 ^ 9 := by unfold ev; omega
  have h2k : 2 ^ k < 2 ^ 9 := Nat.pow_lt_pow_right (by omega) (by omega)
  have l2 := os_lt hv (k := k)
  have e1 : ∀ q : Int32 → PS → Prop, f_X8_onSide S (B 0) (nI k) 1 q = q (nI (os v k)) S := fun q => r_onSide hR hv (show k < 9 by omega) true
  unfold f_X8_measure kyO
  by_cases x0 : x = 0
  · rw [if_pos x0, if_pos x0, OS_isO hB (by omega) H, r_every hR hv, OS_isO hB (by omega) H, b_bit k (by omega), r_tie hR hv (by omega) (by omega), tT_bit hk]
  rw [if_neg x0, if_neg x0]
  by_cases x1 : x = 1
  · rw [if_pos x1, if_pos x1, OS_isO hB (by omega) H, r_bondsOf hR hv (by omega)]
  rw [if_neg x1, if_neg x1]
  by_cases x2 : x = 2
  · rw [if_pos x2, if_pos x2, OS_isO hB (by omega) H, e1, OS_isO hB (by omega) H, b_bit k (by omega), r_tie hR hv (by omega) (by omega), tT_bit hk]
  rw [if_neg x2, if_neg x2]
  by_cases k0 : k = 0
  · rw [if_pos k0, if_pos (by rw [k0]; rfl)]
  · rw [if_neg k0, if_neg (nI_ne0 (by omega) (by omega)), OS_isO hB (by omega) H, show (0 : Int32) = nI 0 from rfl, r_between hR hv (by omega) (by omega)]
theorem m_ranked {x y : Int32} (hB : oB 10 S0 B) (H : RS S0 B F h S) (hr : rowV h 0 v) (hv : okV v) (m : mX F h hs sv r tx fa ln) (next : mN S0 B v hs sv r tx fa ln (oRnk v x y) post) : f_X8_ranked S (B 0) x y post := by
  have h0 := hv.1
  unfold f_X8_ranked
  unfold oRnk at next
  show f_X8_in S x (nI 0) (nI 3) _
  rw [r_in (m := 0) (by omega) (by omega)]
  by_cases hx : ¬ x < nI 0 ∧ ¬ nI 3 < x
  · have a1 : ¬ x < 0 := hx.1
    have a2 : x ≤ 3 := Int32.not_lt.mp hx.2
    rw [if_neg a1, if_pos a2] at next
    rw [if_pos hx, if_neg (by decide)]
    unfold f_X8_ranked_J15
    refine OS_pV hB (by omega) H (f := 0) rfl (by show 0 < 25; decide) (fun S1 H1 => ?_)
    have hR1 := RS_isR hB H1 hr
    have m1 := mX_0 (x := 2) m
    rw [R0 hR1, RA0 hR1]
    -- the keys
    have fill := loop_i (W := fun fuel k (s : PS × (Nat → Nat → Int32)) => f_X8_ranked_L28 post fuel s.1 (B 0) x y (nI (v 0)) (nI k)) (I := fun k s => RS S0 B (Fu F 0 2) s.2 s.1 ∧ (∀ q, q ≠ 6 → s.2 q = h q) ∧ ∀ i, i < k → s.2 6 i = kyO (-100000000) v x i) (v 0) (fun n s hI => ?_) (fun n k s hk hI ih => ?_) 4096 0 (S1, h) (by omega) (by omega) ⟨H1, fun _ _ => rfl, fun i hi => by omega⟩
    · exact fill
    · obtain ⟨c1, c2, c3⟩ := hI
      have hr2 : rowV s.2 0 v := fun k hk => by rw [c2 1 (by decide)]; exact hr k hk
      have m2 : mX (Fu F 0 2) s.2 hs sv r tx fa ln := mX_ext m1 ⟨rfl, rfl, rfl, rfl, rfl, rfl, rfl, rfl, rfl⟩ (c2 7 (by decide)) (c2 9 (by decide)) (fun x _ _ => by rw [c2 1 (by decide)])
      show f_X8_ranked_L28 post (n + 1) s.1 (B 0) x y (nI (v 0)) (nI (v 0))
      simp only [f_X8_ranked_L28, f_X8_ranked_J62]
      rw [if_pos (nI_le (Nat.le_refl _) (by omega))]
      obtain ⟨kf, hkf⟩ : ∃ kf, kf = s.2 6 := ⟨_, rfl⟩
      -- the places
      have look : ∀ (d fuel : Nat), d ≤ v 0 → d < fuel → (∀ p, y = nI p → p < v 0 → rkd kf (v 0) p d < v 0 → ∀ S3, RS S0 B (Fu (Fu F 0 2) 0 0) s.2 S3 → post (nI (rkd kf (v 0) p d)) S3) → ((∀ i, v 0 - d ≤ i → i < v 0 → y ≠ nI (plc kf (v 0) i)) → post 0 s.1) → f_X8_ranked_L65 post fuel s.1 (B 0) y (nI (v 0)) (nI (v 0 - d)) := by
        intro d
        induction d with
        | zero =>
          intro fuel hd hf yes no
          obtain ⟨n2, rfl⟩ : ∃ n2, fuel = n2 + 1 := ⟨fuel - 1, by omega⟩
          simp only [f_X8_ranked_L65]
          rw [if_pos (nI_le (by omega) (by omega))]
          exact no (fun i h1 h2 => by omega)
        | succ d ihd =>
          intro fuel hd hf yes no
          obtain ⟨n2, rfl⟩ : ∃ n2, fuel = n2 + 1 := ⟨fuel - 1, by omega⟩
          obtain ⟨i, hi⟩ : ∃ i, i = v 0 - (d + 1) := ⟨_, rfl⟩
          have hpb := plc_b kf (v 0) i
          simp only [f_X8_ranked_L65]
          rw [← hi, if_neg (nI_ge (show i < v 0 by omega) (by omega)), OS_gI hB (by omega) c1 (f := 0) (x := 2) rfl, if_pos rfl]
          have count := loop_i (W := fun fu k (_ : Unit) => f_X8_ranked_L85 post (f_X8_ranked_L65 post n2) fu s.1 (B 0) y (nI (v 0)) (nI i) (nI (plc kf k i)) (nI k)) (I := fun _ _ => True) (v 0) (fun n3 u _ => ?_) (fun n3 k u hk _ ihk => ?_) 4096 0 () (by omega) (by omega) trivial
          · exact count
          · show f_X8_ranked_L85 post (f_X8_ranked_L65 post n2) (n3 + 1) s.1 (B 0) y (nI (v 0)) (nI i) (nI (plc kf (v 0) i)) (nI (v 0))
            simp only [f_X8_ranked_L85, f_X8_ranked_J148, f_X8_ranked_J154]
            rw [if_pos (nI_le (Nat.le_refl _) (by omega))]
            by_cases e : nI (plc kf (v 0) i) = y
            · rw [if_pos e]
              refine OS_pV hB (by omega) c1 (f := 0) rfl (by show 0 < 25; decide) (fun S3 H3 => ?_)
              have := yes (plc kf (v 0) i) e.symm (plc_lt (by omega))
              unfold rkd at this
              rw [← hi, if_pos rfl] at this
              exact this (by omega) S3 H3
            · rw [if_neg e, nI_1, show i + 1 = v 0 - d by omega]
              refine ihd n2 (by omega) (by omega) (fun p hp hpv hrk S3 H3 => ?_) (fun hno => no (fun i' h1 h2 => ?_))
              · have := yes p hp hpv
                unfold rkd at this
                rw [← hi, if_neg (fun z => e (by rw [z, hp]))] at this
                exact this hrk S3 H3
              · by_cases q : i' = i
                · rw [q]; exact fun z => e z.symm
                · exact hno i' (by omega) h2
          · have e1 : plc kf (k + 1) i = plc kf k i + (if ahd kf i k = true then 1 else 0) := rfl
            have ihk : f_X8_ranked_L85 post (f_X8_ranked_L65 post n2) n3 s.1 (B 0) y (nI (v 0)) (nI i) (nI (plc kf (k + 1) i)) (nI (k + 1)) := ihk () trivial
            have l9 : ∀ z, z < v 0 → z < rrl 6 := fun z hz => (show z < 9 by omega)
            show f_X8_ranked_L85 post (f_X8_ranked_L65 post n2) (n3 + 1) s.1 (B 0) y (nI (v 0)) (nI i) (nI (plc kf k i)) (nI k)
            simp only [f_X8_ranked_L85, f_X8_ranked_J134, f_X8_ranked_J138, f_X8_ranked_J139]
            rw [if_neg (nI_ge hk (by omega)), OS_gR hB (by omega) c1 (k := 6) (f := 15) rfl, OS_aI hB c1 (k := 6) (by omega) (l9 k hk) (by decide), OS_gR hB (by omega) c1 (k := 6) (f := 15) rfl, OS_aI hB c1 (k := 6) (by omega) (l9 i (by omega)) (by decide), ← hkf]
            rw [e1] at ihk
            unfold ahd at ihk
            by_cases q1 : kf i < kf k
            · rw [decide_eq_true q1, Bool.true_or, if_pos rfl] at ihk
              rw [if_pos q1, nI_1, nI_1]; exact ihk
            · rw [decide_eq_false q1, Bool.false_or] at ihk
              rw [if_neg q1, OS_gR hB (by omega) c1 (k := 6) (f := 15) rfl, OS_aI hB c1 (k := 6) (by omega) (l9 k hk) (by decide), OS_gR hB (by omega) c1 (k := 6) (f := 15) rfl, OS_aI hB c1 (k := 6) (by omega) (l9 i (by omega)) (by decide), ← hkf]
              by_cases q2 : kf k = kf i
              · rw [decide_eq_true q2, Bool.true_and] at ihk
                rw [if_pos q2]
                by_cases q3 : k < i
                · rw [decide_eq_true q3, if_pos rfl] at ihk
                  rw [if_neg (nI_ge q3 (by omega)), nI_1, nI_1]; exact ihk
                · rw [decide_eq_false q3, if_neg (by decide)] at ihk
                  rw [if_pos (nI_le (by omega) (by omega)), nI_1, Int32.add_zero]; exact ihk
              · rw [decide_eq_false q2, Bool.false_and, if_neg (by decide)] at ihk
                rw [if_neg q2, nI_1, Int32.add_zero]; exact ihk
      have start := look (v 0) 4096 (Nat.le_refl _) (by omega)
      rw [Nat.sub_self] at start
      refine start (fun p hp hpv hrk S3 H3 => ?_) (fun hno => ?_)
      · have hy : inb v y = true := by rw [hp]; exact inb_nI h0 hpv
        rw [if_pos hy, hp, ix_nI (by omega), kyO_eq hv, ← rkd_ext (f := kf) (fun i hi => by rw [hkf]; exact c3 i hi)] at next
        exact next S3 _ s.2 H3 Fu_at hr2 (mX_0 m2)
      · by_cases hy : inb v y = true
        · obtain ⟨b1, b2⟩ := inb_of h0 hy
          obtain ⟨i, i1, i2⟩ := plc_all (kf := kf) b1
          exact absurd (by rw [i2]; exact b2) (hno i (by omega) i1)
        · rw [if_neg hy] at next
          exact next s.1 _ s.2 c1 Fu_at hr2 m2
    · obtain ⟨c1, c2, c3⟩ := hI
      have hr2 : rowV s.2 0 v := fun k hk => by rw [c2 1 (by decide)]; exact hr k hk
      show f_X8_ranked_L28 post (n + 1) s.1 (B 0) x y (nI (v 0)) (nI k)
      simp only [f_X8_ranked_L28]
      rw [if_neg (nI_ge hk (by omega)), OS_gI hB (by omega) c1 (f := 0) (x := 2) rfl, if_pos rfl, OS_gR hB (by omega) c1 (k := 6) (f := 15) rfl, OS_isO hB (by omega) c1, r_meas hB c1 hr2 hv hk, nI_1]
      refine OS_sI hB (by omega) c1 (k := 6) (by omega) (show k < rrl 6 from (show k < 9 by omega)) (by decide) (fun S3 H3 => ?_)
      refine ih (S3, hu s.2 6 k (kyO (-100000000) v x k)) ⟨H3, fun q hq => (hu_ne hq).trans (c2 q hq), fun i hi => ?_⟩
      show hu s.2 6 k (kyO (-100000000) v x k) 6 i = _
      by_cases q : i = k
      · rw [q, hu_at]
      · rw [hu_off q]; exact c3 i (by omega)
  · have nx : mN S0 B v hs sv r tx fa ln (1, 0) post := by
      by_cases a1 : x < 0
      · rw [if_pos a1] at next; exact next
      · rw [if_neg a1, if_neg (show ¬ x ≤ 3 from fun z => hx ⟨a1, Int32.not_lt.mpr z⟩)] at next; exact next
    rw [if_neg hx, if_pos rfl]
    unfold f_X8_ranked_J15
    refine OS_pV hB (by omega) H (f := 0) rfl (by show 0 < 25; decide) (fun S1 H1 => ?_)
    have hR1 := RS_isR hB H1 hr
    have fin := nx S1 _ h H1 Fu_at hr (mX_0 m)
    have key : ∀ n, f_X8_ranked_L28 post (n + 1) S1 (B 0) x y (nI (v 0)) (nI 0) := fun n => by
      have key2 : ∀ n, f_X8_ranked_L65 post (n + 1) S1 (B 0) y (nI (v 0)) (nI 0) := fun n => by
        simp only [f_X8_ranked_L65]
        by_cases e : nI (v 0) ≤ nI 0
        · rw [if_pos e]; exact fin
        · rw [if_neg e, OS_gI hB (by omega) H1 (f := 0) (x := 1) rfl, if_neg (by decide)]; exact fin
      simp only [f_X8_ranked_L28, f_X8_ranked_J62]
      by_cases e : nI (v 0) ≤ nI 0
      · rw [if_pos e]; exact key2 4095
      · rw [if_neg e, OS_gI hB (by omega) H1 (f := 0) (x := 1) rfl, if_neg (by decide)]; exact key2 4095
    rw [R0 hR1, RA0 hR1]
    exact key 4095
end MRD
