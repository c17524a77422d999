/-! the least between two households, as the law counts it *(pure)* -/
section BTW
variable {adK : Nat → Nat} {L : Nat} {xs : Nat → Int32} {S : PS} {ow : Ow} {A : Nat → Nat} {v : Vt} {hs : List Vt} {sv : Option Vt} {rr : Nat → Int32} {tx : List Nat} {fa : Int32} {ln : List Nat} {q : Nat} {r : Nat → Nat} {bc bs : Nat}
def ptd (a b : Nat) (s : Nat) : Bool := s.testBit a != s.testBit b
theorem lse_bt (hv : okV v) {a b : Nat} (ha : a < v 0) (hb : b < v 0) (hab : a ≠ b) : lse v (ptd a b) = bt v a b := by
  obtain ⟨d1, d2⟩ := dcn_2 (v := v) (by omega)
  have hpt : ∀ s, s < 2 ^ v 0 → ptd a b s = true → bt v a b ≤ fo v s := fun s hs hp => by
    unfold ptd at hp
    cases h1 : s.testBit a with
    | true =>
      cases h2 : s.testBit b with
      | true => rw [h1, h2] at hp; exact absurd hp (by decide)
      | false => exact bt_le hs h1 h2
    | false =>
      cases h2 : s.testBit b with
      | false => rw [h1, h2] at hp; exact absurd hp (by decide)
      | true =>
        rw [← fo_cpl hv hs]
        exact bt_le (by omega) (by rw [cpl_tb hs ha, h1]; rfl) (by rw [cpl_tb hs hb, h2]; rfl)
  obtain ⟨s, s1, s2, s3, s4⟩ := bt_at hv ha hab
  have hs0 : 0 < s := Nat.pos_of_ne_zero (fun e => by rw [e, Nat.zero_testBit] at s2; cases s2)
  have hs9 : s ≠ 2 ^ v 0 - 1 := fun e => by rw [e, b_allt, decide_eq_true hb] at s3; cases s3
  have hex : ∃ t, t ≠ 0 ∧ t < dcn v ∧ ptd a b (2 * t) = true ∧ fo v (2 * t) = bt v a b := by
    by_cases he : s % 2 = 0
    · refine ⟨s / 2, by omega, by omega, ?_, ?_⟩
      · rw [show 2 * (s / 2) = s by omega]; unfold ptd; rw [s2, s3]; rfl
      · rw [show 2 * (s / 2) = s by omega]; exact s4.symm
    · refine ⟨(2 ^ v 0 - 1 - s) / 2, by omega, by omega, ?_, ?_⟩
      · rw [show 2 * ((2 ^ v 0 - 1 - s) / 2) = 2 ^ v 0 - 1 - s by omega]; unfold ptd; rw [cpl_tb s1 ha, cpl_tb s1 hb, s2, s3]; rfl
      · rw [show 2 * ((2 ^ v 0 - 1 - s) / 2) = 2 ^ v 0 - 1 - s by omega, fo_cpl hv s1]; exact s4.symm
  obtain ⟨t, t0, t1, tp, t2⟩ := hex
  have hp : (decide (t ≠ 0) && ptd a b (2 * t)) = true := by rw [tp, decide_eq_true t0]; rfl
  obtain ⟨j, j1, j2, j3⟩ := mnp_in (c := 100000000) (p := fun t => decide (t ≠ 0) && ptd a b (2 * t)) (f := fun t => fo v (2 * t)) t1 hp (by have := fo_lt hv (s := 2 * t); omega)
  have a1 := hpt (2 * j) (by omega) (Bool.and_eq_true_iff.mp j2).2
  have a2 : mnp 100000000 (fun t => decide (t ≠ 0) && ptd a b (2 * t)) (fun t => fo v (2 * t)) (dcn v) ≤ fo v (2 * t) := mnp_le t1 hp
  show mnp 100000000 (fun t => decide (t ≠ 0) && ptd a b (2 * t)) (fun t => fo v (2 * t)) (dcn v) = bt v a b
  omega
theorem bt_sym (hv : okV v) {a b : Nat} (ha : a < v 0) (hb : b < v 0) (hab : a ≠ b) : bt v b a = bt v a b := by
  rw [← lse_bt hv ha hb hab, ← lse_bt hv hb ha (fun e => hab e.symm)]
  have e : ptd b a = ptd a b := funext fun s => by unfold ptd; exact bne_comm
  rw [e]
theorem bit_eqI {s a b : Nat} (hs : s < 2 ^ 31) (ha : a < 31) (hb : b < 31) : (((nI s >>> (nI a &&& 31)) &&& 1) = ((nI s >>> (nI b &&& 31)) &&& 1)) = (s.testBit a = s.testBit b) := by
  have d1 : s / 2 ^ a ≤ s := Nat.div_le_self _ _
  have d2 : s / 2 ^ b ≤ s := Nat.div_le_self _ _
  rw [b_shr hs ha, b_shr hs hb, pk_andN (n := s / 2 ^ a) (by omega) 1 (by decide), pk_andN (n := s / 2 ^ b) (by omega) 1 (by decide)]
  rw [Nat.testBit_eq_decide_div_mod_eq, Nat.testBit_eq_decide_div_mod_eq]
  refine propext ((nI_eq (by omega) (by omega)).trans ?_)
  rw [decide_eq_decide]
  omega
theorem l_least2 {post : Int32 → PS → Prop} (hM : isM S q r v) (hv : okV v) {a b : Nat} (ha : a < v 0) (hb : b < v 0) (hab : a ≠ b) : f_L_least_ S q (nI a) (nI b) post = post (nI (bt v a b)) S := by
  have h9 := hv.1
  have hp := Nat.pow_le_pow_right (show 0 < 2 by omega) h9
  rw [l_leastG hM hv (by omega) (P := ptd a b) (fun g c s hs => ?_), lse_bt hv ha hb hab]
  rw [if_neg (show ¬ nI a < 0 from nI_nlt (a := a) (b := 0) (Nat.zero_le _) (by omega))]
  by_cases h : s.testBit a = s.testBit b
  · rw [if_pos (by rw [bit_eqI (show s < 2 ^ 31 by omega) (by omega) (by omega)]; exact h), if_neg (by unfold ptd; rw [h]; simp)]
  · rw [if_neg (by rw [bit_eqI (show s < 2 ^ 31 by omega) (by omega) (by omega)]; exact h), if_pos (by unfold ptd; simp [h])]
theorem lst_le (hv : okV v) {a b : Nat} (ha : a < v 0) (hb : b < v 0) (hab : a ≠ b) : lst v ≤ nI (bt v a b) := by
  obtain ⟨s, s1, s2, s3, s4⟩ := bt_at hv ha hab
  have hs0 : s ≠ 0 := fun e => by rw [e, Nat.zero_testBit] at s2; cases s2
  have hs9 : s ≠ 2 ^ v 0 - 1 := fun e => by rw [e, b_allt, decide_eq_true hb] at s3; cases s3
  have := lcut_le hv hs0 (show s < 2 ^ v 0 - 1 by omega)
  have := fo_lt hv (s := s)
  unfold lst
  rw [if_neg (show ¬ v 0 ≤ 1 by omega), lse_cut hv (by omega)]
  exact nI_le (by omega) (by omega)
theorem CCn30 : 30 ∉ CC := by decide
theorem l_btw {g : PS → Nat → Nat → Nat → Int32 → Nat → Int32 → Int32 → Int32 → Int32 → Int32 → Int32 → Int32 → Int32 → Int32 → Int32 → Int32 → Int32 → Int32 → Nat → Nat → Int32 → Prop} {a l17 l18 : Nat} {l2 l5 l6 l7 l8 l9 l10 l11 l12 l13 l15 l16 : Int32} (h : CI S ow A v hs sv rr tx fa ln) (hv : okV v) (hw : wM S ow q (v 0) r (fun i j => nI (wt v i j))) (ha : a < v 0) (h1 : 18 ≤ bc) (h2 : 108 ≤ bs)
    (next : ∀ S1 bc1 bs1, CI S1 ow A v hs sv rr tx fa ln → keeps CC S ow S1 ow → bc ≤ bc1 + 18 → bs ≤ bs1 + 108 → f_L_law_J771 adK L xs g S1 bc1 bs1 (A 12) l2 q (nI (v 0)) l5 l6 l7 l8 l9 l10 l11 l12 l13 (lst v) l15 l16 l17 l18 (nI a)) :
    f_L_law_L713 adK L xs g 4096 S bc bs (A 12) l2 q (nI (v 0)) l5 l6 l7 l8 l9 l10 l11 l12 l13 (lst v) l15 l16 l17 l18 (nI a) 0 := by
  have h9 := hv.1
  have W : ∀ b fuel, b ≤ a → a - b < fuel → ∀ (S1 : PS) (bc1 bs1 : Nat), CI S1 ow A v hs sv rr tx fa ln → keeps CC S ow S1 ow → bc ≤ bc1 + 2 * b → bs ≤ bs1 + 12 * b → f_L_law_L713 adK L xs g fuel S1 bc1 bs1 (A 12) l2 q (nI (v 0)) l5 l6 l7 l8 l9 l10 l11 l12 l13 (lst v) l15 l16 l17 l18 (nI a) (nI b) := by
    refine lp_im (L := fun fuel b => ∀ (S1 : PS) (bc1 bs1 : Nat), CI S1 ow A v hs sv rr tx fa ln → keeps CC S ow S1 ow → bc ≤ bc1 + 2 * b → bs ≤ bs1 + 12 * b → f_L_law_L713 adK L xs g fuel S1 bc1 bs1 (A 12) l2 q (nI (v 0)) l5 l6 l7 l8 l9 l10 l11 l12 l13 (lst v) l15 l16 l17 l18 (nI a) (nI b)) (fun fuel b hb ih S1 bc1 bs1 c1 k1 b1 b2 => ?_) (fun fuel S1 bc1 bs1 c1 k1 b1 b2 => ?_)
    · have hab : a ≠ b := by omega
      have m1 : isM S1 q r v := wM_M (wM_fr hw k1 CCn30) (fun _ _ _ _ => rfl)
      rw [f_L_law_L713, if_neg (nI_ge hb (show a < 2 ^ 31 by omega)), l_least2 m1 hv ha (by omega) hab, G_O c1]
      refine ⟨1, 6, by omega, by omega, x_between c1 hv (Nat.le_refl _) (Nat.le_refl _) (fun S2 c2 k2 => ?_)⟩
      have o1 : oBtw v (nI a) (nI b) = (0, nI (bt v a b)) := by
        unfold oBtw
        rw [if_pos (inb_nI h9 ha), if_pos (inb_nI h9 (show b < v 0 by omega)), if_neg (fun e => hab ((nI_eq (by omega) (by omega)).mp e)), ix_nI (show a < 2 ^ 31 by omega), ix_nI (show b < 2 ^ 31 by omega)]
      have o2 : oBtw v (nI b) (nI a) = (0, nI (bt v a b)) := by
        unfold oBtw
        rw [if_pos (inb_nI h9 (show b < v 0 by omega)), if_pos (inb_nI h9 ha), if_neg (fun e => hab ((nI_eq (by omega) (by omega)).mp e).symm), ix_nI (show a < 2 ^ 31 by omega), ix_nI (show b < 2 ^ 31 by omega), bt_sym hv ha (by omega) hab]
      rw [o1]
      simp only [rs, if_true]
      rw [G_O c2]
      refine ⟨1, 6, by omega, by omega, x_betweenAgain c2 hv (Nat.le_refl _) (Nat.le_refl _) (fun S3 c3 k3 => ?_)⟩
      rw [o2]
      simp only [rs, if_true]
      rw [if_pos (lst_le hv ha (by omega) hab), nI_1]
      exact ih S3 _ _ c3 ((k1.trans k2).trans k3) (by omega) (by omega)
    · rw [f_L_law_L713, if_pos (nI_le (Nat.le_refl a) (show a < 2 ^ 31 by omega))]
      exact next S1 bc1 bs1 c1 k1 (by omega) (by omega)
  exact W 0 4096 (Nat.zero_le _) (by omega) S bc bs h keeps.refl (by omega) (by omega)
end BTW
