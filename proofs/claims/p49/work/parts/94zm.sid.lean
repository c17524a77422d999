/-! the text of the sides, as the law puts it together *(pure)* -/
section SDS
variable {adK : Nat → Nat} {L : Nat} {xs : Nat → Int32} {S : PS} {ow : Ow} {v : Vt} {q bc bs : Nat}
theorem b_bv {s a : Nat} (hs : s < 2 ^ 31) (ha : a < 31) : ((nI s >>> (nI a &&& 31)) &&& 1) = nI (if s.testBit a = true then 1 else 0) := by
  have d1 : s / 2 ^ a ≤ s := Nat.div_le_self _ _
  rw [b_shr hs ha, pk_andN (n := s / 2 ^ a) (by omega) 1 (by decide), Nat.testBit_eq_decide_div_mod_eq]
  congr 1
  by_cases h : s / 2 ^ a % 2 = 1
  · rw [if_pos (decide_eq_true h)]; omega
  · rw [if_neg (fun z => h (of_decide_eq_true z))]; omega
def sdk (v : Vt) (k : Nat) : Nat := if k = 0 then bn (ev v) (sds v) else sds v
theorem sdk_b (hv : okV v) {k a : Nat} (hk : k < 2) (ha : a < v 0) : (((nI (sds v) >>> (nI a &&& 31)) &&& 1) = nI k) = ((sdk v k).testBit a = true) := by
  have h9 := hv.1
  have hs1 := sds_lt hv
  rw [b_bv (by omega) (by omega)]
  unfold sdk
  rcases (show k = 0 ∨ k = 1 by omega) with rfl | rfl
  · rw [if_pos rfl, bn_tb, ev_tb, decide_eq_true ha]
    cases (sds v).testBit a with
    | true => decide
    | false => decide
  · rw [if_neg (show ¬ (1 : Nat) = 0 by decide)]
    cases (sds v).testBit a with
    | true => decide
    | false => decide
theorem if_len {p : Prop} [Decidable p] {w : Nat} : (if p then [48 + w] else []).length ≤ 1 := by split <;> simp
theorem l_sdl {g780 : PS → Nat → Nat → Nat → Int32 → Nat → Int32 → Int32 → Int32 → Int32 → Int32 → Int32 → Int32 → Int32 → Int32 → Int32 → Int32 → Int32 → Int32 → Nat → Nat → Int32 → Prop} {k l1 l17 : Nat} {l2 l5 l7 l8 l9 l10 l11 l12 l13 l14 l15 l16 : Int32} {m0 : List Nat} {s : Nat} (hv : okV v) (hk : k < 2) (hs : s = sdk v k) (hm : m0.length ≤ 20) (h1 : 200 ≤ bc) (h2 : 10000 ≤ bs)
    (next : ∀ S1 ow1 u bc1 bs1, keeps [31, 33] S ow S1 ow1 → txt adK S1 ow1 u (m0 ++ stL s (v 0)) → bc ≤ bc1 + 162 → bs ≤ bs1 + 8280 → f_L_law_J859 adK L xs g780 S1 bc1 bs1 l1 l2 q (nI (v 0)) l5 (nI (sds v)) l7 l8 l9 l10 l11 l12 l13 l14 l15 l16 l17 u (nI k)) :
    ∀ a fuel, a ≤ v 0 → v 0 - a < fuel → ∀ (S1 : PS) (ow1 : Ow) (u bc1 bs1 : Nat), keeps [31, 33] S ow S1 ow1 → txt adK S1 ow1 u (m0 ++ stL s a) → bc ≤ bc1 + 18 * a → bs ≤ bs1 + 920 * a → f_L_law_L789 adK L xs g780 fuel S1 bc1 bs1 l1 l2 q (nI (v 0)) l5 (nI (sds v)) l7 l8 l9 l10 l11 l12 l13 l14 l15 l16 l17 u (nI k) (nI a) := by
  have h9 := hv.1
  have e31 : ∀ c, c ∈ ([31] : List Nat) → c ∈ ([31, 33] : List Nat) := by decide
  refine lp_im (L := fun fuel a => ∀ (S1 : PS) (ow1 : Ow) (u bc1 bs1 : Nat), keeps [31, 33] S ow S1 ow1 → txt adK S1 ow1 u (m0 ++ stL s a) → bc ≤ bc1 + 18 * a → bs ≤ bs1 + 920 * a → f_L_law_L789 adK L xs g780 fuel S1 bc1 bs1 l1 l2 q (nI (v 0)) l5 (nI (sds v)) l7 l8 l9 l10 l11 l12 l13 l14 l15 l16 l17 u (nI k) (nI a)) (fun fuel a ha ih S1 ow1 u bc1 bs1 k1 t1 b1 b2 => ?_) (fun fuel S1 ow1 u bc1 bs1 k1 t1 b1 b2 => ?_)
  · have hl := stL_len s a
    have hb := sdk_b hv hk ha
    rw [← hs] at hb
    rw [f_L_law_L789, if_neg (nI_ge ha (show v 0 < 2 ^ 31 by omega))]
    refine l_dig (ow := ow1) (K := fun S9 b9 s9 t0 t1 => f_L_law_J845 adK L xs (f_L_law_L789 adK L xs g780 fuel) S9 b9 s9 l1 l2 q (nI (v 0)) l5 (nI (sds v)) l7 l8 l9 l10 l11 l12 l13 l14 l15 l16 l17 (nI k) (nI a) t0 t1) (by omega) t1 (by rw [List.length_append]; omega) (by omega) (by omega) (fun S2 ow2 u2 t0 cap bc2 bs2 k2 s2 t2 b3 b4 => ?_)
    try dsimp only
    unfold f_L_law_J845
    refine l_app (K := fun S4 b4 s4 v6 => f_L_law_L789 adK L xs g780 fuel S4 b4 s4 l1 l2 q (nI (v 0)) l5 (nI (sds v)) l7 l8 l9 l10 l11 l12 l13 l14 l15 l16 l17 v6 (nI k) (nI a + 1)) s2 (by decide) t2 (by have := @if_len (((nI (sds v) >>> (nI a &&& 31)) &&& 1) = nI k) _ a; rw [List.length_append]; omega) (by omega) (by omega) (fun S3 ow3 u3 bc3 bs3 k3 t3 b5 b6 => ?_)
    try dsimp only
    rw [nI_1]
    refine ih S3 ow3 u3 bc3 bs3 ((k1.trans k2).trans (k3.mono e31)) ?_ (by omega) (by omega)
    have e : stL s (a + 1) = stL s a ++ (if ((nI (sds v) >>> (nI a &&& 31)) &&& 1) = nI k then [48 + a] else []) := by
      show stL s a ++ (if s.testBit a = true then [48 + a] else []) = _
      simp only [hb]
    rw [e, ← List.append_assoc]
    exact t3
  · rw [f_L_law_L789, if_pos (nI_le (Nat.le_refl (v 0)) (show v 0 < 2 ^ 31 by omega))]
    exact next S1 ow1 u bc1 bs1 k1 t1 (by omega) (by omega)
theorem l_round {g780 : PS → Nat → Nat → Nat → Int32 → Nat → Int32 → Int32 → Int32 → Int32 → Int32 → Int32 → Int32 → Int32 → Int32 → Int32 → Int32 → Int32 → Int32 → Nat → Nat → Int32 → Prop} {k l1 l17 u0 : Nat} {l2 l5 l7 l8 l9 l10 l11 l12 l13 l14 l15 l16 : Int32} {m0 : List Nat} (hv : okV v) (hk : k < 2) (ht : txt adK S ow u0 m0) (hm : m0.length ≤ 20) (h1 : 200 ≤ bc) (h2 : 10000 ≤ bs)
    (next : ∀ S1 ow1 u bc1 bs1, keeps [31, 33] S ow S1 ow1 → txt adK S1 ow1 u (m0 ++ stL (sdk v k) (v 0) ++ tN (if k = 0 then 3 else 0)) → bc ≤ bc1 + 168 → bs ≤ bs1 + 8660 → g780 S1 bc1 bs1 l1 l2 q (nI (v 0)) l5 (nI (sds v)) l7 l8 l9 l10 l11 l12 l13 l14 l15 l16 l17 u (nI (k + 1))) :
    f_L_law_L789 adK L xs g780 4096 S bc bs l1 l2 q (nI (v 0)) l5 (nI (sds v)) l7 l8 l9 l10 l11 l12 l13 l14 l15 l16 l17 u0 (nI k) 0 := by
  have h9 := hv.1
  have e31 : ∀ c, c ∈ ([31] : List Nat) → c ∈ ([31, 33] : List Nat) := by decide
  have hl := stL_len (sdk v k) (v 0)
  refine l_sdl hv hk rfl hm h1 h2 (fun S1 ow1 u bc1 bs1 k1 t1 b1 b2 => ?_) 0 4096 (Nat.zero_le _) (by omega) S ow u0 bc bs keeps.refl (by rw [show stL (sdk v k) 0 = [] from rfl, List.append_nil]; exact ht) (by omega) (by omega)
  unfold f_L_law_J859
  refine l_nb (c := 31) (ow := ow1) (K := fun S8 b8 s8 v10 => if nI k = 0 then f_L_law_J883 adK L xs g780 S8 b8 s8 l1 l2 q (nI (v 0)) l5 (nI (sds v)) l7 l8 l9 l10 l11 l12 l13 l14 l15 l16 l17 (nI k) (adK 3) v10 else f_L_law_J883 adK L xs g780 S8 b8 s8 l1 l2 q (nI (v 0)) l5 (nI (sds v)) l7 l8 l9 l10 l11 l12 l13 l14 l15 l16 l17 (nI k) (adK 0) v10) (by decide) t1 (by rw [List.length_append]; omega) (by omega) (by omega) (fun S2 ow2 u2 cap bc2 bs2 k2 s2 b3 b4 => ?_)
  try dsimp only
  have go : ∀ j : Nat, j < 5 → j = (if k = 0 then 3 else 0) → f_L_law_J883 adK L xs g780 S2 bc2 bs2 l1 l2 q (nI (v 0)) l5 (nI (sds v)) l7 l8 l9 l10 l11 l12 l13 l14 l15 l16 l17 (nI k) (adK j) u2 := fun j hj ej => by
    have hj1 := (tN_L j hj).2
    unfold f_L_law_J883
    refine l_app (K := fun S4 b4 s4 v6 => g780 S4 b4 s4 l1 l2 q (nI (v 0)) l5 (nI (sds v)) l7 l8 l9 l10 l11 l12 l13 l14 l15 l16 l17 v6 (nI k + 1)) s2 (by decide) (Or.inr ⟨j, hj, rfl, rfl⟩) (by rw [List.length_append]; omega) (by omega) (by omega) (fun S3 ow3 u3 bc3 bs3 k3 t3 b5 b6 => ?_)
    try dsimp only
    rw [nI_1]
    exact next S3 ow3 u3 bc3 bs3 ((k1.trans (k2.mono e31)).trans (k3.mono e31)) (by rw [← ej]; exact t3) (by omega) (by omega)
  by_cases e : k = 0
  · rw [if_pos (by rw [e]; rfl)]
    exact go 3 (by omega) (by rw [if_pos e])
  · rw [if_neg (nI_ne0 (by omega) (by omega))]
    exact go 0 (by omega) (by rw [if_neg e])
theorem l_sides {g15 : PS → Nat → Nat → Nat → Int32 → Prop} {l1 l17 : Nat} {l2 l5 l7 l8 l9 l10 l11 l12 l13 l14 l15 l16 : Int32} (hv : okV v) (h1 : 400 ≤ bc) (h2 : 20000 ≤ bs)
    (next : ∀ S1 ow1 u bc1 bs1, keeps [31, 33] S ow S1 ow1 → txt adK S1 ow1 u (sdL v) → bc ≤ bc1 + 336 → bs ≤ bs1 + 17320 → f_L_law_J897 adK L xs g15 S1 bc1 bs1 l1 l2 q (nI (v 0)) l5 (nI (sds v)) l7 l8 l9 l10 l11 l12 l13 l14 l15 l16 l17 u) :
    f_L_law_J777 adK L xs g15 S bc bs l1 l2 q (nI (v 0)) l5 (nI (sds v)) l7 l8 l9 l10 l11 l12 l13 l14 l15 l16 l17 (adK 0) := by
  have h9 := hv.1
  unfold f_L_law_J777
  rw [show (4096 : Nat) = 4095 + 1 from rfl, f_L_law_L780, if_neg (show ¬ (2 : Int32) ≤ 0 by decide)]
  refine l_round (k := 0) (m0 := []) (ow := ow) hv (by omega) (Or.inr ⟨0, by omega, rfl, rfl⟩) (Nat.zero_le _) (by omega) (by omega) (fun S1 ow1 u bc1 bs1 k1 t1 b1 b2 => ?_)
  have hl0 := stL_len (sdk v 0) (v 0)
  rw [show (4095 : Nat) = 4094 + 1 from rfl, f_L_law_L780, if_neg (show ¬ (2 : Int32) ≤ nI (0 + 1) by decide)]
  refine l_round (k := 1) (ow := ow1) hv (by omega) t1 (by rw [List.length_append, List.length_append, List.length_nil]; have e3 : (tN (if 0 = 0 then 3 else 0)).length = 1 := rfl; omega) (by omega) (by omega) (fun S2 ow2 u2 bc2 bs2 k2 t2 b3 b4 => ?_)
  rw [show (4094 : Nat) = 4093 + 1 from rfl, f_L_law_L780, if_pos (show (2 : Int32) ≤ nI (1 + 1) by decide)]
  refine next S2 ow2 u2 bc2 bs2 (k1.trans k2) ?_ (by omega) (by omega)
  have e : sdL v = [] ++ stL (sdk v 0) (v 0) ++ tN (if 0 = 0 then 3 else 0) ++ stL (sdk v 1) (v 0) ++ tN (if 1 = 0 then 3 else 0) := by
    obtain ⟨d, hd⟩ : ∃ d, 9 = v 0 + d := ⟨9 - v 0, by omega⟩
    have hp := Nat.pow_pos (n := v 0) (show 0 < 2 by omega)
    have e0 : stL (bn (ev v) (sds v)) 9 = stL (bn (ev v) (sds v)) (v 0) := by
      rw [hd]; exact stL_cut (bn_lt (by unfold ev; omega)) d
    have e1 : stL (sds v) 9 = stL (sds v) (v 0) := by
      rw [hd]
      refine stL_cut (b_lt_of (fun k hk => ?_)) d
      by_cases h : k < 9
      · rw [sds_tb hv h, hv.2.2.1 k h hk]; rfl
      · exact b_hi (sds_lt hv) (by omega)
    unfold sdL
    rw [e0, e1]
    show _ = [] ++ stL (bn (ev v) (sds v)) (v 0) ++ [124] ++ stL (sds v) (v 0) ++ []
    rw [List.nil_append, List.append_nil]
  rw [e]
  exact t2
end SDS
