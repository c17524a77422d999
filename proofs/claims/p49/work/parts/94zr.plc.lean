/-! one place of a phase: the group, its tie, its text *(pure)* -/
section PLC
variable {adK : Nat → Nat} {L : Nat} {xs : Nat → Int32} {S S1 : PS} {ow ow1 : Ow} {A : Nat → Nat} {v : Vt} {hs : List Vt} {sv : Option Vt} {rr : Nat → Int32} {tx : List Nat} {fa : Int32} {ln : List Nat} {q : Nat} {r : Nat → Nat} {bc bs : Nat}
theorem l_gtx {g1270 : PS → Nat → Nat → Nat → Int32 → Nat → Int32 → Int32 → Nat → Int32 → Int32 → Int32 → Int32 → Int32 → Int32 → Nat → Int32 → Prop} {g l1 l19 : Nat} {l2 l14 l20 l21 l22 l23 l25 l27 : Int32} {m0 : List Nat} (h9 : v 0 ≤ 9) (hg : g < 2 ^ 9) (hm : m0.length ≤ 50) (h1 : 200 ≤ bc) (h2 : 10000 ≤ bs)
    (next : ∀ S1 ow1 u bc1 bs1, keeps [31, 33] S ow S1 ow1 → txt adK S1 ow1 u (m0 ++ stL g (v 0)) → bc ≤ bc1 + 162 → bs ≤ bs1 + 8280 → f_L_law_J1498 adK L xs g1270 S1 bc1 bs1 l1 l2 q (nI (v 0)) l14 l19 l20 l21 l22 l23 l25 u l27 (nI g)) :
    ∀ a fuel, a ≤ v 0 → v 0 - a < fuel → ∀ (S1 : PS) (ow1 : Ow) (u bc1 bs1 : Nat), keeps [31, 33] S ow S1 ow1 → txt adK S1 ow1 u (m0 ++ stL g a) → bc ≤ bc1 + 18 * a → bs ≤ bs1 + 920 * a → f_L_law_L1429 adK L xs g1270 fuel S1 bc1 bs1 l1 l2 q (nI (v 0)) l14 l19 l20 l21 l22 l23 l25 u l27 (nI g) (nI a) := by
  have e31 : ∀ c, c ∈ ([31] : List Nat) → c ∈ ([31, 33] : List Nat) := by decide
  refine lp_im (L := fun fuel a => ∀ (S1 : PS) (ow1 : Ow) (u bc1 bs1 : Nat), keeps [31, 33] S ow S1 ow1 → txt adK S1 ow1 u (m0 ++ stL g a) → bc ≤ bc1 + 18 * a → bs ≤ bs1 + 920 * a → f_L_law_L1429 adK L xs g1270 fuel S1 bc1 bs1 l1 l2 q (nI (v 0)) l14 l19 l20 l21 l22 l23 l25 u l27 (nI g) (nI a)) (fun fuel a ha ih S1 ow1 u bc1 bs1 k1 t1 b1 b2 => ?_) (fun fuel S1 ow1 u bc1 bs1 k1 t1 b1 b2 => ?_)
  · have hl := stL_len g a
    have hb := b_in (s := g) (k := a) (by omega) (by omega)
    rw [f_L_law_L1429, if_neg (nI_ge ha (show v 0 < 2 ^ 31 by omega))]
    refine l_dig (ow := ow1) (K := fun S9 b9 s9 t0 t1 => f_L_law_J1484 adK L xs (f_L_law_L1429 adK L xs g1270 fuel) S9 b9 s9 l1 l2 q (nI (v 0)) l14 l19 l20 l21 l22 l23 l25 l27 (nI g) (nI a) t0 t1) (by omega) t1 (by rw [List.length_append]; omega) (by omega) (by omega) (fun S2 ow2 u2 t0 cap bc2 bs2 k2 s2 t2 b3 b4 => ?_)
    try dsimp only
    unfold f_L_law_J1484
    refine l_app (K := fun S4 b4 s4 v6 => f_L_law_L1429 adK L xs g1270 fuel S4 b4 s4 l1 l2 q (nI (v 0)) l14 l19 l20 l21 l22 l23 l25 v6 l27 (nI g) (nI a + 1)) s2 (by decide) t2 (by have := @if_len (((nI g >>> (nI a &&& 31)) &&& 1) = 1) _ a; rw [List.length_append]; omega) (by omega) (by omega) (fun S3 ow3 u3 bc3 bs3 k3 t3 b5 b6 => ?_)
    try dsimp only
    rw [nI_1]
    refine ih S3 ow3 u3 bc3 bs3 ((k1.trans k2).trans (k3.mono e31)) ?_ (by omega) (by omega)
    have e : stL g (a + 1) = stL g a ++ (if ((nI g >>> (nI a &&& 31)) &&& 1) = 1 then [48 + a] else []) := by
      show stL g a ++ (if g.testBit a = true then [48 + a] else []) = _
      simp only [hb]
    rw [e, ← List.append_assoc]
    exact t3
  · rw [f_L_law_L1429, if_pos (nI_le (Nat.le_refl (v 0)) (show v 0 < 2 ^ 31 by omega))]
    exact next S1 ow1 u bc1 bs1 k1 t1 (by omega) (by omega)
theorem inP_t (h9 : v 0 ≤ 9) {p : Nat} (hp : p < v 0 - 1) : inP v (nI p) = true := by
  unfold inP
  rw [Bool.and_eq_true, decide_eq_true_eq, decide_eq_true_eq]
  exact ⟨nI_pos (by omega), nI_ge hp (by omega)⟩
theorem inQ_t (h9 : v 0 ≤ 9) {p k : Nat} (hk : k < v 0 - p) : inQ v p (nI k) = true := by
  unfold inQ
  rw [Bool.and_eq_true, decide_eq_true_eq, decide_eq_true_eq]
  exact ⟨nI_pos (by omega), nI_ge hk (by omega)⟩
theorem inQ_n (h9 : v 0 ≤ 9) {p : Nat} : inQ v p (nI (v 0 - p)) = false := by
  unfold inQ
  rw [decide_eq_false (p := ¬ nI (v 0 - p) ≤ nI (v 0 - p)) (fun z => z (nI_le (Nat.le_refl _) (by omega))), Bool.and_false]
theorem l_joined0 {x y z : Int32} {post : Int32 → PS → Prop} (h : CI S ow A v hs sv rr tx fa ln) (hv : okV v) (h1 : 1 ≤ bc) (h2 : 6 ≤ bs) (o : oJoi v x y = (0, z)) (next : ∀ S1, CI S1 ow A v hs sv rr tx fa ln → keeps CC S ow S1 ow → post z S1) : f_L_joined S (A 12) x y bc bs post := by
  unfold f_L_joined
  rw [G_O h]
  refine ⟨1, 6, h1, h2, x_joined h hv (Nat.le_refl _) (Nat.le_refl _) (fun S1 c1 k1 => ?_)⟩
  rw [o]
  exact next S1 c1 k1
theorem l_joined2 {x y : Int32} {post : Int32 → PS → Prop} (h : CI S ow A v hs sv rr tx fa ln) (hv : okV v) (h1 : 1 ≤ bc) (h2 : 6 ≤ bs) (o : oJoi v x y = (2, 0)) (next : ∀ S1, CI S1 ow A v hs sv rr tx fa ln → keeps CC S ow S1 ow → post (-30000) S1) : f_L_joined S (A 12) x y bc bs post := by
  unfold f_L_joined
  rw [G_O h]
  refine ⟨1, 6, h1, h2, x_joined h hv (Nat.le_refl _) (Nat.le_refl _) (fun S1 c1 k1 => ?_)⟩
  rw [o]
  exact ⟨rfl, next S1 c1 k1⟩
/-- the last group that joined, the one ahead of it, its tie *(of the first k)* -/
def lsI (v : Vt) (p : Nat) : Nat → Int32
  | 0 => 0
  | k + 1 => nI (gr v p k)
def ahI (v : Vt) (p : Nat) : Nat → Int32
  | 0 => 0
  | k + 1 => lsI v p k
def cuI (v : Vt) (p : Nat) : Nat → Int32
  | 0 => 0
  | k + 1 => nI (pl v p k)
theorem CD_34 : 34 ∉ CD := by decide
theorem CC3133 : ∀ c, c ∈ CC → c ∉ ([31, 33] : List Nat) := by decide
theorem e3 : ∀ c, c ∈ ([31] : List Nat) → c ∈ ([31, 33] : List Nat) := by decide
theorem CD_3133 : ∀ c, c ∈ ([31, 33] : List Nat) → c ∈ CD := by decide
theorem stL_pc (s : Nat) : ∀ n, (stL s n).length = pc s n
  | 0 => rfl
  | n + 1 => by
    have ih := stL_pc s n
    show (stL s n ++ (if s.testBit n = true then [48 + n] else [])).length = pc s n + (if s.testBit n = true then 1 else 0)
    rw [List.length_append, ih]
    split <;> rfl
theorem pc_or {a b n : Nat} (h : a &&& b = 0) : pc (a ||| b) n = pc a n + pc b n := by
  unfold pc
  rw [← sm_add]
  refine sm_ext (fun k _ => ?_)
  have h1 : (a &&& b).testBit k = false := by rw [h, Nat.zero_testBit]
  rw [Nat.testBit_and] at h1
  rw [Nat.testBit_or]
  cases ha : a.testBit k <;> cases hb : b.testBit k <;> simp_all
theorem pc_b9 (s : Nat) : ∀ n, pc s n ≤ n
  | 0 => Nat.le_refl _
  | n + 1 => by
    have ih := pc_b9 s n
    show pc s n + (if s.testBit n = true then 1 else 0) ≤ n + 1
    split <;> omega
theorem phG_p (hv : okV v) {p : Nat} (hp : p < v 0) : ∀ k, k ≤ v 0 - p → (phG v p k).length ≤ pc (Jn v (phs v p) (v 0 - p) k) 9 + k
  | 0, _ => Nat.zero_le _
  | k + 1, hk => by
    have ih := phG_p hv hp k (by omega)
    have h3 := (sq_spec (phs_prt hv hp) (p := k) (by omega)).2.2.1
    have e1 : pc (Jn v (phs v p) (v 0 - p) (k + 1)) 9 = pc (Jn v (phs v p) (v 0 - p) k) 9 + pc (gr v p k) 9 := pc_or (by rw [Nat.and_comm]; exact h3)
    have e2 := stL_pc (gr v p k) 9
    rw [e1]
    unfold phG
    rw [List.length_append, List.length_append]
    split
    · rw [List.length_nil]; omega
    · rw [List.length_singleton]; omega
theorem phG_s (hv : okV v) {p : Nat} (hp : p < v 0) (k : Nat) (hk : k ≤ v 0 - p) : (phG v p k).length ≤ 9 + k := by
  have h1 := phG_p hv hp k hk
  have h2 := pc_b9 (Jn v (phs v p) (v 0 - p) k) 9
  omega
/-- from the pick on -/
theorem l_plc {g1270 : PS → Nat → Nat → Nat → Int32 → Nat → Int32 → Int32 → Nat → Int32 → Int32 → Int32 → Int32 → Int32 → Int32 → Nat → Int32 → Prop} {p k l19 l26 : Nat} {l2 l14 l20 : Int32} (h : CI S ow A v hs sv rr tx fa ln) (hv : okV v) (hM : isM S q r v) (hp : p < v 0 - 1) (hk : k < v 0 - p) (ht : txt adK S ow l26 (phG v p k)) (h1 : 220 ≤ bc) (h2 : 11000 ≤ bs)
    (next : ∀ S1 ow1 u bc1 bs1, CI S1 ow1 A v hs sv rr tx fa ln → keeps CD S ow S1 ow1 → txt adK S1 ow1 u (phG v p (k + 1)) → bc ≤ bc1 + 170 → bs ≤ bs1 + 8672 → g1270 S1 bc1 bs1 (A 12) l2 q (nI (v 0)) l14 l19 l20 (nI p) (nI (Jn v (phs v p) (v 0 - p) (k + 1))) (lsI v p (k + 1)) (ahI v p (k + 1)) (cuI v p (k + 1)) u (nI (k + 1))) :
    f_L_law_J1353 adK L xs g1270 S bc bs (A 12) l2 q (nI (v 0)) l14 l19 l20 (nI p) (nI (Jn v (phs v p) (v 0 - p) k)) (lsI v p k) l26 (nI k) (nI (gr v p k)) := by
  have h9 := hv.1
  have e31 : ∀ c, c ∈ ([31] : List Nat) → c ∈ CD := CD_31
  obtain ⟨g0, g1⟩ := gr_lt hv (p := p) (q := k) (by omega) hk
  have g2 := gr_in hv (p := p) (q := k) (by omega) hk
  have hJ : Jn v (phs v p) (v 0 - p) k < 2 ^ 9 := by
    have hpr := phs_prt hv (p := p) (by omega)
    have : ∀ j, j ≤ k → Jn v (phs v p) (v 0 - p) j < 2 ^ 9 := fun j => by
      induction j with
      | zero => intro _; show 0 < 2 ^ 9; omega
      | succ j ih =>
        intro hj
        have h3 := (sq_spec hpr (p := j) (by omega)).2.1
        exact Nat.or_lt_two_pow (ih (by omega)) (prt_lt hpr h9 h3)
    exact this k (Nat.le_refl _)
  have hgl := phG_s hv (p := p) (by omega) k (by omega)
  have hl := stL_len (gr v p k) (v 0)
  unfold f_L_law_J1353
  rw [l_tie hM h9 (by omega) (by omega), show tT v (gr v p k) (Jn v (phs v p) (v 0 - p) k) = pl v p k from rfl]
  refine ⟨1, 6, by omega, by omega, l_joined0 (z := nI (low (gr v p k))) h hv (Nat.le_refl _) (Nat.le_refl _) (by unfold oJoi; rw [if_pos (inP_t h9 hp), ix_nI (show p < 2 ^ 31 by omega), if_pos (inQ_t h9 hk), ix_nI (show k < 2 ^ 31 by omega)]) (fun S1 c1 k1 => ?_)⟩
  rw [nt_low g0 g1, if_pos rfl, G_O c1]
  refine ⟨1, 6, by omega, by omega, x_tieAt c1 hv (Nat.le_refl _) (Nat.le_refl _) (fun S2 c2 k2 => ?_)⟩
  have o : oTat v (nI p) (nI k) = (0, nI (pl v p k)) := by unfold oTat; rw [if_pos (inP_t h9 hp), ix_nI (show p < 2 ^ 31 by omega), if_pos (inQ_t h9 hk), ix_nI (show k < 2 ^ 31 by omega)]
  rw [o]
  simp only [rs, if_true]
  have k12 := k1.trans k2
  refine l_nb (c := 31) (ow := ow) (m := phG v p k) (K := fun S20 b20 s20 v22 => if nI k ≤ 0 then f_L_law_J1418 adK L xs g1270 S20 b20 s20 (A 12) l2 q (nI (v 0)) l14 l19 l20 (nI p) (nI (Jn v (phs v p) (v 0 - p) k)) (lsI v p k) (nI (pl v p k)) (nI k) (nI (gr v p k)) (adK 0) v22 else f_L_law_J1418 adK L xs g1270 S20 b20 s20 (A 12) l2 q (nI (v 0)) l14 l19 l20 (nI p) (nI (Jn v (phs v p) (v 0 - p) k)) (lsI v p k) (nI (pl v p k)) (nI k) (nI (gr v p k)) (adK 4) v22) (by decide) (txt_fr ht k12 CC_32) (by omega) (by omega) (by omega) (fun S3 ow3 u3 cap bc3 bs3 k3 s3 b1 b2 => ?_)
  try dsimp only
  have go : ∀ j : Nat, j < 5 → tN j = (if k = 0 then [] else [60]) → f_L_law_J1418 adK L xs g1270 S3 bc3 bs3 (A 12) l2 q (nI (v 0)) l14 l19 l20 (nI p) (nI (Jn v (phs v p) (v 0 - p) k)) (lsI v p k) (nI (pl v p k)) (nI k) (nI (gr v p k)) (adK j) u3 := fun j hj ej => by
    have hj1 := (tN_L j hj).2
    unfold f_L_law_J1418
    refine l_app (K := fun S4 b4 s4 v6 => f_L_law_L1429 adK L xs g1270 4096 S4 b4 s4 (A 12) l2 q (nI (v 0)) l14 l19 l20 (nI p) (nI (Jn v (phs v p) (v 0 - p) k)) (lsI v p k) (nI (pl v p k)) v6 (nI k) (nI (gr v p k)) 0) s3 (by decide) (Or.inr ⟨j, hj, rfl, rfl⟩) (by omega) (by omega) (by omega) (fun S4 ow4 u4 bc4 bs4 k4 t4 b3 b4 => ?_)
    try dsimp only
    refine l_gtx (bc := bc4) (bs := bs4) (m0 := phG v p k ++ tN j) h9 g1 (by rw [List.length_append]; omega) (by omega) (by omega) (fun S5 ow5 u5 bc5 bs5 k5 t5 b5 b6 => ?_) 0 4096 (Nat.zero_le _) (by omega) S4 ow4 u4 bc4 bs4 keeps.refl (by rw [show stL (gr v p k) 0 = [] from rfl, List.append_nil]; exact t4) (by omega) (by omega)
    unfold f_L_law_J1498
    rw [b_or, nI_1]
    have k35 := ((k3.mono CD_31).trans (k4.mono CD_31)).trans (k5.mono CD_3133)
    have c5 : CI S5 ow5 A v hs sv rr tx fa ln := CI_fr c2 (((k3.mono e3).trans (k4.mono e3)).trans k5) CC3133
    refine next S5 ow5 u5 bc5 bs5 c5 ((k12.mono CD_C).trans k35) ?_ (by omega) (by omega)
    have e : phG v p (k + 1) = phG v p k ++ tN j ++ stL (gr v p k) (v 0) := by
      obtain ⟨d, hd⟩ : ∃ d, 9 = v 0 + d := ⟨9 - v 0, by omega⟩
      have e0 : stL (gr v p k) 9 = stL (gr v p k) (v 0) := by
        rw [hd]; exact stL_cut g2 d
      show phG v p k ++ ((if k = 0 then [] else [60]) ++ stL (gr v p k) 9) = _
      rw [e0, ej, List.append_assoc]
    rw [e]
    exact t5
  by_cases e : k = 0
  · rw [if_pos (show nI k ≤ 0 by rw [e]; decide)]
    exact go 0 (by omega) (by rw [if_pos e]; rfl)
  · rw [if_neg (nI_nle (by omega) (by omega))]
    exact go 4 (by omega) (by rw [if_neg e]; rfl)
end PLC
