/-! all phases; the phase that meets the least feud *(pure)* -/
section MET
variable {adK : Nat → Nat} {L : Nat} {xs : Nat → Int32} {S S1 : PS} {ow ow1 : Ow} {A : Nat → Nat} {v : Vt} {hs : List Vt} {sv : Option Vt} {rr : Nat → Int32} {tx : List Nat} {fa : Int32} {ln : List Nat} {q : Nat} {r : Nat → Nat} {bc bs : Nat}
theorem mx1 : ∀ n, n < 10 → nI (n - 1) = (if 0 < (nI n - 1) then (nI n - 1) else 0) := by decide
theorem phx1 : ∀ n, n < 10 → ∀ p, p < n - 1 → ¬ (nI n - 1 ≤ nI p) := by decide
theorem phx2 : ∀ n, n < 10 → nI n - 1 ≤ nI (n - 1) := by decide
theorem nE_met : nE (oMet v) = mtI v (v 0 - 1) := by
  have hle := lph_le (v := v) (v 0 - 2)
  unfold oMet mtI nE
  by_cases h : v 0 < 2
  · rw [if_pos h, if_neg (show ¬ lph v (v 0 - 2) < v 0 - 1 by omega)]; rfl
  · rw [if_neg h, if_pos (show lph v (v 0 - 2) < v 0 - 1 by omega)]; rfl
theorem l_phases {g15 : PS → Nat → Nat → Nat → Int32 → Prop} {u : Nat} {l2 : Int32} (h : CI S ow A v hs sv rr tx fa ln) (hv : okV v) (hw : wM S ow q (v 0) r (fun i j => nI (wt v i j))) (hg : gA S ow u (v 0) (fun i => 2 ^ i)) (h1 : 20000 ≤ bc) (h2 : 672006 ≤ bs)
    (next : ∀ S1 ow1 ln1 bc1 bs1, CI S1 ow1 A v hs sv rr tx fa ln1 → bc ≤ bc1 + 19801 → bs ≤ bs1 + 672006 → f_L_law_L1723 adK L xs g15 4096 S1 bc1 bs1 (A 12) l2 (nI (v 0)) 0) :
    f_L_law_J1217 adK L xs g15 S bc bs (A 12) l2 q (nI (v 0)) (lst v) u := by
  have h9 := hv.1
  unfold f_L_law_J1217
  rw [G_O h]
  refine x_phases h hv ?_
  rw [if_pos (mx1 (v 0) (by omega))]
  have W : ∀ p fuel, p ≤ v 0 - 1 → v 0 - 1 - p < fuel → ∀ (S1 : PS) (ow1 : Ow) (ln1 : List Nat) (G : Nat → Nat) (bc1 bs1 : Nat), CI S1 ow1 A v hs sv rr tx fa ln1 → keeps CE S ow S1 ow1 → gA S1 ow1 u (v 0) G → isG (v 0) (phs v p) (v 0 - p) G → bc ≤ bc1 + 2200 * p → bs ≤ bs1 + 84000 * p → f_L_law_L1242 adK L xs g15 fuel S1 bc1 bs1 (A 12) l2 q (nI (v 0)) (lst v) u (mtI v p) (nI p) := by
    refine lp_im (L := fun fuel p => ∀ (S1 : PS) (ow1 : Ow) (ln1 : List Nat) (G : Nat → Nat) (bc1 bs1 : Nat), CI S1 ow1 A v hs sv rr tx fa ln1 → keeps CE S ow S1 ow1 → gA S1 ow1 u (v 0) G → isG (v 0) (phs v p) (v 0 - p) G → bc ≤ bc1 + 2200 * p → bs ≤ bs1 + 84000 * p → f_L_law_L1242 adK L xs g15 fuel S1 bc1 bs1 (A 12) l2 q (nI (v 0)) (lst v) u (mtI v p) (nI p)) (fun fuel p hp ih S1 ow1 ln1 G bc1 bs1 c1 k1 g1 hG b1 b2 => ?_) (fun fuel S1 ow1 ln1 G bc1 bs1 c1 k1 g1 hG b1 b2 => ?_)
    · have hpr := phs_prt hv (p := p) (by omega)
      rw [f_L_law_L1242, if_neg (phx1 (v 0) (by omega) p hp)]
      refine l_places c1 hv (wM_fr hw k1 CE_30) hp g1 hG (by omega) (by omega) (fun S2 ow2 u2 bc2 bs2 c2 k2 t2 b3 b4 => ?_)
      refine l_phend c2 hv (by rw [lst_e hv, if_neg (by omega)]) hp (gA_fr g1 k2 CD_34) t2 (by omega) (by omega) (fun S3 ow3 ln3 bc3 bs3 c3 k3 g3 b5 b6 => ?_)
      refine ih S3 ow3 ln3 _ bc3 bs3 c3 ((k1.trans (k2.mono CE_D)).trans k3) g3 ?_ (by omega) (by omega)
      have z := isG_nxt hG hpr h9 (by omega)
      rw [show v 0 - (p + 1) = v 0 - p - 1 by omega]
      exact z
    · rw [f_L_law_L1242, if_pos (phx2 (v 0) (by omega))]
      unfold f_L_law_J1709
      refine ⟨1, 6, by omega, by omega, l_met c1 hv (Nat.le_refl _) (Nat.le_refl _) (fun S2 c2 k2 => ?_)⟩
      rw [nE_met, if_pos rfl]
      exact next S2 ow1 ln1 _ _ c2 (by omega) (by omega)
  exact W 0 4096 (Nat.zero_le _) (by omega) S ow ln _ bc bs h keeps.refl hg (isG_0 h9) (by omega) (by omega)
end MET
/-! households in four orders *(pure)* -/
section RNK
variable {adK : Nat → Nat} {L : Nat} {xs : Nat → Int32} {S S1 : PS} {ow ow1 : Ow} {A : Nat → Nat} {v : Vt} {hs : List Vt} {sv : Option Vt} {rr : Nat → Int32} {tx : List Nat} {fa : Int32} {ln : List Nat} {q : Nat} {r : Nat → Nat} {bc bs : Nat}
theorem l_more {g1748 : PS → Nat → Nat → Nat → Int32 → Int32 → Int32 → Int32 → Prop} {x y a b l1 : Nat} {l2 l4 l21 l22 : Int32} (hxy : y ≤ x) (hx : x < 2 ^ 31) (hab : x = y → a ≤ b) (hb : b < 2 ^ 31) (next : g1748 S bc bs l1 l2 l4 l21 (l22 + 1)) : f_L_law_J1874 adK L xs g1748 S bc bs l1 l2 l4 l21 l22 (nI a) (nI b) (nI x - nI y) := by
  unfold f_L_law_J1874 f_L_law_J1895
  rw [pk_sub hxy, if_neg (nI_pos (by omega))]
  by_cases e : x = y
  · rw [if_pos (by rw [e, Nat.sub_self]; rfl), if_pos (nI_le (hab e) hb)]
    exact next
  · rw [if_neg (nI_ne0 (by omega) (by omega))]
    exact next
/-- the household at a place of an order -/
def rk (v : Vt) (kd k : Nat) : Nat := rkd (kyO (-100000000) v (nI kd)) (v 0) k (v 0)
theorem rk_lt {kd k : Nat} (hk : k < v 0) : rk v kd k < v 0 := rkd_ok hk
theorem rk_plc {kd k : Nat} (hk : k < v 0) : plc (kyO (-100000000) v (nI kd)) (v 0) (rk v kd k) = k := by
  have h1 := rk_lt (v := v) (kd := kd) hk
  rcases rkd_le (kf := kyO (-100000000) v (nI kd)) (n := v 0) (p := k) (v 0) (Nat.le_refl _) with ⟨a, -⟩ | ⟨-, b⟩
  · unfold rk at h1; omega
  · exact b
theorem rk_ahd {kd k : Nat} (hk : k + 1 < v 0) : ahd (kyO (-100000000) v (nI kd)) (rk v kd (k + 1)) (rk v kd k) = true := by
  have a1 := rk_lt (v := v) (kd := kd) (show k < v 0 by omega)
  have b1 := rk_lt (v := v) (kd := kd) hk
  have a2 := rk_plc (v := v) (kd := kd) (show k < v 0 by omega)
  have b2 := rk_plc (v := v) (kd := kd) hk
  refine Classical.byContradiction fun hn => ?_
  have hne : rk v kd k ≠ rk v kd (k + 1) := fun e => by rw [e] at a2; omega
  have h2 : ahd (kyO (-100000000) v (nI kd)) (rk v kd k) (rk v kd (k + 1)) = true := by
    rw [ahd_iff] at hn ⊢
    omega
  have := plc_ahd b1 h2
  omega
theorem oRnk_e (hv : okV v) {kd k : Nat} (hd : kd ≤ 3) (hk : k < v 0) : oRnk v (nI kd) (nI k) = (0, nI (rk v kd k)) := by
  have h9 := hv.1
  unfold oRnk rk
  rw [if_neg (nI_pos (by omega)), if_pos (show nI kd ≤ 3 from nI_le (b := 3) hd (by omega)), if_pos (inb_nI h9 hk), ix_nI (show k < 2 ^ 31 by omega), kyO_eq hv]
theorem oRnk_n (h9 : v 0 ≤ 9) {kd : Nat} (hd : kd ≤ 3) : oRnk v (nI kd) (nI (v 0)) = (2, 0) := by
  unfold oRnk
  rw [if_neg (nI_pos (by omega)), if_pos (show nI kd ≤ 3 from nI_le (b := 3) hd (by omega)), if_neg ?_]
  unfold inb
  rw [decide_eq_false (p := ¬ nI (v 0) ≤ nI (v 0)) (fun z => z (nI_le (Nat.le_refl _) (by omega))), Bool.and_false]
  decide
theorem l_ranked2 {x y : Int32} {post : Int32 → PS → Prop} (h : CI S ow A v hs sv rr tx fa ln) (hv : okV v) (h1 : 1 ≤ bc) (h2 : 6 ≤ bs) (o : oRnk v x y = (2, 0)) (next : ∀ S1, CI S1 ow A v hs sv rr tx fa ln → keeps CC S ow S1 ow → post (-30000) S1) : f_L_ranked S (A 12) x y bc bs post := by
  unfold f_L_ranked
  rw [G_O h]
  refine ⟨1, 6, h1, h2, x_ranked h hv (Nat.le_refl _) (Nat.le_refl _) (fun S1 c1 k1 => ?_)⟩
  rw [o]
  exact ⟨rfl, next S1 c1 k1⟩
/-- keys of the first three orders -/
def ky (v : Vt) (kd k : Nat) : Nat := if kd = 0 then tS v k (ev v) else if kd = 1 then bo v k else tS v k (os v k)
theorem ky_lt (hv : okV v) {kd k : Nat} (hk : k < v 0) : ky v kd k < 2 ^ 31 := by
  have h9 := hv.1
  have h1 := tS_lt hv (x := k) (s := ev v) (by omega)
  have h2 := tS_lt hv (x := k) (s := os v k) (by omega)
  have h3 := bo_le (v := v) (x := k)
  unfold ky
  split
  · omega
  · split <;> omega
theorem ky_e {c : Int32} {kd k : Nat} (hd : kd < 3) : kyO c v (nI kd) k = nI (ky v kd k) := by
  unfold kyO ky
  rcases (show kd = 0 ∨ kd = 1 ∨ kd = 2 by omega) with rfl | rfl | rfl
  · rfl
  · rfl
  · rfl
theorem ky_ord (hv : okV v) {kd k : Nat} (hd : kd < 3) (hk : k + 1 < v 0) : ky v kd (rk v kd (k + 1)) ≤ ky v kd (rk v kd k) ∧ (ky v kd (rk v kd k) = ky v kd (rk v kd (k + 1)) → rk v kd k ≤ rk v kd (k + 1)) := by
  have h1 := rk_ahd (v := v) (kd := kd) hk
  have a1 := ky_lt hv (kd := kd) (rk_lt (v := v) (kd := kd) (show k < v 0 by omega))
  have b1 := ky_lt hv (kd := kd) (rk_lt (v := v) (kd := kd) hk)
  rw [ahd_iff, ky_e hd, ky_e hd, nI_toInt a1, nI_toInt b1] at h1
  omega
/-- how far a household is from the first one -/
def kx (v : Vt) (k : Nat) : Nat := if k = 0 then 100000000 else bt v 0 k
theorem kx_lt (hv : okV v) {k : Nat} (hk : k < v 0) : kx v k < 2 ^ 31 := by
  unfold kx
  by_cases e : k = 0
  · rw [if_pos e]; omega
  · have := btw_lt hv (i := 0) (j := k) (by omega) (Ne.symm e)
    rw [if_neg e]; omega
theorem kx_e (hv : okV v) {k : Nat} (hk : k < v 0) : (kyO (-100000000) v (nI 3) k).toInt = -(kx v k : Int) := by
  have e : kyO (-100000000) v (nI 3) k = if k = 0 then -100000000 else -nI (bt v 0 k) := rfl
  rw [e]
  unfold kx
  by_cases e : k = 0
  · rw [if_pos e, if_pos e]; decide
  · have := btw_lt hv (i := 0) (j := k) (by omega) (Ne.symm e)
    rw [if_neg e, if_neg e]
    exact nN_i (by omega)
theorem kx_ord (hv : okV v) {k : Nat} (hk : k + 1 < v 0) : kx v (rk v 3 k) ≤ kx v (rk v 3 (k + 1)) ∧ (kx v (rk v 3 (k + 1)) = kx v (rk v 3 k) → rk v 3 k ≤ rk v 3 (k + 1)) := by
  have h1 := rk_ahd (v := v) (kd := 3) hk
  rw [ahd_iff, kx_e hv (rk_lt hk), kx_e hv (rk_lt (show k < v 0 by omega))] at h1
  omega
theorem oB0 (hv : okV v) {k : Nat} (hk : k < v 0) (h0 : k ≠ 0) : oBtw v 0 (nI k) = (0, nI (kx v k)) := by
  have h9 := hv.1
  unfold oBtw kx
  rw [if_neg h0, if_pos (show inb v 0 = true from inb_nI (i := 0) h9 (by omega)), if_pos (inb_nI h9 hk), if_neg (show ¬ (0 : Int32) = nI k from fun e => h0 ((nI_eq (a := 0) (b := k) (by omega) (by omega)).mp e).symm), ix_nI (show k < 2 ^ 31 by omega)]
  rfl
end RNK
