/-! the places of a phase, one after the other; its end *(pure)* -/
section PHA
variable {adK : Nat → Nat} {L : Nat} {xs : Nat → Int32} {S S1 : PS} {ow ow1 : Ow} {A : Nat → Nat} {v : Vt} {hs : List Vt} {sv : Option Vt} {rr : Nat → Int32} {tx : List Nat} {fa : Int32} {ln : List Nat} {q : Nat} {r : Nat → Nat} {bc bs : Nat}
theorem isG_b {G : Nat → Nat} {now : Nat → Nat} {m : Nat} (h9 : v 0 ≤ 9) (hG : isG (v 0) now m G) (hp : prt (v 0) now m) : ∀ i, i < v 0 → G i < 2 ^ 9 := fun i hi => by
  rcases hG i hi with ⟨k, hk, -, e⟩ | ⟨e, -⟩
  · rw [e]; exact prt_lt hp h9 hk
  · rw [e]; omega
theorem Jn_b9 {now : Nat → Nat} {m : Nat} (h9 : v 0 ≤ 9) (hp : prt (v 0) now m) : ∀ k, k ≤ m → Jn v now m k < 2 ^ 9
  | 0, _ => by show 0 < 2 ^ 9; omega
  | k + 1, hk => by
    have h3 := (sq_spec hp (p := k) (by omega)).2.1
    exact Nat.or_lt_two_pow (Jn_b9 h9 hp k (by omega)) (prt_lt hp h9 h3)
theorem lsI_e {p m : Nat} (h : 1 ≤ m) : lsI v p m = nI (gr v p (m - 1)) := by
  obtain ⟨j, rfl⟩ : ∃ j, m = j + 1 := ⟨m - 1, by omega⟩
  rfl
theorem ahI_e {p m : Nat} (h : 2 ≤ m) : ahI v p m = nI (gr v p (m - 2)) := by
  obtain ⟨j, rfl⟩ : ∃ j, m = j + 2 := ⟨m - 2, by omega⟩
  rfl
theorem cuI_e {p m : Nat} (h : 1 ≤ m) : cuI v p m = nI (pl v p (m - 1)) := by
  obtain ⟨j, rfl⟩ : ∃ j, m = j + 1 := ⟨m - 1, by omega⟩
  rfl
theorem l_places {g1242 : PS → Nat → Nat → Nat → Int32 → Nat → Int32 → Int32 → Nat → Int32 → Int32 → Prop} {p l19 : Nat} {l2 l14 l20 : Int32} {G : Nat → Nat} (h : CI S ow A v hs sv rr tx fa ln) (hv : okV v) (hw : wM S ow q (v 0) r (fun i j => nI (wt v i j))) (hp : p < v 0 - 1) (hg : gA S ow l19 (v 0) G) (hG : isG (v 0) (phs v p) (v 0 - p) G) (h1 : 1600 ≤ bc) (h2 : 81000 ≤ bs)
    (next : ∀ S1 ow1 u bc1 bs1, CI S1 ow1 A v hs sv rr tx fa ln → keeps CD S ow S1 ow1 → txt adK S1 ow1 u (phG v p (v 0 - p)) → bc ≤ bc1 + 1530 → bs ≤ bs1 + 78048 → f_L_law_J1519 adK L xs g1242 S1 bc1 bs1 (A 12) l2 q (nI (v 0)) l14 l19 l20 (nI p) (nI (gr v p (v 0 - p - 1))) (nI (gr v p (v 0 - p - 2))) (nI (cut v p)) u) :
    f_L_law_L1270 adK L xs g1242 4096 S bc bs (A 12) l2 q (nI (v 0)) l14 l19 l20 (nI p) 0 0 0 0 (adK 0) 0 := by
  have h9 := hv.1
  have hpr := phs_prt hv (p := p) (by omega)
  have hb := isG_b h9 hG hpr
  have W : ∀ k fuel, k ≤ v 0 - p → v 0 - p - k < fuel → ∀ (S1 : PS) (ow1 : Ow) (u bc1 bs1 : Nat), CI S1 ow1 A v hs sv rr tx fa ln → keeps CD S ow S1 ow1 → txt adK S1 ow1 u (phG v p k) → bc ≤ bc1 + 170 * k → bs ≤ bs1 + 8672 * k → f_L_law_L1270 adK L xs g1242 fuel S1 bc1 bs1 (A 12) l2 q (nI (v 0)) l14 l19 l20 (nI p) (nI (Jn v (phs v p) (v 0 - p) (k))) (lsI v p (k)) (ahI v p (k)) (cuI v p (k)) u (nI (k)) := by
    refine lp_im (L := fun fuel k => ∀ (S1 : PS) (ow1 : Ow) (u bc1 bs1 : Nat), CI S1 ow1 A v hs sv rr tx fa ln → keeps CD S ow S1 ow1 → txt adK S1 ow1 u (phG v p k) → bc ≤ bc1 + 170 * k → bs ≤ bs1 + 8672 * k → f_L_law_L1270 adK L xs g1242 fuel S1 bc1 bs1 (A 12) l2 q (nI (v 0)) l14 l19 l20 (nI p) (nI (Jn v (phs v p) (v 0 - p) (k))) (lsI v p (k)) (ahI v p (k)) (cuI v p (k)) u (nI (k))) (fun fuel k hk ih S1 ow1 u bc1 bs1 c1 k1 t1 b1 b2 => ?_) (fun fuel S1 ow1 u bc1 bs1 c1 k1 t1 b1 b2 => ?_)
    · have m1 : isM S1 q r v := wM_M (wM_fr hw k1 CD_30) (fun _ _ _ _ => rfl)
      rw [f_L_law_L1270, pk_sub (show p ≤ v 0 by omega), if_neg (nI_ge hk (by omega)), l_pick m1 hv (gA_fr hg k1 CD_34) hb (Jn_b9 h9 hpr k (by omega)), dn_end hG hpr h9 hk]
      refine l_plc c1 hv m1 hp hk t1 (by omega) (by omega) (fun S2 ow2 u2 bc2 bs2 c2 k2 t2 b3 b4 => ?_)
      exact ih S2 ow2 u2 bc2 bs2 c2 (k1.trans k2) t2 (by omega) (by omega)
    · rw [f_L_law_L1270, pk_sub (show p ≤ v 0 by omega), if_pos (nI_le (Nat.le_refl _) (by omega)), lsI_e (by omega), ahI_e (by omega), cuI_e (by omega)]
      exact next S1 ow1 u bc1 bs1 c1 k1 t1 (by omega) (by omega)
  exact W 0 4096 (Nat.zero_le _) (by omega) S ow (adK 0) bc bs h keeps.refl (Or.inr ⟨0, by omega, rfl, rfl⟩) (by omega) (by omega)
theorem low_lt {s n : Nat} (h0 : s ≠ 0) (hs : s < 2 ^ n) (hn : n ≤ 9) : low s < n := by
  obtain ⟨a1, a2, a3⟩ := low_spec h0 (Nat.lt_of_lt_of_le hs (Nat.pow_le_pow_right (by omega) hn))
  rcases Nat.lt_or_ge (low s) n with h3 | h3
  · exact h3
  · rw [b_hi hs h3] at a2; cases a2
/-- the two that joined last are one -/
theorem l_merge {g1242 : PS → Nat → Nat → Nat → Int32 → Nat → Int32 → Int32 → Nat → Int32 → Int32 → Prop} {a b l1 l19 : Nat} {l2 l14 l21 t0 : Int32} {G : Nat → Nat} (h9 : v 0 ≤ 9) (hg : gA S ow l19 (v 0) G) (a0 : a ≠ 0) (a1 : a < 2 ^ v 0) (b0 : b ≠ 0) (b1 : b < 2 ^ v 0)
    (next : ∀ S1, keeps [34] S ow S1 ow → gA S1 ow l19 (v 0) (Gn G a b) → g1242 S1 bc bs l1 l2 q (nI (v 0)) l14 l19 t0 (l21 + 1)) :
    f_L_law_J1667 adK L xs g1242 S bc bs l1 l2 q (nI (v 0)) l14 l19 l21 (nI a) (nI b) t0 := by
  have hp9 := Nat.pow_le_pow_right (show 0 < 2 by omega) h9
  have c0 : a ||| b ≠ 0 := fun z => a0 (Nat.or_eq_zero_iff.mp z).1
  have c1 : a ||| b < 2 ^ v 0 := Nat.or_lt_two_pow a1 b1
  unfold f_L_law_J1667
  rw [nt_low a0 (by omega)]
  refine gA_set (x := 0) hg h9 (low_lt a0 a1 h9) (fun S1 k1 g1 => ?_)
  rw [nt_low b0 (by omega)]
  refine gA_set (x := 0) g1 h9 (low_lt b0 b1 h9) (fun S2 k2 g2 => ?_)
  rw [b_or, nt_low c0 (by omega)]
  refine gA_set g2 h9 (low_lt c0 c1 h9) (fun S3 k3 g3 => ?_)
  exact next S3 ((k1.trans k2).trans k3) g3
/-- the phase that meets the least feud, if it is among the first p -/
def mtI (v : Vt) (p : Nat) : Int32 := if lph v (v 0 - 2) < p then nI (lph v (v 0 - 2)) else -30000
theorem mt_step (hv : okV v) {p : Nat} (hp : p < v 0 - 1) : (if mtI v p = -30000 then (if nI (cut v p) = nI (lcut v) then nI p else mtI v p) else mtI v p) = mtI v (p + 1) := by
  have h9 := hv.1
  have hc := cut_lt hv (p := p)
  have hl := lcut_lt hv
  have hle := lph_le (v := v) (v 0 - 2)
  have hmin := lph_min (v := v) (v 0 - 2) p (by omega)
  have el : lcut v = cut v (lph v (v 0 - 2)) := rfl
  unfold mtI
  by_cases h1 : lph v (v 0 - 2) < p
  · rw [if_pos h1, if_pos (show lph v (v 0 - 2) < p + 1 by omega), if_neg (nI30 (by omega))]
  · rw [if_neg h1, if_pos rfl]
    by_cases h2 : p = lph v (v 0 - 2)
    · rw [if_pos (show lph v (v 0 - 2) < p + 1 by omega), if_pos (by rw [el, ← h2]), ← h2]
    · have h3 := lph_first (v := v) (v 0 - 2) p (by omega)
      rw [if_neg (show ¬ lph v (v 0 - 2) < p + 1 by omega), if_neg (fun z => by have := (nI_eq (by omega) (by omega)).mp z; omega)]
def CE : List Nat := 34 :: CD
theorem CE_D : ∀ c, c ∈ CD → c ∈ CE := fun c hc => List.mem_cons_of_mem _ hc
theorem CE_34 : ∀ c, c ∈ ([34] : List Nat) → c ∈ CE := by decide
theorem CE_30 : 30 ∉ CE := by decide
theorem CC34 : ∀ c, c ∈ CC → c ∉ ([34] : List Nat) := by decide
theorem CC_34 : 34 ∉ CC := by decide
theorem phL_len (hv : okV v) {p : Nat} (hp : p < v 0) : (phL v p).length ≤ 30 := by
  have h9 := hv.1
  have h1 := phG_s hv hp (v 0 - p) (Nat.le_refl _)
  have h2 := dg_le 7 (cut v p) (by omega) (cut_lt hv)
  unfold phL
  rw [List.length_append, List.length_append, List.length_singleton]
  omega
theorem l_phend {g1242 : PS → Nat → Nat → Nat → Int32 → Nat → Int32 → Int32 → Nat → Int32 → Int32 → Prop} {p l19 u : Nat} {l2 l14 : Int32} {G : Nat → Nat} (h : CI S ow A v hs sv rr tx fa ln) (hv : okV v) (hl : l14 = nI (lcut v)) (hp : p < v 0 - 1) (hg : gA S ow l19 (v 0) G) (ht : txt adK S ow u (phG v p (v 0 - p))) (h1 : 600 ≤ bc) (h2 : 5700 ≤ bs)
    (next : ∀ S1 ow1 ln1 bc1 bs1, CI S1 ow1 A v hs sv rr tx fa ln1 → keeps CE S ow S1 ow1 → gA S1 ow1 l19 (v 0) (Gn G (gr v p (v 0 - p - 1)) (gr v p (v 0 - p - 2))) → bc ≤ bc1 + 583 → bs ≤ bs1 + 5656 → g1242 S1 bc1 bs1 (A 12) l2 q (nI (v 0)) l14 l19 (mtI v (p + 1)) (nI (p + 1))) :
    f_L_law_J1519 adK L xs g1242 S bc bs (A 12) l2 q (nI (v 0)) l14 l19 (mtI v p) (nI p) (nI (gr v p (v 0 - p - 1))) (nI (gr v p (v 0 - p - 2))) (nI (cut v p)) u := by
  have h9 := hv.1
  obtain ⟨l0, l1⟩ := gr_lt hv (p := p) (q := v 0 - p - 1) (by omega) (by omega)
  obtain ⟨a0, a1⟩ := gr_lt hv (p := p) (q := v 0 - p - 2) (by omega) (by omega)
  have l2' := gr_in hv (p := p) (q := v 0 - p - 1) (by omega) (by omega)
  have a2' := gr_in hv (p := p) (q := v 0 - p - 2) (by omega) (by omega)
  have hgl := phG_s hv (p := p) (by omega) (v 0 - p) (Nat.le_refl _)
  have hct := cut_lt hv (p := p)
  have hdl := dg_le 7 (cut v p) (by omega) hct
  have hpl := phL_len hv (p := p) (by omega)
  unfold f_L_law_J1519
  rw [pk_sub (show p ≤ v 0 by omega)]
  rw [G_O h]
  refine ⟨1, 6, by omega, by omega, x_phaseOf h hv (Nat.le_refl _) (Nat.le_refl _) (fun S1 c1 k1 => ?_)⟩
  rw [show oPhO v (nI p) 0 = (0, nI (cut v p)) by unfold oPhO; rw [if_pos (inP_t h9 hp), ix_nI (show p < 2 ^ 31 by omega)]; rfl]
  simp only [rs, if_true]
  rw [G_O c1]
  refine ⟨1, 6, by omega, by omega, x_phaseOf c1 hv (Nat.le_refl _) (Nat.le_refl _) (fun S2 c2 k2 => ?_)⟩
  rw [show oPhO v (nI p) 1 = (0, nI (v 0 - p)) by unfold oPhO; rw [if_pos (inP_t h9 hp), ix_nI (show p < 2 ^ 31 by omega)]; rfl]
  simp only [rs, if_true]
  rw [G_O c2]
  refine ⟨1, 6, by omega, by omega, x_phaseOf c2 hv (Nat.le_refl _) (Nat.le_refl _) (fun S3 c3 k3 => ?_)⟩
  rw [show oPhO v (nI p) 2 = (0, nI (low (gr v p (v 0 - p - 1)))) by unfold oPhO; rw [if_pos (inP_t h9 hp), ix_nI (show p < 2 ^ 31 by omega)]; rfl]
  simp only [rs, if_true]
  rw [nt_low l0 l1, if_pos rfl]
  rw [G_O c3]
  refine ⟨1, 6, by omega, by omega, x_phaseOf c3 hv (Nat.le_refl _) (Nat.le_refl _) (fun S4 c4 k4 => ?_)⟩
  rw [show oPhO v (nI p) 3 = (0, nI (low (gr v p (v 0 - p - 2)))) by unfold oPhO; rw [if_pos (inP_t h9 hp), ix_nI (show p < 2 ^ 31 by omega)]; rfl]
  simp only [rs, if_true]
  rw [nt_low a0 a1, if_pos rfl]
  rw [G_O c4]
  refine ⟨1, 6, by omega, by omega, x_phaseOf c4 hv (Nat.le_refl _) (Nat.le_refl _) (fun S5 c5 k5 => ?_)⟩
  rw [show oPhO v (nI p) 4 = (0, nI (gr v p (v 0 - p - 1))) by unfold oPhO; rw [if_pos (inP_t h9 hp), ix_nI (show p < 2 ^ 31 by omega)]; rfl]
  simp only [rs, if_true]
  refine ⟨1, 6, by omega, by omega, l_joined2 c5 hv (Nat.le_refl _) (Nat.le_refl _) (by unfold oJoi; rw [if_pos (inP_t h9 hp), ix_nI (show p < 2 ^ 31 by omega), if_neg (by rw [inQ_n h9]; decide)]) (fun S6 c6 k6 => ?_)⟩
  rw [if_pos rfl, G_O c6]
  refine ⟨70, 2100, by omega, by omega, x_tellPhase c6 hv (Nat.le_refl _) (Nat.le_refl _) (fun z => by rw [inP_t h9 hp] at z; cases z) (fun _ S7 ow7 c7 k7 => ?_)⟩
  rw [ix_nI (show p < 2 ^ 31 by omega)] at c7 ⊢
  have k17 := (((((k1.trans k2).trans k3).trans k4).trans k5).trans k6).trans k7
  refine l_nb (c := 31) (ow := ow7) (m := phG v p (v 0 - p)) (K := fun S39 b9 s9 v41 => isO S39 v41 1 (∃ mc43 ms43 : Nat, mc43 ≤ b9 ∧ ms43 ≤ s9 ∧ (f_J4_append_15ec4_u adK S39 v41 (adK 2) mc43 ms43 fun v44 S42 => isO S42 v44 1 (∃ mc46 ms46 : Nat, mc46 ≤ (b9 - mc43) ∧ ms46 ≤ (s9 - ms43) ∧ (f_J4_append_bf812 S42 v44 (nI (cut v p)) mc46 ms46 fun v47 S45 => isO S45 v47 1 (∃ mc49 ms49 : Nat, mc49 ≤ ((b9 - mc43) - mc46) ∧ ms49 ≤ ((s9 - ms43) - ms46) ∧ (f_J4_toString_0e30d S45 v47 mc49 ms49 fun v50 S48 => ∃ mc52 ms52 : Nat, mc52 ≤ (((b9 - mc43) - mc46) - mc49) ∧ ms52 ≤ (((s9 - ms43) - ms46) - ms49) ∧ (f_L_isLine adK S48 (A 12) (nI (phL v p).length) v50 mc52 ms52 fun v53 S51 => if v53 = 0 then False else if mtI v p = (-30000) then (if nI (cut v p) = l14 then f_L_law_J1667 adK L xs g1242 S51 ((((b9 - mc43) - mc46) - mc49) - mc52) ((((s9 - ms43) - ms46) - ms49) - ms52) (A 12) l2 q (nI (v 0)) l14 l19 (nI p) (nI (gr v p (v 0 - p - 1))) (nI (gr v p (v 0 - p - 2))) (nI p) else f_L_law_J1665 adK L xs g1242 S51 ((((b9 - mc43) - mc46) - mc49) - mc52) ((((s9 - ms43) - ms46) - ms49) - ms52) (A 12) l2 q (nI (v 0)) l14 l19 (mtI v p) (nI p) (nI (gr v p (v 0 - p - 1))) (nI (gr v p (v 0 - p - 2)))) else f_L_law_J1665 adK L xs g1242 S51 ((((b9 - mc43) - mc46) - mc49) - mc52) ((((s9 - ms43) - ms46) - ms49) - ms52) (A 12) l2 q (nI (v 0)) l14 l19 (mtI v p) (nI p) (nI (gr v p (v 0 - p - 1))) (nI (gr v p (v 0 - p - 2)))))))))) ) (by decide) (txt_fr ht k17 CC_32) (by omega) (by omega) (by omega) (fun S8 ow8 u8 cap bc8 bs8 k8 s8 b1 b2 => ?_)
  try dsimp only
  have e2 : (tN 2).length = 1 := rfl
  rw [sb_O s8]
  refine ⟨1, 140, by omega, by omega, sb_txs s8 (by decide) (Or.inr ⟨2, by omega, rfl, rfl⟩) (by omega) (Nat.le_refl _) (Nat.le_refl _) (fun S9 ow9 cap9 k9 s9 => ?_)⟩
  rw [sb_O s9]
  refine ⟨1, 140, by omega, by omega, sb_nms s9 (by omega) (by rw [List.length_append]; omega) (Nat.le_refl _) (Nat.le_refl _) (fun S10 ow10 cap10 k10 s10 => ?_)⟩
  rw [sb_O s10]
  refine ⟨2, 80, by omega, by omega, sb_tos (d := 32) s10 (Nat.le_refl _) (Nat.le_refl _) (by rw [List.length_append, List.length_append]; omega) (fun q11 S11 ow11 k11 n11 s11 => ?_)⟩
  have k811 := ((k8.trans k9).trans k10).trans (k11.mono (D := [31]) (fun c hc => (List.not_mem_nil hc).elim))
  have c11 : CI S11 ow11 A v hs sv rr tx fa (phL v p) := CI_fr c7 k811 CC31
  refine ⟨500, 3000, by omega, by omega, l_isLine c11 (Or.inl ⟨32, rfl, s11⟩) (by omega) (Nat.le_refl _) (Nat.le_refl _) ?_⟩
  rw [if_neg (show ¬ (1 : Int32) = 0 by decide)]
  have kk := (k17.mono CD_C).trans (k811.mono CD_31)
  have g11 := gA_fr hg kk CD_34
  have fin : ∀ t0, t0 = mtI v (p + 1) → f_L_law_J1667 adK L xs g1242 S11 (bc8 - 1 - 1 - 2 - 500) (bs8 - 140 - 140 - 80 - 3000) (A 12) l2 q (nI (v 0)) l14 l19 (nI p) (nI (gr v p (v 0 - p - 1))) (nI (gr v p (v 0 - p - 2))) t0 := fun t0 et => by
    refine l_merge h9 g11 l0 l2' a0 a2' (fun S12 k12 g12 => ?_)
    rw [nI_1, et]
    exact next S12 ow11 _ _ _ (CI_fr c11 k12 CC34) ((kk.mono CE_D).trans (k12.mono CE_34)) g12 (by omega) (by omega)
  have ms := mt_step hv hp
  rw [hl] at *
  by_cases m1 : mtI v p = -30000
  · rw [if_pos m1] at ms ⊢
    by_cases m2 : nI (cut v p) = nI (lcut v)
    · rw [if_pos m2] at ms ⊢
      exact fin _ ms
    · rw [if_neg m2] at ms ⊢
      exact fin _ ms
  · rw [if_neg m1] at ms ⊢
    exact fin _ ms
end PHA
