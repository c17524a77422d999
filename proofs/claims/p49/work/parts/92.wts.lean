/-! the matrix of weights is made: new rows, each place set from the class *(pure)* -/
section WTS
variable {S S1 : PS} {ow ow1 : Ow} {q n : Nat} {r : Nat → Nat} {g : Nat → Nat → Int32}
/-- a matrix of n rows of n, all of one colour that the class does not have -/
def wM (S : PS) (ow : Ow) (q n : Nat) (r : Nat → Nat) (g : Nat → Nat → Int32) : Prop := (q ∈ S.1 ∧ ow q = 30 ∧ ∃ f : Nat → Option Nat, S.2 q = .inl (4, n, .inr (.inr (.inr (.inr f)))) ∧ ∀ i, i < n → f i = some (r i)) ∧ (∀ i, i < n → r i ∈ S.1 ∧ ow (r i) = 30 ∧ r i ≠ q ∧ ∃ f : Nat → Int32, S.2 (r i) = .inl (0, n, .inl f) ∧ ∀ j, j < n → f j = g i j) ∧ ∀ i j, i < n → j < n → r i = r j → i = j
theorem wM_fr {C : List Nat} (h : wM S ow q n r g) (hk : keeps C S ow S1 ow1) (hc : 30 ∉ C) : wM S1 ow1 q n r g := by
  obtain ⟨⟨h1, h2, f, h3, h4⟩, h5, h6⟩ := h
  obtain ⟨a1, a2, a3⟩ := hk q h1
  refine ⟨⟨a1, a2.trans h2, f, by rw [a3 (by rw [h2]; exact hc)]; exact h3, h4⟩, fun i hi => ?_, h6⟩
  obtain ⟨b1, b2, b3, f, b4, b5⟩ := h5 i hi
  obtain ⟨c1, c2, c3⟩ := hk (r i) b1
  exact ⟨c1, c2.trans b2, b3, f, by rw [c3 (by rw [b2]; exact hc)]; exact b4, b5⟩
theorem wM_M {v : Nat → Nat} (h : wM S ow q (v 0) r g) (hg : ∀ i j, i < v 0 → j < v 0 → g i j = nI (wt v i j)) : isM S q r v := by
  obtain ⟨⟨h1, -, f, h3, h4⟩, h5, -⟩ := h
  refine ⟨⟨h1, f, h3, h4⟩, fun i hi => ?_⟩
  obtain ⟨b1, -, -, f, b4, b5⟩ := h5 i hi
  exact ⟨b1, f, b4, fun j hj => (b5 j hj).trans (hg i j hi hj)⟩
theorem wM_row (h : wM S ow q n r g) (hn : n ≤ 9) {i : Nat} (hi : i < n) {kk : Nat → Prop} (next : kk (r i)) : aQ S q (nI i) kk := by
  obtain ⟨⟨h1, -, f, h3, h4⟩, -, -⟩ := h
  exact ⟨h1, n, f, r i, h3, nI_in hi (by omega), by rw [nI_clamp (show i < 2 ^ 31 by omega)]; exact h4 i hi, next⟩
theorem wM_set (h : wM S ow q n r g) (hn : n ≤ 9) {i j : Nat} (hi : i < n) (hj : j < n) {x : Int32} {kk : PS → Prop} (next : ∀ S1, keeps [30] S ow S1 ow → wM S1 ow q n r (fun a b => if a = i ∧ b = j then x else g a b) → kk S1) : sI S (r i) 0 (nI j) x kk := by
  obtain ⟨⟨h1, h2, f, h3, h4⟩, h5, h6⟩ := h
  obtain ⟨b1, b2, b3, fr, b4, b5⟩ := h5 i hi
  rw [sI_nI b1 b4 hj (show n < 2 ^ 31 by omega)]
  have hne : ∀ a : Nat, a ≠ r i → (p_set S (r i) (.inl (0, n, .inl (upd fr j x)))).2 a = S.2 a := fun a ha => va_up_ne S.2 _ ha
  refine next _ (fun a ha => ⟨ha, rfl, fun hc => hne a (fun z => hc (by rw [z, b2]; exact List.mem_singleton.mpr rfl))⟩) ⟨⟨h1, h2, f, by rw [hne q (fun z => b3 z.symm)]; exact h3, h4⟩, fun a ha => ?_, h6⟩
  by_cases e : a = i
  · subst e
    refine ⟨b1, b2, b3, upd fr j x, va_up_self S.2 _ _, fun b hb => ?_⟩
    show (if b = j then x else fr b) = (if a = a ∧ b = j then x else g a b)
    by_cases e2 : b = j
    · rw [if_pos e2, if_pos ⟨rfl, e2⟩]
    · rw [if_neg e2, if_neg (fun z : a = a ∧ b = j => e2 z.2)]; exact b5 b hb
  · obtain ⟨c1, c2, c3, fa, c4, c5⟩ := h5 a ha
    exact ⟨c1, c2, c3, fa, by rw [hne (r a) (fun z => e (h6 a i ha hi z))]; exact c4, fun b hb => by show fa b = (if a = i ∧ b = j then x else g a b); rw [if_neg (fun z : a = i ∧ b = j => e z.1)]; exact c5 b hb⟩
/-- new int[n][n] -/
theorem wM_new {n bc bs : Nat} {ow : Ow} (hn : n ≤ 9) (h1 : 1 + n ≤ bc) (h2 : n + n * n ≤ bs) {kk : Nat → PS → Nat → Nat → Prop} (next : ∀ q r S1 ow1, keeps [] S ow S1 ow1 → wM S1 ow1 q n r (fun _ _ => 0) → kk q S1 (bc - (1 + n)) (bs - (n + n * n))) : nM S (nI n) bc bs kk := by
  have hc : (nI n).toNatClampNeg = n := nI_clamp (by omega)
  unfold nM
  rw [hc]
  refine ⟨nI_nlt (a := n) (b := 0) (Nat.zero_le n) (by omega), by omega, h1, h2, fun q r hq hr hri => ?_⟩
  have hm : ∀ i, i < n → r i ∈ (List.range n).map r := fun i hi => List.mem_map.mpr ⟨i, List.mem_range.mpr hi, rfl⟩
  have hin : ∀ a : Nat, a ∈ (List.range n).map r → ∃ i, i < n ∧ r i = a := fun a ha => by
    obtain ⟨i, hi, e⟩ := List.mem_map.mp ha
    exact ⟨i, List.mem_range.mp hi, e⟩
  refine next q r _ (fun a => if a ∈ S.1 then ow a else 30) (fun a ha => ⟨?_, if_pos ha, fun _ => ?_⟩) ⟨⟨?_, if_neg hq, (fun i => if i < n then some (r i) else none), ?_, fun i hi => if_pos hi⟩, fun i hi => ⟨?_, if_neg (hri i hi).1, (hri i hi).2, (fun _ => 0), ?_, fun _ _ => rfl⟩, hr⟩
  · exact List.mem_cons_of_mem _ (List.mem_append_left _ ha)
  · show (if a = q then _ else if a ∈ (List.range n).map r then _ else S.2 a) = S.2 a
    rw [if_neg (fun z => hq (by rw [← z]; exact ha)), if_neg (fun z => by obtain ⟨i, hi, e⟩ := hin a z; exact (hri i hi).1 (by rw [e]; exact ha))]
  · exact List.mem_cons_self
  · exact if_pos rfl
  · exact List.mem_cons_of_mem _ (List.mem_append_right _ (hm i hi))
  · show (if r i = q then _ else if r i ∈ (List.range n).map r then _ else S.2 (r i)) = _
    rw [if_neg (hri i hi).2, if_pos (hm i hi)]
end WTS
section WTL
variable {S : PS} {ow : Ow} {A : Nat → Nat} {v : Vt} {hs : List Vt} {sv : Option Vt} {rr : Nat → Int32} {tx : List Nat} {fa : Int32} {ln : List Nat}
theorem CC30 : ∀ c, c ∈ CC → c ∉ ([30] : List Nat) := by decide
theorem l_weights {bc bs : Nat} {post : Nat → PS → Prop} (h : CI S ow A v hs sv rr tx fa ln) (hv : okV v) (h1 : 100 ≤ bc) (h2 : 600 ≤ bs) (next : ∀ q r S1 ow1, keeps [30] S ow S1 ow1 → CI S1 ow1 A v hs sv rr tx fa ln → wM S1 ow1 q (v 0) r (fun i j => nI (wt v i j)) → post q S1) : f_L_weights S (A 12) bc bs post := by
  have h9 := hv.1
  have hsq : v 0 * v 0 ≤ 81 := Nat.mul_le_mul h9 h9
  unfold f_L_weights
  rw [G_O h]
  refine ⟨1, 6, by omega, by omega, x_account h hv (Nat.le_refl _) (Nat.le_refl _) ?_⟩
  rw [show oAcc v tx.length hs.length 0 = (0, nI (v 0)) from if_pos rfl]
  simp only [rs]
  refine wM_new (ow := ow) h9 (by omega) (by omega) (fun q r S1 ow1 k1 w1 => ?_)
  have c1 : CI S1 ow1 A v hs sv rr tx fa ln := CI_fr h k1 (fun c _ => List.not_mem_nil)
  have W : ∀ i fuel, i ≤ v 0 → v 0 - i < fuel → ∀ (S2 : PS) (g : Nat → Nat → Int32) (bc bs : Nat), (v 0 - i) * v 0 ≤ bc → 6 * ((v 0 - i) * v 0) ≤ bs → keeps [30] S1 ow1 S2 ow1 → wM S2 ow1 q (v 0) r g → (∀ a b, a < i → b < v 0 → g a b = nI (wt v a b)) → f_L_weights_L15 post fuel S2 bc bs (A 12) (nI (v 0)) q (nI i) := by
    refine lp_im (L := fun fuel i => ∀ (S2 : PS) (g : Nat → Nat → Int32) (bc bs : Nat), (v 0 - i) * v 0 ≤ bc → 6 * ((v 0 - i) * v 0) ≤ bs → keeps [30] S1 ow1 S2 ow1 → wM S2 ow1 q (v 0) r g → (∀ a b, a < i → b < v 0 → g a b = nI (wt v a b)) → f_L_weights_L15 post fuel S2 bc bs (A 12) (nI (v 0)) q (nI i)) (fun fuel i hi ih S2 g bc bs hbc hbs k2 w2 hg => ?_) (fun fuel S2 g bc bs _ _ k2 w2 hg => ?_)
    · have hm : (v 0 - i) * v 0 = (v 0 - (i + 1)) * v 0 + v 0 := by
        rw [show v 0 - i = (v 0 - (i + 1)) + 1 by omega, Nat.add_mul, Nat.one_mul]
      simp only [f_L_weights_L15, if_neg (nI_ge hi (show v 0 < 2 ^ 31 by omega))]
      have I : ∀ j fu, j ≤ v 0 → v 0 - j < fu → ∀ (S3 : PS) (g3 : Nat → Nat → Int32) (bc bs : Nat), (v 0 - (i + 1)) * v 0 + (v 0 - j) ≤ bc → 6 * ((v 0 - (i + 1)) * v 0) + 6 * (v 0 - j) ≤ bs → keeps [30] S1 ow1 S3 ow1 → wM S3 ow1 q (v 0) r g3 → (∀ a b, a < i → b < v 0 → g3 a b = nI (wt v a b)) → (∀ b, b < j → g3 i b = nI (wt v i b)) → f_L_weights_L23 post (f_L_weights_L15 post fuel) fu S3 bc bs (A 12) (nI (v 0)) q (nI i) (nI j) := by
        refine lp_im (L := fun fu j => ∀ (S3 : PS) (g3 : Nat → Nat → Int32) (bc bs : Nat), (v 0 - (i + 1)) * v 0 + (v 0 - j) ≤ bc → 6 * ((v 0 - (i + 1)) * v 0) + 6 * (v 0 - j) ≤ bs → keeps [30] S1 ow1 S3 ow1 → wM S3 ow1 q (v 0) r g3 → (∀ a b, a < i → b < v 0 → g3 a b = nI (wt v a b)) → (∀ b, b < j → g3 i b = nI (wt v i b)) → f_L_weights_L23 post (f_L_weights_L15 post fuel) fu S3 bc bs (A 12) (nI (v 0)) q (nI i) (nI j)) (fun fu j hj ihj S3 g3 bc bs hbc hbs k3 w3 hg3 hgi => ?_) (fun fu S3 g3 bc bs hbc hbs k3 w3 hg3 hgi => ?_)
        · have c3 : CI S3 ow1 A v hs sv rr tx fa ln := CI_fr c1 k3 CC30
          simp only [f_L_weights_L23, if_neg (nI_ge hj (show v 0 < 2 ^ 31 by omega)), nI_1]
          refine wM_row w3 h9 hi ?_
          rw [G_O c3]
          refine ⟨1, 6, by omega, by omega, x_weight c3 hv (Nat.le_refl _) (Nat.le_refl _) ?_⟩
          have hw : oWgt v (nI i) (nI j) = (0, nI (wt v i j)) := by
            unfold oWgt
            rw [if_pos (inb_nI h9 hi), if_pos (inb_nI h9 hj), ix_nI (show i < 2 ^ 31 by omega), ix_nI (show j < 2 ^ 31 by omega)]
          rw [hw]
          simp only [rs]
          refine wM_set w3 h9 hi hj (fun S4 k4 w4 => ?_)
          refine ihj S4 _ _ _ (by omega) (by omega) (k3.trans k4) w4 (fun a b ha hb => ?_) (fun b hb => ?_)
          · show (if a = i ∧ b = j then _ else g3 a b) = _
            rw [if_neg (fun z => by omega)]; exact hg3 a b ha hb
          · show (if i = i ∧ b = j then _ else g3 i b) = _
            by_cases e : b = j
            · rw [if_pos ⟨rfl, e⟩, e]
            · rw [if_neg (fun z => e z.2)]; exact hgi b (by omega)
        · simp only [f_L_weights_L23, f_L_weights_J48, if_pos (nI_le (Nat.le_refl (v 0)) (show v 0 < 2 ^ 31 by omega)), nI_1]
          refine ih S3 g3 bc bs (by omega) (by omega) k3 w3 (fun a b ha hb => ?_)
          by_cases e : a = i
          · rw [e]; exact hgi b hb
          · exact hg3 a b (by omega) hb
      exact I 0 4096 (Nat.zero_le _) (by omega) S2 g bc bs (by omega) (by omega) k2 w2 hg (fun b hb => by omega)
    · simp only [f_L_weights_L15, if_pos (nI_le (Nat.le_refl (v 0)) (show v 0 < 2 ^ 31 by omega))]
      have c2 : CI S2 ow1 A v hs sv rr tx fa ln := CI_fr c1 k2 CC30
      refine next q r S2 ow1 ((k1.mono (fun c hc => (List.not_mem_nil hc).elim)).trans k2) c2 ?_
      · obtain ⟨m1, m2, m3⟩ := w2
        refine ⟨m1, fun i hi => ?_, m3⟩
        obtain ⟨b1, b2, b3, f, b4, b5⟩ := m2 i hi
        exact ⟨b1, b2, b3, f, b4, fun j hj => (b5 j hj).trans (hg i j hi hj)⟩
  exact W 0 4096 (Nat.zero_le _) (by omega) S1 _ _ _ (by rw [Nat.sub_zero]; omega) (by rw [Nat.sub_zero]; omega) keeps.refl w1 (fun a b ha => by omega)
end WTL
