/-! what the constructors make -/
theorem nd_at : ∀ {l : List Nat}, l.Nodup → ∀ (i j x : Nat), l[i]? = some x → l[j]? = some x → i = j
  | [], _, i, j, x, h1, _ => by simp at h1
  | a :: l, hd, i, j, x, h1, h2 => by
    obtain ⟨ha, hl⟩ := List.nodup_cons.mp hd
    cases i with
    | zero =>
      cases j with
      | zero => rfl
      | succ j =>
        rw [List.getElem?_cons_zero] at h1
        rw [List.getElem?_cons_succ] at h2
        cases h1
        exact absurd (List.mem_of_getElem? h2) ha
    | succ i =>
      cases j with
      | zero =>
        rw [List.getElem?_cons_succ] at h1
        rw [List.getElem?_cons_zero] at h2
        cases h2
        exact absurd (List.mem_of_getElem? h1) ha
      | succ j =>
        rw [List.getElem?_cons_succ] at h1 h2
        rw [nd_at hl i j x h1 h2]
theorem nd_snoc {q : Nat} : ∀ {l : List Nat}, l.Nodup → q ∉ l → (l ++ [q]).Nodup
  | [], _, _ => by simp
  | a :: l, hd, hq => by
    obtain ⟨ha, hl⟩ := List.nodup_cons.mp hd
    show (a :: (l ++ [q])).Nodup
    refine List.nodup_cons.mpr ⟨fun z => ?_, nd_snoc hl (fun z => hq (List.mem_cons_of_mem _ z))⟩
    rcases List.mem_append.mp z with z | z
    · exact ha z
    · exact hq (by rw [List.mem_singleton.mp z]; exact List.mem_cons_self)
/-- an object with its new arrays: address, kind and length each -/
def mkO (S : PS) (ow : Ow) (c a ci : Nat) (fs : List Value) (ar : List (Nat × Nat × Nat)) : Prop := a ∈ S.1 ∧ ow a = c ∧ S.2 a = .inr (ci, fs) ∧ (a :: ar.map Prod.fst).Nodup ∧ ∀ p, p ∈ ar → p.1 ∈ S.1 ∧ ow p.1 = c ∧ S.2 p.1 = .inl (p.2.1, p.2.2, .inl (fun _ => 0))
theorem mk_ne {S : PS} {ow : Ow} {c a ci : Nat} {fs : List Value} {ar : List (Nat × Nat × Nat)} (h : mkO S ow c a ci fs ar) {p : Nat × Nat × Nat} (hp : p ∈ ar) : p.1 ≠ a := fun z =>
  (List.nodup_cons.mp h.2.2.2.1).1 (by rw [← z]; exact List.mem_map.mpr ⟨p, hp, rfl⟩)
theorem mk_fr {S S1 : PS} {ow ow1 : Ow} {C : List Nat} {c a ci : Nat} {fs : List Value} {ar : List (Nat × Nat × Nat)} (h : mkO S ow c a ci fs ar) (hk : keeps C S ow S1 ow1) (hc : c ∉ C) : mkO S1 ow1 c a ci fs ar := by
  obtain ⟨h1, h2, h3, h4, h5⟩ := h
  obtain ⟨a1, a2, a3⟩ := hk a h1
  refine ⟨a1, a2.trans h2, (a3 (by rw [h2]; exact hc)).trans h3, h4, fun p hp => ?_⟩
  obtain ⟨b1, b2, b3⟩ := h5 p hp
  obtain ⟨d1, d2, d3⟩ := hk p.1 b1
  exact ⟨d1, d2.trans b2, (d3 (by rw [b2]; exact hc)).trans b3⟩
theorem ko_i {S : PS} {ow : Ow} {c a ci k : Nat} {fs : List Value} {ar : List (Nat × Nat × Nat)} {w : Value} {K : PS → Prop} (ho : mkO S ow c a ci fs ar) (hk : k < fs.length) (next : ∀ S1, keeps [c] S ow S1 ow → mkO S1 ow c a ci (fs.set k w) ar → K S1) : pV S a ci k w K := by
  refine pV_to ho.1 ho.2.2.1 hk rfl (fun S1 c1 m1 e1 => next S1 (keeps_1 c1 ho.2.1) ⟨m1, ho.2.1, e1, ho.2.2.2.1, fun p hp => ?_⟩)
  obtain ⟨b1, b2, b3⟩ := ho.2.2.2.2 p hp
  exact ⟨by rw [c1.1]; exact b1, b2, (c1.2 p.1 (mk_ne ho hp)).trans b3⟩
theorem mk_add {S S2 : PS} {ow : Ow} {c a ci q t n : Nat} {fs : List Value} {ar : List (Nat × Nat × Nat)} (ho : mkO S ow c a ci fs ar) (hq : q ∉ S.1) (e2 : S2 = p_add S q (.inl (t, n, .inl (fun _ => 0)))) : keeps [] S ow S2 (un ow q c) ∧ mkO S2 (un ow q c) c a ci fs (ar ++ [(q, t, n)]) := by
  have k2 : keeps [] S ow S2 (un ow q c) := by rw [e2]; exact keeps_add hq
  have o2 := mk_fr ho k2 (fun z => by cases z)
  refine ⟨k2, o2.1, o2.2.1, o2.2.2.1, ?_, fun p hp => ?_⟩
  · rw [List.map_append]
    show ((a :: ar.map Prod.fst) ++ [q]).Nodup
    refine nd_snoc ho.2.2.2.1 (fun z => ?_)
    rcases List.mem_cons.mp z with z | z
    · exact hq (by rw [z]; exact ho.1)
    · obtain ⟨p, hp, e⟩ := List.mem_map.mp z
      exact hq (by rw [← e]; exact (ho.2.2.2.2 p hp).1)
  · rcases List.mem_append.mp hp with z | z
    · exact o2.2.2.2.2 p z
    · rw [List.mem_singleton.mp z]
      exact ⟨by rw [e2]; exact add_mem, un_at, by rw [e2]; exact add_at⟩
theorem ko_a {S : PS} {ow : Ow} {c a ci k t n bc bs : Nat} {x : Int32} {fs : List Value} {ar : List (Nat × Nat × Nat)} {K : Nat → PS → Nat → Nat → Prop} (ho : mkO S ow c a ci fs ar) (hx : x = nI n) (hn : n ≤ 2000) (hk : k < fs.length) (h1 : 1 ≤ bc) (h2 : n ≤ bs)
    (next : ∀ q S1 ow1, keeps [c] S ow S1 ow1 → mkO S1 ow1 c a ci (fs.set k (.ref q)) (ar ++ [(q, t, n)]) → K q S1 (bc - 1) (bs - n)) : nA S t x bc bs fun q S2 bc3 bs4 => pV S2 a ci k (.ref q) fun S5 => K q S5 bc3 bs4 := by
  subst hx
  have hcl : (nI n).toNatClampNeg = n := nI_clamp (by omega)
  refine ⟨nI_nlt (a := n) (b := 0) (Nat.zero_le n) (by omega), by rw [hcl]; omega, h1, by rw [hcl]; exact h2, fun q hq => ?_⟩
  rw [hcl]
  obtain ⟨S2, e2⟩ : ∃ S2, S2 = p_add S q (.inl (t, n, .inl (fun _ => 0))) := ⟨_, rfl⟩
  rw [← e2]
  obtain ⟨k2, o2⟩ := mk_add ho hq e2
  refine ko_i o2 hk (fun S5 k5 o5 => ?_)
  exact next q S5 (un ow q c) ((keeps_nil k2).trans k5) o5
/-- the addresses of an object and its arrays -/
def Bo (a : Nat) (ar : List (Nat × Nat × Nat)) : Nat → Nat := fun k => (a :: ar.map Prod.fst).getD k 0
theorem Bo_at {a : Nat} {ar : List (Nat × Nat × Nat)} {k : Nat} (hk : k < ar.length + 1) : (a :: ar.map Prod.fst)[k]? = some (Bo a ar k) := by
  have hl : k < (a :: ar.map Prod.fst).length := by rw [List.length_cons, List.length_map]; exact hk
  unfold Bo
  rw [List.getD_eq_getElem?_getD, List.getElem?_eq_getElem hl, Option.getD_some]
theorem Po_mk {S : PS} {ow : Ow} {c a ci n : Nat} {fs : List Value} {ar : List (Nat × Nat × Nat)} {fl : (Nat → Nat) → (Nat → Int32) → List Value} {rk rl : Nat → Nat} {F : Nat → Int32} (ho : mkO S ow c a ci fs ar) (hn : n = ar.length + 1) (hf : fs = fl (Bo a ar) F) (hr : ar.map Prod.snd = (List.range ar.length).map (fun k => (rk (k + 1), rl (k + 1)))) : Po n ci fl rk rl S ow c (Bo a ar) F (fun _ _ => 0) := by
  subst hn
  obtain ⟨h1, h2, h3, h4, h5⟩ := ho
  have at1 : ∀ k, k < ar.length → ∃ p, p ∈ ar ∧ Bo a ar (k + 1) = p.1 ∧ p.2 = (rk (k + 1), rl (k + 1)) := fun k hk => by
    have e1 := Bo_at (a := a) (ar := ar) (k := k + 1) (by omega)
    rw [List.getElem?_cons_succ, List.getElem?_map, List.getElem?_eq_getElem hk] at e1
    have e2 : (ar.map Prod.snd)[k]? = some (rk (k + 1), rl (k + 1)) := by
      rw [hr, List.getElem?_map, List.getElem?_range hk, Option.map_some]
    rw [List.getElem?_map, List.getElem?_eq_getElem hk] at e2
    exact ⟨ar[k], List.getElem_mem hk, (Option.some.inj e1).symm, Option.some.inj e2⟩
  refine ⟨⟨fun j k hj hk e => ?_, fun k hk => ?_⟩, ⟨rfl, fun _ _ => rfl, ?_, fun k h0 hk => ?_⟩, fun k hk => ?_⟩
  · have e1 := Bo_at (a := a) hj
    rw [e] at e1
    exact nd_at h4 j k _ e1 (Bo_at hk)
  · cases k with
    | zero => exact h1
    | succ k =>
      obtain ⟨p, hp, e1, -⟩ := at1 k (by omega)
      rw [e1]; exact (h5 p hp).1
  · show S.2 a = _
    rw [h3, hf]
  · cases k with
    | zero => omega
    | succ k =>
      obtain ⟨p, hp, e1, e2⟩ := at1 k (by omega)
      rw [e1, (h5 p hp).2.2, e2]
  · cases k with
    | zero => exact h2
    | succ k =>
      obtain ⟨p, hp, e1, -⟩ := at1 k (by omega)
      rw [e1]; exact (h5 p hp).2.1
theorem P4_mk {S : PS} {ow : Ow} {a : Nat} {fs : List Value} {ar : List (Nat × Nat × Nat)} (ho : mkO S ow 4 a 7 fs ar) (hn : 6 = ar.length + 1) (hf : fs = cfs (Bo a ar) (fun _ => 0)) (hr : ar.map Prod.snd = (List.range ar.length).map (fun k => (0, crl (k + 1)))) : P4 S ow a := ⟨Bo a ar, fun _ => 0, fun _ _ => 0, rfl, Po_mk ho hn hf hr⟩
theorem P5_mk {S : PS} {ow : Ow} {a : Nat} {fs : List Value} {ar : List (Nat × Nat × Nat)} (ho : mkO S ow 5 a 4 fs ar) (hn : 2 = ar.length + 1) (hf : fs = dfs (Bo a ar) (fun _ => 0)) (hr : ar.map Prod.snd = (List.range ar.length).map (fun _ => (0, 256))) : P5 S ow a := ⟨Bo a ar, fun _ => 0, fun _ _ => 0, rfl, Po_mk ho hn hf hr, rfl⟩
theorem P6_mk {S : PS} {ow : Ow} {a : Nat} {fs : List Value} {ar : List (Nat × Nat × Nat)} (ho : mkO S ow 6 a 5 fs ar) (hn : 4 = ar.length + 1) (hf : fs = ffs (Bo a ar) (fun _ => 0)) (hr : ar.map Prod.snd = (List.range ar.length).map (fun k => (0, frl (k + 1)))) : P6 S ow a := ⟨Bo a ar, fun _ => 0, fun _ _ => 0, rfl, Po_mk ho hn hf hr⟩
theorem P7_mk {S : PS} {ow : Ow} {a sa cap : Nat} {tx : List Nat} {fa : Int32} {F : Nat → Int32} {fs : List Value} {ar : List (Nat × Nat × Nat)} (ho : mkO S ow 7 a 9 fs ar) (hn : 3 = ar.length + 1) (hf : fs = tfs sa (Bo a ar) F) (hr : ar.map Prod.snd = (List.range ar.length).map (fun k => (0, trl (k + 1)))) (hs : sb S ow 17 sa cap tx) (hF : F 6 = fa) : P7 S ow a tx fa := ⟨sa, cap, Bo a ar, F, fun _ _ => 0, rfl, Po_mk ho hn hf hr, hs, hF⟩
/-- an object made, set up, and named by another -/
theorem ko_s {f : PS → Nat → Nat → Nat → (PS → Prop) → Prop} {P : PS → Ow → Nat → Prop} {CS : List Nat} {co cio C M c ci N k bc bs a : Nat} {fs0 fs : List Value} {K : Nat → PS → Nat → Nat → Nat → Nat → Prop} {S : PS} {ow : Ow}
    (hI : ∀ (S : PS) (ow : Ow) (q mc ms : Nat) (post : PS → Prop), mkO S ow c q ci fs0 [] → C ≤ mc → M ≤ ms → (∀ S1 ow1, keeps CS S ow S1 ow1 → P S1 ow1 q → post S1) → f S q mc ms post)
    (hP : ∀ (S : PS) (ow : Ow) (S1 : PS) (ow1 : Ow) (q : Nat), P S ow q → keeps [co] S ow S1 ow1 → P S1 ow1 q)
    (ha : a ∈ S.1) (hc : ow a = co) (he : S.2 a = .inr (cio, fs)) (hk : k < fs.length) (h12 : co ∉ CS) (h1 : C + 1 ≤ bc) (h2 : N + M ≤ bs)
    (next : ∀ q S1 ow1, keeps (co :: CS) S ow S1 ow1 → a ∈ S1.1 → ow1 a = co → S1.2 a = .inr (cio, fs.set k (.ref q)) → P S1 ow1 q → K q S1 (bc - 1) (bs - N) C M) :
    nO S ci fs0 N bc bs fun q S2 bc3 bs4 => ∃ mc6 ms6 : Nat, mc6 ≤ bc3 ∧ ms6 ≤ bs4 ∧ (f S2 q mc6 ms6 fun S5 => pV S5 a cio k (.ref q) fun S8 => K q S8 bc3 bs4 mc6 ms6) := by
  refine ⟨by omega, by omega, fun q hq => ⟨C, M, by omega, by omega, ?_⟩⟩
  obtain ⟨S2, e2⟩ : ∃ S2, S2 = p_add S q (.inr (ci, fs0)) := ⟨_, rfl⟩
  rw [← e2]
  have k2 : keeps [] S ow S2 (un ow q c) := by rw [e2]; exact keeps_add hq
  refine hI S2 (un ow q c) q C M _ ⟨by rw [e2]; exact add_mem, un_at, by rw [e2]; exact add_at, by simp, fun p hp => by cases hp⟩ (Nat.le_refl _) (Nat.le_refl _) (fun S5 ow5 k5 p5 => ?_)
  have k05 : keeps CS S ow S5 ow5 := (keeps_nil k2).trans k5
  obtain ⟨a1, a2, a3⟩ := k05 a ha
  have e5 := (a3 (by rw [hc]; exact h12)).trans he
  refine pV_to a1 e5 hk rfl (fun S8 c8 m8 e8 => ?_)
  have k8 : keeps [co] S5 ow5 S8 ow5 := keeps_1 c8 (a2.trans hc)
  exact next q S8 ow5 ((k05.mono (fun c hc => List.mem_cons_of_mem _ hc)).trans (k8.mono (fun c hc => by rw [List.mem_singleton.mp hc]; exact List.mem_cons_self))) m8 (a2.trans hc) e8 (hP _ _ _ _ _ p5 k8)
section INI
variable {S : PS} {ow : Ow} {c a bc bs : Nat} {post : PS → Prop}
theorem i_village (ho : mkO S ow c a 10 [.null, .int 0, .int 0, .int 0, .int 0, .int 0] []) (h1 : 1 ≤ bc) (h2 : 81 ≤ bs) (next : ∀ S1 ow1, keeps [c] S ow S1 ow1 → Pv S1 ow1 c a v0F → post S1) : f_X6_init S a bc bs post :=
  v_init ho.1 ho.2.1 ho.2.2.1 h1 h2 next
theorem i_sb (ho : mkO S ow c a 1 [.null, .int 0, .int 0, .int 0] []) (h1 : 1 ≤ bc) (h2 : 16 ≤ bs) (next : ∀ S1 ow1, keeps [c] S ow S1 ow1 → sb S1 ow1 c a 16 [] → post S1) : f_J4_init_da8c8 S a bc bs post := by
  unfold f_J4_init_da8c8
  refine ⟨1, 16, h1, h2, ?_⟩
  unfold f_J5_init_d00df
  rw [if_neg (by decide)]
  refine ko_a (t := 1) (n := 16) ho rfl (by omega) (by show 0 < 4; decide) (Nat.le_refl _) (Nat.le_refl _) (fun q S1 ow1 k1 o1 => ?_)
  refine ko_i o1 (by show 1 < 4; decide) (fun S2 k2 o2 => ?_)
  obtain ⟨b1, b2, b3⟩ := o2.2.2.2.2 (q, 1, 16) (List.mem_append_right _ (List.mem_singleton.mpr rfl))
  exact next S2 ow1 (k1.trans k2) ⟨q, 0, fun _ => 0, o2.1, b1, Ne.symm (mk_ne o2 (p := (q, 1, 16)) (List.mem_append_right _ (List.mem_singleton.mpr rfl))), o2.2.1, b2, o2.2.2.1, b3, Nat.zero_le _, Nat.le_refl _, by omega, fun i x hx => by simp at hx, fun _ => (by decide : fits .byte (.int 0) = true)⟩
theorem i_phases (ho : mkO S ow 4 a 7 [.null, .null, .null, .null, .null, .int 0] []) (h1 : 5 ≤ bc) (h2 : 243 ≤ bs) (next : ∀ S1 ow1, keeps [4] S ow S1 ow1 → P4 S1 ow1 a → post S1) : f_X3_init S a bc bs post := by
  unfold f_X3_init
  refine ko_a (t := 0) (n := 72) ho rfl (by omega) (by show 0 < 6; decide) (by omega) (by omega) (fun q1 S1 w1 k1 o1 => ?_)
  refine ko_a (t := 0) (n := 72) o1 rfl (by omega) (by show 1 < 6; decide) (by omega) (by omega) (fun q2 S2 w2 k2 o2 => ?_)
  refine ko_a (t := 0) (n := 81) o2 rfl (by omega) (by show 2 < 6; decide) (by omega) (by omega) (fun q3 S3 w3 k3 o3 => ?_)
  refine ko_a (t := 0) (n := 9) o3 rfl (by omega) (by show 3 < 6; decide) (by omega) (by omega) (fun q4 S4 w4 k4 o4 => ?_)
  refine ko_a (t := 0) (n := 9) o4 rfl (by omega) (by show 4 < 6; decide) (by omega) (by omega) (fun q5 S5 w5 k5 o5 => ?_)
  refine ko_i o5 (by show 5 < 6; decide) (fun S6 k6 o6 => ?_)
  exact next S6 w5 (((((k1.trans k2).trans k3).trans k4).trans k5).trans k6) (P4_mk o6 rfl rfl rfl)
theorem i_div (ho : mkO S ow 5 a 4 [.null, .int 0] []) (h1 : 1 ≤ bc) (h2 : 256 ≤ bs) (next : ∀ S1 ow1, keeps [5] S ow S1 ow1 → P5 S1 ow1 a → post S1) : f_X0_init S a bc bs post := by
  unfold f_X0_init
  refine ko_a (t := 0) (n := 256) ho rfl (by omega) (by show 0 < 2; decide) (by omega) (by omega) (fun q1 S1 w1 k1 o1 => ?_)
  refine ko_i o1 (by show 1 < 2; decide) (fun S6 k6 o6 => ?_)
  exact next S6 w1 (k1.trans k6) (P5_mk o6 rfl rfl rfl)
theorem i_flow (ho : mkO S ow 6 a 5 [.null, .null, .null] []) (h1 : 3 ≤ bc) (h2 : 99 ≤ bs) (next : ∀ S1 ow1, keeps [6] S ow S1 ow1 → P6 S1 ow1 a → post S1) : f_X1_init S a bc bs post := by
  unfold f_X1_init
  refine ko_a (t := 0) (n := 81) ho rfl (by omega) (by show 0 < 3; decide) (by omega) (by omega) (fun q1 S1 w1 k1 o1 => ?_)
  refine ko_a (t := 0) (n := 9) o1 rfl (by omega) (by show 1 < 3; decide) (by omega) (by omega) (fun q2 S2 w2 k2 o2 => ?_)
  refine ko_a (t := 0) (n := 9) o2 rfl (by omega) (by show 2 < 3; decide) (by omega) (by omega) (fun q3 S3 w3 k3 o3 => ?_)
  exact next S3 w3 ((k1.trans k2).trans k3) (P6_mk o3 rfl rfl rfl)
theorem i_reason (ho : mkO S ow 8 a 8 [.int 0, .int 0, .int 0, .int 0] []) (next : ∀ S1, keeps [8] S ow S1 ow → P8 S1 ow a (fun _ => 0) → post S1) : f_X4_init S a post := by
  unfold f_X4_init
  refine ko_i ho (by show 0 < 4; decide) (fun S1 k1 o1 => ?_)
  refine ko_i o1 (by show 1 < 4; decide) (fun S2 k2 o2 => ?_)
  refine ko_i o2 (by show 2 < 4; decide) (fun S3 k3 o3 => ?_)
  refine ko_i o3 (by show 3 < 4; decide) (fun S4 k4 o4 => ?_)
  exact next S4 (((k1.trans k2).trans k3).trans k4) ⟨o4.1, o4.2.1, o4.2.2.1⟩
theorem i_hist (ho : mkO S ow 3 a 6 [.null, .int 0, .int 0] []) (h1 : 1 ≤ bc) (h2 : 8 ≤ bs) (next : ∀ S1 ow1, keeps [3] S ow S1 ow1 → P3 S1 ow1 a [] → post S1) : f_X2_init S a bc bs post := by
  unfold f_X2_init
  have hcl : (8 : Int32).toNatClampNeg = 8 := nI_clamp (n := 8) (by omega)
  refine ⟨by decide, by rw [hcl]; omega, h1, by rw [hcl]; exact h2, fun q hq => ?_⟩
  rw [hcl]
  obtain ⟨S2, e2⟩ : ∃ S2, S2 = p_add S q (.inl (3, 8, .inr (.inr (.inr (.inr (fun _ => none)))))) := ⟨_, rfl⟩
  rw [← e2]
  have k2 : keeps [] S ow S2 (un ow q 3) := by rw [e2]; exact keeps_add hq
  have hne : q ≠ a := fun z => hq (by rw [z]; exact ho.1)
  have o2 := mk_fr ho k2 (fun z => by cases z)
  have hq2 : q ∈ S2.1 := by rw [e2]; exact add_mem
  have he2 : S2.2 q = .inl (3, 8, .inr (.inr (.inr (.inr (fun _ => none))))) := by rw [e2]; exact add_at
  have ho2 : un ow q 3 a = 3 := o2.2.1
  refine pV_to o2.1 o2.2.2.1 (by show 0 < 3; decide) rfl (fun S3 c3 m3 e3 => ?_)
  refine pV_to m3 e3 (by show 1 < 3; decide) rfl (fun S4 c4 m4 e4 => ?_)
  refine pV_to m4 e4 (by show 2 < 3; decide) rfl (fun S5 c5 m5 e5 => ?_)
  have call := (c3.trans c4).trans c5
  refine next S5 (un ow q 3) ((keeps_nil k2).trans (keeps_1 call ho2)) ⟨q, 0, fun _ => none, m5, by rw [call.1]; exact hq2, ho2, un_at, e5, (call.2 q hne).trans he2, by omega, Nat.zero_le _, fun i b _ z => (by simp at z), fun i w z => (by simp at z)⟩
theorem sb_12 {co : Nat} (hco : co ≠ c) : ∀ (S : PS) (ow : Ow) (S1 : PS) (ow1 : Ow) (q : Nat), sb S ow c q 16 [] → keeps [co] S ow S1 ow1 → sb S1 ow1 c q 16 [] := fun S ow S1 ow1 q h hk => sb_fr h hk (fun z => hco (List.mem_singleton.mp z).symm)
theorem i_text (ho : mkO S ow 7 a 9 [.null, .null, .null, .int 0, .int 0, .int 0, .int 0] []) (h1 : 4 ≤ bc) (h2 : 80 ≤ bs) (next : ∀ S1 ow1, keeps [7, 17] S ow S1 ow1 → P7 S1 ow1 a [] (-1) → post S1) : f_X5_init S a bc bs post := by
  unfold f_X5_init
  refine ko_s (f := f_J4_init_da8c8) (P := fun S ow q => sb S ow 17 q 16 []) (CS := [17]) (co := 7) (c := 17) (C := 1) (M := 16) (fun S ow q mc ms post ho h1 h2 nx => i_sb ho h1 h2 nx) (sb_12 (by decide)) ho.1 ho.2.1 ho.2.2.1 (by show 0 < 7; decide) (by decide) (by omega) (by omega) (fun q S1 w1 k1 a1 b1 e1 p1 => ?_)
  have o1 : mkO S1 w1 7 a 9 [.ref q, .null, .null, .int 0, .int 0, .int 0, .int 0] [] := ⟨a1, b1, e1, by simp, fun p hp => by cases hp⟩
  refine ko_a (t := 0) (n := 15) o1 rfl (by omega) (by show 1 < 7; decide) (by omega) (by omega) (fun q2 S2 w2 k2 o2 => ?_)
  refine ko_a (t := 0) (n := 45) o2 rfl (by omega) (by show 2 < 7; decide) (by omega) (by omega) (fun q3 S3 w3 k3 o3 => ?_)
  refine ko_i o3 (by show 3 < 7; decide) (fun S4 k4 o4 => ?_)
  refine ko_i o4 (by show 4 < 7; decide) (fun S5 k5 o5 => ?_)
  refine ko_i o5 (by show 5 < 7; decide) (fun S6 k6 o6 => ?_)
  refine ko_i o6 (by show 6 < 7; decide) (fun S7 k7 o7 => ?_)
  have k27 := ((((k2.trans k3).trans k4).trans k5).trans k6).trans k7
  exact next S7 w3 (k1.trans (k27.mono (fun c hc => by rw [List.mem_singleton.mp hc]; exact List.mem_cons_self))) (P7_mk (sa := q) (F := fun i => if i = 6 then -1 else 0) o7 rfl rfl rfl (sb_fr p1 k27 (by decide)) rfl)
theorem mX_new : mX (fun i => if i = 20 then -1 else 0) (fun _ _ => 0) [] none (fun _ => 0) [] (-1) [] :=
  ⟨⟨rfl, Nat.zero_le _, fun i w z => by simp at z⟩, Or.inl ⟨rfl, rfl⟩, ⟨rfl, rfl, rfl, fun z => absurd rfl z⟩, ⟨rfl, fun i c z => by simp at z⟩, rfl, rfl, fun i c z => by simp at z⟩
theorem okV_0 : okV v0F := okV_of (v := v0F) ⟨by decide, fun k _ => Nat.zero_le _, fun k _ _ => rfl, fun i j _ _ => rfl, fun i _ => rfl, fun i j _ _ _ => rfl⟩ (by decide)
/-- the class's object, as it is made -/
theorem i_class (ha : a ∈ S.1) (hc : ow a = 12) (he : S.2 a = .inr (11, [.null, .null, .null, .null, .null, .null, .null, .null, .null, .null, .null, .null])) (h1 : 40 ≤ bc) (h2 : 3000 ≤ bs) (next : ∀ S1 ow1 (A : Nat → Nat), A 12 = a → keeps CC S ow S1 ow1 → CI S1 ow1 A v0F [] none (fun _ => 0) [] (-1) [] → post S1) : f_X7_init S a bc bs post := by
  unfold f_X7_init
  have fV : ∀ c : Nat, c ≠ 12 → ∀ (S : PS) (ow : Ow) (S1 : PS) (ow1 : Ow) (q : Nat), Pv S ow c q v0F → keeps [12] S ow S1 ow1 → Pv S1 ow1 c q v0F := fun c hc S ow S1 ow1 q h hk => Pv_fr h hk (fun z => hc (List.mem_singleton.mp z))
  refine ko_s (f := f_X6_init) (P := fun S ow q => Pv S ow 0 q v0F) (CS := [0]) (c := 0) (C := 1) (M := 81) (fun S ow q mc ms post ho h1 h2 nx => i_village ho h1 h2 nx) (fV 0 (by decide)) ha hc he (by show 0 < 12; decide) (by decide) (by omega) (by omega) (fun q0 S0 w0 k0 a0 b0 e0 p0 => ?_)
  refine ko_s (f := f_X6_init) (P := fun S ow q => Pv S ow 1 q v0F) (CS := [1]) (c := 1) (C := 1) (M := 81) (fun S ow q mc ms post ho h1 h2 nx => i_village ho h1 h2 nx) (fV 1 (by decide)) a0 b0 e0 (by show 1 < 12; decide) (by decide) (by omega) (by omega) (fun q1 S1 w1 k1 a1 b1 e1 p1 => ?_)
  refine ko_s (f := f_X6_init) (P := fun S ow q => Pv S ow 2 q v0F) (CS := [2]) (c := 2) (C := 1) (M := 81) (fun S ow q mc ms post ho h1 h2 nx => i_village ho h1 h2 nx) (fV 2 (by decide)) a1 b1 e1 (by show 2 < 12; decide) (by decide) (by omega) (by omega) (fun q2 S2 w2 k2 a2 b2 e2 p2 => ?_)
  refine ko_s (f := f_X2_init) (P := fun S ow q => P3 S ow q []) (CS := [3]) (c := 3) (C := 1) (M := 8) (fun S ow q mc ms post ho h1 h2 nx => i_hist ho h1 h2 nx) (fun S ow S1 ow1 q h hk => P3_fr h hk (by decide) (fun i hi => CI_rng hi (by decide))) a2 b2 e2 (by show 3 < 12; decide) (by decide) (by omega) (by omega) (fun q3 S3 w3 k3 a3 b3 e3 p3 => ?_)
  refine ko_s (f := f_X3_init) (P := fun S ow q => P4 S ow q) (CS := [4]) (c := 4) (C := 5) (M := 243) (fun S ow q mc ms post ho h1 h2 nx => i_phases ho h1 h2 nx) (fun S ow S1 ow1 q h hk => by obtain ⟨B, F, g, e, h⟩ := h; exact ⟨B, F, g, e, Po_fr (by omega) h hk (by decide)⟩) a3 b3 e3 (by show 4 < 12; decide) (by decide) (by omega) (by omega) (fun q4 S4 w4 k4 a4 b4 e4 p4 => ?_)
  refine ko_s (f := f_X0_init) (P := fun S ow q => P5 S ow q) (CS := [5]) (c := 5) (C := 1) (M := 256) (fun S ow q mc ms post ho h1 h2 nx => i_div ho h1 h2 nx) (fun S ow S1 ow1 q h hk => by obtain ⟨B, F, g, e, h, z⟩ := h; exact ⟨B, F, g, e, Po_fr (by omega) h hk (by decide), z⟩) a4 b4 e4 (by show 5 < 12; decide) (by decide) (by omega) (by omega) (fun q5 S5 w5 k5 a5 b5 e5 p5 => ?_)
  refine ko_s (f := f_X1_init) (P := fun S ow q => P6 S ow q) (CS := [6]) (c := 6) (C := 3) (M := 99) (fun S ow q mc ms post ho h1 h2 nx => i_flow ho h1 h2 nx) (fun S ow S1 ow1 q h hk => by obtain ⟨B, F, g, e, h⟩ := h; exact ⟨B, F, g, e, Po_fr (by omega) h hk (by decide)⟩) a5 b5 e5 (by show 6 < 12; decide) (by decide) (by omega) (by omega) (fun q6 S6 w6 k6 a6 b6 e6 p6 => ?_)
  refine ko_s (f := f_X5_init) (P := fun S ow q => P7 S ow q [] (-1)) (CS := [7, 17]) (c := 7) (C := 4) (M := 80) (fun S ow q mc ms post ho h1 h2 nx => i_text ho h1 h2 nx) (fun S ow S1 ow1 q h hk => P7_fr h hk (by decide) (by decide)) a6 b6 e6 (by show 7 < 12; decide) (by decide) (by omega) (by omega) (fun q7 S7 w7 k7 a7 b7 e7 p7 => ?_)
  refine ⟨by omega, by omega, fun q8 hq8 => ?_⟩
  obtain ⟨Sa, ea⟩ : ∃ Sa, Sa = p_add S7 q8 (.inr (8, [.int 0, .int 0, .int 0, .int 0])) := ⟨_, rfl⟩
  rw [← ea]
  have ka : keeps [] S7 w7 Sa (un w7 q8 8) := by rw [ea]; exact keeps_add hq8
  refine i_reason (ow := un w7 q8 8) ⟨by rw [ea]; exact add_mem, un_at, by rw [ea]; exact add_at, by simp, fun p hp => by cases hp⟩ (fun Sb kb pb => ?_)
  have kab : keeps [8] S7 w7 Sb (un w7 q8 8) := (keeps_nil ka).trans kb
  obtain ⟨z1, z2, z3⟩ := kab a a7
  have ez := (z3 (by rw [b7]; decide)).trans e7
  refine pV_to z1 ez (by show 8 < 12; decide) rfl (fun S8 c8 m8 e8 => ?_)
  have k8' : keeps [12] Sb (un w7 q8 8) S8 (un w7 q8 8) := keeps_1 c8 (z2.trans b7)
  have k8 : keeps [12, 8] S7 w7 S8 (un w7 q8 8) := (kab.mono (fun c hc => List.mem_cons_of_mem _ hc)).trans (k8'.mono (fun c hc => by rw [List.mem_singleton.mp hc]; exact List.mem_cons_self))
  have p8 := P8_fr pb k8' (by decide)
  refine ko_s (f := f_J4_init_da8c8) (P := fun S ow q => sb S ow 9 q 16 []) (CS := [9]) (c := 9) (C := 1) (M := 16) (fun S ow q mc ms post ho h1 h2 nx => i_sb ho h1 h2 nx) (sb_12 (by decide)) m8 (z2.trans b7) e8 (by show 9 < 12; decide) (by decide) (by omega) (by omega) (fun q9 S9 w9 k9 a9 b9 e9 p9 => ?_)
  have hcl : (9 : Int32).toNatClampNeg = 9 := nI_clamp (n := 9) (by omega)
  refine ⟨by decide, by rw [hcl]; omega, by omega, by rw [hcl]; omega, fun q10 hq10 => ?_⟩
  rw [hcl]
  obtain ⟨Sc, ec⟩ : ∃ Sc, Sc = p_add S9 q10 (.inl (0, 9, .inl (fun _ => 0))) := ⟨_, rfl⟩
  rw [← ec]
  have kc : keeps [] S9 w9 Sc (un w9 q10 10) := by rw [ec]; exact keeps_add hq10
  have p10 : P10 Sc (un w9 q10 10) q10 (fun _ => 0) := ⟨by rw [ec]; exact add_mem, un_at, by rw [ec]; exact add_at⟩
  obtain ⟨y1, y2, y3⟩ := kc a a9
  refine pV_to y1 ((y3 (fun z => by cases z)).trans e9) (by show 10 < 12; decide) rfl (fun Sd cd md ed => ?_)
  refine pV_to md ed (by show 11 < 12; decide) rfl (fun Se ce me ee => ?_)
  have kd : keeps [12] Sc (un w9 q10 10) Se (un w9 q10 10) := keeps_1 (cd.trans ce) (y2.trans b9)
  have t9 : keeps [12] S9 w9 Se (un w9 q10 10) := (keeps_nil kc).trans kd
  have t8 : keeps [9, 12] S8 (un w7 q8 8) Se (un w9 q10 10) := (k9.mono (by decide)).trans (t9.mono (by decide))
  have t7 : keeps [8, 9, 12] S7 w7 Se (un w9 q10 10) := (k8.mono (by decide)).trans (t8.mono (by decide))
  have t6 : keeps [7, 17, 8, 9, 12] S6 w6 Se (un w9 q10 10) := (k7.mono (by decide)).trans (t7.mono (by decide))
  have t5 : keeps [6, 7, 17, 8, 9, 12] S5 w5 Se (un w9 q10 10) := (k6.mono (by decide)).trans (t6.mono (by decide))
  have t4 : keeps [5, 6, 7, 17, 8, 9, 12] S4 w4 Se (un w9 q10 10) := (k5.mono (by decide)).trans (t5.mono (by decide))
  have t3 : keeps [4, 5, 6, 7, 17, 8, 9, 12] S3 w3 Se (un w9 q10 10) := (k4.mono (by decide)).trans (t4.mono (by decide))
  have t2 : keeps [3, 4, 5, 6, 7, 17, 8, 9, 12] S2 w2 Se (un w9 q10 10) := (k3.mono (by decide)).trans (t3.mono (by decide))
  have t1 : keeps [2, 3, 4, 5, 6, 7, 17, 8, 9, 12] S1 w1 Se (un w9 q10 10) := (k2.mono (by decide)).trans (t2.mono (by decide))
  have t0 : keeps [1, 2, 3, 4, 5, 6, 7, 17, 8, 9, 12] S0 w0 Se (un w9 q10 10) := (k1.mono (by decide)).trans (t1.mono (by decide))
  have tt : keeps CC S ow Se (un w9 q10 10) := (k0.mono (by decide)).trans (t0.mono (by decide))
  obtain ⟨B4, F4, g4, d4, n4⟩ := p4
  obtain ⟨B5, F5, g5, d5, n5, m5⟩ := p5
  obtain ⟨B6, F6, g6, d6, n6⟩ := p6
  refine next Se (un w9 q10 10) (fun k => [q0, q1, q2, q3, q4, q5, q6, q7, q8, q9, q10, 0, a].getD k 0) rfl tt ⟨⟨(tt a ha).1, (tt a ha).2.1.trans hc, none, ee, Or.inl ⟨rfl, rfl⟩⟩, Pv_fr p0 t0 (by decide), ⟨v0F, Pv_fr p1 t1 (by decide)⟩, ⟨v0F, Pv_fr p2 t2 (by decide)⟩, P3_fr p3 t3 (by decide) (fun i hi => CI_rng hi (by decide)), ⟨B4, F4, g4, d4, Po_fr (by omega) n4 t4 (by decide)⟩, ⟨B5, F5, g5, d5, Po_fr (by omega) n5 t5 (by decide), m5⟩, ⟨B6, F6, g6, d6, Po_fr (by omega) n6 t6 (by decide)⟩, P7_fr p7 t7 (by decide) (by decide), P8_fr p8 t8 (by decide), ⟨16, sb_fr p9 t9 (by decide)⟩, fun _ => 0, P10_fr p10 kd (by decide)⟩
end INI

