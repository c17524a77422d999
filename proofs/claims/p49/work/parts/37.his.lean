/-! cells made and changed; villages copied; the history -/
theorem keeps_set {S : PS} {ow : Ow} {a c : Nat} {e : pE} (hc : ow a = c) : keeps [c] S ow (p_set S a e) ow := fun q hq => ⟨hq, rfl, fun hn => va_up_ne _ _ (fun z => hn (by rw [z, hc]; exact List.mem_singleton.mpr rfl))⟩
theorem keeps_add {S : PS} {ow : Ow} {q c : Nat} {e : pE} (hq : q ∉ S.1) : keeps [] S ow (p_add S q e) (un ow q c) := fun x hx => by
  have hne : x ≠ q := fun z => hq (by rw [← z]; exact hx)
  exact ⟨List.mem_append_left _ hx, un_ne hne, fun _ => va_up_ne _ _ hne⟩
theorem add_mem {S : PS} {q : Nat} {e : pE} : q ∈ (p_add S q e).1 := List.mem_append_right _ (List.mem_singleton.mpr rfl)
theorem add_at {S : PS} {q : Nat} {e : pE} : (p_add S q e).2 q = e := va_up_self _ _ _
theorem set_at {S : PS} {q : Nat} {e : pE} : (p_set S q e).2 q = e := va_up_self _ _ _
theorem set_ne {S : PS} {q x : Nat} {e : pE} (h : x ≠ q) : (p_set S q e).2 x = S.2 x := va_up_ne _ _ h
theorem keeps_nil {C : List Nat} {S S1 : PS} {ow ow1 : Ow} (h : keeps [] S ow S1 ow1) : keeps C S ow S1 ow1 := h.mono (fun _ z => by cases z)
/-- one cell has changed -/
def ch1 (a : Nat) (S S1 : PS) : Prop := S1.1 = S.1 ∧ ∀ q, q ≠ a → S1.2 q = S.2 q
theorem ch1.trans {a : Nat} {S S1 S2 : PS} (h : ch1 a S S1) (h2 : ch1 a S1 S2) : ch1 a S S2 := ⟨h2.1.trans h.1, fun q q1 => (h2.2 q q1).trans (h.2 q q1)⟩
theorem keeps_1 {S S1 : PS} {ow : Ow} {a c : Nat} (h : ch1 a S S1) (hc : ow a = c) : keeps [c] S ow S1 ow := fun q hq => ⟨by rw [h.1]; exact hq, rfl, fun hn => h.2 q (fun z => hn (by rw [z, hc]; exact List.mem_singleton.mpr rfl))⟩
theorem pV_to {S : PS} {a ci k : Nat} {fs fs' : List Value} {v : Value} {kk : PS → Prop} (ha : a ∈ S.1) (he : S.2 a = .inr (ci, fs)) (hk : k < fs.length) (hs : fs.set k v = fs') (next : ∀ S1, ch1 a S S1 → a ∈ S1.1 → S1.2 a = .inr (ci, fs') → kk S1) : pV S a ci k v kk := by
  rw [pV_eq ha he hk, hs]
  exact next _ ⟨rfl, fun q hq => set_ne hq⟩ ha set_at
def v0F : Vt := fun _ => 0
theorem v_init {S : PS} {ow : Ow} {a c bc bs : Nat} {post : PS → Prop} (ha : a ∈ S.1) (hc : ow a = c) (he : S.2 a = .inr (10, [.null, .int 0, .int 0, .int 0, .int 0, .int 0])) (h1 : 1 ≤ bc) (h2 : 81 ≤ bs) (next : ∀ S1 ow1, keeps [c] S ow S1 ow1 → Pv S1 ow1 c a v0F → post S1) : f_X6_init S a bc bs post := by
  unfold f_X6_init
  have hcl : (81 : Int32).toNatClampNeg = 81 := nI_clamp (n := 81) (by omega)
  refine ⟨by decide, by rw [hcl]; omega, h1, by rw [hcl]; exact h2, fun q hq => ?_⟩
  have hne : a ≠ q := fun z => hq (by rw [← z]; exact ha)
  rw [hcl]
  obtain ⟨S2, e2⟩ : ∃ S2, S2 = p_add S q (.inl (0, 81, .inl (fun _ => 0))) := ⟨_, rfl⟩
  rw [← e2]
  have hk2 : keeps [] S ow S2 (un ow q c) := by rw [e2]; exact keeps_add hq
  have ha2 : a ∈ S2.1 := (hk2 a ha).1
  have hea : S2.2 a = .inr (10, [.null, .int 0, .int 0, .int 0, .int 0, .int 0]) := ((hk2 a ha).2.2 (by simp)).trans he
  have hoa : un ow q c a = c := (un_ne hne).trans hc
  have hq2 : q ∈ S2.1 := by rw [e2]; exact add_mem
  have heq : S2.2 q = .inl (0, 81, .inl (fun _ => 0)) := by rw [e2]; exact add_at
  dsimp only
  refine pV_to ha2 hea (by show 0 < 6; decide) rfl (fun S3 c3 m3 e3 => ?_)
  refine pV_to m3 e3 (by show 1 < 6; decide) rfl (fun S4 c4 m4 e4 => ?_)
  refine pV_to m4 e4 (by show 2 < 6; decide) rfl (fun S5 c5 m5 e5 => ?_)
  refine pV_to m5 e5 (by show 3 < 6; decide) rfl (fun S6 c6 m6 e6 => ?_)
  refine pV_to m6 e6 (by show 4 < 6; decide) rfl (fun S7 c7 m7 e7 => ?_)
  refine pV_to m7 e7 (by show 5 < 6; decide) rfl (fun S8 c8 m8 e8 => ?_)
  have call := ((((c3.trans c4).trans c5).trans c6).trans c7).trans c8
  refine next S8 (un ow q c) ((keeps_nil hk2).trans (keeps_1 call hoa)) ⟨q, ⟨m8, by rw [call.1]; exact hq2, e8, fun _ => 0, ?_, fun k _ => rfl⟩, hoa, un_at⟩
  rw [call.2 q (Ne.symm hne)]
  exact heq
theorem pv_copy {S : PS} {ow : Ow} {c d a b : Nat} {v w : Vt} {post : PS → Prop} (hV : Pv S ow c a v) (hW : Pv S ow d b w) (hcd : c ≠ d) (next : ∀ S1, keeps [c] S ow S1 ow → Pv S1 ow c a w → post S1) : f_X6_copyFrom S a b post := by
  obtain ⟨t, h1, ha, ht⟩ := hV
  obtain ⟨u, h2, hb, hu⟩ := hW
  refine v_copy h1 h2 (fun z => ?_) (fun z => ?_) (fun z => ?_) (fun z => ?_) (fun S1 hc hn => next S1 (keeps_V hc ha ht) ⟨t, hn, ha, ht⟩)
  · rw [z, ha] at hb; exact hcd hb
  · rw [z, ht] at hb; exact hcd hb
  · rw [z, ha] at hu; exact hcd hu
  · rw [z, ht] at hu; exact hcd hu
theorem pv_O {S : PS} {ow : Ow} {c a : Nat} {v : Vt} (h : Pv S ow c a v) {P : Prop} : isO S a 10 P = P := by obtain ⟨t, h1, -⟩ := h; exact VO h1
theorem mod_slot {nx i : Nat} (hn : nx < 8) (hi : i < 8) (h : (nx + 7 - i) % 8 = nx) : i = 7 := by omega
theorem h_keep28 {S : PS} {ow : Ow} {a b c ra nx q : Nat} {hs : List Vt} {v w0 : Vt} {f : Nat → Option Nat} {bc bs : Nat} {post : PS → Prop} (ha : a ∈ S.1) (hra : ra ∈ S.1) (oa : ow a = 3) (ora : ow ra = 3) (ea : S.2 a = .inr (6, [.ref ra, .int (nI nx), .int (nI hs.length)])) (era : S.2 ra = .inl (3, 8, .inr (.inr (.inr (.inr f))))) (hnx : nx < 8) (hlen : hs.length ≤ 8) (hall : ∀ i b, i < 8 → f i = some b → ∃ w, Pv S ow (20 + i) b w) (hhs : ∀ i w, hs[i]? = some w → i < 7 → ∃ b, f ((nx + 7 - i) % 8) = some b ∧ Pv S ow (20 + (nx + 7 - i) % 8) b w) (hq : f nx = some q) (hqv : Pv S ow (20 + nx) q w0) (hb : Pv S ow c b v) (hc : c < 20) (hc3 : c ≠ 3)
    (next : ∀ S1, keeps [3, 20 + nx] S ow S1 ow → P3 S1 ow a ((v :: hs).take 8) → post S1) : f_X2_keep_J28 post S bc bs a b := by
  have hara : a ≠ ra := fun z => by rw [z, era] at ea; cases ea
  unfold f_X2_keep_J28
  rw [gR_eq ha ea rfl, gI_eq ha ea rfl]
  refine ⟨hra, 8, f, q, era, vp_in_nI hnx (by omega), by rw [nI_clamp (by omega)]; exact hq, ?_⟩
  dsimp only
  rw [pv_O hqv]
  refine pv_copy hqv hb (by omega) (fun S4 k4 n4 => ?_)
  obtain ⟨a1, a2, a3⟩ := k4 a ha
  have ea4 : S4.2 a = .inr (6, [.ref ra, .int (nI nx), .int (nI hs.length)]) := (a3 (by rw [oa]; simp; omega)).trans ea
  obtain ⟨b1, b2, b3⟩ := k4 ra hra
  have era4 : S4.2 ra = .inl (3, 8, .inr (.inr (.inr (.inr f)))) := (b3 (by rw [ora]; simp; omega)).trans era
  obtain ⟨nx', hnx'⟩ : ∃ nx', nx' = (nx + 1) % 8 := ⟨_, rfl⟩
  have fin : ∀ t0 : Int32, t0 = nI nx' → f_X2_keep_J61 post S4 bc bs a t0 a := fun t0 ht0 => by
    unfold f_X2_keep_J61
    refine pV_to a1 ea4 (by show 1 < 3; decide) rfl (fun S5 c5 m5 e5 => ?_)
    rw [gI_eq m5 e5 rfl]
    refine pV_to m5 e5 (by show 2 < 3; decide) rfl (fun S6 c6 m6 e6 => ?_)
    have call := c5.trans c6
    have k6 : keeps [3] S4 ow S6 ow := keeps_1 call oa
    have k06 : keeps [3, 20 + nx] S ow S6 ow := (k4.mono (fun x hx => by rw [List.mem_singleton.mp hx]; simp)).trans (k6.mono (fun x hx => by rw [List.mem_singleton.mp hx]; simp))
    have hl : ((v :: hs).take 8).length = if 8 < hs.length + 1 then 8 else hs.length + 1 := by
      rw [List.length_take, List.length_cons]
      split <;> omega
    refine next S6 k06 ⟨ra, nx', f, (k06 a ha).1, (k06 ra hra).1, oa, ora, ?_, ?_, by omega, by rw [hl]; split <;> omega, fun i b' hi hf => ?_, fun i w hw => ?_⟩
    · rw [e6, ht0, hl, nI_1]
      by_cases e : 8 < hs.length + 1
      · rw [if_pos (show (8 : Int32) < nI (hs.length + 1) from nI_lt (a := 8) e (by omega)), if_pos e]; rfl
      · rw [if_neg (show ¬ (8 : Int32) < nI (hs.length + 1) from nI_nlt (b := hs.length + 1) (a := 8) (by omega) (by omega)), if_neg e]; rfl
    · rw [call.2 ra (Ne.symm hara)]; exact era4
    · by_cases e : i = nx
      · subst e
        rw [hq] at hf; cases hf
        exact ⟨v, Pv_fr n4 k6 (by simp; omega)⟩
      · obtain ⟨w, hw⟩ := hall i b' hi hf
        exact ⟨w, Pv_fr hw k06 (by simp; omega)⟩
    · have hi8 : i < 8 := by
        rcases Nat.lt_or_ge i 8 with h | h
        · exact h
        · rw [List.getElem?_eq_none (by rw [List.length_take]; omega)] at hw; cases hw
      rw [List.getElem?_take_of_lt hi8] at hw
      cases i with
      | zero =>
        cases hw
        have e : (nx' + 7 - 0) % 8 = nx := by omega
        rw [e]
        exact ⟨q, hq, Pv_fr n4 k6 (by simp; omega)⟩
      | succ i =>
        rw [List.getElem?_cons_succ] at hw
        obtain ⟨b', hb1, hb2⟩ := hhs i w hw (by omega)
        have e : (nx' + 7 - (i + 1)) % 8 = (nx + 7 - i) % 8 := by omega
        rw [e]
        exact ⟨b', hb1, Pv_fr hb2 k06 (by simp; omega)⟩
  rw [gI_eq a1 ea4 rfl]
  by_cases e : nx = 7
  · rw [if_pos (by rw [e]; rfl)]
    exact fin 0 (by rw [hnx', e]; rfl)
  · rw [if_neg (show ¬ nI nx = 7 from fun z => e (((nI_eq (by omega) (show 7 < 2 ^ 31 by omega)).mp z))), gI_eq a1 ea4 rfl, nI_1]
    exact fin _ (by rw [hnx', show (nx + 1) % 8 = nx + 1 by omega])
theorem h_keep {S : PS} {ow : Ow} {a b c : Nat} {hs : List Vt} {v : Vt} {bc bs : Nat} {post : PS → Prop} (h3 : P3 S ow a hs) (hb : Pv S ow c b v) (hc : c < 20) (hc3 : c ≠ 3) (h1 : 2 ≤ bc) (h2 : 87 ≤ bs)
    (next : ∀ S1 ow1 i, i < 8 → keeps [3, 20 + i] S ow S1 ow1 → P3 S1 ow1 a ((v :: hs).take 8) → post S1) : f_X2_keep S a b bc bs post := by
  obtain ⟨ra, nx, f, ha, hra, oa, ora, ea, era, hnx, hlen, hall, hhs⟩ := h3
  have hara : a ≠ ra := fun z => by rw [z, era] at ea; cases ea
  unfold f_X2_keep
  rw [gR_eq ha ea rfl, gI_eq ha ea rfl]
  refine ⟨hra, 8, f, era, vp_in_nI hnx (by omega), ?_⟩
  rw [nI_clamp (by omega)]
  cases hf : f nx with
  | some q =>
    obtain ⟨w0, hw0⟩ := hall nx q hnx hf
    exact h_keep28 ha hra oa ora ea era hnx hlen hall (fun i w hw _ => hhs i w hw) hf hw0 hb hc hc3 (fun S1 k n => next S1 ow nx hnx k n)
  | none =>
    dsimp only
    rw [gR_eq ha ea rfl, gI_eq ha ea rfl]
    refine ⟨by omega, by omega, fun q hq => ⟨1, 81, by omega, by omega, ?_⟩⟩
    obtain ⟨S8, e8⟩ : ∃ S8, S8 = p_add S q (.inr (10, [.null, .int 0, .int 0, .int 0, .int 0, .int 0])) := ⟨_, rfl⟩
    rw [← e8]
    have k8 : keeps [] S ow S8 (un ow q (20 + nx)) := by rw [e8]; exact keeps_add hq
    refine v_init (ow := un ow q (20 + nx)) (c := 20 + nx) (by rw [e8]; exact add_mem) un_at (by rw [e8]; exact add_at) (by omega) (by omega) (fun S11 ow1 k11 n11 => ?_)
    have k011 : keeps [20 + nx] S ow S11 ow1 := (keeps_nil k8).trans k11
    obtain ⟨a1, a2, a3⟩ := k011 a ha
    obtain ⟨b1, b2, b3⟩ := k011 ra hra
    have oa1 : ow1 a = 3 := a2.trans oa
    have ora1 : ow1 ra = 3 := b2.trans ora
    have ea1 : S11.2 a = .inr (6, [.ref ra, .int (nI nx), .int (nI hs.length)]) := (a3 (by rw [oa]; simp; omega)).trans ea
    have era1 : S11.2 ra = .inl (3, 8, .inr (.inr (.inr (.inr f)))) := (b3 (by rw [ora]; simp; omega)).trans era
    obtain ⟨tq, hq1, oq, otq⟩ := n11
    refine ⟨b1, hq1.1, ⟨_, hq1.2.2.1⟩, 8, f, era1, vp_in_nI hnx (by omega), ?_⟩
    rw [nI_clamp (by omega)]
    obtain ⟨S14, e14⟩ : ∃ S14, S14 = p_set S11 ra (.inl (3, 8, .inr (.inr (.inr (.inr (va_up f nx (some q))))))) := ⟨_, rfl⟩
    rw [← e14]
    have k14 : keeps [3] S11 ow1 S14 ow1 := by rw [e14]; exact keeps_set ora1
    have k014 : keeps [3, 20 + nx] S ow S14 ow1 := (k011.mono (fun x hx => by rw [List.mem_singleton.mp hx]; simp)).trans (k14.mono (fun x hx => by rw [List.mem_singleton.mp hx]; simp))
    refine h_keep28 (hs := hs) (f := va_up f nx (some q)) (q := q) (w0 := v0F) (by rw [e14]; exact a1) (by rw [e14]; exact b1) oa1 ora1 (by rw [e14, set_ne hara]; exact ea1) (by rw [e14]; exact set_at) hnx hlen (fun i b' hi hf' => ?_) (fun i w hw hi7 => ?_) (va_up_self _ _ _) (Pv_fr ⟨tq, hq1, oq, otq⟩ k14 (by simp; omega)) (Pv_fr hb k014 (by simp; omega)) hc hc3 (fun S1 k n => next S1 ow1 nx hnx (k014.trans k) n)
    · by_cases e : i = nx
      · subst e
        rw [va_up_self] at hf'; cases hf'
        exact ⟨_, Pv_fr ⟨tq, hq1, oq, otq⟩ k14 (by simp; omega)⟩
      · rw [va_up_ne _ _ e] at hf'
        obtain ⟨w, hw⟩ := hall i b' hi hf'
        exact ⟨w, Pv_fr hw k014 (by simp; omega)⟩
    · obtain ⟨b', hb1, hb2⟩ := hhs i w hw
      have e : (nx + 7 - i) % 8 ≠ nx := by omega
      exact ⟨b', by rw [va_up_ne _ _ e]; exact hb1, Pv_fr hb2 k014 (by simp; omega)⟩
