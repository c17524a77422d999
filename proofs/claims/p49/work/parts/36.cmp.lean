/-! who owns which cell: a colour for each address; what each part of the class looks like in the pool, and that it stays so while only others change -/
abbrev Ow : Type := Nat → Nat
abbrev Vt : Type := Nat → Nat
def keeps (C : List Nat) (S : PS) (ow : Ow) (S1 : PS) (ow1 : Ow) : Prop := ∀ q, q ∈ S.1 → q ∈ S1.1 ∧ ow1 q = ow q ∧ (ow q ∉ C → S1.2 q = S.2 q)
theorem keeps.refl {C : List Nat} {S : PS} {ow : Ow} : keeps C S ow S ow := fun _ h => ⟨h, rfl, fun _ => rfl⟩
theorem keeps.trans {C : List Nat} {S S1 S2 : PS} {ow ow1 ow2 : Ow} (h : keeps C S ow S1 ow1) (h2 : keeps C S1 ow1 S2 ow2) : keeps C S ow S2 ow2 := fun q hq => by
  obtain ⟨a1, a2, a3⟩ := h q hq
  obtain ⟨b1, b2, b3⟩ := h2 q a1
  exact ⟨b1, b2.trans a2, fun hc => (b3 (by rw [a2]; exact hc)).trans (a3 hc)⟩
theorem keeps.mono {C D : List Nat} {S S1 : PS} {ow ow1 : Ow} (h : keeps C S ow S1 ow1) (hs : ∀ c, c ∈ C → c ∈ D) : keeps D S ow S1 ow1 := fun q hq => by
  obtain ⟨a1, a2, a3⟩ := h q hq
  exact ⟨a1, a2, fun hc => a3 (fun z => hc (hs _ z))⟩
theorem keeps_V {a t c : Nat} {S S1 : PS} {ow : Ow} (h : chV a t S S1) (ha : ow a = c) (ht : ow t = c) : keeps [c] S ow S1 ow := fun q hq => ⟨by rw [h.1]; exact hq, rfl, fun hc => h.2 q (fun z => hc (by rw [z, ha]; exact List.mem_singleton.mpr rfl)) (fun z => hc (by rw [z, ht]; exact List.mem_singleton.mpr rfl))⟩
theorem keeps_OS {n ci c : Nat} {fl : (Nat → Int32) → List Value} {rk rl : Nat → Nat} {S S1 : PS} {B : Nat → Nat} {F : Nat → Int32} {h : Nat → Nat → Int32} {ow : Ow} (H : OS n ci fl rk rl S B F h S1) (hc : ∀ k, k < n → ow (B k) = c) : keeps [c] S ow S1 ow := fun q hq => ⟨by rw [H.1]; exact hq, rfl, fun hn => H.2.1 q (fun k hk z => hn (by rw [z, hc k hk]; exact List.mem_singleton.mpr rfl))⟩
theorem OS_re {n ci : Nat} {fl : (Nat → Int32) → List Value} {rk rl : Nat → Nat} {S S1 : PS} {B : Nat → Nat} {F : Nat → Int32} {h : Nat → Nat → Int32} (H : OS n ci fl rk rl S B F h S1) : OS n ci fl rk rl S1 B F h S1 := ⟨rfl, fun _ _ => rfl, H.2.2.1, H.2.2.2⟩
theorem oB_re {n ci : Nat} {fl : (Nat → Int32) → List Value} {rk rl : Nat → Nat} {S S1 : PS} {B : Nat → Nat} {F : Nat → Int32} {h : Nat → Nat → Int32} (hB : oB n S B) (H : OS n ci fl rk rl S B F h S1) : oB n S1 B := ⟨hB.1, fun k hk => by rw [H.1]; exact hB.2 k hk⟩
/-- an object with arrays of numbers, all of one colour -/
def Po (n ci : Nat) (fl : (Nat → Nat) → (Nat → Int32) → List Value) (rk rl : Nat → Nat) (S : PS) (ow : Ow) (c : Nat) (B : Nat → Nat) (F : Nat → Int32) (h : Nat → Nat → Int32) : Prop := oB n S B ∧ OS n ci (fl B) rk rl S B F h S ∧ ∀ k, k < n → ow (B k) = c
theorem Po_fr {n ci c : Nat} {fl : (Nat → Nat) → (Nat → Int32) → List Value} {rk rl : Nat → Nat} {S S1 : PS} {ow ow1 : Ow} {B : Nat → Nat} {F : Nat → Int32} {h : Nat → Nat → Int32} {C : List Nat} (hn : 0 < n) (h1 : Po n ci fl rk rl S ow c B F h) (hk : keeps C S ow S1 ow1) (hc : c ∉ C) : Po n ci fl rk rl S1 ow1 c B F h := by
  obtain ⟨hB, H, ho⟩ := h1
  have e : ∀ k, k < n → B k ∈ S1.1 ∧ ow1 (B k) = c ∧ S1.2 (B k) = S.2 (B k) := fun k h2 => by
    obtain ⟨a1, a2, a3⟩ := hk (B k) (hB.2 k h2)
    exact ⟨a1, a2.trans (ho k h2), a3 (by rw [ho k h2]; exact hc)⟩
  exact ⟨⟨hB.1, fun k h2 => (e k h2).1⟩, ⟨rfl, fun _ _ => rfl, by rw [(e 0 hn).2.2]; exact H.2.2.1, fun k h0 h2 => by rw [(e k h2).2.2]; exact H.2.2.2 k h0 h2⟩, fun k h2 => (e k h2).2.1⟩
theorem Po_of {n ci c : Nat} {fl : (Nat → Nat) → (Nat → Int32) → List Value} {rk rl : Nat → Nat} {S S1 : PS} {ow : Ow} {B : Nat → Nat} {F : Nat → Int32} {h : Nat → Nat → Int32} (hB : oB n S B) (H : OS n ci (fl B) rk rl S B F h S1) (hc : ∀ k, k < n → ow (B k) = c) : Po n ci fl rk rl S1 ow c B F h := ⟨oB_re hB H, OS_re H, hc⟩
def Pv (S : PS) (ow : Ow) (c a : Nat) (v : Vt) : Prop := ∃ t, isV S a t v ∧ ow a = c ∧ ow t = c
theorem Pv_fr {S S1 : PS} {ow ow1 : Ow} {C : List Nat} {c a : Nat} {v : Vt} (h : Pv S ow c a v) (hk : keeps C S ow S1 ow1) (hc : c ∉ C) : Pv S1 ow1 c a v := by
  obtain ⟨t, ⟨h1, h2, h3, h4⟩, ha, ht⟩ := h
  obtain ⟨a1, a2, a3⟩ := hk a h1
  obtain ⟨b1, b2, b3⟩ := hk t h2
  exact ⟨t, ⟨a1, b1, by rw [a3 (by rw [ha]; exact hc)]; exact h3, by rw [b3 (by rw [ht]; exact hc)]; exact h4⟩, a2.trans ha, b2.trans ht⟩
theorem Pv_ne {S : PS} {ow : Ow} {c d a b : Nat} {v w : Vt} (h : Pv S ow c a v) (h2 : Pv S ow d b w) (hcd : c ≠ d) : a ≠ b := by
  obtain ⟨t, -, ha, -⟩ := h
  obtain ⟨u, -, hb, -⟩ := h2
  intro e; rw [e, hb] at ha; exact hcd ha.symm
/-- the changes that can be undone, the latest one first -/
def P3 (S : PS) (ow : Ow) (a : Nat) (hs : List Vt) : Prop := ∃ (ra nx : Nat) (f : Nat → Option Nat), a ∈ S.1 ∧ ra ∈ S.1 ∧ ow a = 3 ∧ ow ra = 3 ∧ S.2 a = .inr (6, [.ref ra, .int (nI nx), .int (nI hs.length)]) ∧ S.2 ra = .inl (3, 8, .inr (.inr (.inr (.inr f)))) ∧ nx < 8 ∧ hs.length ≤ 8 ∧ (∀ i b, i < 8 → f i = some b → ∃ w, Pv S ow (20 + i) b w) ∧ ∀ i w, hs[i]? = some w → ∃ b, f ((nx + 7 - i) % 8) = some b ∧ Pv S ow (20 + (nx + 7 - i) % 8) b w
theorem P3_fr {S S1 : PS} {ow ow1 : Ow} {C : List Nat} {a : Nat} {hs : List Vt} (h : P3 S ow a hs) (hk : keeps C S ow S1 ow1) (hc : 3 ∉ C) (hr : ∀ i, i < 8 → 20 + i ∉ C) : P3 S1 ow1 a hs := by
  obtain ⟨ra, nx, f, h1, h2, h3, h4, h5, h6, h7, h8, h9, h10⟩ := h
  obtain ⟨a1, a2, a3⟩ := hk a h1
  obtain ⟨b1, b2, b3⟩ := hk ra h2
  refine ⟨ra, nx, f, a1, b1, a2.trans h3, b2.trans h4, by rw [a3 (by rw [h3]; exact hc)]; exact h5, by rw [b3 (by rw [h4]; exact hc)]; exact h6, h7, h8, fun i b hi hf => ?_, fun i w hw => ?_⟩
  · obtain ⟨w, hw⟩ := h9 i b hi hf
    exact ⟨w, Pv_fr hw hk (hr i hi)⟩
  · obtain ⟨b, hb1, hb2⟩ := h10 i w hw
    exact ⟨b, hb1, Pv_fr hb2 hk (hr _ (Nat.mod_lt _ (by omega)))⟩
def P4 (S : PS) (ow : Ow) (a : Nat) : Prop := ∃ B F h, B 0 = a ∧ Po 6 7 cfs (fun _ => 0) crl S ow 4 B F h
def P5 (S : PS) (ow : Ow) (a : Nat) : Prop := ∃ B F h, B 0 = a ∧ Po 2 4 dfs (fun _ => 0) (fun _ => 256) S ow 5 B F h ∧ h 1 0 = 0
def P6 (S : PS) (ow : Ow) (a : Nat) : Prop := ∃ B F h, B 0 = a ∧ Po 4 5 ffs (fun _ => 0) frl S ow 6 B F h
/-- a text being built: its letters -/
def sb (S : PS) (ow : Ow) (c a cap : Nat) (l : List Nat) : Prop := ∃ (ba : Nat) (m : Int32) (f : Nat → Int32), a ∈ S.1 ∧ ba ∈ S.1 ∧ a ≠ ba ∧ ow a = c ∧ ow ba = c ∧ S.2 a = .inr (1, [.ref ba, .int 0, .int m, .int (nI l.length)]) ∧ S.2 ba = .inl (1, cap, .inl f) ∧ l.length ≤ cap ∧ 16 ≤ cap ∧ cap ≤ 1000 ∧ (∀ i x, l[i]? = some x → x < 128 ∧ f i = nI x) ∧ ∀ i, fits .byte (.int (f i)) = true
theorem sb_fr {S S1 : PS} {ow ow1 : Ow} {C : List Nat} {c a cap : Nat} {l : List Nat} (h : sb S ow c a cap l) (hk : keeps C S ow S1 ow1) (hc : c ∉ C) : sb S1 ow1 c a cap l := by
  obtain ⟨ba, m, f, h1, h2, h3, h4, h5, h6, h7, h8⟩ := h
  obtain ⟨a1, a2, a3⟩ := hk a h1
  obtain ⟨b1, b2, b3⟩ := hk ba h2
  exact ⟨ba, m, f, a1, b1, h3, a2.trans h4, b2.trans h5, by rw [a3 (by rw [h4]; exact hc)]; exact h6, by rw [b3 (by rw [h5]; exact hc)]; exact h7, h8⟩
/-- the input, and what was read of it: kinds, numbers, how many orders, the position, the fault -/
def tfs (sa : Nat) (B : Nat → Nat) (F : Nat → Int32) : List Value := [.ref sa, .ref (B 1), .ref (B 2), .int (F 3), .int (F 4), .int (F 5), .int (F 6)]
def trl (k : Nat) : Nat := if k = 1 then 15 else 45
def P7 (S : PS) (ow : Ow) (a : Nat) (tx : List Nat) (fa : Int32) : Prop := ∃ sa cap B F h, B 0 = a ∧ Po 3 9 (tfs sa) (fun _ => 0) trl S ow 7 B F h ∧ sb S ow 17 sa cap tx ∧ F 6 = fa
theorem P7_fr {S S1 : PS} {ow ow1 : Ow} {C : List Nat} {a : Nat} {tx : List Nat} {fa : Int32} (h : P7 S ow a tx fa) (hk : keeps C S ow S1 ow1) (hc : 7 ∉ C) (hc2 : 17 ∉ C) : P7 S1 ow1 a tx fa := by
  obtain ⟨sa, cap, B, F, h, h1, h2, h3, h4⟩ := h
  exact ⟨sa, cap, B, F, h, h1, Po_fr (by omega) h2 hk hc, sb_fr h3 hk hc2, h4⟩
def P8 (S : PS) (ow : Ow) (a : Nat) (r : Nat → Int32) : Prop := a ∈ S.1 ∧ ow a = 8 ∧ S.2 a = .inr (8, [.int (r 0), .int (r 1), .int (r 2), .int (r 3)])
theorem P8_fr {S S1 : PS} {ow ow1 : Ow} {C : List Nat} {a : Nat} {r : Nat → Int32} (h : P8 S ow a r) (hk : keeps C S ow S1 ow1) (hc : 8 ∉ C) : P8 S1 ow1 a r := by
  obtain ⟨h1, h2, h3⟩ := h
  obtain ⟨a1, a2, a3⟩ := hk a h1
  exact ⟨a1, a2.trans h2, by rw [a3 (by rw [h2]; exact hc)]; exact h3⟩
def P9 (S : PS) (ow : Ow) (a : Nat) (ln : List Nat) : Prop := ∃ cap, sb S ow 9 a cap ln
def P10 (S : PS) (ow : Ow) (a : Nat) (f : Nat → Int32) : Prop := a ∈ S.1 ∧ ow a = 10 ∧ S.2 a = .inl (0, 9, .inl f)
theorem P10_fr {S S1 : PS} {ow ow1 : Ow} {C : List Nat} {a : Nat} {f : Nat → Int32} (h : P10 S ow a f) (hk : keeps C S ow S1 ow1) (hc : 10 ∉ C) : P10 S1 ow1 a f := by
  obtain ⟨h1, h2, h3⟩ := h
  obtain ⟨a1, a2, a3⟩ := hk a h1
  exact ⟨a1, a2.trans h2, by rw [a3 (by rw [h2]; exact hc)]; exact h3⟩
/-- the object itself, with what was saved -/
def P12 (S : PS) (ow : Ow) (A : Nat → Nat) (sv : Option Vt) : Prop := A 12 ∈ S.1 ∧ ow (A 12) = 12 ∧ ∃ so, S.2 (A 12) = .inr (11, [.ref (A 0), .ref (A 1), .ref (A 2), .ref (A 3), .ref (A 4), .ref (A 5), .ref (A 6), .ref (A 7), .ref (A 8), .ref (A 9), .ref (A 10), va_rf so]) ∧ ((sv = none ∧ so = none) ∨ ∃ b w, sv = some w ∧ so = some b ∧ Pv S ow 11 b w)
theorem P12_fr {S S1 : PS} {ow ow1 : Ow} {C : List Nat} {A : Nat → Nat} {sv : Option Vt} (h : P12 S ow A sv) (hk : keeps C S ow S1 ow1) (hc : 12 ∉ C) (hc2 : 11 ∉ C) : P12 S1 ow1 A sv := by
  obtain ⟨h1, h2, so, h3, h4⟩ := h
  obtain ⟨a1, a2, a3⟩ := hk _ h1
  refine ⟨a1, a2.trans h2, so, by rw [a3 (by rw [h2]; exact hc)]; exact h3, ?_⟩
  rcases h4 with h4 | ⟨b, w, e1, e2, e3⟩
  · exact Or.inl h4
  · exact Or.inr ⟨b, w, e1, e2, Pv_fr e3 hk hc2⟩
/-- the class as a whole -/
def CI (S : PS) (ow : Ow) (A : Nat → Nat) (v : Vt) (hs : List Vt) (sv : Option Vt) (r : Nat → Int32) (tx : List Nat) (fa : Int32) (ln : List Nat) : Prop :=
  P12 S ow A sv ∧ Pv S ow 0 (A 0) v ∧ (∃ w, Pv S ow 1 (A 1) w) ∧ (∃ w, Pv S ow 2 (A 2) w) ∧ P3 S ow (A 3) hs ∧ P4 S ow (A 4) ∧ P5 S ow (A 5) ∧ P6 S ow (A 6) ∧ P7 S ow (A 7) tx fa ∧ P8 S ow (A 8) r ∧ P9 S ow (A 9) ln ∧ ∃ f, P10 S ow (A 10) f
/-- the class's colours -/
def CC : List Nat := [0, 1, 2, 3, 4, 5, 6, 7, 8, 9, 10, 11, 12, 17, 20, 21, 22, 23, 24, 25, 26, 27]
theorem CI_fr {S S1 : PS} {ow ow1 : Ow} {C : List Nat} {A : Nat → Nat} {v : Vt} {hs : List Vt} {sv : Option Vt} {r : Nat → Int32} {tx : List Nat} {fa : Int32} {ln : List Nat} (h : CI S ow A v hs sv r tx fa ln) (hk : keeps C S ow S1 ow1) (hc : ∀ c, c ∈ CC → c ∉ C) : CI S1 ow1 A v hs sv r tx fa ln := by
  obtain ⟨h12, h0, ⟨w1, h1⟩, ⟨w2, h2⟩, h3, ⟨B4, F4, g4, e4, h4⟩, ⟨B5, F5, g5, e5, h5, z5⟩, ⟨B6, F6, g6, e6, h6⟩, h7, h8, ⟨cp, h9⟩, f, h10⟩ := h
  exact ⟨P12_fr h12 hk (hc 12 (by decide)) (hc 11 (by decide)), Pv_fr h0 hk (hc 0 (by decide)), ⟨w1, Pv_fr h1 hk (hc 1 (by decide))⟩, ⟨w2, Pv_fr h2 hk (hc 2 (by decide))⟩, P3_fr h3 hk (hc 3 (by decide)) (fun i hi => hc (20 + i) (by rcases (show i = 0 ∨ i = 1 ∨ i = 2 ∨ i = 3 ∨ i = 4 ∨ i = 5 ∨ i = 6 ∨ i = 7 by omega) with rfl | rfl | rfl | rfl | rfl | rfl | rfl | rfl <;> decide)), ⟨B4, F4, g4, e4, Po_fr (by omega) h4 hk (hc 4 (by decide))⟩, ⟨B5, F5, g5, e5, Po_fr (by omega) h5 hk (hc 5 (by decide)), z5⟩, ⟨B6, F6, g6, e6, Po_fr (by omega) h6 hk (hc 6 (by decide))⟩, P7_fr h7 hk (hc 7 (by decide)) (hc 17 (by decide)), P8_fr h8 hk (hc 8 (by decide)), ⟨cp, sb_fr h9 hk (hc 9 (by decide))⟩, f, P10_fr h10 hk (hc 10 (by decide))⟩
theorem CI_rng {i : Nat} (hi : i < 8) {C : List Nat} (h : ∀ c, c ∈ C → c < 20) : 20 + i ∉ C := fun z => by have := h _ z; omega
section CIU
variable {S S1 : PS} {ow ow1 : Ow} {A : Nat → Nat} {v : Vt} {hs : List Vt} {sv : Option Vt} {r : Nat → Int32} {tx : List Nat} {fa : Int32} {ln : List Nat}
/-- one part has changed, the others stand -/
theorem CI_up0 {v' : Vt} (h : CI S ow A v hs sv r tx fa ln) (hk : keeps [0] S ow S1 ow1) (hn : Pv S1 ow1 0 (A 0) v') : CI S1 ow1 A v' hs sv r tx fa ln := by
  obtain ⟨h12, h0, ⟨w1, h1⟩, ⟨w2, h2⟩, h3, ⟨B4, F4, g4, e4, h4⟩, ⟨B5, F5, g5, e5, h5, z5⟩, ⟨B6, F6, g6, e6, h6⟩, h7, h8, ⟨cp, h9⟩, f, h10⟩ := h
  exact ⟨P12_fr h12 hk (by decide) (by decide), hn, ⟨w1, Pv_fr h1 hk (by decide)⟩, ⟨w2, Pv_fr h2 hk (by decide)⟩, P3_fr h3 hk (by decide) (fun i hi => CI_rng hi (by decide)), ⟨B4, F4, g4, e4, Po_fr (by omega) h4 hk (by decide)⟩, ⟨B5, F5, g5, e5, Po_fr (by omega) h5 hk (by decide), z5⟩, ⟨B6, F6, g6, e6, Po_fr (by omega) h6 hk (by decide)⟩, P7_fr h7 hk (by decide) (by decide), P8_fr h8 hk (by decide), ⟨cp, sb_fr h9 hk (by decide)⟩, f, P10_fr h10 hk (by decide)⟩
theorem CI_up1 {w : Vt} (h : CI S ow A v hs sv r tx fa ln) (hk : keeps [1] S ow S1 ow1) (hn : Pv S1 ow1 1 (A 1) w) : CI S1 ow1 A v hs sv r tx fa ln := by
  obtain ⟨h12, h0, ⟨w1, h1⟩, ⟨w2, h2⟩, h3, ⟨B4, F4, g4, e4, h4⟩, ⟨B5, F5, g5, e5, h5, z5⟩, ⟨B6, F6, g6, e6, h6⟩, h7, h8, ⟨cp, h9⟩, f, h10⟩ := h
  exact ⟨P12_fr h12 hk (by decide) (by decide), Pv_fr h0 hk (by decide), ⟨w, hn⟩, ⟨w2, Pv_fr h2 hk (by decide)⟩, P3_fr h3 hk (by decide) (fun i hi => CI_rng hi (by decide)), ⟨B4, F4, g4, e4, Po_fr (by omega) h4 hk (by decide)⟩, ⟨B5, F5, g5, e5, Po_fr (by omega) h5 hk (by decide), z5⟩, ⟨B6, F6, g6, e6, Po_fr (by omega) h6 hk (by decide)⟩, P7_fr h7 hk (by decide) (by decide), P8_fr h8 hk (by decide), ⟨cp, sb_fr h9 hk (by decide)⟩, f, P10_fr h10 hk (by decide)⟩
theorem CI_up2 {w : Vt} (h : CI S ow A v hs sv r tx fa ln) (hk : keeps [2] S ow S1 ow1) (hn : Pv S1 ow1 2 (A 2) w) : CI S1 ow1 A v hs sv r tx fa ln := by
  obtain ⟨h12, h0, ⟨w1, h1⟩, ⟨w2, h2⟩, h3, ⟨B4, F4, g4, e4, h4⟩, ⟨B5, F5, g5, e5, h5, z5⟩, ⟨B6, F6, g6, e6, h6⟩, h7, h8, ⟨cp, h9⟩, f, h10⟩ := h
  exact ⟨P12_fr h12 hk (by decide) (by decide), Pv_fr h0 hk (by decide), ⟨w1, Pv_fr h1 hk (by decide)⟩, ⟨w, hn⟩, P3_fr h3 hk (by decide) (fun i hi => CI_rng hi (by decide)), ⟨B4, F4, g4, e4, Po_fr (by omega) h4 hk (by decide)⟩, ⟨B5, F5, g5, e5, Po_fr (by omega) h5 hk (by decide), z5⟩, ⟨B6, F6, g6, e6, Po_fr (by omega) h6 hk (by decide)⟩, P7_fr h7 hk (by decide) (by decide), P8_fr h8 hk (by decide), ⟨cp, sb_fr h9 hk (by decide)⟩, f, P10_fr h10 hk (by decide)⟩
theorem CI_up3 {C : List Nat} {hs' : List Vt} (h : CI S ow A v hs sv r tx fa ln) (hk : keeps C S ow S1 ow1) (hC : ∀ c, c ∈ C → c = 3 ∨ 20 ≤ c) (hn : P3 S1 ow1 (A 3) hs') : CI S1 ow1 A v hs' sv r tx fa ln := by
  obtain ⟨h12, h0, ⟨w1, h1⟩, ⟨w2, h2⟩, h3, ⟨B4, F4, g4, e4, h4⟩, ⟨B5, F5, g5, e5, h5, z5⟩, ⟨B6, F6, g6, e6, h6⟩, h7, h8, ⟨cp, h9⟩, f, h10⟩ := h
  have hc : ∀ c, c < 20 → c ≠ 3 → c ∉ C := fun c h1 h2 z => by have := hC c z; omega
  exact ⟨P12_fr h12 hk (hc 12 (by decide) (by decide)) (hc 11 (by decide) (by decide)), Pv_fr h0 hk (hc 0 (by decide) (by decide)), ⟨w1, Pv_fr h1 hk (hc 1 (by decide) (by decide))⟩, ⟨w2, Pv_fr h2 hk (hc 2 (by decide) (by decide))⟩, hn, ⟨B4, F4, g4, e4, Po_fr (by omega) h4 hk (hc 4 (by decide) (by decide))⟩, ⟨B5, F5, g5, e5, Po_fr (by omega) h5 hk (hc 5 (by decide) (by decide)), z5⟩, ⟨B6, F6, g6, e6, Po_fr (by omega) h6 hk (hc 6 (by decide) (by decide))⟩, P7_fr h7 hk (hc 7 (by decide) (by decide)) (hc 17 (by decide) (by decide)), P8_fr h8 hk (hc 8 (by decide) (by decide)), ⟨cp, sb_fr h9 hk (hc 9 (by decide) (by decide))⟩, f, P10_fr h10 hk (hc 10 (by decide) (by decide))⟩
theorem CI_up4 (h : CI S ow A v hs sv r tx fa ln) (hk : keeps [4] S ow S1 ow1) (hn : P4 S1 ow1 (A 4)) : CI S1 ow1 A v hs sv r tx fa ln := by
  obtain ⟨h12, h0, ⟨w1, h1⟩, ⟨w2, h2⟩, h3, ⟨B4, F4, g4, e4, h4⟩, ⟨B5, F5, g5, e5, h5, z5⟩, ⟨B6, F6, g6, e6, h6⟩, h7, h8, ⟨cp, h9⟩, f, h10⟩ := h
  exact ⟨P12_fr h12 hk (by decide) (by decide), Pv_fr h0 hk (by decide), ⟨w1, Pv_fr h1 hk (by decide)⟩, ⟨w2, Pv_fr h2 hk (by decide)⟩, P3_fr h3 hk (by decide) (fun i hi => CI_rng hi (by decide)), hn, ⟨B5, F5, g5, e5, Po_fr (by omega) h5 hk (by decide), z5⟩, ⟨B6, F6, g6, e6, Po_fr (by omega) h6 hk (by decide)⟩, P7_fr h7 hk (by decide) (by decide), P8_fr h8 hk (by decide), ⟨cp, sb_fr h9 hk (by decide)⟩, f, P10_fr h10 hk (by decide)⟩
theorem CI_up5 (h : CI S ow A v hs sv r tx fa ln) (hk : keeps [5] S ow S1 ow1) (hn : P5 S1 ow1 (A 5)) : CI S1 ow1 A v hs sv r tx fa ln := by
  obtain ⟨h12, h0, ⟨w1, h1⟩, ⟨w2, h2⟩, h3, ⟨B4, F4, g4, e4, h4⟩, ⟨B5, F5, g5, e5, h5, z5⟩, ⟨B6, F6, g6, e6, h6⟩, h7, h8, ⟨cp, h9⟩, f, h10⟩ := h
  exact ⟨P12_fr h12 hk (by decide) (by decide), Pv_fr h0 hk (by decide), ⟨w1, Pv_fr h1 hk (by decide)⟩, ⟨w2, Pv_fr h2 hk (by decide)⟩, P3_fr h3 hk (by decide) (fun i hi => CI_rng hi (by decide)), ⟨B4, F4, g4, e4, Po_fr (by omega) h4 hk (by decide)⟩, hn, ⟨B6, F6, g6, e6, Po_fr (by omega) h6 hk (by decide)⟩, P7_fr h7 hk (by decide) (by decide), P8_fr h8 hk (by decide), ⟨cp, sb_fr h9 hk (by decide)⟩, f, P10_fr h10 hk (by decide)⟩
theorem CI_up6 (h : CI S ow A v hs sv r tx fa ln) (hk : keeps [6] S ow S1 ow1) (hn : P6 S1 ow1 (A 6)) : CI S1 ow1 A v hs sv r tx fa ln := by
  obtain ⟨h12, h0, ⟨w1, h1⟩, ⟨w2, h2⟩, h3, ⟨B4, F4, g4, e4, h4⟩, ⟨B5, F5, g5, e5, h5, z5⟩, ⟨B6, F6, g6, e6, h6⟩, h7, h8, ⟨cp, h9⟩, f, h10⟩ := h
  exact ⟨P12_fr h12 hk (by decide) (by decide), Pv_fr h0 hk (by decide), ⟨w1, Pv_fr h1 hk (by decide)⟩, ⟨w2, Pv_fr h2 hk (by decide)⟩, P3_fr h3 hk (by decide) (fun i hi => CI_rng hi (by decide)), ⟨B4, F4, g4, e4, Po_fr (by omega) h4 hk (by decide)⟩, ⟨B5, F5, g5, e5, Po_fr (by omega) h5 hk (by decide), z5⟩, hn, P7_fr h7 hk (by decide) (by decide), P8_fr h8 hk (by decide), ⟨cp, sb_fr h9 hk (by decide)⟩, f, P10_fr h10 hk (by decide)⟩
theorem CI_up7 {tx' : List Nat} {fa' : Int32} (h : CI S ow A v hs sv r tx fa ln) (hk : keeps [7, 17] S ow S1 ow1) (hn : P7 S1 ow1 (A 7) tx' fa') : CI S1 ow1 A v hs sv r tx' fa' ln := by
  obtain ⟨h12, h0, ⟨w1, h1⟩, ⟨w2, h2⟩, h3, ⟨B4, F4, g4, e4, h4⟩, ⟨B5, F5, g5, e5, h5, z5⟩, ⟨B6, F6, g6, e6, h6⟩, h7, h8, ⟨cp, h9⟩, f, h10⟩ := h
  exact ⟨P12_fr h12 hk (by decide) (by decide), Pv_fr h0 hk (by decide), ⟨w1, Pv_fr h1 hk (by decide)⟩, ⟨w2, Pv_fr h2 hk (by decide)⟩, P3_fr h3 hk (by decide) (fun i hi => CI_rng hi (by decide)), ⟨B4, F4, g4, e4, Po_fr (by omega) h4 hk (by decide)⟩, ⟨B5, F5, g5, e5, Po_fr (by omega) h5 hk (by decide), z5⟩, ⟨B6, F6, g6, e6, Po_fr (by omega) h6 hk (by decide)⟩, hn, P8_fr h8 hk (by decide), ⟨cp, sb_fr h9 hk (by decide)⟩, f, P10_fr h10 hk (by decide)⟩
theorem CI_up8 {r' : Nat → Int32} (h : CI S ow A v hs sv r tx fa ln) (hk : keeps [8] S ow S1 ow1) (hn : P8 S1 ow1 (A 8) r') : CI S1 ow1 A v hs sv r' tx fa ln := by
  obtain ⟨h12, h0, ⟨w1, h1⟩, ⟨w2, h2⟩, h3, ⟨B4, F4, g4, e4, h4⟩, ⟨B5, F5, g5, e5, h5, z5⟩, ⟨B6, F6, g6, e6, h6⟩, h7, h8, ⟨cp, h9⟩, f, h10⟩ := h
  exact ⟨P12_fr h12 hk (by decide) (by decide), Pv_fr h0 hk (by decide), ⟨w1, Pv_fr h1 hk (by decide)⟩, ⟨w2, Pv_fr h2 hk (by decide)⟩, P3_fr h3 hk (by decide) (fun i hi => CI_rng hi (by decide)), ⟨B4, F4, g4, e4, Po_fr (by omega) h4 hk (by decide)⟩, ⟨B5, F5, g5, e5, Po_fr (by omega) h5 hk (by decide), z5⟩, ⟨B6, F6, g6, e6, Po_fr (by omega) h6 hk (by decide)⟩, P7_fr h7 hk (by decide) (by decide), hn, ⟨cp, sb_fr h9 hk (by decide)⟩, f, P10_fr h10 hk (by decide)⟩
theorem CI_up9 {ln' : List Nat} (h : CI S ow A v hs sv r tx fa ln) (hk : keeps [9] S ow S1 ow1) (hn : P9 S1 ow1 (A 9) ln') : CI S1 ow1 A v hs sv r tx fa ln' := by
  obtain ⟨h12, h0, ⟨w1, h1⟩, ⟨w2, h2⟩, h3, ⟨B4, F4, g4, e4, h4⟩, ⟨B5, F5, g5, e5, h5, z5⟩, ⟨B6, F6, g6, e6, h6⟩, h7, h8, ⟨cp, h9⟩, f, h10⟩ := h
  exact ⟨P12_fr h12 hk (by decide) (by decide), Pv_fr h0 hk (by decide), ⟨w1, Pv_fr h1 hk (by decide)⟩, ⟨w2, Pv_fr h2 hk (by decide)⟩, P3_fr h3 hk (by decide) (fun i hi => CI_rng hi (by decide)), ⟨B4, F4, g4, e4, Po_fr (by omega) h4 hk (by decide)⟩, ⟨B5, F5, g5, e5, Po_fr (by omega) h5 hk (by decide), z5⟩, ⟨B6, F6, g6, e6, Po_fr (by omega) h6 hk (by decide)⟩, P7_fr h7 hk (by decide) (by decide), P8_fr h8 hk (by decide), hn, f, P10_fr h10 hk (by decide)⟩
theorem CI_up10 {f' : Nat → Int32} (h : CI S ow A v hs sv r tx fa ln) (hk : keeps [10] S ow S1 ow1) (hn : P10 S1 ow1 (A 10) f') : CI S1 ow1 A v hs sv r tx fa ln := by
  obtain ⟨h12, h0, ⟨w1, h1⟩, ⟨w2, h2⟩, h3, ⟨B4, F4, g4, e4, h4⟩, ⟨B5, F5, g5, e5, h5, z5⟩, ⟨B6, F6, g6, e6, h6⟩, h7, h8, ⟨cp, h9⟩, f, h10⟩ := h
  exact ⟨P12_fr h12 hk (by decide) (by decide), Pv_fr h0 hk (by decide), ⟨w1, Pv_fr h1 hk (by decide)⟩, ⟨w2, Pv_fr h2 hk (by decide)⟩, P3_fr h3 hk (by decide) (fun i hi => CI_rng hi (by decide)), ⟨B4, F4, g4, e4, Po_fr (by omega) h4 hk (by decide)⟩, ⟨B5, F5, g5, e5, Po_fr (by omega) h5 hk (by decide), z5⟩, ⟨B6, F6, g6, e6, Po_fr (by omega) h6 hk (by decide)⟩, P7_fr h7 hk (by decide) (by decide), P8_fr h8 hk (by decide), ⟨cp, sb_fr h9 hk (by decide)⟩, f', hn⟩
theorem CI_up12 {sv' : Option Vt} (h : CI S ow A v hs sv r tx fa ln) (hk : keeps [11, 12] S ow S1 ow1) (hn : P12 S1 ow1 A sv') : CI S1 ow1 A v hs sv' r tx fa ln := by
  obtain ⟨h12, h0, ⟨w1, h1⟩, ⟨w2, h2⟩, h3, ⟨B4, F4, g4, e4, h4⟩, ⟨B5, F5, g5, e5, h5, z5⟩, ⟨B6, F6, g6, e6, h6⟩, h7, h8, ⟨cp, h9⟩, f, h10⟩ := h
  exact ⟨hn, Pv_fr h0 hk (by decide), ⟨w1, Pv_fr h1 hk (by decide)⟩, ⟨w2, Pv_fr h2 hk (by decide)⟩, P3_fr h3 hk (by decide) (fun i hi => CI_rng hi (by decide)), ⟨B4, F4, g4, e4, Po_fr (by omega) h4 hk (by decide)⟩, ⟨B5, F5, g5, e5, Po_fr (by omega) h5 hk (by decide), z5⟩, ⟨B6, F6, g6, e6, Po_fr (by omega) h6 hk (by decide)⟩, P7_fr h7 hk (by decide) (by decide), P8_fr h8 hk (by decide), ⟨cp, sb_fr h9 hk (by decide)⟩, f, P10_fr h10 hk (by decide)⟩
theorem kCC {C : List Nat} (hk : keeps C S ow S1 ow1) (h : ∀ c, c ∈ C → c ∈ CC) : keeps CC S ow S1 ow1 := hk.mono h
/-! what the object names -/
theorem G_0 (h : CI S ow A v hs sv r tx fa ln) {kk : Nat → Prop} : gR S (A 12) 11 0 kk = kk (A 0) := by obtain ⟨⟨h1, h2, so, h3, -⟩, -⟩ := h; exact gR_eq h1 h3 rfl
theorem G_1 (h : CI S ow A v hs sv r tx fa ln) {kk : Nat → Prop} : gR S (A 12) 11 1 kk = kk (A 1) := by obtain ⟨⟨h1, h2, so, h3, -⟩, -⟩ := h; exact gR_eq h1 h3 rfl
theorem G_2 (h : CI S ow A v hs sv r tx fa ln) {kk : Nat → Prop} : gR S (A 12) 11 2 kk = kk (A 2) := by obtain ⟨⟨h1, h2, so, h3, -⟩, -⟩ := h; exact gR_eq h1 h3 rfl
theorem G_3 (h : CI S ow A v hs sv r tx fa ln) {kk : Nat → Prop} : gR S (A 12) 11 3 kk = kk (A 3) := by obtain ⟨⟨h1, h2, so, h3, -⟩, -⟩ := h; exact gR_eq h1 h3 rfl
theorem G_4 (h : CI S ow A v hs sv r tx fa ln) {kk : Nat → Prop} : gR S (A 12) 11 4 kk = kk (A 4) := by obtain ⟨⟨h1, h2, so, h3, -⟩, -⟩ := h; exact gR_eq h1 h3 rfl
theorem G_5 (h : CI S ow A v hs sv r tx fa ln) {kk : Nat → Prop} : gR S (A 12) 11 5 kk = kk (A 5) := by obtain ⟨⟨h1, h2, so, h3, -⟩, -⟩ := h; exact gR_eq h1 h3 rfl
theorem G_6 (h : CI S ow A v hs sv r tx fa ln) {kk : Nat → Prop} : gR S (A 12) 11 6 kk = kk (A 6) := by obtain ⟨⟨h1, h2, so, h3, -⟩, -⟩ := h; exact gR_eq h1 h3 rfl
theorem G_7 (h : CI S ow A v hs sv r tx fa ln) {kk : Nat → Prop} : gR S (A 12) 11 7 kk = kk (A 7) := by obtain ⟨⟨h1, h2, so, h3, -⟩, -⟩ := h; exact gR_eq h1 h3 rfl
theorem G_8 (h : CI S ow A v hs sv r tx fa ln) {kk : Nat → Prop} : gR S (A 12) 11 8 kk = kk (A 8) := by obtain ⟨⟨h1, h2, so, h3, -⟩, -⟩ := h; exact gR_eq h1 h3 rfl
theorem G_9 (h : CI S ow A v hs sv r tx fa ln) {kk : Nat → Prop} : gR S (A 12) 11 9 kk = kk (A 9) := by obtain ⟨⟨h1, h2, so, h3, -⟩, -⟩ := h; exact gR_eq h1 h3 rfl
theorem G_10 (h : CI S ow A v hs sv r tx fa ln) {kk : Nat → Prop} : gR S (A 12) 11 10 kk = kk (A 10) := by obtain ⟨⟨h1, h2, so, h3, -⟩, -⟩ := h; exact gR_eq h1 h3 rfl
theorem G_O (h : CI S ow A v hs sv r tx fa ln) {P : Prop} : isO S (A 12) 11 P = P := by obtain ⟨⟨h1, h2, so, h3, -⟩, -⟩ := h; exact isO_eq h1 h3
theorem O_3 (h : CI S ow A v hs sv r tx fa ln) {P : Prop} : isO S (A 3) 6 P = P := by obtain ⟨-, -, -, -, ⟨ra, nx, f, h1, h2, h3, h4, h5, -⟩, -⟩ := h; exact isO_eq h1 h5
theorem O_8 (h : CI S ow A v hs sv r tx fa ln) {P : Prop} : isO S (A 8) 8 P = P := by obtain ⟨-, -, -, -, -, -, -, -, -, ⟨h1, h2, h3⟩, -⟩ := h; exact isO_eq h1 h3
theorem O_9 (h : CI S ow A v hs sv r tx fa ln) {P : Prop} : isO S (A 9) 1 P = P := by obtain ⟨-, -, -, -, -, -, -, -, -, -, ⟨cp, ba, m, f, h1, h2, h3, h4, h5, h6, -⟩, -⟩ := h; exact isO_eq h1 h6
theorem O_7 (h : CI S ow A v hs sv r tx fa ln) {P : Prop} : isO S (A 7) 9 P = P := by obtain ⟨-, -, -, -, -, -, -, -, ⟨sa, cap, B, F, g, e, ⟨hB, H, -⟩, -⟩, -⟩ := h; rw [← e]; exact OS_isO hB (by omega) H
theorem O_4 (h : CI S ow A v hs sv r tx fa ln) {P : Prop} : isO S (A 4) 7 P = P := by obtain ⟨-, -, -, -, -, ⟨B, F, g, e, ⟨hB, H, -⟩⟩, -⟩ := h; rw [← e]; exact OS_isO hB (by omega) H
theorem O_5 (h : CI S ow A v hs sv r tx fa ln) {P : Prop} : isO S (A 5) 4 P = P := by obtain ⟨-, -, -, -, -, -, ⟨B, F, g, e, ⟨hB, H, -⟩, -⟩, -⟩ := h; rw [← e]; exact OS_isO hB (by omega) H
theorem O_6 (h : CI S ow A v hs sv r tx fa ln) {P : Prop} : isO S (A 6) 5 P = P := by obtain ⟨-, -, -, -, -, -, -, ⟨B, F, g, e, ⟨hB, H, -⟩⟩, -⟩ := h; rw [← e]; exact OS_isO hB (by omega) H
theorem Vx (h : CI S ow A v hs sv r tx fa ln) : ∃ t, isV S (A 0) t v := by obtain ⟨-, ⟨t, h1, -⟩, -⟩ := h; exact ⟨t, h1⟩
theorem O_0 (h : CI S ow A v hs sv r tx fa ln) {P : Prop} : isO S (A 0) 10 P = P := by obtain ⟨t, h1⟩ := Vx h; exact VO h1
end CIU

