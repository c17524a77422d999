/-! the input and its orders carried out, by the reference -/
section MRN
variable {S0 S : PS} {B : Nat → Nat} {F : Nat → Int32} {h : Nat → Nat → Int32} {v : Vt} {hs : List Vt} {sv : Option Vt} {r : Nat → Int32} {tx : List Nat} {fa : Int32} {ln : List Nat}
theorem mX_tO (m : mX F h hs sv r tx fa ln) (h60 : tx.length ≤ 60) (hb : ∀ (i x : Nat), tx[i]? = some x → x < 128) : tO F h tx := ⟨m.2.2.2.1.1, h60, fun i c hc => ⟨m.2.2.2.1.2 i c hc, hb i c hc⟩⟩
theorem m_append {x : Int32} {post : Int32 → PS → Prop} (hB : oB 10 S0 B) (H : RS S0 B F h S) (hr : rowV h 0 v) (m : mX F h hs sv r tx fa ln) (h60 : tx.length ≤ 60)
    (no : ¬ (¬ x < 32 ∧ ¬ 126 < x) → ∀ S1 F1 h1, RS S0 B F1 h1 S1 → F1 0 = 1 → rowV h1 0 v → mX F1 h1 hs sv r tx fa ln → post 0 S1)
    (full : (¬ x < 32 ∧ ¬ 126 < x) → tx.length = 60 → ∀ S1 F1 h1, RS S0 B F1 h1 S1 → F1 0 = 2 → rowV h1 0 v → mX F1 h1 hs sv r tx fa ln → post 0 S1)
    (next : ∀ c, x = nI c → (¬ x < 32 ∧ ¬ 126 < x) → c < 128 → tx.length < 60 → ∀ S1 F1 h1, RS S0 B F1 h1 S1 → F1 0 = 0 → rowV h1 0 v → mX F1 h1 hs sv r (tx ++ [c]) fa ln → post (nI (tx.length + 1)) S1) : f_X8_append S (B 0) x post := by
  unfold f_X8_append
  show f_X8_in S x (nI 32) (nI 126) _
  rw [r_in (m := 0) (by omega) (by omega)]
  unfold f_X8_append_J30
  by_cases e : ¬ x < 32 ∧ ¬ 126 < x
  · have e' : ¬ x < nI 32 ∧ ¬ nI 126 < x := e
    obtain ⟨c, hc, rfl⟩ := nI_of2 (M := 126) (n := 126) (by decide) (show ¬ x < 0 from fun z => e.1 (Int32.lt_trans z (by decide))) (Int32.not_lt.mp e.2)
    rw [if_pos e', if_neg (by decide), OS_gI hB (by omega) H (f := 17) (x := F 17) rfl, m.2.2.2.1.1]
    by_cases e4 : tx.length = 60
    · rw [if_pos (by rw [e4]; rfl)]
      refine OS_pV hB (by omega) H (f := 0) rfl (by show 0 < 25; decide) (fun S1 H1 => ?_)
      rw [OS_gI hB (by omega) H1 (f := 0) (x := 2) rfl, if_neg (by decide)]
      exact full e e4 S1 _ h H1 Fu_at hr (mX_0 m)
    · rw [if_neg (show ¬ nI tx.length = 60 from fun z => e4 ((nI_eq (a := tx.length) (b := 60) (by omega) (by omega)).mp z))]
      refine OS_pV hB (by omega) H (f := 0) rfl (by show 0 < 25; decide) (fun S1 H1 => ?_)
      rw [OS_gI hB (by omega) H1 (f := 0) (x := 0) rfl, if_pos rfl, OS_gR hB (by omega) H1 (k := 7) (f := 16) rfl, OS_gI hB (by omega) H1 (f := 17) (x := F 17) rfl, m.2.2.2.1.1, c16n (by omega)]
      refine OS_sI hB (by omega) H1 (k := 7) (by omega) (show tx.length < rrl 7 from (show tx.length < 60 by omega)) (by decide) (fun S2 H2 => ?_)
      rw [OS_gI hB (by omega) H2 (f := 17) (x := F 17) rfl, m.2.2.2.1.1, nI_1]
      refine OS_pV hB (by omega) H2 (f := 17) rfl (by show 17 < 25; decide) (fun S3 H3 => ?_)
      rw [OS_gI hB (by omega) H3 (f := 17) (x := nI (tx.length + 1)) rfl]
      obtain ⟨a1, a2, a3, ⟨d1, d2⟩, a5, a6, a7⟩ := m
      refine next c rfl e (by omega) (by omega) S3 _ _ H3 rfl (fun k hk => by rw [hu_ne (by decide)]; exact hr k hk) ⟨⟨a1.1, a1.2.1, fun i w hw => fun k hk => by rw [hu_ne (by decide)]; exact a1.2.2 i w hw k hk⟩, ?_, a3, ⟨?_, fun i y hy => ?_⟩, a5, a6, by rw [hu_ne (by decide)]; exact a7⟩
      · rcases a2 with ⟨b1, b2⟩ | ⟨w, b1, b2, b3⟩
        · exact Or.inl ⟨b1, b2⟩
        · exact Or.inr ⟨w, b1, b2, fun k hk => by rw [hu_ne (by decide)]; exact b3 k hk⟩
      · rw [List.length_append]; rfl
      · rcases ap_at hy with ⟨q1, q2⟩ | ⟨q1, q2⟩
        · rw [hu_off (by omega)]; exact d2 i y q2
        · rw [q1, q2, hu_at]
  · have e' : ¬ (¬ x < nI 32 ∧ ¬ nI 126 < x) := e
    rw [if_neg e', if_pos rfl]
    refine OS_pV hB (by omega) H (f := 0) rfl (by show 0 < 25; decide) (fun S1 H1 => ?_)
    rw [OS_gI hB (by omega) H1 (f := 0) (x := 1) rfl, if_neg (by decide)]
    exact no e S1 _ h H1 Fu_at hr (mX_0 m)
theorem m_fault {post : Int32 → PS → Prop} (hB : oB 10 S0 B) (H : RS S0 B F h S) (hr : rowV h 0 v) (m : mX F h hs sv r tx fa ln) (next : ∀ S1 F1 h1, RS S0 B F1 h1 S1 → F1 0 = 0 → rowV h1 0 v → mX F1 h1 hs sv r tx fa ln → post fa S1) : f_X8_faultPosition S (B 0) post := by
  unfold f_X8_faultPosition
  refine OS_pV hB (by omega) H (f := 0) rfl (by show 0 < 25; decide) (fun S1 H1 => ?_)
  rw [OS_gI hB (by omega) H1 (f := 20) (x := F 20) rfl, m.2.2.2.2.1]
  exact next S1 _ h H1 Fu_at hr (mX_0 m)
theorem m_reason {x y : Int32} {post : Int32 → PS → Prop} (hB : oB 10 S0 B) (H : RS S0 B F h S) (hr : rowV h 0 v) (m : mX F h hs sv r tx fa ln)
    (no : ¬ (x = 0 ∨ x = 1) → ∀ S1 F1 h1, RS S0 B F1 h1 S1 → F1 0 = 1 → rowV h1 0 v → mX F1 h1 hs sv r tx fa ln → post 0 S1)
    (none : (x = 0 ∨ x = 1) → (if x = 0 then r 0 else r 2) = 0 → ∀ S1 F1 h1, RS S0 B F1 h1 S1 → F1 0 = 2 → rowV h1 0 v → mX F1 h1 hs sv r tx fa ln → post 0 S1)
    (next : (x = 0 ∨ x = 1) → ¬ (if x = 0 then r 0 else r 2) = 0 → ∀ S1 F1 h1, RS S0 B F1 h1 S1 → F1 0 = 0 → rowV h1 0 v → mX F1 h1 hs sv r tx fa ln → post (rsn r x y) S1) : f_X8_reason S (B 0) x y post := by
  obtain ⟨c1, c2, c3, c4⟩ := m.2.2.1
  have hin : (¬ x < nI 0 ∧ ¬ nI 1 < x) ↔ (x = 0 ∨ x = 1) := by
    constructor
    · rintro ⟨z1, z2⟩
      obtain ⟨j, hj, rfl⟩ := nI_of2 (M := 1) (n := 1) (by decide) z1 (Int32.not_lt.mp z2)
      rcases (show j = 0 ∨ j = 1 by omega) with rfl | rfl
      · exact Or.inl rfl
      · exact Or.inr rfl
    · rintro (rfl | rfl) <;> decide
  unfold f_X8_reason
  show f_X8_in S x (nI 0) (nI 1) _
  rw [r_in (m := 0) (by omega) (by omega)]
  unfold f_X8_reason_J29 f_X8_reason_J37
  by_cases e : x = 0 ∨ x = 1
  · rw [if_pos (hin.mpr e), if_neg (by decide)]
    by_cases e0 : x = 0
    · have hx0 : (if x = 0 then r 0 else r 2) = r 0 := if_pos e0
      rw [hx0] at none next
      rw [if_pos e0, OS_gI hB (by omega) H (f := 5) (x := F 5) rfl, c1]
      by_cases e1 : r 0 = 0
      · rw [if_pos e1]
        refine OS_pV hB (by omega) H (f := 0) rfl (by show 0 < 25; decide) (fun S1 H1 => ?_)
        rw [OS_gI hB (by omega) H1 (f := 0) (x := 2) rfl, if_neg (by decide)]
        exact none e e1 S1 _ h H1 Fu_at hr (mX_0 m)
      · rw [if_neg e1]
        refine OS_pV hB (by omega) H (f := 0) rfl (by show 0 < 25; decide) (fun S1 H1 => ?_)
        rw [OS_gI hB (by omega) H1 (f := 0) (x := 0) rfl, if_pos rfl, if_pos e0]
        have hnx := next e e1 S1 _ h H1 Fu_at hr (mX_0 m)
        unfold rsn at hnx
        rw [if_pos e0] at hnx
        by_cases e2 : y = 0
        · rw [if_pos e2] at hnx ⊢
          rw [OS_gI hB (by omega) H1 (f := 5) (x := F 5) rfl, c1]; exact hnx
        · rw [if_neg e2] at hnx ⊢
          rw [OS_gI hB (by omega) H1 (f := 6) (x := F 6) rfl, c2]; exact hnx
    · have hx0 : (if x = 0 then r 0 else r 2) = r 2 := if_neg e0
      rw [hx0] at none next
      rw [if_neg e0, OS_gI hB (by omega) H (f := 7) (x := F 7) rfl, c3]
      by_cases e1 : r 2 = 0
      · rw [if_pos e1]
        refine OS_pV hB (by omega) H (f := 0) rfl (by show 0 < 25; decide) (fun S1 H1 => ?_)
        rw [OS_gI hB (by omega) H1 (f := 0) (x := 2) rfl, if_neg (by decide)]
        exact none e e1 S1 _ h H1 Fu_at hr (mX_0 m)
      · rw [if_neg e1]
        refine OS_pV hB (by omega) H (f := 0) rfl (by show 0 < 25; decide) (fun S1 H1 => ?_)
        rw [OS_gI hB (by omega) H1 (f := 0) (x := 0) rfl, if_pos rfl, if_neg e0]
        have hnx := next e e1 S1 _ h H1 Fu_at hr (mX_0 m)
        unfold rsn at hnx
        rw [if_neg e0] at hnx
        by_cases e2 : y = 0
        · rw [if_pos e2] at hnx ⊢
          rw [OS_gI hB (by omega) H1 (f := 7) (x := F 7) rfl, c3]; exact hnx
        · rw [if_neg e2] at hnx ⊢
          rw [OS_gI hB (by omega) H1 (f := 8) (x := F 8) rfl, c4 e1]; exact hnx
  · rw [if_neg (fun z => e (hin.mp z)), if_pos rfl]
    refine OS_pV hB (by omega) H (f := 0) rfl (by show 0 < 25; decide) (fun S1 H1 => ?_)
    rw [OS_gI hB (by omega) H1 (f := 0) (x := 1) rfl, if_neg (by decide)]
    exact no e S1 _ h H1 Fu_at hr (mX_0 m)
theorem r_does {i : Nat} {k : Nat} {post : Int32 → PS → Prop} (hB : oB 10 S0 B) (H : RS S0 B F h S) (hi : i ≤ 12) (hk : k ≤ 6) (hl : h 8 (4 * i) = nI (ltr k)) (next : mOrd S (B 0) (fun v1 S1 => nZ .boolean v1 (post v1 S1)) k (h 8 (4 * i + 1)) (h 8 (4 * i + 2)) (h 8 (4 * i + 3))) : f_X8_does S (B 0) (nI (4 * i)) post := by
  unfold f_X8_does
  have l8 : ∀ j, j < 4 → 4 * i + j < rrl 8 := fun j hj => (show 4 * i + j < 244 by omega)
  rw [OS_gR hB (by omega) H (k := 8) (f := 21) rfl, nI_1, OS_aI hB H (k := 8) (by omega) (l8 1 (by omega)) (by decide), OS_gR hB (by omega) H (k := 8) (f := 21) rfl, show (2 : Int32) = nI 2 from rfl, nI_add, OS_aI hB H (k := 8) (by omega) (l8 2 (by omega)) (by decide), OS_gR hB (by omega) H (k := 8) (f := 21) rfl, OS_aI hB H (k := 8) (by omega) (show 4 * i < rrl 8 from l8 0 (by omega)) (by decide), hl]
  have iso : ∀ P : Prop, P → isO S (B 0) 12 P := fun P hP => by rw [OS_isO hB (by omega) H]; exact hP
  rcases (show k = 0 ∨ k = 1 ∨ k = 2 ∨ k = 3 ∨ k = 4 ∨ k = 5 ∨ k = 6 by omega) with rfl | rfl | rfl | rfl | rfl | rfl | rfl
  · exact iso _ next
  · exact iso _ next
  · rw [if_pos (by decide), OS_gR hB (by omega) H (k := 8) (f := 21) rfl, show (3 : Int32) = nI 3 from rfl, nI_add, OS_aI hB H (k := 8) (by omega) (l8 3 (by omega)) (by decide)]
    exact iso _ next
  · exact iso _ next
  · exact iso _ next
  · exact iso _ next
  · exact iso _ next
theorem ag_m {os : List Od} {i j : Nat} {o : Od} (hos : osM h os) (ho : os[i]? = some o) (hok : orOk o) (hj : j + 1 ≤ cnt o.1) : h 8 (4 * i + 1 + j) = ag o j := ag_of (g := fun j => h 8 (4 * i + 1 + j)) hok (hos i o ho).2 hj
def rG (F : Nat → Int32) (y : Int32) : Nat → Int32 := Fu (Fu (Fu (Fu F 7 (F 5)) 8 (F 6)) 5 8) 6 y
theorem mX_rG {y : Int32} (m : mX F h hs sv r tx fa ln) : mX (rG F y) h hs sv (rB r 8 y) tx fa ln := by
  obtain ⟨a, b, ⟨c1, c2, c3, c4⟩, d, f, g⟩ := m
  exact ⟨a, b, ⟨rfl, rfl, c1, fun _ => c2⟩, d, f, g⟩
theorem m_orders {v0 : Vt} {os : List Od} {post : Int32 → PS → Prop} {fin : Vt × Option (Nat × Int32 × Int32)} (hB : oB 10 S0 B) (hlen : os.length ≤ 12) (hok : ∀ o, o ∈ os → orOk o)
    (bad : ∀ i q, fin.2 = some (i, q) → ∀ S1 F1 h1, RS S0 B F1 h1 S1 → F1 0 = 2 → rowV h1 0 v0 → mX F1 h1 hs sv (rB (rK q.1 q.2) 8 (nI i)) tx fa ln → post 0 S1)
    (next : fin.2 = none → ∀ S1 F1 h1, RS S0 B F1 h1 S1 → F1 0 = 0 → rowV h1 0 fin.1 → mX F1 h1 ((v0 :: hs).take 8) sv r tx fa ln → post (nI os.length) S1) :
    ∀ (rest : List Od) (i : Nat) (v : Vt) (S : PS) (F : Nat → Int32) (h : Nat → Nat → Int32), os.drop i = rest → i + rest.length = os.length → runL v rest i = fin → RS S0 B F h S → rowV h 0 v → rowV h 10 v0 → mX F h hs sv r tx fa ln → osM h os → F 22 = nI os.length → okV v → tot v + 198 * rest.length < 10000000 → ∀ fuel, rest.length < fuel → f_X8_run_L37 post fuel S (B 0) (nI i) := by
  intro rest
  induction rest with
  | nil =>
    intro i v S F h hd hi hfin H hr h10 m hos h22 hv ht fuel hf
    obtain ⟨n, rfl⟩ : ∃ n, fuel = n + 1 := ⟨fuel - 1, by omega⟩
    have hi' : i + 0 = os.length := hi
    simp only [f_X8_run_L37, f_X8_run_J61, f_X8_run_J96, f_X8_run_J118]
    rw [OS_gI hB (by omega) H (f := 22) (x := F 22) rfl, h22, if_pos (nI_le (by omega) (by omega)), OS_gI hB (by omega) H (f := 22) (x := F 22) rfl, h22, if_pos (nI_le (by omega) (by omega)), OS_gI hB (by omega) H (f := 22) (x := F 22) rfl]
    refine OS_pV hB (by omega) H (f := 4) rfl (by show 4 < 25; decide) (fun S1 H1 => ?_)
    rw [OS_gI hB (by omega) H1 (f := 22) (x := F 22) rfl, h22, if_pos (by rw [← hi', Nat.add_zero]), OS_isO hB (by omega) H1]
    have hfin : ((v, none) : Vt × Option (Nat × Int32 × Int32)) = fin := hfin
    rw [← hfin] at next
    refine r_endsY hB H1 hr h10 (mX_F m ⟨rfl, rfl, rfl, rfl, rfl, rfl, rfl, rfl, rfl⟩) (Fu_at.trans h22) (fun S2 F2 h2 H2 b1 b2 b3 => next rfl S2 F2 h2 H2 b1 b2 b3)
  | cons o rest ih =>
    intro i v S F h hd hi hfin H hr h10 m hos h22 hv ht fuel hf
    obtain ⟨n, rfl⟩ : ∃ n, fuel = n + 1 := ⟨fuel - 1, by omega⟩
    have hi' : i + (rest.length + 1) = os.length := hi
    have hf' : rest.length + 1 < n + 1 := hf
    have ht' : tot v + 198 * (rest.length + 1) < 10000000 := ht
    have hoi : os[i]? = some o := by
      have : (os.drop i)[0]? = some o := by rw [hd]; rfl
      rw [List.getElem?_drop] at this
      exact this
    have hd2 : os.drop (i + 1) = rest := by rw [← List.tail_drop, hd]; rfl
    have ho := hok o (List.mem_of_getElem? hoi)
    obtain ⟨r1, r2, r3⟩ := ref_arg (v := v) (x := h 8 (4 * i + 1)) (y := h 8 (4 * i + 2)) (w := h 8 (4 * i + 3)) (x' := ag o 0) (y' := ag o 1) (w' := ag o 2) ho.1 (fun q => ag_m (j := 0) hos hoi ho q) (fun q => ag_m (j := 1) hos hoi ho q) (fun q => ag_m (j := 2) hos hoi ho q)
    simp only [f_X8_run_L37]
    rw [OS_gI hB (by omega) H (f := 22) (x := F 22) rfl, h22, if_neg (nI_ge (by omega) (by omega)), OS_isO hB (by omega) H, show (4 : Int32) = nI 4 from rfl, pk_mul]
    unfold runL at hfin
    refine r_does hB H (by omega) ho.1 (hos i o hoi).1 ?_
    refine m_ord hB H hr hv o.1 _ _ _ ho.1 (fun q hq S1 H1 => ?_) (fun hn hok2 S1 F1 h1 H1 d1 d2 d3 => ?_) (fun hn => ?_)
    · rw [r1] at hq
      have hq' : odR v o = some q := hq
      rw [hq'] at hfin
      rw [← hfin] at bad
      rw [nZ0, if_pos rfl]
      unfold f_X8_run_J61 f_X8_run_J96 f_X8_run_J118
      have g22 : rF F q.1 q.2 22 = nI os.length := h22
      rw [OS_gI hB (by omega) H1 (f := 22) (x := rF F q.1 q.2 22) rfl, g22, if_neg (nI_ge (by omega) (by omega)), OS_gI hB (by omega) H1 (f := 5) (x := rF F q.1 q.2 5) rfl]
      refine OS_pV hB (by omega) H1 (f := 7) rfl (by show 7 < 25; decide) (fun S2 H2 => ?_)
      rw [OS_gI hB (by omega) H2 (f := 6) (x := rF F q.1 q.2 6) rfl]
      refine OS_pV hB (by omega) H2 (f := 8) rfl (by show 8 < 25; decide) (fun S3 H3 => ?_)
      refine OS_pV hB (by omega) H3 (f := 5) rfl (by show 5 < 25; decide) (fun S4 H4 => ?_)
      refine OS_pV hB (by omega) H4 (f := 6) rfl (by show 6 < 25; decide) (fun S5 H5 => ?_)
      have H5 : RS S0 B (rG (rF F q.1 q.2) (nI i)) h S5 := H5
      have k22 : rG (rF F q.1 q.2) (nI i) 22 = nI os.length := h22
      rw [OS_gI hB (by omega) H5 (f := 22) (x := rG (rF F q.1 q.2) (nI i) 22) rfl]
      refine OS_pV hB (by omega) H5 (f := 4) rfl (by show 4 < 25; decide) (fun S6 H6 => ?_)
      rw [OS_gI hB (by omega) H6 (f := 22) (x := rG (rF F q.1 q.2) (nI i) 22) rfl, k22, if_neg (show ¬ nI i = nI os.length from fun z => by have := (nI_eq (by omega) (by omega)).mp z; omega), OS_isO hB (by omega) H6]
      refine r_endsN hB H6 h10 (mX_F (mX_rG (mX_rF m)) ⟨rfl, rfl, rfl, rfl, rfl, rfl, rfl, rfl, rfl⟩) (fun S7 F7 h7 H7 b1 b2 b3 => bad i q rfl S7 F7 h7 H7 b1 b2 b3)
    · rw [r1] at hn
      have hn' : odR v o = none := hn
      rw [hn'] at hfin
      rw [r2] at d3
      obtain ⟨a1, a2⟩ := odV_ok hv hn' ht'
      rw [nZ1, if_neg (by decide), nI_1]
      exact ih (i + 1) (odV v o) S1 F1 h1 hd2 (by omega) hfin H1 d3 (fun k hk => by rw [d1.2.2 _ (by omega)]; exact h10 k hk) (mX_dn m d1) (fun i' o' ho' => by rw [d1.2.1 8 (by omega)]; exact hos i' o' ho') ((d1.1 22 (by decide) (by decide) (by decide)).trans h22) a1 (by omega) n (by omega)
    · rw [r1] at hn
      rw [r2]
      exact (odV_ok hv hn ht').1
theorem m_run {post : Int32 → PS → Prop} (hB : oB 10 S0 B) (H : RS S0 B F h S) (hr : rowV h 0 v) (m : mX F h hs sv r tx fa ln) (hv : okV v) (ht : tot v + 3000 < 10000000) (h60 : tx.length ≤ 60) (hb : ∀ (i x : Nat), tx[i]? = some x → x < 128)
    (no : (rdT tx).2.1 = false → ∀ S1 F1 h1, RS S0 B F1 h1 S1 → F1 0 = 1 → rowV h1 0 v → mX F1 h1 hs sv r [] (nI (rdT tx).1) ln → post 0 S1)
    (bad : (rdT tx).2.1 = true → ∀ i q, (runL v (rdT tx).2.2 0).2 = some (i, q) → ∀ S1 F1 h1, RS S0 B F1 h1 S1 → F1 0 = 2 → rowV h1 0 v → mX F1 h1 hs sv (rB (rK q.1 q.2) 8 (nI i)) [] (-1) ln → post 0 S1)
    (next : (rdT tx).2.1 = true → (runL v (rdT tx).2.2 0).2 = none → ∀ S1 F1 h1, RS S0 B F1 h1 S1 → F1 0 = 0 → rowV h1 0 (runL v (rdT tx).2.2 0).1 → mX F1 h1 ((v :: hs).take 8) sv r [] (-1) ln → post (nI (rdT tx).2.2.length) S1) : f_X8_run S (B 0) post := by
  unfold f_X8_run
  rw [OS_isO hB (by omega) H]
  refine r_parse hB H (mX_tO m h60 hb) (fun S1 F1 h1 H1 a1 a22 aF ah ao => ?_)
  refine OS_pV hB (by omega) H1 (f := 17) rfl (by show 17 < 25; decide) (fun S2 H2 => ?_)
  rw [OS_gI hB (by omega) H2 (f := 19) (x := F1 19) rfl]
  refine OS_pV hB (by omega) H2 (f := 20) rfl (by show 20 < 25; decide) (fun S3 H3 => ?_)
  rw [OS_gI hB (by omega) H3 (f := 19) (x := F1 19) rfl]
  have a19 : F1 19 = (if (rdT tx).2.1 = true then -1 else nI (rdT tx).1) := a1.2
  have hr1 : rowV h1 0 v := fun k hk => by rw [ah 1 (by decide)]; exact hr k hk
  have m3 : mX (Fu (Fu F1 17 0) 20 (F1 19)) h1 hs sv r [] (F1 19) ln := by
    have m1 : mX F1 h1 hs sv r tx (F 20) ln := by
      have m' : mX F h hs sv r tx (F 20) ln := ⟨m.1, m.2.1, m.2.2.1, m.2.2.2.1, rfl, m.2.2.2.2.2⟩
      exact mX_ext m' ⟨aF 2 (by decide) (by decide) (by decide), aF 3 (by decide) (by decide) (by decide), aF 5 (by decide) (by decide) (by decide), aF 6 (by decide) (by decide) (by decide), aF 7 (by decide) (by decide) (by decide), aF 8 (by decide) (by decide) (by decide), aF 17 (by decide) (by decide) (by decide), aF 20 (by decide) (by decide) (by decide), aF 24 (by decide) (by decide) (by decide)⟩ (ah 7 (by decide)) (ah 9 (by decide)) (fun x _ _ => by rw [ah 1 (by decide)])
    obtain ⟨b1, b2, b3, b4, b5, b6, b7⟩ := m1
    exact ⟨b1, b2, b3, ⟨rfl, fun i c hc => by cases hc⟩, rfl, b6, b7⟩
  obtain ⟨g1, g2⟩ := rdT_go tx
  cases hbb : (rdT tx).2.1 with
  | false =>
    rw [hbb, if_neg (show ¬ false = true by decide)] at a19
    rw [a19, if_neg (nI_pos (by omega))]
    rw [a19] at H3 m3
    refine OS_pV hB (by omega) H3 (f := 0) rfl (by show 0 < 25; decide) (fun S4 H4 => ?_)
    exact no hbb S4 _ h1 H4 Fu_at hr1 (mX_0 m3)
  | true =>
    rw [hbb, if_pos rfl] at a19
    rw [a19, if_pos (by decide), OS_isO hB (by omega) H3]
    rw [a19] at H3 m3
    obtain ⟨g3, g4⟩ := g2 hbb
    refine r_begins hB H3 hr1 m3 (fun S4 h4 H4 c1 c2 c3 c4 => ?_)
    refine m_orders (v0 := v) (os := (rdT tx).2.2) (fin := runL v (rdT tx).2.2 0) hB (by omega) g4 (fun i q hq => bad hbb i q hq) (fun hn => next hbb hn) (rdT tx).2.2 0 v S4 _ h4 rfl (by omega) rfl H4 c1 c2 c3 (fun i o ho => by rw [c4 8 (by decide)]; exact ao hbb i o ho) a22 hv (by omega) 4096 (by omega)
end MRN
