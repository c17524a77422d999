/-! a text of orders, read by the reference -/
def sgn (tx : List Nat) (p : Nat) : Int32 := match tx[p]? with
  | some c => nI c
  | none => -1
def tO (F : Nat → Int32) (h : Nat → Nat → Int32) (tx : List Nat) : Prop := F 17 = nI tx.length ∧ tx.length ≤ 60 ∧ ∀ i c, tx[i]? = some c → h 7 i = nI c ∧ c < 128
theorem sgn_eq {F : Nat → Int32} {h : Nat → Nat → Int32} {tx : List Nat} {p c : Nat} (t : tO F h tx) (hc : c < 128) : sgn tx p = nI c ↔ tx[p]? = some c := by
  unfold sgn
  cases e : tx[p]? with
  | none =>
    dsimp only
    refine ⟨fun z => ?_, fun z => by cases z⟩
    exact absurd (show nI c < 0 by rw [← z]; decide) (nI_pos (by omega))
  | some x =>
    dsimp only
    have hx := (t.2.2 p x e).2
    rw [nI_eq (by omega) (by omega)]
    exact ⟨fun z => by rw [z], fun z => by injection z⟩
def sT (F : Nat → Int32) (s : Rs) : Prop := F 18 = nI s.1 ∧ F 19 = (if s.2.1 = true then -1 else nI s.1)
def fk (F F1 : Nat → Int32) : Prop := ∀ i, i ≠ 18 → i ≠ 19 → F1 i = F i
theorem fk.trans {F F1 F2 : Nat → Int32} (a : fk F F1) (b : fk F1 F2) : fk F F2 := fun i h1 h2 => (b i h1 h2).trans (a i h1 h2)
theorem fk.refl {F : Nat → Int32} : fk F F := fun _ _ _ => rfl
theorem tO_fk {F F1 : Nat → Int32} {h : Nat → Nat → Int32} {tx : List Nat} (t : tO F h tx) (k : fk F F1) : tO F1 h tx := ⟨(k 17 (by decide) (by decide)).trans t.1, t.2⟩
theorem tO_h {F : Nat → Int32} {h h1 : Nat → Nat → Int32} {tx : List Nat} (t : tO F h tx) (k : h1 7 = h 7) : tO F h1 tx := ⟨t.1, t.2.1, by rw [k]; exact t.2.2⟩
section PAR
variable {S0 S : PS} {B : Nat → Nat} {F : Nat → Int32} {h : Nat → Nat → Int32} {tx : List Nat}
theorem r_sign {p : Nat} {post : Int32 → PS → Prop} (hB : oB 10 S0 B) (H : RS S0 B F h S) (t : tO F h tx) (hF : F 18 = nI p) (hp : p ≤ tx.length) : f_X8_sign S (B 0) post = post (sgn tx p) S := by
  obtain ⟨t1, t2, t3⟩ := t
  unfold f_X8_sign sgn
  rw [OS_gI hB (by omega) H (f := 18) (x := F 18) rfl, OS_gI hB (by omega) H (f := 17) (x := F 17) rfl, t1, hF]
  by_cases e : p < tx.length
  · obtain ⟨x, hx⟩ : ∃ x, tx[p]? = some x := ⟨_, List.getElem?_eq_getElem e⟩
    rw [if_neg (nI_ge e (by omega)), OS_gR hB (by omega) H (k := 7) (f := 16) rfl, OS_gI hB (by omega) H (f := 18) (x := F 18) rfl, hF, OS_aI hB H (k := 7) (by omega) (show p < 60 by omega) (by decide), hx, (t3 p x hx).1]
  · rw [if_pos (nI_le (by omega) (by omega)), List.getElem?_eq_none (by omega)]
theorem r_needs {s : Rs} {c : Nat} {post : PS → Prop} (hB : oB 10 S0 B) (H : RS S0 B F h S) (t : tO F h tx) (hs : sT F s) (hp : s.1 ≤ tx.length) (hc : c < 128) (hcd : ¬ (c = 35 ∨ c = 37)) (next : ∀ S1 F1, RS S0 B F1 h S1 → sT F1 (e1 tx s c) → fk F F1 → post S1) : f_X8_needs S (B 0) (nI c) post := by
  obtain ⟨s1, s2⟩ := hs
  have h60 := t.2.1
  unfold f_X8_needs
  rw [OS_gI hB (by omega) H (f := 19) (x := F 19) rfl, s2]
  cases hb : s.2.1 with
  | false =>
    rw [hb] at s2
    rw [if_neg (show ¬ false = true by decide)] at s2 ⊢
    rw [if_neg (nI_pos (by omega))]
    rw [e1_no hb] at next
    exact next S F H ⟨s1, by rw [hb]; exact s2⟩ fk.refl
  | true =>
    rw [if_pos rfl, if_pos (by decide), OS_isO hB (by omega) H, r_sign hB H t s1 hp]
    rw [e1_l hb hcd] at next
    by_cases e : tx[s.1]? = some c
    · rw [if_pos ((sgn_eq t hc).mpr e), OS_gI hB (by omega) H (f := 18) (x := F 18) rfl, s1, nI_1]
      refine OS_pV hB (by omega) H (f := 18) rfl (by show 18 < 25; decide) (fun S1 H1 => ?_)
      rw [if_pos e] at next
      exact next S1 _ H1 ⟨Fu_at, by rw [Fu_ne (by decide), s2, hb]; rfl⟩ (fun i h1 _ => Fu_ne h1)
    · rw [if_neg (fun z => e ((sgn_eq t hc).mp z)), OS_gI hB (by omega) H (f := 18) (x := F 18) rfl, s1]
      refine OS_pV hB (by omega) H (f := 19) rfl (by show 19 < 25; decide) (fun S1 H1 => ?_)
      rw [if_neg e] at next
      exact next S1 _ H1 ⟨(Fu_ne (by decide)).trans s1, Fu_at⟩ (fun i _ h1 => Fu_ne h1)
theorem r_signs {s : Rs} {c1 c2 c3 : Nat} {post : PS → Prop} (hB : oB 10 S0 B) (H : RS S0 B F h S) (t : tO F h tx) (hs : sT F s) (hp : s.1 ≤ tx.length) (hc1 : c1 < 128) (hc2 : c2 < 128) (hc3 : c3 < 128) (hd1 : ¬ (c1 = 35 ∨ c1 = 37)) (hd2 : ¬ (c2 = 35 ∨ c2 = 37)) (hd3 : ¬ (c3 = 35 ∨ c3 = 37)) (next : ∀ S1 F1, RS S0 B F1 h S1 → sT F1 ([c1, c2, c3].foldl (e1 tx) s) → fk F F1 → post S1) : f_X8_signs S (B 0) (nI c1) (nI c2) (nI c3) post := by
  unfold f_X8_signs
  rw [OS_isO hB (by omega) H]
  refine r_needs hB H t hs hp hc1 hd1 (fun S1 F1 H1 a1 b1 => ?_)
  rw [OS_isO hB (by omega) H1]
  have p1 := e1_le (c := c1) hp
  refine r_needs hB H1 (tO_fk t b1) a1 p1 hc2 hd2 (fun S2 F2 H2 a2 b2 => ?_)
  rw [OS_isO hB (by omega) H2]
  exact r_needs hB H2 (tO_fk t (b1.trans b2)) a2 (e1_le p1) hc3 hd3 (fun S3 F3 H3 a3 b3 => next S3 F3 H3 a3 ((b1.trans b2).trans b3))
theorem r_digs {most : Nat} {post : Int32 → PS → Prop} (hB : oB 10 S0 B) (hm : most ≤ 2) : ∀ (k l v p : Nat) (S : PS) (F : Nat → Int32), RS S0 B F h S → tO F h tx → l + k = most → F 18 = nI p → F 19 = -1 → p ≤ tx.length → ∀ fuel, k < fuel → (∀ S1 F1, RS S0 B F1 h S1 → F1 18 = nI (pN tx k p v).1 → F1 19 = -1 → fk F F1 → post (nI (pN tx k p v).2) S1) → f_X8_number_L43 post fuel S (B 0) (nI most) (nI v) (nI l) := by
  intro k
  induction k with
  | zero =>
    intro l v p S F H t hl hF h19 hp fuel hf next
    obtain ⟨n, rfl⟩ : ∃ n, fuel = n + 1 := ⟨fuel - 1, by omega⟩
    simp only [f_X8_number_L43]
    rw [if_pos (nI_le (by omega) (by omega))]
    exact next S F H hF h19 fk.refl
  | succ k ih =>
    intro l v p S F H t hl hF h19 hp fuel hf next
    obtain ⟨n, rfl⟩ : ∃ n, fuel = n + 1 := ⟨fuel - 1, by omega⟩
    simp only [f_X8_number_L43]
    rw [if_neg (nI_ge (by omega) (by omega)), OS_isO hB (by omega) H, r_sign hB H t hF hp]
    show f_X8_in S (sgn tx p) (nI 48) (nI 57) _
    rw [r_in (m := 0) (by omega) (by omega)]
    unfold pN at next
    cases e : dgt tx p with
    | none =>
      rw [e] at next
      have hn : ¬ (¬ sgn tx p < nI 48 ∧ ¬ nI 57 < sgn tx p) := by
        unfold dgt at e
        unfold sgn
        cases e2 : tx[p]? with
        | none => exact fun z => z.1 (by decide)
        | some x =>
          rw [e2] at e
          dsimp only at e
          have hx := (t.2.2 p x e2).2
          by_cases q : 48 ≤ x ∧ x ≤ 57
          · rw [if_pos q] at e; cases e
          · rintro ⟨z1, z2⟩
            rw [nI_ltI (by omega) (by omega)] at z1 z2
            omega
      rw [if_neg hn, if_pos rfl]
      exact next S F H hF h19 fk.refl
    | some d =>
      obtain ⟨g1, g2, g3⟩ := dgt_some e
      rw [e] at next
      have hsg : sgn tx p = nI (d + 48) := by unfold sgn; rw [g1]
      have hn : ¬ sgn tx p < nI 48 ∧ ¬ nI 57 < sgn tx p := by
        rw [hsg, nI_ltI (by omega) (by omega), nI_ltI (by omega) (by omega)]; omega
      rw [if_pos hn, if_neg (by decide), OS_isO hB (by omega) H, r_sign hB H t hF hp, hsg, OS_gI hB (by omega) H (f := 18) (x := F 18) rfl, hF, nI_1, show (10 : Int32) = nI 10 from rfl, show (48 : Int32) = nI 48 from rfl, pk_mul, nI_add, pk_sub (by omega), nI_1, show 10 * v + (d + 48) - 48 = 10 * v + d by omega]
      refine OS_pV hB (by omega) H (f := 18) rfl (by show 18 < 25; decide) (fun S1 H1 => ?_)
      have k1 : fk F (Fu F 18 (nI (p + 1))) := fun i h1 _ => Fu_ne h1
      exact ih (l + 1) (10 * v + d) (p + 1) S1 _ H1 (tO_fk t k1) (by omega) Fu_at ((Fu_ne (by decide)).trans h19) (by omega) n (by omega) (fun S2 F2 H2 a1 a2 a3 => next S2 F2 H2 a1 a2 (k1.trans a3))
theorem r_number {s : Rs} {c : Nat} {post : Int32 → PS → Prop} (hB : oB 10 S0 B) (H : RS S0 B F h S) (t : tO F h tx) (hs : sT F s) (hp : s.1 ≤ tx.length) (hc : c = 35 ∨ c = 37) (next : ∀ (r : Int32) S1 F1, RS S0 B F1 h S1 → sT F1 ([32, c].foldl (e1 tx) s) → fk F F1 → (([32, c].foldl (e1 tx) s).2.1 = true → ∃ x, ([32, c].foldl (e1 tx) s).2.2 = s.2.2 ++ [x] ∧ r = nI x) → post r S1) : f_X8_number S (B 0) (nI (many c)) post := by
  unfold f_X8_number
  rw [OS_isO hB (by omega) H]
  show f_X8_needs S (B 0) (nI 32) _
  refine r_needs hB H t hs hp (by omega) (by omega) (fun S1 F1 H1 a1 b1 => ?_)
  have p1 := e1_le (c := 32) hp
  have h60 := t.2.1
  have t1 := tO_fk t b1
  have hv : (e1 tx s 32).2.1 = true → (e1 tx s 32).2.2 = s.2.2 := fun z => by
    cases hb : s.2.1 with
    | false => rw [e1_no hb] at z ⊢
    | true =>
      rw [e1_l hb (by omega)] at z ⊢
      by_cases q : tx[s.1]? = some 32
      · rw [if_pos q]
      · rw [if_neg q] at z; cases z
  rw [show [32, c].foldl (e1 tx) s = e1 tx (e1 tx s 32) c from rfl] at next
  obtain ⟨u, hu⟩ : ∃ u, u = e1 tx s 32 := ⟨_, rfl⟩
  rw [← hu] at next a1 p1 hv
  rw [OS_gI hB (by omega) H1 (f := 19) (x := F1 19) rfl, a1.2]
  cases hb : u.2.1 with
  | false =>
    rw [if_neg (show ¬ false = true by decide), if_neg (nI_pos (by omega))]
    rw [e1_no hb] at next
    exact next 0 S1 F1 H1 a1 b1 (fun z => by rw [hb] at z; cases z)
  | true =>
    have a19 : F1 19 = -1 := by rw [a1.2, hb]; rfl
    rw [if_pos rfl, if_pos (by decide), OS_isO hB (by omega) H1, r_sign hB H1 t1 a1.1 p1]
    show f_X8_in S1 (sgn tx u.1) (nI 48) (nI 57) _
    rw [r_in (m := 0) (by omega) (by omega)]
    rw [e1_d hb hc] at next
    cases e : dgt tx u.1 with
    | none =>
      rw [e] at next
      dsimp only at next
      have hn : ¬ (¬ sgn tx u.1 < nI 48 ∧ ¬ nI 57 < sgn tx u.1) := by
        unfold dgt at e
        unfold sgn
        cases e2 : tx[u.1]? with
        | none => exact fun z => z.1 (by decide)
        | some x =>
          rw [e2] at e
          dsimp only at e
          have hx := (t.2.2 u.1 x e2).2
          by_cases q : 48 ≤ x ∧ x ≤ 57
          · rw [if_pos q] at e; cases e
          · rintro ⟨z1, z2⟩
            rw [nI_ltI (by omega) (by omega)] at z1 z2
            omega
      rw [if_neg hn, if_pos rfl, OS_gI hB (by omega) H1 (f := 18) (x := F1 18) rfl, a1.1]
      refine OS_pV hB (by omega) H1 (f := 19) rfl (by show 19 < 25; decide) (fun S2 H2 => ?_)
      exact next 0 S2 _ H2 ⟨(Fu_ne (by decide)).trans a1.1, Fu_at⟩ (b1.trans (fun i _ h1 => Fu_ne h1)) (fun z => by cases z)
    | some d =>
      obtain ⟨g1, g2, g3⟩ := dgt_some e
      rw [e] at next
      dsimp only at next
      have hsg : sgn tx u.1 = nI (d + 48) := by unfold sgn; rw [g1]
      have hn : ¬ sgn tx u.1 < nI 48 ∧ ¬ nI 57 < sgn tx u.1 := by
        rw [hsg, nI_ltI (by omega) (by omega), nI_ltI (by omega) (by omega)]; omega
      rw [if_pos hn, if_neg (by decide)]
      refine r_digs hB (many_b c).2 (many c) 0 0 u.1 S1 F1 H1 t1 (by omega) a1.1 a19 p1 4096 (by have := (many_b c).2; omega) (fun S2 F2 H2 c1 c2 c3 => ?_)
      exact next _ S2 F2 H2 ⟨c1, by rw [c2]; rfl⟩ (b1.trans c3) (fun _ => ⟨_, by rw [hv hb], rfl⟩)
def ltr (k : Nat) : Nat := [104, 103, 98, 108, 109, 115, 112].getD k 0
def wrd (k : Nat) : List Nat := [[111, 117, 115, 101], [111], [111, 110, 100], [111, 111, 115, 101], [97, 114, 114, 121], [105, 100, 101], [97, 114, 116]].getD k []
def nms (k : Nat) : List Nat := [[], [32, 35], [32, 35, 32, 35, 32, 37], [32, 35, 32, 35], [32, 35, 32, 35], [32, 35, 32, 35], []].getD k []
theorem fm_is : ∀ k, k < 7 → fm k = ltr k :: (wrd k ++ nms k) := by decide
theorem ltr_b : ∀ k, k < 7 → ltr k < 128 ∧ ¬ (ltr k = 35 ∨ ltr k = 37) := by decide
theorem r_word {s : Rs} {k : Nat} {post : PS → Prop} (hB : oB 10 S0 B) (H : RS S0 B F h S) (t : tO F h tx) (hs : sT F s) (hp : s.1 ≤ tx.length) (hk : k < 7) (next : ∀ S1 F1, RS S0 B F1 h S1 → sT F1 ((wrd k).foldl (e1 tx) s) → fk F F1 → post S1) : f_X8_word S (B 0) (nI (ltr k)) post := by
  have four : ∀ (c1 c2 c3 c4 : Nat), c1 < 128 → c2 < 128 → c3 < 128 → c4 < 128 → ¬ (c1 = 35 ∨ c1 = 37) → ¬ (c2 = 35 ∨ c2 = 37) → ¬ (c3 = 35 ∨ c3 = 37) → ¬ (c4 = 35 ∨ c4 = 37) → (∀ S1 F1, RS S0 B F1 h S1 → sT F1 ([c1, c2, c3, c4].foldl (e1 tx) s) → fk F F1 → post S1) → isO S (B 0) 12 (f_X8_signs S (B 0) (nI c1) (nI c2) (nI c3) fun S12 => isO S12 (B 0) 12 (f_X8_needs S12 (B 0) (nI c4) fun S14 => post S14)) := fun c1 c2 c3 c4 q1 q2 q3 q4 d1 d2 d3 d4 next => by
    rw [OS_isO hB (by omega) H]
    refine r_signs hB H t hs hp q1 q2 q3 d1 d2 d3 (fun S1 F1 H1 a1 b1 => ?_)
    rw [OS_isO hB (by omega) H1]
    exact r_needs hB H1 (tO_fk t b1) a1 (fold_le [c1, c2, c3] s hp) q4 d4 (fun S2 F2 H2 a2 b2 => next S2 F2 H2 a2 (b1.trans b2))
  have thr : ∀ (c1 c2 c3 : Nat), c1 < 128 → c2 < 128 → c3 < 128 → ¬ (c1 = 35 ∨ c1 = 37) → ¬ (c2 = 35 ∨ c2 = 37) → ¬ (c3 = 35 ∨ c3 = 37) → (∀ S1 F1, RS S0 B F1 h S1 → sT F1 ([c1, c2, c3].foldl (e1 tx) s) → fk F F1 → post S1) → isO S (B 0) 12 (f_X8_signs S (B 0) (nI c1) (nI c2) (nI c3) fun S12 => post S12) := fun c1 c2 c3 q1 q2 q3 d1 d2 d3 next => by
    rw [OS_isO hB (by omega) H]
    exact r_signs hB H t hs hp q1 q2 q3 d1 d2 d3 next
  rcases (show k = 0 ∨ k = 1 ∨ k = 2 ∨ k = 3 ∨ k = 4 ∨ k = 5 ∨ k = 6 by omega) with rfl | rfl | rfl | rfl | rfl | rfl | rfl
  · exact four 111 117 115 101 (by decide) (by decide) (by decide) (by decide) (by decide) (by decide) (by decide) (by decide) next
  · have : isO S (B 0) 12 (f_X8_needs S (B 0) (nI 111) fun S9 => post S9) := by
      rw [OS_isO hB (by omega) H]
      exact r_needs hB H t hs hp (by decide) (by decide) next
    exact this
  · exact thr 111 110 100 (by decide) (by decide) (by decide) (by decide) (by decide) (by decide) next
  · exact four 111 111 115 101 (by decide) (by decide) (by decide) (by decide) (by decide) (by decide) (by decide) (by decide) next
  · exact four 97 114 114 121 (by decide) (by decide) (by decide) (by decide) (by decide) (by decide) (by decide) (by decide) next
  · exact thr 105 100 101 (by decide) (by decide) (by decide) (by decide) (by decide) (by decide) next
  · exact thr 97 114 116 (by decide) (by decide) (by decide) (by decide) (by decide) (by decide) next
/-- the orders that are read so far, in the reference's row -/
def osM (h : Nat → Nat → Int32) (os : List Od) : Prop := ∀ (i : Nat) (o : Od), os[i]? = some o → h 8 (4 * i) = nI (ltr o.1) ∧ ∀ j x, o.2[j]? = some x → h 8 (4 * i + 1 + j) = nI x
/-- an order in the making: its numbers so far -/
def vsM (h : Nat → Nat → Int32) (n j : Nat) (s : Rs) : Prop := s.2.1 = true → s.2.2.length = j ∧ ∀ i x, s.2.2[i]? = some x → h 8 (4 * n + 1 + i) = nI x
theorem r_put {s : Rs} {c n j : Nat} {kk : PS → Prop} (hB : oB 10 S0 B) (H : RS S0 B F h S) (t : tO F h tx) (hs : sT F s) (hp : s.1 ≤ tx.length) (hc : c = 35 ∨ c = 37) (hn : n ≤ 12) (hj : j < 3) (hv : vsM h n j s) (next : ∀ S1 F1 h1, RS S0 B F1 h1 S1 → sT F1 ([32, c].foldl (e1 tx) s) → fk F F1 → (∀ k, k ≠ 8 → h1 k = h k) → (∀ i, i < 4 * n + 1 → h1 8 i = h 8 i) → vsM h1 n (j + 1) ([32, c].foldl (e1 tx) s) → kk S1) : gR S (B 0) 12 21 (fun v9 => isO S (B 0) 12 (f_X8_number S (B 0) (nI (many c)) fun v11 S10 => sI S10 v9 0 (nI (4 * n + 1 + j)) v11 fun S12 => kk S12)) := by
  rw [OS_gR hB (by omega) H (k := 8) (f := 21) rfl, OS_isO hB (by omega) H]
  refine r_number hB H t hs hp hc (fun r S1 F1 H1 a1 b1 c1 => ?_)
  refine OS_sI hB (by omega) H1 (k := 8) (by omega) (show 4 * n + 1 + j < rrl 8 from (show 4 * n + 1 + j < 244 by omega)) (by decide) (fun S2 H2 => ?_)
  refine next S2 F1 _ H2 a1 b1 (fun k hk => hu_ne hk) (fun i hi => hu_off (by omega)) (fun hb => ?_)
  obtain ⟨x, x1, x2⟩ := c1 hb
  have ok1 : s.2.1 = true := (fold_ok [32, c] s hb).1
  obtain ⟨v1, v2⟩ := hv ok1
  refine ⟨by rw [x1, List.length_append, v1]; rfl, fun i y hy => ?_⟩
  rw [x1] at hy
  rcases ap_at hy with ⟨q1, q2⟩ | ⟨q1, q2⟩
  · rw [hu_off (by omega)]; exact v2 i y q2
  · rw [q1, q2, v1, hu_at]; exact x2
theorem kd_none {x : Option Nat} (h : kd x = none) : ∀ k, k < 7 → x ≠ some (ltr k) := by
  intro k hk e
  rw [e] at h
  rcases (show k = 0 ∨ k = 1 ∨ k = 2 ∨ k = 3 ∨ k = 4 ∨ k = 5 ∨ k = 6 by omega) with rfl | rfl | rfl | rfl | rfl | rfl | rfl <;> cases h
theorem r_order {p : Nat} {os : List Od} {post : PS → Prop} (hB : oB 10 S0 B) (H : RS S0 B F h S) (t : tO F h tx) (h18 : F 18 = nI p) (h19 : F 19 = -1) (h22 : F 22 = nI os.length) (hp : p ≤ tx.length) (hn : os.length ≤ 12) (hos : osM h os) (hok : ∀ o, o ∈ os → orOk o)
    (next : ∀ S1 F1 h1, RS S0 B F1 h1 S1 → sT F1 ((oS tx os p).1, (oS tx os p).2.1, []) → F1 22 = nI (oS tx os p).2.2.length → (∀ i, i ≠ 18 → i ≠ 19 → i ≠ 22 → F1 i = F i) → (∀ k, k ≠ 8 → h1 k = h k) → ((oS tx os p).2.1 = true → osM h1 (oS tx os p).2.2) → post S1) : f_X8_order S (B 0) post := by
  obtain ⟨n, hnn⟩ : ∃ n, n = os.length := ⟨_, rfl⟩
  have h60 := t.2.1
  unfold f_X8_order
  rw [OS_gI hB (by omega) H (f := 22) (x := F 22) rfl, OS_gI hB (by omega) H (f := 22) (x := F 22) rfl, h22, nI_1]
  refine OS_pV hB (by omega) H (f := 22) rfl (by show 22 < 25; decide) (fun S1 H1 => ?_)
  obtain ⟨F1, hF1⟩ : ∃ F1, F1 = Fu F 22 (nI (os.length + 1)) := ⟨_, rfl⟩
  rw [← hF1] at H1
  have f1 : ∀ i, i ≠ 22 → F1 i = F i := fun i hi => by rw [hF1]; exact Fu_ne hi
  have f22 : F1 22 = nI (os.length + 1) := by rw [hF1]; exact Fu_at
  have t1 : tO F1 h tx := ⟨(f1 17 (by decide)).trans t.1, t.2⟩
  rw [OS_isO hB (by omega) H1, r_sign hB H1 t1 ((f1 18 (by decide)).trans h18) hp, show (4 : Int32) = nI 4 from rfl, pk_mul, ← hnn]
  -- the row is emptied
  have key := loop_i (W := fun fuel j (s : PS × (Nat → Nat → Int32)) => f_X8_order_L24 post fuel s.1 (B 0) (nI (4 * n)) (sgn tx p) (nI j))
    (I := fun j s => RS S0 B F1 s.2 s.1 ∧ (∀ k, k ≠ 8 → s.2 k = h k) ∧ ∀ i, i < 4 * n → s.2 8 i = h 8 i) 4 (fun fu s hI => ?_) (fun fu j s hj hI ih => ?_) 4096 0 (S1, h) (by omega) (by omega) ⟨H1, fun _ _ => rfl, fun _ _ => rfl⟩
  · exact key
  · obtain ⟨c1, c2, c3⟩ := hI
    show f_X8_order_L24 post (fu + 1) s.1 (B 0) (nI (4 * n)) (sgn tx p) (nI 4)
    simp only [f_X8_order_L24]
    rw [if_pos (show (4 : Int32) ≤ nI 4 by decide)]
    obtain ⟨S2, h2⟩ := s
    dsimp only at c1 c2 c3 ⊢
    have t2 : tO F1 h2 tx := tO_h t1 (c2 7 (by decide))
    have g18 : F1 18 = nI p := (f1 18 (by decide)).trans h18
    have g19 : F1 19 = -1 := (f1 19 (by decide)).trans h19
    unfold oS po at next
    cases e : kd tx[p]? with
    | none =>
      rw [e] at next
      dsimp only at next
      have hno := kd_none e
      have no : ∀ k, k < 7 → ¬ sgn tx p = nI (ltr k) := fun k hk z => hno k hk ((sgn_eq t (ltr_b k hk).1).mp z)
      unfold f_X8_order_J44
      rw [if_neg (show ¬ sgn tx p = 104 from no 0 (by omega)), if_neg (show ¬ sgn tx p = 103 from no 1 (by omega)), if_neg (show ¬ sgn tx p = 98 from no 2 (by omega)), if_neg (show ¬ sgn tx p = 108 from no 3 (by omega)), if_neg (show ¬ sgn tx p = 109 from no 4 (by omega)), if_neg (show ¬ sgn tx p = 115 from no 5 (by omega)), if_neg (show ¬ sgn tx p = 112 from no 6 (by omega)), OS_gI hB (by omega) c1 (f := 18) (x := F1 18) rfl, g18]
      refine OS_pV hB (by omega) c1 (f := 19) rfl (by show 19 < 25; decide) (fun S3 H3 => ?_)
      refine next S3 _ h2 H3 ⟨(Fu_ne (by decide)).trans g18, Fu_at⟩ ?_ (fun i i1 i2 i3 => (Fu_ne i2).trans (f1 i i3)) c2 (fun z => by cases z)
      rw [Fu_ne (by decide), f22, List.length_append]; rfl
    | some k =>
      rw [e] at next
      dsimp only at next
      obtain ⟨hk, hkx⟩ := kd_some e
      have hfm := fm_is k (by omega)
      rw [hfm] at hkx
      have hkx : tx[p]? = some (ltr k) := hkx
      obtain ⟨l1, l2⟩ := ltr_b k (by omega)
      have hsg : sgn tx p = nI (ltr k) := (sgn_eq t l1).mpr hkx
      have hpl := lt_len hkx
      have j95 : f_X8_order_J95 post S2 (B 0) (nI (4 * n)) (nI (ltr k)) := by
        unfold f_X8_order_J95
        rw [OS_gI hB (by omega) c1 (f := 18) (x := F1 18) rfl, g18, nI_1]
        refine OS_pV hB (by omega) c1 (f := 18) rfl (by show 18 < 25; decide) (fun S3 H3 => ?_)
        rw [OS_isO hB (by omega) H3]
        have k3 : fk F1 (Fu F1 18 (nI (p + 1))) := fun i i1 _ => Fu_ne i1
        refine r_word (s := (p + 1, true, [])) (k := k) hB H3 (tO_fk t2 k3) ⟨Fu_at, (Fu_ne (by decide)).trans g19⟩ hpl (by omega) (fun S4 F4 H4 a4 b4 => ?_)
        have k4 := k3.trans b4
        obtain ⟨s4, hs4⟩ : ∃ s4, s4 = (wrd k).foldl (e1 tx) (p + 1, true, []) := ⟨_, rfl⟩
        have p4 : s4.1 ≤ tx.length := by rw [hs4]; exact fold_le (wrd k) (p + 1, true, []) hpl
        have v4 : s4.2.1 = true → s4.2.2 = [] := fun z => by
          rw [hs4] at z ⊢
          have := (fold_ok (wrd k) (p + 1, true, []) z).2.2.1
          have h0 : nn (wrd k) = 0 := by
            rcases (show k = 0 ∨ k = 1 ∨ k = 2 ∨ k = 3 ∨ k = 4 ∨ k = 5 ∨ k = 6 by omega) with rfl | rfl | rfl | rfl | rfl | rfl | rfl <;> rfl
          rw [h0] at this
          exact List.length_eq_zero_iff.mp this
        rw [← hs4] at a4
        have hfin : (fm k).foldl (e1 tx) (p, true, []) = (nms k).foldl (e1 tx) s4 := by
          rw [hfm, List.foldl_cons, List.foldl_append, hs4, e1_l rfl l2, if_pos hkx]
        rw [hfin] at next
        rw [OS_gR hB (by omega) H4 (k := 8) (f := 21) rfl]
        refine OS_sI hB (by omega) H4 (k := 8) (by omega) (show 4 * n < rrl 8 from (show 4 * n < 244 by omega)) (by decide) (fun S5 H5 => ?_)
        obtain ⟨h5, hh5⟩ : ∃ h5, h5 = hu h2 8 (4 * n) (nI (ltr k)) := ⟨_, rfl⟩
        rw [← hh5] at H5
        have e5 : ∀ q, q ≠ 8 → h5 q = h2 q := fun q hq => by rw [hh5]; exact hu_ne hq
        have g5 : ∀ i, i < 4 * n → h5 8 i = h 8 i := fun i hi => by rw [hh5, hu_off (by omega)]; exact c3 i hi
        have w5 : h5 8 (4 * n) = nI (ltr k) := by rw [hh5]; exact hu_at
        have t5 : tO F4 h5 tx := tO_h (tO_fk t2 k4) (e5 7 (by decide))
        -- what is left when all is read
        have fin : ∀ (S6 : PS) (F6 : Nat → Int32) (h6 : Nat → Nat → Int32) (j : Nat), RS S0 B F6 h6 S6 → sT F6 ((nms k).foldl (e1 tx) s4) → fk F4 F6 → (∀ q, q ≠ 8 → h6 q = h5 q) → (∀ i, i < 4 * n + 1 → h6 8 i = h5 8 i) → vsM h6 n j ((nms k).foldl (e1 tx) s4) → post S6 := fun S6 F6 h6 j H6 a6 b6 d6 q6 v6 => by
          have k6 := k4.trans b6
          refine next S6 F6 h6 H6 a6 ?_ (fun i i1 i2 i3 => (k6 i i1 i2).trans (f1 i i3)) (fun q hq => ((d6 q hq).trans (e5 q hq)).trans (c2 q hq)) (fun hb i o ho => ?_)
          · rw [k6 22 (by decide) (by decide), f22, List.length_append]; rfl
          · obtain ⟨-, v6⟩ := v6 hb
            rcases Nat.lt_trichotomy i os.length with q | q | q
            · rw [List.getElem?_append_left q] at ho
              obtain ⟨o1, o2⟩ := hos i o ho
              refine ⟨by rw [q6 _ (by omega), g5 _ (by omega)]; exact o1, fun j x hx => ?_⟩
              have ho' := hok o (List.mem_of_getElem? ho)
              have hj := lt_len hx
              have := cnt_le o.1 ho'.1
              rw [ho'.2.1] at hj
              rw [q6 _ (by omega), g5 _ (by omega)]; exact o2 j x hx
            · rw [q, List.getElem?_append_right (Nat.le_refl _), Nat.sub_self] at ho
              cases ho
              rw [q, ← hnn]
              exact ⟨by rw [q6 _ (by omega)]; exact w5, v6⟩
            · rw [List.getElem?_eq_none (by rw [List.length_append]; show os.length + 1 ≤ i; omega)] at ho; cases ho
        have z5 : vsM h5 n 0 s4 := fun z => ⟨by rw [v4 z]; rfl, fun i x hx => by rw [v4 z] at hx; cases hx⟩
        have none5 : nms k = [] → post S5 := fun hm => by
          rw [hm] at fin
          exact fin S5 F4 h5 0 H5 a4 fk.refl (fun _ _ => rfl) (fun _ _ => rfl) z5
        have p5 := fold_le [32, 35] s4 p4
        have p6 := fold_le [32, 35] _ p5
        rcases (show k = 0 ∨ k = 1 ∨ k = 2 ∨ k = 3 ∨ k = 4 ∨ k = 5 ∨ k = 6 by omega) with rfl | rfl | rfl | rfl | rfl | rfl | rfl
        · rw [if_pos (by decide)]; exact none5 rfl
        · rw [if_neg (by decide), if_neg (by decide), nI_1]
          refine r_put (c := 35) (n := n) (j := 0) hB H5 t5 a4 p4 (Or.inl rfl) (by omega) (by omega) z5 (fun S6 F6 h6 H6 a6 b6 d6 q6 v6 => ?_)
          rw [if_pos (by decide)]
          exact fin S6 F6 h6 1 H6 a6 b6 d6 q6 v6
        · rw [if_neg (by decide), if_neg (by decide), nI_1]
          refine r_put (c := 35) (n := n) (j := 0) hB H5 t5 a4 p4 (Or.inl rfl) (by omega) (by omega) z5 (fun S6 F6 h6 H6 a6 b6 d6 q6 v6 => ?_)
          rw [if_neg (by decide), show (2 : Int32) = nI 2 from rfl, nI_add]
          refine r_put (c := 35) (n := n) (j := 1) hB H6 (tO_h (tO_fk t5 b6) (d6 7 (by decide))) a6 p5 (Or.inl rfl) (by omega) (by omega) v6 (fun S7 F7 h7 H7 a7 b7 d7 q7 v7 => ?_)
          rw [if_pos (by decide), show (3 : Int32) = nI 3 from rfl, nI_add]
          have k7 := b6.trans b7
          refine r_put (c := 37) (n := n) (j := 2) hB H7 (tO_h (tO_fk t5 k7) ((d7 7 (by decide)).trans (d6 7 (by decide)))) a7 p6 (Or.inr rfl) (by omega) (by omega) v7 (fun S8 F8 h8 H8 a8 b8 d8 q8 v8 => ?_)
          exact fin S8 F8 h8 3 H8 a8 (k7.trans b8) (fun q hq => ((d8 q hq).trans (d7 q hq)).trans (d6 q hq)) (fun i hi => ((q8 i hi).trans (q7 i hi)).trans (q6 i hi)) v8
        · rw [if_neg (by decide), if_neg (by decide), nI_1]
          refine r_put (c := 35) (n := n) (j := 0) hB H5 t5 a4 p4 (Or.inl rfl) (by omega) (by omega) z5 (fun S6 F6 h6 H6 a6 b6 d6 q6 v6 => ?_)
          rw [if_neg (by decide), show (2 : Int32) = nI 2 from rfl, nI_add]
          refine r_put (c := 35) (n := n) (j := 1) hB H6 (tO_h (tO_fk t5 b6) (d6 7 (by decide))) a6 p5 (Or.inl rfl) (by omega) (by omega) v6 (fun S7 F7 h7 H7 a7 b7 d7 q7 v7 => ?_)
          rw [if_neg (by decide)]
          exact fin S7 F7 h7 2 H7 a7 (b6.trans b7) (fun q hq => (d7 q hq).trans (d6 q hq)) (fun i hi => (q7 i hi).trans (q6 i hi)) v7
        · rw [if_neg (by decide), if_neg (by decide), nI_1]
          refine r_put (c := 35) (n := n) (j := 0) hB H5 t5 a4 p4 (Or.inl rfl) (by omega) (by omega) z5 (fun S6 F6 h6 H6 a6 b6 d6 q6 v6 => ?_)
          rw [if_neg (by decide), show (2 : Int32) = nI 2 from rfl, nI_add]
          refine r_put (c := 35) (n := n) (j := 1) hB H6 (tO_h (tO_fk t5 b6) (d6 7 (by decide))) a6 p5 (Or.inl rfl) (by omega) (by omega) v6 (fun S7 F7 h7 H7 a7 b7 d7 q7 v7 => ?_)
          rw [if_neg (by decide)]
          exact fin S7 F7 h7 2 H7 a7 (b6.trans b7) (fun q hq => (d7 q hq).trans (d6 q hq)) (fun i hi => (q7 i hi).trans (q6 i hi)) v7
        · rw [if_neg (by decide), if_neg (by decide), nI_1]
          refine r_put (c := 35) (n := n) (j := 0) hB H5 t5 a4 p4 (Or.inl rfl) (by omega) (by omega) z5 (fun S6 F6 h6 H6 a6 b6 d6 q6 v6 => ?_)
          rw [if_neg (by decide), show (2 : Int32) = nI 2 from rfl, nI_add]
          refine r_put (c := 35) (n := n) (j := 1) hB H6 (tO_h (tO_fk t5 b6) (d6 7 (by decide))) a6 p5 (Or.inl rfl) (by omega) (by omega) v6 (fun S7 F7 h7 H7 a7 b7 d7 q7 v7 => ?_)
          rw [if_neg (by decide)]
          exact fin S7 F7 h7 2 H7 a7 (b6.trans b7) (fun q hq => (d7 q hq).trans (d6 q hq)) (fun i hi => (q7 i hi).trans (q6 i hi)) v7
        · rw [if_neg (by decide), if_pos (by decide)]; exact none5 rfl
      rw [hsg]
      unfold f_X8_order_J44
      rcases (show k = 0 ∨ k = 1 ∨ k = 2 ∨ k = 3 ∨ k = 4 ∨ k = 5 ∨ k = 6 by omega) with rfl | rfl | rfl | rfl | rfl | rfl | rfl
      · rw [if_pos (by decide)]; exact j95
      · rw [if_neg (by decide), if_pos (by decide)]; exact j95
      · rw [if_neg (by decide), if_neg (by decide), if_pos (by decide)]; exact j95
      · rw [if_neg (by decide), if_neg (by decide), if_neg (by decide), if_pos (by decide)]; exact j95
      · rw [if_neg (by decide), if_neg (by decide), if_neg (by decide), if_neg (by decide), if_pos (by decide)]; exact j95
      · rw [if_neg (by decide), if_neg (by decide), if_neg (by decide), if_neg (by decide), if_neg (by decide), if_pos (by decide)]; exact j95
      · rw [if_neg (by decide), if_neg (by decide), if_neg (by decide), if_neg (by decide), if_neg (by decide), if_neg (by decide), if_pos (by decide)]; exact j95
  · obtain ⟨c1, c2, c3⟩ := hI
    show f_X8_order_L24 post (fu + 1) s.1 (B 0) (nI (4 * n)) (sgn tx p) (nI j)
    simp only [f_X8_order_L24]
    rw [if_neg (show ¬ (4 : Int32) ≤ nI j from nI_ge (b := 4) hj (by omega)), OS_gR hB (by omega) c1 (k := 8) (f := 21) rfl, nI_add, nI_1]
    refine OS_sI hB (by omega) c1 (k := 8) (by omega) (show 4 * n + j < rrl 8 from (show 4 * n + j < 244 by omega)) (by decide) (fun S2 H2 => ?_)
    exact ih (S2, hu s.2 8 (4 * n + j) 0) ⟨H2, fun k hk => (hu_ne hk).trans (c2 k hk), fun i hi => (hu_off (by omega)).trans (c3 i hi)⟩
theorem r_parse {post : PS → Prop} (hB : oB 10 S0 B) (H : RS S0 B F h S) (t : tO F h tx)
    (next : ∀ S1 F1 h1, RS S0 B F1 h1 S1 → sT F1 ((rdT tx).1, (rdT tx).2.1, []) → F1 22 = nI (rdT tx).2.2.length → (∀ i, i ≠ 18 → i ≠ 19 → i ≠ 22 → F1 i = F i) → (∀ k, k ≠ 8 → h1 k = h k) → ((rdT tx).2.1 = true → osM h1 (rdT tx).2.2) → post S1) : f_X8_parse S (B 0) post := by
  have h60 := t.2.1
  have loop : ∀ (f : Nat) (s : Rt) (S : PS) (F1 : Nat → Int32) (h1 : Nat → Nat → Int32), rdT tx = pa tx f s → goOn tx s → tx.length < s.1 + f → RS S0 B F1 h1 S → sT F1 (s.1, s.2.1, []) → F1 22 = nI s.2.2.length → (∀ i, i ≠ 18 → i ≠ 19 → i ≠ 22 → F1 i = F i) → (∀ k, k ≠ 8 → h1 k = h k) → (s.2.1 = true → osM h1 s.2.2) → ∀ fuel, f < fuel → f_X8_parse_L19 post fuel S (B 0) := by
    intro f
    induction f with
    | zero => intro s S F1 h1 hpr hg hlt; have := hg.1; omega
    | succ f ih =>
      intro s S F1 h1 hpr hg hlt H1 a1 a22 aF ah ao fuel hf
      obtain ⟨n, rfl⟩ : ∃ n, fuel = n + 1 := ⟨fuel - 1, by omega⟩
      unfold pa at hpr
      have hle := hg.1
      have a18 : F1 18 = nI s.1 := a1.1
      have a19 : F1 19 = (if s.2.1 = true then -1 else nI s.1) := a1.2
      have t1 : tO F1 h1 tx := tO_h ⟨(aF 17 (by decide) (by decide) (by decide)).trans t.1, t.2⟩ (ah 7 (by decide))
      simp only [f_X8_parse_L19, f_X8_parse_J52]
      rw [OS_gI hB (by omega) H1 (f := 19) (x := F1 19) rfl, a19]
      cases hb : s.2.1 with
      | false =>
        rw [hb, if_pos rfl] at hpr
        rw [hb] at a19 a1
        rw [if_neg (show ¬ false = true by decide)] at a19 ⊢
        rw [if_pos (nI_pos' (by omega)), OS_gI hB (by omega) H1 (f := 19) (x := F1 19) rfl, a19, if_pos (nI_pos' (by omega))]
        rw [hpr, hb] at next
        exact next S F1 h1 H1 a1 a22 aF ah (fun z => by cases z)
      | true =>
        rw [hb, if_neg (by decide)] at hpr
        rw [hb] at a19 a1
        rw [if_pos rfl] at a19 ⊢
        obtain ⟨g3, g4⟩ := hg.2 hb
        rw [if_neg (by decide), OS_isO hB (by omega) H1, r_sign hB H1 t1 a18 hle]
        by_cases e : tx[s.1]? = some 59
        · rw [if_pos e] at hpr
          have hlp := lt_len e
          rw [if_pos (show sgn tx s.1 = 59 from (sgn_eq (c := 59) t (by omega)).mpr e), OS_gI hB (by omega) H1 (f := 18) (x := F1 18) rfl, a18, nI_1]
          refine OS_pV hB (by omega) H1 (f := 18) rfl (by show 18 < 25; decide) (fun S2 H2 => ?_)
          rw [OS_isO hB (by omega) H2]
          have t2 : tO (Fu F1 18 (nI (s.1 + 1))) h1 tx := ⟨(Fu_ne (by decide)).trans t1.1, t1.2⟩
          refine r_order (p := s.1 + 1) (os := s.2.2) hB H2 t2 Fu_at ((Fu_ne (by decide)).trans a19) ((Fu_ne (by decide)).trans a22) hlp (by omega) (ao hb) g4 (fun S3 F3 h3 H3 b1 b2 b3 b4 b5 => ?_)
          have h4 := po_ge (tx := tx) (p := s.1 + 1) hlp
          refine ih (oS tx s.2.2 (s.1 + 1)) S3 F3 h3 hpr (oS_go hlp g3 g4) ?_ H3 b1 b2 (fun i i1 i2 i3 => ((b3 i i1 i2 i3).trans (Fu_ne i1)).trans (aF i i1 i2 i3)) (fun k hk => (b4 k hk).trans (ah k hk)) b5 n (by omega)
          show tx.length < (po tx (s.1 + 1)).1 + f
          omega
        · rw [if_neg e] at hpr
          rw [if_neg (show ¬ sgn tx s.1 = 59 from fun z => e ((sgn_eq (c := 59) t (by omega)).mp z)), OS_gI hB (by omega) H1 (f := 19) (x := F1 19) rfl, a19, if_neg (by decide), OS_gI hB (by omega) H1 (f := 18) (x := F1 18) rfl, OS_gI hB (by omega) H1 (f := 17) (x := F1 17) rfl, t1.1, a18]
          by_cases q : s.1 = tx.length
          · rw [if_pos q] at hpr
            rw [if_pos (nI_le (by omega) (by omega))]
            rw [hpr, hb] at next
            exact next S F1 h1 H1 a1 a22 aF ah (fun _ => ao hb)
          · rw [if_neg q] at hpr
            rw [if_neg (nI_ge (by omega) (by omega)), OS_gI hB (by omega) H1 (f := 18) (x := F1 18) rfl, a18]
            refine OS_pV hB (by omega) H1 (f := 19) rfl (by show 19 < 25; decide) (fun S2 H2 => ?_)
            rw [hpr] at next
            exact next S2 _ h1 H2 ⟨(Fu_ne (by decide)).trans a18, Fu_at⟩ ((Fu_ne (by decide)).trans a22) (fun i i1 i2 i3 => (Fu_ne i2).trans (aF i i1 i2 i3)) ah (fun z => by cases z)
  unfold f_X8_parse
  refine OS_pV hB (by omega) H (f := 18) rfl (by show 18 < 25; decide) (fun S1 H1 => ?_)
  refine OS_pV hB (by omega) H1 (f := 19) rfl (by show 19 < 25; decide) (fun S2 H2 => ?_)
  refine OS_pV hB (by omega) H2 (f := 22) rfl (by show 22 < 25; decide) (fun S3 H3 => ?_)
  rw [OS_isO hB (by omega) H3]
  obtain ⟨F3, hF3⟩ : ∃ F3, F3 = Fu (Fu (Fu F 18 0) 19 (-1)) 22 0 := ⟨_, rfl⟩
  rw [← hF3] at H3
  have f3 : ∀ i, i ≠ 18 → i ≠ 19 → i ≠ 22 → F3 i = F i := fun i i1 i2 i3 => by rw [hF3, Fu_ne i3, Fu_ne i2, Fu_ne i1]
  refine r_order (p := 0) (os := []) hB H3 ⟨(f3 17 (by decide) (by decide) (by decide)).trans t.1, t.2⟩ (by rw [hF3]; rfl) (by rw [hF3]; rfl) (by rw [hF3]; rfl) (Nat.zero_le _) (by decide) (fun i o ho => (by cases ho)) (fun o ho => (by cases ho)) (fun S4 F4 h4 H4 b1 b2 b3 b4 b5 => ?_)
  exact loop 61 (oS tx [] 0) S4 F4 h4 rfl (oS_go (Nat.zero_le _) (Nat.le_refl _) (fun o ho => (by cases ho))) (by omega) H4 b1 b2 (fun i i1 i2 i3 => (b3 i i1 i2 i3).trans (f3 i i1 i2 i3)) b4 b5 4096 (by omega)
end PAR
