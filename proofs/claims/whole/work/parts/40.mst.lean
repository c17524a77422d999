/-! the reference as a whole: its rows, and what its own calls make of them -/
theorem rst_hu1 {h : Nat → Nat → Int32} {j : Nat} {x : Int32} : ∀ k, k ≠ 1 → hu h 1 j x k = h k := fun _ hk => hu_ne hk
/-- a row copied -/
def cps (h h1 : Nat → Nat → Int32) (i j : Nat) : Prop := (∀ k, k ≠ 1 → h1 k = h k) ∧ ∀ x, h1 1 x = if 94 * j ≤ x ∧ x < 94 * j + 94 then h 1 (94 * i + (x - 94 * j)) else h 1 x
theorem cps_to {h h1 : Nat → Nat → Int32} {i j : Nat} {w : Vt} (c : cps h h1 i j) (hr : rowV h i w) : rowV h1 j w := fun k hk => by
  rw [c.2, if_pos (by omega), show 94 * j + k - 94 * j = k by omega]
  exact hr k hk
theorem cps_ot {h h1 : Nat → Nat → Int32} {i j r : Nat} {w : Vt} (c : cps h h1 i j) (hne : r ≠ j) (hr : rowV h r w) : rowV h1 r w := fun k hk => by
  rw [c.2, if_neg (by omega)]
  exact hr k hk
/-- all but row 0 -/
def mX (F : Nat → Int32) (h : Nat → Nat → Int32) (hs : List Vt) (sv : Option Vt) (r : Nat → Int32) (tx : List Nat) (fa : Int32) (ln : List Nat) : Prop :=
  (F 2 = nI hs.length ∧ hs.length ≤ 8 ∧ ∀ i w, hs[i]? = some w → rowV h (hs.length - i) w) ∧ ((sv = none ∧ F 3 = 0) ∨ ∃ w, sv = some w ∧ F 3 = 1 ∧ rowV h 9 w) ∧ (F 5 = r 0 ∧ F 6 = r 1 ∧ F 7 = r 2 ∧ (r 2 ≠ 0 → F 8 = r 3)) ∧ (F 17 = nI tx.length ∧ ∀ i c, tx[i]? = some c → h 7 i = nI c) ∧ F 20 = fa ∧ F 24 = nI ln.length ∧ ∀ i c, ln[i]? = some c → h 9 i = nI c
theorem lt_len {α : Type} {l : List α} {i : Nat} {w : α} (h : l[i]? = some w) : i < l.length := by
  rcases Nat.lt_or_ge i l.length with q | q
  · exact q
  · rw [List.getElem?_eq_none q] at h; cases h
theorem rowV_x {h h1 : Nat → Nat → Int32} {r : Nat} {w : Vt} (hr : rowV h r w) (h0 : 0 < r) (h9 : r ≤ 9) (hx : ∀ x, 94 ≤ x → x < 940 → h1 1 x = h 1 x) : rowV h1 r w := fun k hk => by
  rw [hx _ (by omega) (by omega)]; exact hr k hk
theorem mX_ext {F F1 : Nat → Int32} {h h1 : Nat → Nat → Int32} {hs : List Vt} {sv : Option Vt} {r : Nat → Int32} {tx : List Nat} {fa : Int32} {ln : List Nat} (m : mX F h hs sv r tx fa ln) (e : F1 2 = F 2 ∧ F1 3 = F 3 ∧ F1 5 = F 5 ∧ F1 6 = F 6 ∧ F1 7 = F 7 ∧ F1 8 = F 8 ∧ F1 17 = F 17 ∧ F1 20 = F 20 ∧ F1 24 = F 24) (e7 : h1 7 = h 7) (e9 : h1 9 = h 9) (hx : ∀ x, 94 ≤ x → x < 940 → h1 1 x = h 1 x) : mX F1 h1 hs sv r tx fa ln := by
  obtain ⟨⟨a1, a2, a3⟩, b, ⟨c1, c2, c3, c4⟩, ⟨d1, d2⟩, f, g1, g2⟩ := m
  obtain ⟨e2, e3, e5, e6, e7', e8, e17, e20, e24⟩ := e
  refine ⟨⟨e2.trans a1, a2, fun i w hw => ?_⟩, ?_, ⟨e5.trans c1, e6.trans c2, e7'.trans c3, fun z => e8.trans (c4 z)⟩, ⟨e17.trans d1, by rw [e7]; exact d2⟩, e20.trans f, e24.trans g1, by rw [e9]; exact g2⟩
  · have := lt_len hw
    exact rowV_x (a3 i w hw) (by omega) (by omega) hx
  · rcases b with ⟨b1, b2⟩ | ⟨w, b1, b2, b3⟩
    · exact Or.inl ⟨b1, e3.trans b2⟩
    · exact Or.inr ⟨w, b1, e3.trans b2, rowV_x b3 (by omega) (by omega) hx⟩
theorem mX_dn {F F1 : Nat → Int32} {h h1 : Nat → Nat → Int32} {hs : List Vt} {sv : Option Vt} {r : Nat → Int32} {tx : List Nat} {fa : Int32} {ln : List Nat} (m : mX F h hs sv r tx fa ln) (d : mdn F h F1 h1) : mX F1 h1 hs sv r tx fa ln :=
  mX_ext m ⟨d.1 2 (by decide) (by decide) (by decide), d.1 3 (by decide) (by decide) (by decide), d.1 5 (by decide) (by decide) (by decide), d.1 6 (by decide) (by decide) (by decide), d.1 7 (by decide) (by decide) (by decide), d.1 8 (by decide) (by decide) (by decide), d.1 17 (by decide) (by decide) (by decide), d.1 20 (by decide) (by decide) (by decide), d.1 24 (by decide) (by decide) (by decide)⟩ (d.2.1 7 (by omega)) (d.2.1 9 (by omega)) (fun x hx _ => d.2.2 x hx)
theorem mX_rF {F : Nat → Int32} {h : Nat → Nat → Int32} {hs : List Vt} {sv : Option Vt} {r : Nat → Int32} {tx : List Nat} {fa : Int32} {ln : List Nat} {y z : Int32} (m : mX F h hs sv r tx fa ln) : mX (rF F y z) h hs sv (rK y z) tx fa ln := by
  obtain ⟨a, b, c, d, f, g⟩ := m
  exact ⟨a, b, ⟨rfl, rfl, rfl, fun q => absurd rfl q⟩, d, f, g⟩
theorem mX_cp {F : Nat → Int32} {h h1 : Nat → Nat → Int32} {hs : List Vt} {sv : Option Vt} {r : Nat → Int32} {tx : List Nat} {fa : Int32} {ln : List Nat} {i j : Nat} (m : mX F h hs sv r tx fa ln) (c : cps h h1 i j) (hj : j = 0 ∨ 10 ≤ j) : mX F h1 hs sv r tx fa ln :=
  mX_ext m ⟨rfl, rfl, rfl, rfl, rfl, rfl, rfl, rfl, rfl⟩ (c.1 7 (by decide)) (c.1 9 (by decide)) (fun x h1 h2 => by rw [c.2, if_neg (by omega)])
theorem mX_F {F F1 : Nat → Int32} {h : Nat → Nat → Int32} {hs : List Vt} {sv : Option Vt} {r : Nat → Int32} {tx : List Nat} {fa : Int32} {ln : List Nat} (m : mX F h hs sv r tx fa ln) (e : F1 2 = F 2 ∧ F1 3 = F 3 ∧ F1 5 = F 5 ∧ F1 6 = F 6 ∧ F1 7 = F 7 ∧ F1 8 = F 8 ∧ F1 17 = F 17 ∧ F1 20 = F 20 ∧ F1 24 = F 24) : mX F1 h hs sv r tx fa ln := mX_ext m e rfl rfl (fun _ _ _ => rfl)
section MST
variable {S0 S : PS} {B : Nat → Nat} {F : Nat → Int32} {h : Nat → Nat → Int32} {v : Vt} {hs : List Vt} {sv : Option Vt} {r : Nat → Int32} {tx : List Nat} {fa : Int32} {ln : List Nat}
theorem r_copies {i j : Nat} {post : PS → Prop} (hB : oB 10 S0 B) (H : RS S0 B F h S) (hi : i < 12) (hj : j < 12) (hij : i ≠ j) (next : ∀ S1 h1, RS S0 B F h1 S1 → cps h h1 i j → post S1) : f_X8_copies S (B 0) (nI i) (nI j) post := by
  have key := loop_i (W := fun fuel k (s : PS × (Nat → Nat → Int32)) => f_X8_copies_L2 post fuel s.1 (B 0) (nI i) (nI j) (nI k))
    (I := fun k s => RS S0 B F s.2 s.1 ∧ (∀ k, k ≠ 1 → s.2 k = h k) ∧ ∀ x, s.2 1 x = if 94 * j ≤ x ∧ x < 94 * j + k then h 1 (94 * i + (x - 94 * j)) else h 1 x) 94 (fun n s hI => ?_) (fun n k s hk hI ih => ?_) 4096 0 (S, h) (by omega) (by omega) ⟨H, fun _ _ => rfl, fun x => by rw [if_neg (by omega)]⟩
  · exact key
  · obtain ⟨c1, c2, c3⟩ := hI
    show f_X8_copies_L2 post (n + 1) s.1 (B 0) (nI i) (nI j) (nI 94)
    simp only [f_X8_copies_L2]
    rw [if_pos (show (94 : Int32) ≤ nI 94 by decide)]
    exact next s.1 s.2 c1 ⟨c2, c3⟩
  · obtain ⟨c1, c2, c3⟩ := hI
    show f_X8_copies_L2 post (n + 1) s.1 (B 0) (nI i) (nI j) (nI k)
    simp only [f_X8_copies_L2]
    rw [if_neg (show ¬ (94 : Int32) ≤ nI k from nI_ge (b := 94) hk (by omega)), OS_gR hB (by omega) c1 (k := 1) (f := 1) rfl, OS_gR hB (by omega) c1 (k := 1) (f := 1) rfl, show (94 : Int32) = nI 94 from rfl, pk_mul, nI_add, OS_aI hB c1 (k := 1) (by omega) (show 94 * i + k < 1128 by omega) (by decide), c3, if_neg (by omega), pk_mul, nI_add, nI_1]
    refine OS_sI hB (by omega) c1 (k := 1) (by omega) (show 94 * j + k < 1128 by omega) (by decide) (fun S2 H2 => ?_)
    refine ih (S2, hu s.2 1 (94 * j + k) (h 1 (94 * i + k))) ⟨H2, fun k' hk' => (hu_ne hk').trans (c2 k' hk'), fun x => ?_⟩
    show hu s.2 1 (94 * j + k) (h 1 (94 * i + k)) 1 x = _
    rw [hu_if, c3]
    by_cases e : x = 94 * j + k
    · rw [if_pos e, if_pos (by omega), e, show 94 * j + k - 94 * j = k by omega]
    · rw [if_neg e]
      by_cases e2 : 94 * j ≤ x ∧ x < 94 * j + k
      · rw [if_pos e2, if_pos (by omega)]
      · rw [if_neg e2, if_neg (by omega)]
theorem r_begins {post : PS → Prop} (hB : oB 10 S0 B) (H : RS S0 B F h S) (hr : rowV h 0 v) (m : mX F h hs sv r tx fa ln) (next : ∀ S1 h1, RS S0 B F h1 S1 → rowV h1 0 v → rowV h1 10 v → mX F h1 hs sv r tx fa ln → (∀ k, k ≠ 1 → h1 k = h k) → post S1) : f_X8_begins S (B 0) post := by
  unfold f_X8_begins
  rw [OS_isO hB (by omega) H]
  show f_X8_copies S (B 0) (nI 0) (nI 10) _
  refine r_copies hB H (by omega) (by omega) (by omega) (fun S1 h1 H1 c => ?_)
  exact next S1 h1 H1 (cps_ot c (by omega) hr) (cps_to c hr) (mX_cp m c (by omega)) c.1
theorem r_endsN {k : Int32} {post : Int32 → PS → Prop} (hB : oB 10 S0 B) (H : RS S0 B F h S) (hr : rowV h 10 v) (m : mX F h hs sv r tx fa ln) (next : ∀ S1 F1 h1, RS S0 B F1 h1 S1 → F1 0 = k → rowV h1 0 v → mX F1 h1 hs sv r tx fa ln → post 0 S1) : f_X8_ends S (B 0) 0 k post := by
  unfold f_X8_ends
  rw [if_pos rfl]
  unfold f_X8_ends_J10
  refine OS_pV hB (by omega) H (f := 0) rfl (by show 0 < 25; decide) (fun S2 H2 => ?_)
  rw [if_pos rfl, OS_isO hB (by omega) H2]
  show f_X8_copies S2 (B 0) (nI 10) (nI 0) _
  refine r_copies hB H2 (by omega) (by omega) (by omega) (fun S3 h3 H3 c => ?_)
  exact next S3 _ h3 H3 Fu_at (cps_to c hr) (mX_cp (mX_F m ⟨rfl, rfl, rfl, rfl, rfl, rfl, rfl, rfl, rfl⟩) c (by omega))
theorem r_endsY {a : Nat} {k : Int32} {w : Vt} {post : Int32 → PS → Prop} (hB : oB 10 S0 B) (H : RS S0 B F h S) (hr0 : rowV h 0 w) (hr : rowV h 10 v) (m : mX F h hs sv r tx fa ln) (h4 : F 4 = nI a) (next : ∀ S1 F1 h1, RS S0 B F1 h1 S1 → F1 0 = 0 → rowV h1 0 w → mX F1 h1 ((v :: hs).take 8) sv r tx fa ln → post (nI a) S1) : f_X8_ends S (B 0) 1 k post := by
  obtain ⟨⟨a1, a2, a3⟩, b, c, d⟩ := m
  -- the row put on top of L rows that hold all but the oldest
  have top : ∀ (S2 : PS) (F2 : Nat → Int32) (h2 : Nat → Nat → Int32) (L : Nat), RS S0 B F2 h2 S2 → F2 0 = 0 → F2 2 = nI L → L ≤ 7 → F2 4 = nI a → rowV h2 0 w → rowV h2 10 v → (∀ i w, i < L → hs[i]? = some w → rowV h2 (L - i) w) → (L = hs.length ∨ hs.length = 8 ∧ L = 7) → (∀ i, i ≠ 0 → i ≠ 2 → F2 i = F i) → (∀ k, k ≠ 1 → h2 k = h k) → (∀ x, 94 * 9 ≤ x → x < 940 → h2 1 x = h 1 x) → f_X8_ends_J67 post S2 (B 0) := by
    intro S2 F2 h2 L H2 f0 f2 hL f4 r0 r10 hh hcase fF fh fx
    unfold f_X8_ends_J67
    rw [OS_gI hB (by omega) H2 (f := 2) (x := F2 2) rfl, f2, nI_1]
    refine OS_pV hB (by omega) H2 (f := 2) rfl (by show 2 < 25; decide) (fun S3 H3 => ?_)
    rw [OS_gI hB (by omega) H3 (f := 2) (x := nI (L + 1)) rfl, OS_isO hB (by omega) H3]
    show f_X8_copies S3 (B 0) (nI 10) (nI (L + 1)) _
    refine r_copies hB H3 (by omega) (by omega) (by omega) (fun S4 h4 H4 cc => ?_)
    rw [OS_gI hB (by omega) H4 (f := 4) (x := F2 4) rfl, f4]
    have hlen : ((v :: hs).take 8).length = L + 1 := by
      rw [List.length_take, List.length_cons]
      rcases hcase with q | q <;> omega
    refine next S4 _ h4 H4 f0 (cps_ot cc (by omega) r0) ⟨⟨by rw [hlen]; rfl, by rw [hlen]; omega, fun i w' hw' => ?_⟩, ?_, ?_⟩
    · have hi := lt_len hw'
      rw [hlen] at hi ⊢
      rw [List.getElem?_take_of_lt (by omega)] at hw'
      cases i with
      | zero => cases hw'; exact cps_to cc r10
      | succ i =>
        rw [List.getElem?_cons_succ] at hw'
        rw [show L + 1 - (i + 1) = L - i by omega]
        exact cps_ot cc (by omega) (hh i w' (by omega) hw')
    · rcases b with ⟨b1, b2⟩ | ⟨w', b1, b2, b3⟩
      · exact Or.inl ⟨b1, by show F2 3 = 0; rw [fF 3 (by decide) (by decide)]; exact b2⟩
      · refine Or.inr ⟨w', b1, by show F2 3 = 1; rw [fF 3 (by decide) (by decide)]; exact b2, cps_ot cc (by omega) (fun k hk => ?_)⟩
        rw [fx _ (by omega) (by omega)]; exact b3 k hk
    · obtain ⟨c1, c2, c3, c4⟩ := c
      obtain ⟨⟨d1, d2⟩, f, g1, g2⟩ := d
      refine ⟨⟨(fF 5 (by decide) (by decide)).trans c1, (fF 6 (by decide) (by decide)).trans c2, (fF 7 (by decide) (by decide)).trans c3, fun z => (fF 8 (by decide) (by decide)).trans (c4 z)⟩, ⟨(fF 17 (by decide) (by decide)).trans d1, ?_⟩, (fF 20 (by decide) (by decide)).trans f, (fF 24 (by decide) (by decide)).trans g1, ?_⟩
      · rw [cc.1 7 (by decide), fh 7 (by decide)]; exact d2
      · rw [cc.1 9 (by decide), fh 9 (by decide)]; exact g2
  unfold f_X8_ends
  rw [if_neg (by decide)]
  unfold f_X8_ends_J10
  refine OS_pV hB (by omega) H (f := 0) rfl (by show 0 < 25; decide) (fun S2 H2 => ?_)
  rw [if_neg (by decide), OS_gI hB (by omega) H2 (f := 2) (x := F 2) rfl, a1]
  by_cases e : hs.length = 8
  · rw [if_pos (by rw [e]; rfl)]
    have key := loop_i (W := fun fuel q (s : PS × (Nat → Nat → Int32)) => f_X8_ends_L37 post fuel s.1 (B 0) (nI q))
      (I := fun q s => RS S0 B (Fu F 0 0) s.2 s.1 ∧ 1 ≤ q ∧ rowV s.2 0 w ∧ rowV s.2 10 v ∧ (∀ i w, 0 < i → i ≤ 8 → hs[8 - i]? = some w → rowV s.2 (if i ≤ q then i - 1 else i) w ∨ i = 1) ∧ (∀ k, k ≠ 1 → s.2 k = h k) ∧ (∀ x, 94 * 9 ≤ x → x < 940 → s.2 1 x = h 1 x)) 8 (fun n s hI => ?_) (fun n q s hq hI ih => ?_) 4096 1 (S2, h) (by omega) (by omega) ⟨H2, Nat.le_refl _, hr0, hr, fun i w' hi hi8 hw' => ?_, fun _ _ => rfl, fun _ _ _ => rfl⟩
    · exact key
    · obtain ⟨c1, -, c2, c3, c4, c5, c6⟩ := hI
      show f_X8_ends_L37 post (n + 1) s.1 (B 0) (nI 8)
      simp only [f_X8_ends_L37, f_X8_ends_J57]
      rw [if_pos (show (8 : Int32) ≤ nI 8 by decide), OS_gI hB (by omega) c1 (f := 2) (x := F 2) rfl, a1, e, show nI 8 - 1 = nI 7 by decide]
      refine OS_pV hB (by omega) c1 (f := 2) rfl (by show 2 < 25; decide) (fun S3 H3 => ?_)
      refine top S3 _ s.2 7 H3 rfl rfl (by omega) (show F 4 = nI a from h4) c2 c3 (fun i w' hi hw' => ?_) (Or.inr ⟨e, rfl⟩) (fun i i0 i2 => by rw [Fu_ne i2, Fu_ne i0]) c5 c6
      have := c4 (8 - i) w' (by omega) (by omega) (by rw [show 8 - (8 - i) = i by omega]; exact hw')
      rw [if_pos (by omega)] at this
      rcases this with q | q
      · rw [show 7 - i = 8 - i - 1 by omega]; exact q
      · omega
    · obtain ⟨c1, c0, c2, c3, c4, c5, c6⟩ := hI
      show f_X8_ends_L37 post (n + 1) s.1 (B 0) (nI q)
      simp only [f_X8_ends_L37]
      rw [if_neg (show ¬ (8 : Int32) ≤ nI q from nI_ge (b := 8) hq (by omega)), OS_isO hB (by omega) c1, nI_1]
      refine r_copies hB c1 (by omega) (by omega) (by omega) (fun S3 h3 H3 cc => ?_)
      refine ih (S3, h3) ⟨H3, by omega, cps_ot cc (by omega) c2, cps_ot cc (by omega) c3, fun i w' hi hi8 hw' => ?_, fun k hk => (cc.1 k hk).trans (c5 k hk), fun x x1 x2 => (show h3 1 x = h 1 x by rw [cc.2, if_neg (by omega)]; exact c6 x x1 x2)⟩
      by_cases q1 : i = q + 1
      · rw [if_pos (by omega)]
        have := c4 i w' hi hi8 hw'
        rw [if_neg (by omega)] at this
        rcases this with z | z
        · rw [q1] at z; rw [q1, Nat.add_sub_cancel]; exact Or.inl (cps_to cc z)
        · exact Or.inr z
      · have := c4 i w' hi hi8 hw'
        rcases this with z | z
        · refine Or.inl ?_
          by_cases q2 : i ≤ q
          · rw [if_pos q2] at z
            rw [if_pos (by omega)]
            exact cps_ot cc (by omega) z
          · rw [if_neg q2] at z
            rw [if_neg (by omega)]
            exact cps_ot cc (by omega) z
        · exact Or.inr z
    · by_cases q1 : i = 1
      · exact Or.inr q1
      · refine Or.inl ?_
        rw [if_neg (by omega)]
        have := a3 (8 - i) w' hw'
        rw [e] at this
        rw [show 8 - (8 - i) = i by omega] at this; exact this
  · rw [if_neg (show ¬ nI hs.length = 8 from fun z => e ((nI_eq (by omega) (show 8 < 2 ^ 31 by omega)).mp z))]
    exact top S2 _ h hs.length H2 rfl a1 (by omega) h4 hr0 hr (fun i w' hi hw' => a3 i w' hw') (Or.inl rfl) (fun i i0 _ => Fu_ne i0) (fun _ _ => rfl) (fun _ _ _ => rfl)
def mChg (S : PS) (m : Nat) (post : Int32 → PS → Prop) : Nat → Int32 → Int32 → Int32 → Prop
  | 0, _, _, _ => f_X8_household S m post
  | 1, x, _, _ => f_X8_leave S m x post
  | 2, x, y, w => f_X8_bond S m x y w post
  | 3, x, y, _ => f_X8_loosen S m x y post
  | 4, x, y, _ => f_X8_marry S m x y post
  | 5, x, y, _ => f_X8_stand S m x y post
  | _, _, _, _ => f_X8_part S m post
theorem m_chg {post : Int32 → PS → Prop} (hB : oB 10 S0 B) (H : RS S0 B F h S) (hr : rowV h 0 v) (m : mX F h hs sv r tx fa ln) (hv : okV v) {o : Nat} {x y w : Int32} (ho : o ≤ 6) (hok : refR v o x y w = none → okV (doV v o x y w)) (h0 : ∀ q, refR v o x y w = some q → ∀ S1 F1 h1, RS S0 B F1 h1 S1 → F1 0 = 1 → rowV h1 0 v → mX F1 h1 hs sv (rK q.1 q.2) tx fa ln → post 0 S1) (next : refR v o x y w = none → ∀ S1 F1 h1, RS S0 B F1 h1 S1 → F1 0 = 0 → rowV h1 0 (doV v o x y w) → mX F1 h1 ((v :: hs).take 8) sv r tx fa ln → post (nI (doA v o x y w)) S1) : mChg S (B 0) post o x y w := by
  have core : isO S (B 0) 12 (f_X8_begins S (B 0) fun S1 => isO S1 (B 0) 12 (mOrd S1 (B 0) (fun v4 S3 => isO S3 (B 0) 12 (f_X8_ends S3 (B 0) v4 1 fun v6 S5 => post v6 S5)) o x y w)) := by
    rw [OS_isO hB (by omega) H]
    refine r_begins hB H hr m (fun S1 h1 H1 a1 a2 a3 _ => ?_)
    rw [OS_isO hB (by omega) H1]
    refine m_ord hB H1 a1 hv o x y w ho (fun q hq S2 H2 => ?_) (fun hn _ S2 F2 h2 H2 d1 d2 d3 => ?_) hok
    · rw [OS_isO hB (by omega) H2]
      exact r_endsN hB H2 a2 (mX_rF a3) (fun S3 F3 h3 H3 b1 b2 b3 => h0 q hq S3 F3 h3 H3 b1 b2 b3)
    · rw [OS_isO hB (by omega) H2]
      exact r_endsY hB H2 d3 (fun k hk => by rw [d1.2.2 _ (by omega)]; exact a2 k hk) (mX_dn a3 d1) d2 (fun S3 F3 h3 H3 b1 b2 b3 => next hn S3 F3 h3 H3 b1 b2 b3)
  rcases (show o = 0 ∨ o = 1 ∨ o = 2 ∨ o = 3 ∨ o = 4 ∨ o = 5 ∨ o = 6 by omega) with rfl | rfl | rfl | rfl | rfl | rfl | rfl <;> exact core
theorem r_isThere0 {post : Int32 → PS → Prop} (hB : oB 10 S0 B) (H : RS S0 B F h S) (next : ∀ S1, RS S0 B (Fu F 0 1) h S1 → post 0 S1) : f_X8_isThere S (B 0) 0 post := by
  unfold f_X8_isThere
  rw [if_pos rfl]
  refine OS_pV hB (by omega) H (f := 0) rfl (by show 0 < 25; decide) (fun S2 H2 => ?_)
  rw [nZ0]; exact next S2 H2
theorem r_isThere1 {post : Int32 → PS → Prop} (hB : oB 10 S0 B) (H : RS S0 B F h S) (next : ∀ S1, RS S0 B (Fu F 0 0) h S1 → post 1 S1) : f_X8_isThere S (B 0) 1 post := by
  unfold f_X8_isThere
  rw [if_neg (by decide)]
  refine OS_pV hB (by omega) H (f := 0) rfl (by show 0 < 25; decide) (fun S2 H2 => ?_)
  rw [nZ1]; exact next S2 H2
theorem mX_0 {x : Int32} (m : mX F h hs sv r tx fa ln) : mX (Fu F 0 x) h hs sv r tx fa ln := mX_F m ⟨rfl, rfl, rfl, rfl, rfl, rfl, rfl, rfl, rfl⟩
theorem m_undo {post : Int32 → PS → Prop} (hB : oB 10 S0 B) (H : RS S0 B F h S) (hr : rowV h 0 v) (m : mX F h hs sv r tx fa ln) (h0 : hs = [] → ∀ S1 F1 h1, RS S0 B F1 h1 S1 → F1 0 = 1 → rowV h1 0 v → mX F1 h1 hs sv r tx fa ln → post 0 S1) (next : ∀ w tl, hs = w :: tl → ∀ S1 F1 h1, RS S0 B F1 h1 S1 → F1 0 = 0 → rowV h1 0 w → mX F1 h1 tl sv r tx fa ln → post (nI tl.length) S1) : f_X8_undo S (B 0) post := by
  have m0 := m
  obtain ⟨⟨a1, a2, a3⟩, b, c, d⟩ := m
  unfold f_X8_undo f_X8_undo_J13
  rw [OS_gI hB (by omega) H (f := 2) (x := F 2) rfl, a1]
  cases hs with
  | nil =>
    rw [if_pos (show nI ([] : List Vt).length ≤ 0 by decide), OS_isO hB (by omega) H]
    refine r_isThere0 hB H (fun S1 H1 => ?_)
    rw [if_pos rfl]
    exact h0 rfl S1 _ h H1 Fu_at hr (mX_0 m0)
  | cons w tl =>
    have hl : (w :: tl).length = tl.length + 1 := rfl
    rw [hl] at a1 a2
    rw [if_neg (nI_nle (by rw [hl]; omega) (by rw [hl]; omega)), OS_isO hB (by omega) H]
    refine r_isThere1 hB H (fun S1 H1 => ?_)
    rw [if_neg (by decide), OS_gI hB (by omega) H1 (f := 2) (x := F 2) rfl, OS_isO hB (by omega) H1, a1]
    show f_X8_copies S1 (B 0) (nI (tl.length + 1)) (nI 0) _
    refine r_copies hB H1 (by omega) (by omega) (by omega) (fun S2 h2 H2 cc => ?_)
    rw [OS_gI hB (by omega) H2 (f := 2) (x := F 2) rfl, a1, nI_pred]
    refine OS_pV hB (by omega) H2 (f := 2) rfl (by show 2 < 25; decide) (fun S3 H3 => ?_)
    rw [OS_gI hB (by omega) H3 (f := 2) (x := nI tl.length) rfl]
    have r1 : rowV h (tl.length + 1) w := by
      have := a3 0 w rfl
      rw [hl, Nat.sub_zero] at this
      exact this
    refine next w tl rfl S3 _ h2 H3 rfl (cps_to cc r1) ⟨⟨rfl, by omega, fun i w' hw' => ?_⟩, ?_, c, ?_⟩
    · have := a3 (i + 1) w' (by rw [List.getElem?_cons_succ]; exact hw')
      rw [hl, show tl.length + 1 - (i + 1) = tl.length - i by omega] at this
      have hi := lt_len hw'
      exact cps_ot cc (by omega) this
    · rcases b with ⟨b1, b2⟩ | ⟨w', b1, b2, b3⟩
      · exact Or.inl ⟨b1, b2⟩
      · exact Or.inr ⟨w', b1, b2, cps_ot cc (by omega) b3⟩
    · obtain ⟨⟨d1, d2⟩, f, g1, g2⟩ := d
      exact ⟨⟨d1, by rw [cc.1 7 (by decide)]; exact d2⟩, f, g1, by rw [cc.1 9 (by decide)]; exact g2⟩
theorem m_save {post : Int32 → PS → Prop} (hB : oB 10 S0 B) (H : RS S0 B F h S) (hr : rowV h 0 v) (m : mX F h hs sv r tx fa ln) (next : ∀ S1 F1 h1, RS S0 B F1 h1 S1 → rowV h1 0 v → mX F1 h1 hs (some v) r tx fa ln → post (nI (v 0)) S1) : f_X8_save S (B 0) post := by
  obtain ⟨⟨a1, a2, a3⟩, b, c, ⟨d1, d2⟩, f, g1, g2⟩ := m
  unfold f_X8_save
  refine OS_pV hB (by omega) H (f := 0) rfl (by show 0 < 25; decide) (fun S1 H1 => ?_)
  refine OS_pV hB (by omega) H1 (f := 3) rfl (by show 3 < 25; decide) (fun S2 H2 => ?_)
  rw [OS_isO hB (by omega) H2]
  show f_X8_copies S2 (B 0) (nI 0) (nI 9) _
  refine r_copies hB H2 (by omega) (by omega) (by omega) (fun S3 h3 H3 cc => ?_)
  have hr3 := cps_ot cc (show 0 ≠ 9 by omega) hr
  have hR := RS_isR hB H3 hr3
  rw [R0 hR, RA0 hR]
  refine next S3 _ h3 H3 hr3 ⟨⟨a1, a2, fun i w hw => ?_⟩, Or.inr ⟨v, rfl, rfl, cps_to cc hr⟩, c, ⟨d1, by rw [cc.1 7 (by decide)]; exact d2⟩, f, g1, by rw [cc.1 9 (by decide)]; exact g2⟩
  exact cps_ot cc (by omega) (a3 i w hw)
theorem m_restore {post : Int32 → PS → Prop} (hB : oB 10 S0 B) (H : RS S0 B F h S) (hr : rowV h 0 v) (m : mX F h hs sv r tx fa ln) (h0 : sv = none → ∀ S1 F1 h1, RS S0 B F1 h1 S1 → F1 0 = 1 → rowV h1 0 v → mX F1 h1 hs sv r tx fa ln → post 0 S1) (next : ∀ w, sv = some w → ∀ S1 F1 h1, RS S0 B F1 h1 S1 → F1 0 = 0 → rowV h1 0 w → mX F1 h1 [] sv r tx fa ln → post (nI (w 0)) S1) : f_X8_restore S (B 0) post := by
  have m0 := m
  obtain ⟨⟨a1, a2, a3⟩, b, c, ⟨d1, d2⟩, f, g1, g2⟩ := m
  unfold f_X8_restore
  rw [OS_gI hB (by omega) H (f := 3) (x := F 3) rfl, OS_isO hB (by omega) H]
  rcases b with ⟨b1, b2⟩ | ⟨w, b1, b2, b3⟩
  · rw [b2]
    refine r_isThere0 hB H (fun S1 H1 => ?_)
    rw [if_pos rfl]
    exact h0 b1 S1 _ h H1 Fu_at hr (mX_0 m0)
  · rw [b2]
    refine r_isThere1 hB H (fun S1 H1 => ?_)
    rw [if_neg (by decide), OS_isO hB (by omega) H1]
    show f_X8_copies S1 (B 0) (nI 9) (nI 0) _
    refine r_copies hB H1 (by omega) (by omega) (by omega) (fun S2 h2 H2 cc => ?_)
    refine OS_pV hB (by omega) H2 (f := 2) rfl (by show 2 < 25; decide) (fun S3 H3 => ?_)
    have hr3 := cps_to cc b3
    have hR := RS_isR hB H3 hr3
    rw [R0 hR, RA0 hR]
    refine next w b1 S3 _ h2 H3 rfl hr3 ⟨⟨rfl, by show 0 ≤ 8; omega, fun i w' hw' => by cases hw'⟩, Or.inr ⟨w, b1, b2, cps_ot cc (by omega) b3⟩, c, ⟨d1, by rw [cc.1 7 (by decide)]; exact d2⟩, f, g1, by rw [cc.1 9 (by decide)]; exact g2⟩
end MST
