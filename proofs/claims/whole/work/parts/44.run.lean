/-! the input and its orders carried out, by the class -/
theorem ref_arg {v : Vt} {o : Nat} {x y w x' y' w' : Int32} (ho : o ≤ 6) (h1 : 1 ≤ cnt o → x = x') (h2 : 2 ≤ cnt o → y = y') (h3 : 3 ≤ cnt o → w = w') : refR v o x y w = refR v o x' y' w' ∧ doV v o x y w = doV v o x' y' w' ∧ doA v o x y w = doA v o x' y' w' := by
  have c1 : cnt 1 = 1 := rfl
  have c2 : cnt 2 = 3 := rfl
  have c3 : cnt 3 = 2 := rfl
  have c4 : cnt 4 = 2 := rfl
  have c5 : cnt 5 = 2 := rfl
  match o, ho with
  | 0, _ => exact ⟨by simp only [refR], by simp only [doV], by simp only [doA]⟩
  | 1, _ => rw [h1 (by omega)]; exact ⟨by simp only [refR], by simp only [doV], by simp only [doA]⟩
  | 2, _ => rw [h1 (by omega), h2 (by omega), h3 (by omega)]; exact ⟨rfl, rfl, rfl⟩
  | 3, _ => rw [h1 (by omega), h2 (by omega)]; exact ⟨by simp only [refR], by simp only [doV], by simp only [doA]⟩
  | 4, _ => rw [h1 (by omega), h2 (by omega)]; exact ⟨by simp only [refR], by simp only [doV], by simp only [doA]⟩
  | 5, _ => rw [h1 (by omega), h2 (by omega)]; exact ⟨by simp only [refR], by simp only [doV], by simp only [doA]⟩
  | 6, _ => exact ⟨by simp only [refR], by simp only [doV], by simp only [doA]⟩
def ag (o : Od) (j : Nat) : Int32 := match o.2[j]? with
  | some x => nI x
  | none => 0
theorem ag_of {o : Od} {g : Nat → Int32} (ho : orOk o) (hg : ∀ j x, o.2[j]? = some x → g j = nI x) {j : Nat} (hj : j + 1 ≤ cnt o.1) : g j = ag o j := by
  have hl : j < o.2.length := by rw [ho.2.1]; omega
  obtain ⟨x, hx⟩ : ∃ x, o.2[j]? = some x := ⟨_, List.getElem?_eq_getElem hl⟩
  unfold ag
  rw [hg j x hx, hx]
def odR (v : Vt) (o : Od) : Option (Int32 × Int32) := refR v o.1 (ag o 0) (ag o 1) (ag o 2)
def odV (v : Vt) (o : Od) : Vt := doV v o.1 (ag o 0) (ag o 1) (ag o 2)
/-- the orders in their course: the village they leave, or which one is refused and why -/
def runL (v : Vt) : List Od → Nat → Vt × Option (Nat × Int32 × Int32)
  | [], _ => (v, none)
  | o :: os, i => match odR v o with
    | some q => (v, some (i, q))
    | none => runL (odV v o) os (i + 1)
theorem odV_ok {v : Vt} {o : Od} (hv : okV v) (h : odR v o = none) {n : Nat} (ht : tot v + 198 * (n + 1) < 10000000) : okV (odV v o) ∧ tot (odV v o) ≤ tot v + 198 := by
  obtain ⟨a, b⟩ := doV_ok hv o.1 (ag o 0) (ag o 1) (ag o 2) h
  exact ⟨okV_of a (Nat.lt_of_le_of_lt b (by omega)), b⟩
theorem runL_tot : ∀ (os : List Od) (v : Vt) (i : Nat) (w : Vt), okV v → tot v + 198 * os.length < 10000000 → runL v os i = (w, none) → okV w ∧ tot w ≤ tot v + 198 * os.length
  | [], v, i, w, hv, _, h => by
    have h : ((v, none) : Vt × Option (Nat × Int32 × Int32)) = (w, none) := h
    injection h with h h2
    rw [← h]
    exact ⟨hv, Nat.le_add_right _ _⟩
  | o :: os, v, i, w, hv, ht, h => by
    have ht' : tot v + 198 * (os.length + 1) < 10000000 := ht
    unfold runL at h
    cases e : odR v o with
    | some q => rw [e] at h; injection h with h h2; cases h2
    | none =>
      rw [e] at h
      obtain ⟨a, b⟩ := odV_ok hv e ht'
      obtain ⟨c1, c2⟩ := runL_tot os _ (i + 1) w a (by omega) h
      exact ⟨c1, by show tot w ≤ tot v + 198 * (os.length + 1); omega⟩
theorem gsl60 {cap need : Nat} (h : need ≤ 60) : gk cap need ≤ 1 ∧ gsl cap need ≤ 122 := by
  unfold gk gsl
  constructor <;> split <;> omega
/-- the orders that were read stand in the class -/
def P7o (S : PS) (ow : Ow) (a : Nat) (os : List Od) : Prop := ∃ sa B F h, B 0 = a ∧ Po 3 9 (tfs sa) (fun _ => 0) trl S ow 7 B F h ∧ F 3 = nI os.length ∧ osC h os
theorem P7o_fr {S S1 : PS} {ow ow1 : Ow} {C : List Nat} {a : Nat} {os : List Od} (h : P7o S ow a os) (hk : keeps C S ow S1 ow1) (hc : 7 ∉ C) : P7o S1 ow1 a os := by
  obtain ⟨sa, B, F, h, h1, h2, h3, h4⟩ := h
  exact ⟨sa, B, F, h, h1, Po_fr (by omega) h2 hk hc, h3, h4⟩
section P7S
variable {adK : Nat → Nat} {S : PS} {ow : Ow} {a : Nat} {tx : List Nat} {fa : Int32} {os : List Od}
theorem p7_len (h : P7 S ow a tx fa) {post : Int32 → PS → Prop} : f_X5_length S a post = post (nI tx.length) S := by
  obtain ⟨sa, cap, B, F, g, e, ⟨hB, H, ho⟩, hs, -⟩ := h
  rw [← e]
  unfold f_X5_length
  rw [T_sa hB H, sb_O hs, sb_len hs]
theorem p7_put {x bc bs : Nat} {post : Int32 → PS → Prop} (h : P7 S ow a tx fa) (hx : x < 128) (hn : tx.length + 1 ≤ 60) (h1 : 1 ≤ bc) (h2 : 122 ≤ bs) (next : ∀ S1 ow1, keeps [7, 17] S ow S1 ow1 → P7 S1 ow1 a (tx ++ [x]) fa → post (nI (tx.length + 1)) S1) : f_X5_put S a (nI x) bc bs post := by
  obtain ⟨sa, cap, B, F, g, e, ⟨hB, H, ho⟩, hs, hf⟩ := h
  rw [← e]
  unfold f_X5_put
  rw [T_sa hB H, sb_O hs]
  obtain ⟨g1, g2⟩ := gsl60 (cap := cap) hn
  refine ⟨bc, bs, Nat.le_refl _, Nat.le_refl _, ?_⟩
  refine sb_put hs hx (by omega) (by omega) (by omega) (fun S1 ow1 k1 s1 => ?_)
  have hP := Po_fr (n := 3) (by omega) (⟨hB, H, ho⟩ : Po 3 9 (tfs sa) (fun _ => 0) trl S ow 7 B F g) k1 (by decide)
  obtain ⟨hB1, H1, ho1⟩ := hP
  rw [T_sa hB1 H1, sb_O s1, sb_len s1, List.length_append]
  exact next S1 ow1 (k1.mono (by decide)) ⟨sa, _, B, F, g, e, ⟨hB1, H1, ho1⟩, s1, hf⟩
theorem p7_clear {bc bs : Nat} {post : PS → Prop} (h : P7 S ow a tx fa) (next : ∀ S1, keeps [17] S ow S1 ow → P7 S1 ow a [] fa → post S1) : f_X5_clear S a bc bs post := by
  obtain ⟨sa, cap, B, F, g, e, ⟨hB, H, ho⟩, hs, hf⟩ := h
  rw [← e]
  unfold f_X5_clear
  rw [T_sa hB H, sb_O hs]
  refine ⟨bc, bs, Nat.le_refl _, Nat.le_refl _, ?_⟩
  refine sb_clr hs (fun S1 k1 s1 => ?_)
  exact next S1 k1 ⟨sa, cap, B, F, g, e, Po_fr (by omega) ⟨hB, H, ho⟩ k1 (by decide), s1, hf⟩
theorem p7_fault (h : P7 S ow a tx fa) {post : Int32 → PS → Prop} : f_X5_fault S a post = post fa S := by
  obtain ⟨sa, cap, B, F, g, e, ⟨hB, H, ho⟩, hs, hf⟩ := h
  rw [← e]
  unfold f_X5_fault
  rw [OS_gI hB (by omega) H (f := 6) (x := F 6) rfl, hf]
theorem p7_read {post : Int32 → PS → Prop} (h : P7 S ow a tx fa) (h60 : tx.length ≤ 60)
    (h0 : (rdT tx).2.1 = false → ∀ S1, keeps [7] S ow S1 ow → P7 S1 ow a tx (nI (rdT tx).1) → post 0 S1)
    (next : (rdT tx).2.1 = true → ∀ S1, keeps [7] S ow S1 ow → P7 S1 ow a tx (-1) → P7o S1 ow a (rdT tx).2.2 → post 1 S1) : f_X5_read adK S a post := by
  obtain ⟨sa, cap, B, F, g, e, ⟨hB, H, ho⟩, hs, hf⟩ := h
  rw [← e]
  refine t_read hB ho hs h60 H (fun hb S1 F1 h1 H1 a1 => ?_) (fun hb S1 F1 h1 H1 a1 a2 a3 => ?_)
  · have k1 := keeps_OS H1 ho
    exact h0 hb S1 k1 ⟨sa, cap, B, F1, h1, e, Po_of hB H1 ho, sb_fr hs k1 (by decide), a1⟩
  · have k1 := keeps_OS H1 ho
    exact next hb S1 k1 ⟨sa, cap, B, F1, h1, e, Po_of hB H1 ho, sb_fr hs k1 (by decide), a1⟩ ⟨sa, B, F1, h1, e, Po_of hB H1 ho, a2, a3⟩
theorem p7_orders (h : P7o S ow a os) {post : Int32 → PS → Prop} : f_X5_orders S a post = post (nI os.length) S := by
  obtain ⟨sa, B, F, g, e, ⟨hB, H, ho⟩, h3, h4⟩ := h
  rw [← e]
  unfold f_X5_orders
  rw [OS_gI hB (by omega) H (f := 3) (x := F 3) rfl, h3]
theorem p7_O (h : P7o S ow a os) {P : Prop} : isO S a 9 P = P := by
  obtain ⟨sa, B, F, g, e, ⟨hB, H, ho⟩, h3, h4⟩ := h
  rw [← e]
  exact OS_isO hB (by omega) H
theorem p7_kind {i : Nat} {o : Od} (h : P7o S ow a os) (ho : os[i]? = some o) (hi : i < 15) {post : Int32 → PS → Prop} : f_X5_kindOf S a (nI i) post = post (nI o.1) S := by
  obtain ⟨sa, B, F, g, e, ⟨hB, H, -⟩, h3, h4⟩ := h
  rw [← e]
  unfold f_X5_kindOf
  rw [if_neg (nI_pos (by omega)), OS_gR hB (by omega) H (k := 1) (f := 1) rfl, lE_eq (hB.2 1 (by omega)) (H.2.2.2 1 (by omega) (by omega)) (by decide), if_neg (show ¬ nI (trl 1) ≤ nI i from nI_ge (show i < 15 from hi) (by decide)), OS_gR hB (by omega) H (k := 1) (f := 1) rfl, OS_aI hB H (k := 1) (by omega) (show i < trl 1 from hi) (by decide), (h4 i o ho).1]
theorem p7_nums (h : P7o S ow a os) : ∃ g : Nat → Nat → Int32, (∀ (i : Nat) (o : Od), os[i]? = some o → ∀ j x, o.2[j]? = some x → g i j = nI x) ∧ ∀ (i j : Nat), i < 15 → j < 3 → ∀ (post : Int32 → PS → Prop), f_X5_numberOf S a (nI i) (nI j) post = post (g i j) S := by
  obtain ⟨sa, B, F, g, e, ⟨hB, H, -⟩, h3, h4⟩ := h
  refine ⟨fun i j => g 2 (3 * i + j), fun i o ho => (h4 i o ho).2, fun i j hi hj post => ?_⟩
  rw [← e]
  unfold f_X5_numberOf
  rw [show (3 : Int32) = nI 3 from rfl, pk_mul, nI_add, if_neg (nI_pos (by omega)), OS_gR hB (by omega) H (k := 2) (f := 2) rfl, lE_eq (hB.2 2 (by omega)) (H.2.2.2 2 (by omega) (by omega)) (by decide), if_neg (show ¬ nI (trl 2) ≤ nI (i * 3 + j) from nI_ge (show i * 3 + j < 45 by omega) (by decide)), OS_gR hB (by omega) H (k := 2) (f := 2) rfl, OS_aI hB H (k := 2) (by omega) (show i * 3 + j < trl 2 from (show i * 3 + j < 45 by omega)) (by decide), show i * 3 + j = 3 * i + j by omega]
end P7S
section CH
variable {adK : Nat → Nat} {S S1 : PS} {ow ow1 : Ow} {A : Nat → Nat} {v : Vt} {hs : List Vt} {sv : Option Vt} {r : Nat → Int32} {tx : List Nat} {fa : Int32} {ln : List Nat}
theorem CI_7 (h : CI S ow A v hs sv r tx fa ln) : P7 S ow (A 7) tx fa := h.2.2.2.2.2.2.2.2.1
theorem CI_b (h : CI S ow A v hs sv r tx fa ln) : ∀ (i x : Nat), tx[i]? = some x → x < 128 := fun i x hx => by
  obtain ⟨sa, cap, B, F, g, e, -, ⟨ba, m, f, -, -, -, -, -, -, -, -, -, -, hch, -⟩, -⟩ := CI_7 h
  exact (hch i x hx).1
theorem x_append {x : Int32} {bc bs : Nat} {post : Int32 → PS → Prop} {postX : String → PS → Prop} (h : CI S ow A v hs sv r tx fa ln) (h60 : tx.length ≤ 60) (h1 : 1 ≤ bc) (h2 : 122 ≤ bs)
    (no : ¬ (¬ x < 32 ∧ ¬ 126 < x) → postX "java/lang/IllegalArgumentException" S) (full : (¬ x < 32 ∧ ¬ 126 < x) → tx.length = 60 → postX "java/lang/IllegalStateException" S)
    (next : ∀ c, x = nI c → (¬ x < 32 ∧ ¬ 126 < x) → c < 128 → tx.length < 60 → ∀ S1 ow1, CI S1 ow1 A v hs sv r (tx ++ [c]) fa ln → keeps CC S ow S1 ow1 → post (nI (tx.length + 1)) S1) : f_X7_append S (A 12) x bc bs post postX := by
  unfold f_X7_append f_X7_append_J12
  by_cases e1 : x < 32
  · rw [if_pos e1]
    exact ⟨h1, by omega, no (fun z => z.1 e1)⟩
  · rw [if_neg e1]
    by_cases e2 : x ≤ 126
    · have e3 : ¬ (126 : Int32) < x := Int32.not_lt.mpr e2
      obtain ⟨c, hc, rfl⟩ := nI_of2 (M := 126) (n := 126) (by decide) (show ¬ x < 0 from fun z => e1 (Int32.lt_trans z (by decide))) e2
      have hP := CI_7 h
      rw [if_pos e2, G_7 h, O_7 h, p7_len hP]
      by_cases e4 : tx.length < 60
      · rw [if_pos (show nI tx.length < 60 from nI_lt (b := 60) e4 (by omega)), G_7 h, O_7 h]
        refine ⟨bc, bs, Nat.le_refl _, Nat.le_refl _, ?_⟩
        refine p7_put hP (by omega) (by omega) h1 h2 (fun S1 ow1 k1 n1 => ?_)
        exact next c rfl ⟨e1, e3⟩ (by omega) e4 S1 ow1 (CI_up7 h k1 n1) (kCC k1 (by decide))
      · rw [if_neg (show ¬ nI tx.length < 60 from nI_nlt (b := 60) (by omega) (by omega))]
        exact ⟨h1, by omega, full ⟨e1, e3⟩ (by omega)⟩
    · rw [if_neg e2]
      exact ⟨h1, by omega, no (fun z => z.2 (Int32.not_le.mp e2))⟩
theorem x_fault {post : Int32 → PS → Prop} (h : CI S ow A v hs sv r tx fa ln) : f_X7_faultPosition S (A 12) post = post fa S := by
  unfold f_X7_faultPosition
  rw [G_7 h, O_7 h, p7_fault (CI_7 h)]
def rsn (r : Nat → Int32) (x y : Int32) : Int32 := if x = 0 then (if y = 0 then r 0 else r 1) else (if y = 0 then r 2 else r 3)
theorem x_reason {x y : Int32} {bc bs : Nat} {post : Int32 → PS → Prop} {postX : String → PS → Prop} (h : CI S ow A v hs sv r tx fa ln) (h1 : 1 ≤ bc) (h2 : 6 ≤ bs)
    (no : ¬ (x = 0 ∨ x = 1) → postX "java/lang/IllegalArgumentException" S) (none : (x = 0 ∨ x = 1) → (if x = 0 then r 0 else r 2) = 0 → postX "java/util/NoSuchElementException" S)
    (next : (x = 0 ∨ x = 1) → ¬ (if x = 0 then r 0 else r 2) = 0 → post (rsn r x y) S) : f_X7_reason S (A 12) x y bc bs post postX := by
  obtain ⟨p1, p2, p3⟩ := h.2.2.2.2.2.2.2.2.2.1
  have core : (x = 0 ∨ x = 1) → f_X7_reason_J20 post postX S bc bs (A 12) x y := fun hx => by
    unfold f_X7_reason_J20 f_X4_reaches
    rw [G_8 h, O_8 h]
    by_cases e : x = 0
    · have hx0 : (if x = 0 then r 0 else r 2) = r 0 := if_pos e
      rw [hx0] at none next
      rw [if_pos e, gI_eq p1 p3 rfl]
      by_cases e0 : r 0 = 0
      · rw [if_pos e0, nZ0]
        try dsimp only
        rw [if_pos rfl]
        exact ⟨h1, h2, none hx e0⟩
      · rw [if_neg e0, nZ1]
        try dsimp only
        rw [if_neg (by decide), G_8 h, O_8 h]
        have := next hx e0
        unfold rsn at this
        rw [if_pos e] at this
        unfold f_X4_numberAt
        rw [if_pos e]
        by_cases e1 : y = 0
        · rw [if_pos e1, gI_eq p1 p3 rfl]; rw [if_pos e1] at this; exact this
        · rw [if_neg e1, gI_eq p1 p3 rfl]; rw [if_neg e1] at this; exact this
    · have hx0 : (if x = 0 then r 0 else r 2) = r 2 := if_neg e
      rw [hx0] at none next
      rw [if_neg e, gI_eq p1 p3 rfl]
      by_cases e0 : r 2 = 0
      · rw [if_pos e0, nZ0]
        try dsimp only
        rw [if_pos rfl]
        exact ⟨h1, h2, none hx e0⟩
      · rw [if_neg e0, nZ1]
        try dsimp only
        rw [if_neg (by decide), G_8 h, O_8 h]
        have := next hx e0
        unfold rsn at this
        rw [if_neg e] at this
        unfold f_X4_numberAt
        rw [if_neg e]
        by_cases e1 : y = 0
        · rw [if_pos e1, gI_eq p1 p3 rfl]; rw [if_pos e1] at this; exact this
        · rw [if_neg e1, gI_eq p1 p3 rfl]; rw [if_neg e1] at this; exact this
  unfold f_X7_reason
  by_cases e : x = 0
  · rw [if_pos e]; exact core (Or.inl e)
  · rw [if_neg e]
    by_cases e1 : x = 1
    · rw [if_pos e1]; exact core (Or.inr e1)
    · rw [if_neg e1]
      exact ⟨h1, h2, no (fun z => by rcases z with z | z; exact e z; exact e1 z)⟩
theorem x_orders {v0 : Vt} {os : List Od} {bc bs : Nat} {post : Int32 → PS → Prop} {fin : Vt × Option (Nat × Int32 × Int32)} (hlen : os.length ≤ 12) (hok : ∀ o, o ∈ os → orOk o) (h1 : 2 ≤ bc) (h2 : 87 ≤ bs)
    (bad : ∀ i q, fin.2 = some (i, q) → ∀ S1, CI S1 ow A v0 hs sv (rB (rK q.1 q.2) 8 (nI i)) tx fa ln → keeps CC S ow S1 ow → post 0 S1)
    (next : fin.2 = none → ∀ S1 ow1, CI S1 ow1 A fin.1 ((v0 :: hs).take 8) sv r tx fa ln → keeps CC S ow S1 ow1 → P7o S1 ow1 (A 7) os → post 1 S1) :
    ∀ (rest : List Od) (i : Nat) (v : Vt) (S2 : PS), os.drop i = rest → i + rest.length = os.length → runL v rest i = fin → CI S2 ow A v hs sv r tx fa ln → keeps CC S ow S2 ow → P7o S2 ow (A 7) os → Pv S2 ow 2 (A 2) v0 → okV v → tot v + 198 * rest.length < 10000000 → ∀ fuel, rest.length < fuel → f_X7_doesOrders_L13 post fuel S2 bc bs (A 12) (nI i) := by
  intro rest
  induction rest with
  | nil =>
    intro i v S2 hd hi hfin hC k2 hP hA hv ht fuel hf
    obtain ⟨n, rfl⟩ : ∃ n, fuel = n + 1 := ⟨fuel - 1, by omega⟩
    have hi' : i + 0 = os.length := hi
    simp only [f_X7_doesOrders_L13, f_X7_doesOrders_J118]
    rw [G_7 hC, O_7 hC, p7_orders hP, if_pos (nI_le (by omega) (by omega)), G_3 hC, G_2 hC, O_3 hC]
    refine ⟨2, 87, h1, h2, ?_⟩
    refine h_keep hC.2.2.2.2.1 hA (by omega) (by omega) (Nat.le_refl _) (Nat.le_refl _) (fun S3 ow3 j hj k3 n3 => ?_)
    rw [nZ1]
    have hfin : ((v, none) : Vt × Option (Nat × Int32 × Int32)) = fin := hfin
    rw [← hfin] at next
    have hc20 : ∀ c, c ∈ [3, 20 + j] → c ∈ CC := fun c hc => by
      simp at hc
      rcases hc with rfl | rfl
      · decide
      · rcases (show j = 0 ∨ j = 1 ∨ j = 2 ∨ j = 3 ∨ j = 4 ∨ j = 5 ∨ j = 6 ∨ j = 7 by omega) with rfl | rfl | rfl | rfl | rfl | rfl | rfl | rfl <;> decide
    exact next rfl S3 ow3 (CI_up3 hC k3 (fun c hc => by simp at hc; omega) n3) (k2.trans (k3.mono hc20)) (P7o_fr hP k3 (fun z => by simp at z; omega))
  | cons o rest ih =>
    intro i v S2 hd hi hfin hC k2 hP hA hv ht fuel hf
    obtain ⟨n, rfl⟩ : ∃ n, fuel = n + 1 := ⟨fuel - 1, by omega⟩
    have hi' : i + (rest.length + 1) = os.length := hi
    have hf' : rest.length + 1 < n + 1 := hf
    have ht' : tot v + 198 * (rest.length + 1) < 10000000 := ht
    have hoi : os[i]? = some o := by
      have : (os.drop i)[0]? = some o := by rw [hd]; rfl
      rw [List.getElem?_drop] at this
      exact this
    have hd2 : os.drop (i + 1) = rest := by rw [← List.tail_drop, hd]; rfl
    have ho := hok o (List.mem_of_getElem? hoi)
    obtain ⟨g, g1, g2⟩ := p7_nums hP
    obtain ⟨r1, r2, r3⟩ := ref_arg (v := v) (x := g i 0) (y := g i 1) (w := g i 2) (x' := ag o 0) (y' := ag o 1) (w' := ag o 2) ho.1 (fun q => ag_of (g := g i) ho (g1 i o hoi) q) (fun q => ag_of (g := g i) ho (g1 i o hoi) q) (fun q => ag_of (g := g i) ho (g1 i o hoi) q)
    simp only [f_X7_doesOrders_L13]
    rw [G_7 hC, O_7 hC, p7_orders hP, if_neg (nI_ge (by omega) (by omega)), G_7 hC, O_7 hC, p7_kind hP hoi (by omega), G_7 hC, O_7 hC, show (0 : Int32) = nI 0 from rfl, g2 i 0 (by omega) (by omega), G_7 hC, O_7 hC, show (1 : Int32) = nI 1 from rfl, g2 i 1 (by omega) (by omega), G_7 hC, O_7 hC, show (2 : Int32) = nI 2 from rfl, g2 i 2 (by omega) (by omega), G_O hC]
    unfold runL at hfin
    refine x_refuses hC hv o.1 _ _ _ ho.1 (fun hn => ?_) (fun q hq S3 hC3 k3 => ?_)
    · rw [r1] at hn
      have hn' : odR v o = none := hn
      rw [hn'] at hfin
      obtain ⟨a1, a2⟩ := odV_ok hv hn' ht'
      rw [if_pos (show (0 : Int32) = nI 0 from rfl), G_O hC]
      refine x_done hC hv o.1 _ _ _ ho.1 (by rw [r1]; exact hn) (by rw [r2]; exact a1) (fun S3 hC3 k3 => ?_)
      rw [r2] at hC3
      rw [nI_add]
      exact ih (i + 1) (odV v o) S3 hd2 (by omega) hfin hC3 (k2.trans (k3.mono (by decide))) (P7o_fr hP k3 (by decide)) (Pv_fr hA k3 (by decide)) a1 (by omega) n (by omega)
    · rw [r1] at hq
      have hq' : odR v o = some q := hq
      rw [hq'] at hfin
      rw [← hfin] at bad
      rw [if_neg (show ¬ (1 : Int32) = nI 0 by decide)]
      unfold f_X7_doesOrders_J78
      rw [G_8 hC3, O_8 hC3]
      refine p8_behind hC3.2.2.2.2.2.2.2.2.2.1 (fun S4 k4 n4 => ?_)
      have hC4 := CI_up8 hC3 k4 n4
      have hA4 := Pv_fr (Pv_fr hA k3 (by decide)) k4 (by decide)
      rw [G_0 hC4, G_2 hC4, O_0 hC4]
      refine pv_copy hC4.2.1 hA4 (by decide) (fun S5 k5 n5 => ?_)
      rw [nZ0]
      exact bad i q rfl S5 (CI_up0 hC4 k5 n5) (((k2.trans (k3.mono (by decide))).trans (k4.mono (by decide))).trans (k5.mono (by decide)))
theorem x_run {bc bs : Nat} {post : Int32 → PS → Prop} {postX : String → PS → Prop} (h : CI S ow A v hs sv r tx fa ln) (hv : okV v) (ht : tot v + 3000 < 10000000) (h60 : tx.length ≤ 60) (h1 : 3 ≤ bc) (h2 : 93 ≤ bs)
    (no : (rdT tx).2.1 = false → ∀ S1, CI S1 ow A v hs sv r [] (nI (rdT tx).1) ln → keeps CC S ow S1 ow → postX "java/lang/IllegalArgumentException" S1)
    (bad : (rdT tx).2.1 = true → ∀ i q, (runL v (rdT tx).2.2 0).2 = some (i, q) → ∀ S1, CI S1 ow A v hs sv (rB (rK q.1 q.2) 8 (nI i)) [] (-1) ln → keeps CC S ow S1 ow → postX "java/lang/UnsupportedOperationException" S1)
    (next : (rdT tx).2.1 = true → (runL v (rdT tx).2.2 0).2 = none → ∀ S1 ow1, CI S1 ow1 A (runL v (rdT tx).2.2 0).1 ((v :: hs).take 8) sv r [] (-1) ln → keeps CC S ow S1 ow1 → post (nI (rdT tx).2.2.length) S1) : f_X7_run adK S (A 12) bc bs post postX := by
  have hP := CI_7 h
  unfold f_X7_run
  rw [G_7 h, O_7 h]
  refine p7_read hP h60 (fun hb S1 k1 n1 => ?_) (fun hb S1 k1 n1 o1 => ?_)
  · have hC1 := CI_up7 h (k1.mono (by decide)) n1
    rw [G_7 hC1, O_7 hC1]
    refine ⟨0, 0, Nat.zero_le _, Nat.zero_le _, ?_⟩
    refine p7_clear n1 (fun S2 k2 n2 => ?_)
    have hC2 := CI_up7 hC1 (k2.mono (by decide)) n2
    rw [if_pos rfl]
    exact ⟨by omega, by omega, no hb S2 hC2 ((k1.mono (by decide)).trans (k2.mono (by decide)))⟩
  · have hC1 := CI_up7 h (k1.mono (by decide)) n1
    rw [G_7 hC1, O_7 hC1]
    refine ⟨0, 0, Nat.zero_le _, Nat.zero_le _, ?_⟩
    refine p7_clear n1 (fun S2 k2 n2 => ?_)
    have hC2 := CI_up7 hC1 (k2.mono (by decide)) n2
    have o2 := P7o_fr o1 k2 (by decide)
    have k12 : keeps CC S ow S2 ow := (k1.mono (by decide)).trans (k2.mono (by decide))
    obtain ⟨g1, g2⟩ := rdT_go tx
    obtain ⟨g3, g4⟩ := g2 hb
    rw [if_neg (by decide), G_O hC2]
    refine ⟨2, 87, by omega, by omega, ?_⟩
    unfold f_X7_doesOrders
    obtain ⟨w2, hw2⟩ := hC2.2.2.2.1
    rw [G_2 hC2, G_0 hC2, pv_O hw2]
    refine pv_copy hw2 hC2.2.1 (by decide) (fun S3 k3 n3 => ?_)
    have hC3 := CI_up2 hC2 k3 n3
    refine x_orders (v0 := v) (os := (rdT tx).2.2) (fin := runL v (rdT tx).2.2 0) (by omega) g4 (Nat.le_refl _) (Nat.le_refl _) (fun i q hq S4 hC4 k4 => ?_) (fun hn S4 ow4 hC4 k4 o4 => ?_) (rdT tx).2.2 0 v S3 rfl (by omega) rfl hC3 keeps.refl (P7o_fr o2 k3 (by decide)) n3 hv (by omega) 4096 (by omega)
    · rw [if_pos rfl]
      exact ⟨by omega, by omega, bad hb i q hq S4 hC4 ((k12.trans (k3.mono (by decide))).trans k4)⟩
    · rw [if_neg (by decide), G_7 hC4, O_7 hC4, p7_orders o4]
      exact next hb hn S4 ow4 hC4 ((k12.trans (k3.mono (by decide))).trans k4)
/-! taken back, saved, brought back -/
theorem CI_up03 {v' : Vt} {hs' : List Vt} (h : CI S ow A v hs sv r tx fa ln) (hk : keeps [0, 3] S ow S1 ow1) (hn : Pv S1 ow1 0 (A 0) v') (hn3 : P3 S1 ow1 (A 3) hs') : CI S1 ow1 A v' hs' sv r tx fa ln := by
  obtain ⟨h12, h0, ⟨w1, h1⟩, ⟨w2, h2⟩, h3, ⟨B4, F4, g4, e4, h4⟩, ⟨B5, F5, g5, e5, h5, z5⟩, ⟨B6, F6, g6, e6, h6⟩, h7, h8, ⟨cp, h9⟩, f, h10⟩ := h
  exact ⟨P12_fr h12 hk (by decide) (by decide), hn, ⟨w1, Pv_fr h1 hk (by decide)⟩, ⟨w2, Pv_fr h2 hk (by decide)⟩, hn3, ⟨B4, F4, g4, e4, Po_fr (by omega) h4 hk (by decide)⟩, ⟨B5, F5, g5, e5, Po_fr (by omega) h5 hk (by decide), z5⟩, ⟨B6, F6, g6, e6, Po_fr (by omega) h6 hk (by decide)⟩, P7_fr h7 hk (by decide) (by decide), P8_fr h8 hk (by decide), ⟨cp, sb_fr h9 hk (by decide)⟩, f, P10_fr h10 hk (by decide)⟩
theorem x_undo {bc bs : Nat} {post : Int32 → PS → Prop} {postX : String → PS → Prop} (h : CI S ow A v hs sv r tx fa ln) (h1 : 1 ≤ bc) (h2 : 6 ≤ bs) (no : hs = [] → postX "java/lang/IllegalStateException" S) (next : ∀ w tl, hs = w :: tl → ∀ S1, CI S1 ow A w tl sv r tx fa ln → keeps CC S ow S1 ow → post (nI tl.length) S1) : f_X7_undo S (A 12) bc bs post postX := by
  unfold f_X7_undo
  rw [G_3 h, G_0 h, O_3 h]
  refine h_back h.2.2.2.2.1 h.2.1 (fun e => ?_) (fun w tl e S1 k1 n1 n2 => ?_)
  · rw [if_pos rfl]
    exact ⟨h1, h2, no e⟩
  · have hC := CI_up03 h k1 n1 n2
    rw [if_neg (by decide), G_3 hC, O_3 hC]
    unfold f_X2_count
    obtain ⟨ra, nx, f, p1, p2, p3, p4, p5, -⟩ := n2
    rw [gI_eq p1 p5 rfl]
    exact next w tl e S1 hC (k1.mono (by decide))
theorem x_save {bc bs : Nat} {post : Int32 → PS → Prop} (h : CI S ow A v hs sv r tx fa ln) (h1 : 2 ≤ bc) (h2 : 87 ≤ bs) (next : ∀ S1 ow1, CI S1 ow1 A v hs (some v) r tx fa ln → keeps CC S ow S1 ow1 → post (nI (v 0)) S1) : f_X7_save S (A 12) bc bs post := by
  have core : ∀ (S2 : PS) (ow2 : Ow) (bc' bs' b : Nat) (w : Vt), keeps CC S ow S2 ow2 → CI S2 ow2 A v hs (some w) r tx fa ln → S2.2 (A 12) = .inr (11, [.ref (A 0), .ref (A 1), .ref (A 2), .ref (A 3), .ref (A 4), .ref (A 5), .ref (A 6), .ref (A 7), .ref (A 8), .ref (A 9), .ref (A 10), .ref b]) → Pv S2 ow2 11 b w → f_X7_save_J18 post S2 bc' bs' (A 12) := fun S2 ow2 bc' bs' b w k2 hC e2 hb => by
    obtain ⟨⟨p1, p2, -⟩, -⟩ := id hC
    unfold f_X7_save_J18
    rw [gR_eq p1 e2 rfl, G_0 hC, pv_O hb]
    refine pv_copy hb hC.2.1 (by decide) (fun S3 k3 n3 => ?_)
    have e3 : S3.2 (A 12) = .inr (11, [.ref (A 0), .ref (A 1), .ref (A 2), .ref (A 3), .ref (A 4), .ref (A 5), .ref (A 6), .ref (A 7), .ref (A 8), .ref (A 9), .ref (A 10), .ref b]) := ((k3 (A 12) p1).2.2 (by rw [p2]; decide)).trans e2
    have hC3 : CI S3 ow2 A v hs (some v) r tx fa ln := CI_up12 hC (k3.mono (by decide)) ⟨(k3 (A 12) p1).1, p2, some b, e3, Or.inr ⟨b, v, rfl, rfl, n3⟩⟩
    obtain ⟨t, hV⟩ := Vx hC3
    rw [G_0 hC3, V1 hV]
    exact next S3 ow2 hC3 (k2.trans (k3.mono (by decide)))
  obtain ⟨⟨p1, p2, so, p3, p4⟩, -⟩ := id h
  unfold f_X7_save
  refine ⟨p1, _, so, p3, rfl, ?_⟩
  rcases p4 with ⟨q1, q2⟩ | ⟨b, w, q1, q2, q3⟩
  · subst q2
    subst q1
    refine ⟨by omega, by omega, fun q hq => ?_⟩
    obtain ⟨S3, e3⟩ : ∃ S3, S3 = p_add S q (.inr (10, [.null, .int 0, .int 0, .int 0, .int 0, .int 0])) := ⟨_, rfl⟩
    rw [← e3]
    have k3 : keeps [] S ow S3 (un ow q 11) := by rw [e3]; exact keeps_add hq
    refine ⟨1, 81, by omega, by omega, ?_⟩
    refine v_init (ow := un ow q 11) (c := 11) (by rw [e3]; exact add_mem) un_at (by rw [e3]; exact add_at) (Nat.le_refl _) (Nat.le_refl _) (fun S4 ow4 k4 n4 => ?_)
    have k34 := (k3.mono (D := [11]) (by decide)).trans k4
    obtain ⟨m4, o4, s4⟩ := k34 (A 12) p1
    have e4 := (s4 (by rw [p2]; decide)).trans p3
    refine pV_to m4 e4 (by show 11 < 12; decide) rfl (fun S5 c5 m5 e5 => ?_)
    have k5 := keeps_1 c5 (o4.trans p2)
    have n5 := Pv_fr n4 k5 (by decide)
    have k35 := (k34.mono (D := [11, 12]) (by decide)).trans (k5.mono (by decide))
    refine core S5 ow4 _ _ q v0F (k35.mono (by decide)) (CI_up12 h k35 ⟨m5, o4.trans p2, some q, e5, Or.inr ⟨q, v0F, rfl, rfl, n5⟩⟩) e5 n5
  · subst q2
    subst q1
    exact core S ow _ _ b w keeps.refl h p3 q3
theorem x_restore {bc bs : Nat} {post : Int32 → PS → Prop} {postX : String → PS → Prop} (h : CI S ow A v hs sv r tx fa ln) (h1 : 1 ≤ bc) (h2 : 6 ≤ bs) (no : sv = none → postX "java/lang/IllegalStateException" S) (next : ∀ w, sv = some w → ∀ S1, CI S1 ow A w [] sv r tx fa ln → keeps CC S ow S1 ow → post (nI (w 0)) S1) : f_X7_restore S (A 12) bc bs post postX := by
  obtain ⟨⟨p1, p2, so, p3, p4⟩, -⟩ := id h
  unfold f_X7_restore
  refine ⟨p1, _, so, p3, rfl, ?_⟩
  rcases p4 with ⟨q1, q2⟩ | ⟨b, w, q1, q2, q3⟩
  · subst q2
    exact ⟨h1, h2, no q1⟩
  · subst q2
    dsimp only
    rw [G_0 h, gR_eq p1 p3 rfl, O_0 h]
    refine pv_copy h.2.1 q3 (by decide) (fun S2 k2 n2 => ?_)
    have hC := CI_up0 h k2 n2
    rw [G_3 hC, O_3 hC]
    unfold f_X2_forget
    obtain ⟨ra, nx, f, t1, t2, t3, t4, t5, t6, t7, t8, t9, t10⟩ := hC.2.2.2.2.1
    refine pV_to t1 t5 (by show 2 < 3; decide) rfl (fun S3 c3 m3 e3 => ?_)
    have k3 := keeps_1 c3 t3
    have hne : ra ≠ A 3 := fun z => by rw [z, t5] at t6; cases t6
    have n3 : P3 S3 ow (A 3) [] := ⟨ra, nx, f, m3, by rw [c3.1]; exact t2, t3, t4, e3, by rw [c3.2 _ hne]; exact t6, t7, by show 0 ≤ 8; omega, fun i b' hi hf => by
      obtain ⟨w', hw'⟩ := t9 i b' hi hf
      exact ⟨w', Pv_fr hw' k3 (fun z => by simp at z; omega)⟩, fun i w' hw' => (by cases hw')⟩
    have hC3 := CI_up3 hC k3 (fun c hc => by simp at hc; omega) n3
    obtain ⟨t, hV⟩ := Vx hC3
    show gR S3 (A 12) 11 0 _
    rw [G_0 hC3, V1 hV]
    exact next w q1 S3 hC3 ((k2.mono (by decide)).trans (k3.mono (by decide)))
end CH
