/-! the class's phases: cells 0 itself, 1 groups, 2 pulls, 3 ties, 4 groupFrom, 5 pullOn *(field 5: size)* -/
def cfs (B : Nat → Nat) (F : Nat → Int32) : List Value := [.ref (B 1), .ref (B 2), .ref (B 3), .ref (B 4), .ref (B 5), .int (F 5)]
def crl (k : Nat) : Nat := if k = 1 then 72 else if k = 2 then 72 else if k = 3 then 81 else 9
abbrev CS (S0 : PS) (B : Nat → Nat) (F : Nat → Int32) (h : Nat → Nat → Int32) (S : PS) : Prop := OS 6 7 (cfs B) (fun _ => 0) crl S0 B F h S
theorem OS_isV {n ci : Nat} {fl : (Nat → Int32) → List Value} {rk rl : Nat → Nat} {S0 S : PS} {B : Nat → Nat} {F : Nat → Int32} {h : Nat → Nat → Int32} (H : OS n ci fl rk rl S0 B F h S) {a t : Nat} {v : Nat → Nat} (hV : isV S0 a t v) (hd : ∀ k, k < n → a ≠ B k ∧ t ≠ B k) : isV S a t v := by
  obtain ⟨h1, h2, h3, h4⟩ := hV
  refine ⟨by rw [H.1]; exact h1, by rw [H.1]; exact h2, by rw [H.2.1 a (fun k hk => (hd k hk).1)]; exact h3, ?_⟩
  rw [H.2.1 t (fun k hk => (hd k hk).2)]
  exact h4
/-- the mask of the lowest households of those groups that wait -/
def wai (now : Nat → Nat) (m pk W : Nat) : Prop := W < 2 ^ 9 ∧ ∀ l, l < 9 → (W.testBit l = true ↔ ∃ k, k < m ∧ low (now k) = l ∧ pk.testBit k = false)
def es (now : Nat → Nat) (o : Option Nat) : Int32 := match o with
  | none => 0
  | some b => nI (low (now b))
section CRS
variable {S0 S : PS} {B : Nat → Nat} {F : Nat → Int32} {h : Nat → Nat → Int32} {v : Nat → Nat}
theorem c_strong {now : Nat → Nat} {m J pk W : Nat} {post : Int32 → PS → Prop} (hB : oB 6 S0 B) (H : CS S0 B F h S) (hv : okV v) (hprt : prt (v 0) now m) (hm : m ≤ 9) (hW : wai now m pk W) (hpk : ∀ k, k < m → (now k &&& J = 0 ↔ pk.testBit k = false)) (hpu : ∀ k, k < m → pk.testBit k = false → h 5 (low (now k)) = nI (tT v (now k) J)) :
    f_X3_strongestOf S (B 0) (nI W) post = post (es now (pk1 v now J m)) S := by
  have h0 := hv.1
  have key : ∀ (d i c fuel : Nat), i + d = 9 → d < fuel → c ≤ m → (∀ k, k < c → low (now k) < i) → (∀ k, c ≤ k → k < m → i ≤ low (now k)) → f_X3_strongestOf_L7 post fuel S (B 0) (nI W) (es now (pk1 v now J c)) (em v now J (pk1 v now J c)) (nI i) = post (es now (pk1 v now J m)) S := by
    intro d
    induction d with
    | zero =>
      intro i c fuel hi hf hc h1 h2
      obtain ⟨f, rfl⟩ : ∃ f, fuel = f + 1 := ⟨fuel - 1, by omega⟩
      have hcm : c = m := by
        refine Classical.byContradiction fun hne => ?_
        have := h2 c (Nat.le_refl _) (by omega)
        have := (prt_low hprt h0 (show c < m by omega)).1
        omega
      subst hcm
      simp only [f_X3_strongestOf_L7]
      rw [if_pos (by rw [n9]; exact nI_le (by omega) (by omega))]
    | succ d ih =>
      intro i c fuel hi hf hc h1 h2
      obtain ⟨f, rfl⟩ : ∃ f, fuel = f + 1 := ⟨fuel - 1, by omega⟩
      have hWl := hW.1
      simp only [f_X3_strongestOf_L7, f_X3_strongestOf_J45]
      rw [if_neg (by rw [n9]; exact nI_ge (by omega) (by omega)), e_isIn (by omega) (by omega), nI_1]
      by_cases hl : c < m ∧ low (now c) = i
      · have hnx : ∀ k, k < c + 1 → low (now k) < i + 1 := fun k hk => by
          by_cases e : k = c
          · rw [e]; omega
          · have := h1 k (by omega); omega
        have hnx2 : ∀ k, c + 1 ≤ k → k < m → i + 1 ≤ low (now k) := fun k h3 h4 => by
          have := hprt.2.2.1 c k (by omega) h4; omega
        have hI := ih (i + 1) (c + 1) f (by omega) (by omega) (by omega) hnx hnx2
        by_cases hp : pk.testBit c = false
        · have hd : now c &&& J = 0 := (hpk c hl.1).mpr hp
          have hval := hpu c hl.1 hp
          rw [hl.2] at hval
          rw [if_pos ((hW.2 i (by omega)).mpr ⟨c, hl.1, hl.2, hp⟩), if_neg (by decide), OS_gR hB (by omega) H (k := 5) (f := 4) rfl, OS_aI hB H (k := 5) (by omega) (show i < 9 by omega) (by decide), hval]
          have ht := tT_lt hv (r := now c) (s := J)
          have upd1 : f_X3_strongestOf_L7 post f S (B 0) (nI W) (nI i) (nI (tT v (now c) J)) (nI (i + 1)) = post (es now (pk1 v now J m)) S → (gR S (B 0) 7 4 fun v8 => aI S v8 0 (nI i) fun v9 => f_X3_strongestOf_L7 post f S (B 0) (nI W) (nI i) v9 (nI (i + 1))) = post (es now (pk1 v now J m)) S := fun q => by
            rw [OS_gR hB (by omega) H (k := 5) (f := 4) rfl, OS_aI hB H (k := 5) (by omega) (show i < 9 by omega) (by decide), hval]; exact q
          cases hq : pk1 v now J c with
          | none =>
            have e1 : pk1 v now J (c + 1) = some c := by simp only [pk1, if_pos hd, hq]
            rw [e1] at hI
            have hI2 : f_X3_strongestOf_L7 post f S (B 0) (nI W) (nI (low (now c))) (nI (tT v (now c) J)) (nI (i + 1)) = post (es now (pk1 v now J m)) S := hI
            rw [if_neg (show ¬ nI (tT v (now c) J) ≤ em v now J none from fun z => by
              have h3 : nI (tT v (now c) J) ≤ -1 := z
              have := nI_pos' (n := tT v (now c) J) (by omega)
              exact absurd (Int32.le_trans this h3) (by decide))]
            rw [hl.2] at hI2
            exact upd1 hI2
          | some b =>
            have ht2 := tT_lt hv (r := now b) (s := J)
            by_cases hlt : tT v (now b) J < tT v (now c) J
            · have e1 : pk1 v now J (c + 1) = some c := by simp only [pk1, if_pos hd, hq, if_pos hlt]
              rw [e1] at hI
              have hI2 : f_X3_strongestOf_L7 post f S (B 0) (nI W) (nI (low (now c))) (nI (tT v (now c) J)) (nI (i + 1)) = post (es now (pk1 v now J m)) S := hI
              rw [if_neg (show ¬ nI (tT v (now c) J) ≤ em v now J (some b) from nI_ge hlt (by omega))]
              rw [hl.2] at hI2
              exact upd1 hI2
            · have e1 : pk1 v now J (c + 1) = some b := by simp only [pk1, if_pos hd, hq, if_neg hlt]
              rw [e1] at hI
              rw [if_pos (show nI (tT v (now c) J) ≤ em v now J (some b) from nI_le (Nat.not_lt.mp hlt) (by omega))]
              exact hI
        · have hd : ¬ now c &&& J = 0 := fun z => hp ((hpk c hl.1).mp z)
          have hnb : ¬ W.testBit i = true := fun z => by
            obtain ⟨k, k1, k2, k3⟩ := (hW.2 i (by omega)).mp z
            have : k = c := prt_linj hprt k1 hl.1 (by rw [k2, hl.2])
            rw [this] at k3; exact hp k3
          rw [if_neg hnb, if_pos rfl]
          have e1 : pk1 v now J (c + 1) = pk1 v now J c := by simp only [pk1, if_neg hd]
          rw [e1] at hI
          exact hI
      · have hnb : ¬ W.testBit i = true := fun z => by
          obtain ⟨k, k1, k2, k3⟩ := (hW.2 i (by omega)).mp z
          rcases Nat.lt_or_ge k c with q | q
          · have := h1 k q; omega
          · by_cases e : k = c
            · exact hl ⟨by omega, by rw [← e]; exact k2⟩
            · have := h2 c (Nat.le_refl _) (by omega)
              have := hprt.2.2.1 c k (by omega) k1
              omega
        rw [if_neg hnb, if_pos rfl]
        refine ih (i + 1) c f (by omega) (by omega) hc (fun k hk => by have := h1 k hk; omega) (fun k h3 h4 => ?_)
        have h5 := h2 k h3 h4
        by_cases e : low (now k) = i
        · exfalso
          by_cases e2 : k = c
          · exact hl ⟨by omega, by rw [← e2]; exact e⟩
          · have := h2 c (Nat.le_refl _) (by omega)
            have := hprt.2.2.1 c k (by omega) h4
            omega
        · omega
  exact key 9 0 0 4096 (by omega) (by omega) (by omega) (fun k hk => by omega) (fun k _ _ => Nat.zero_le _)
theorem c_hasPlace {p q : Nat} {post : Int32 → PS → Prop} (hB : oB 6 S0 B) (H : CS S0 B F h S) (hF : F 5 = nI (v 0)) (h0 : v 0 ≤ 9) (hp : p < v 0 - 1) (hq : q < v 0 - p) : f_X3_hasPlace S (B 0) (nI p) (nI q) post = post 1 S := by
  unfold f_X3_hasPlace
  rw [if_neg (nI_pos (by omega)), OS_gI hB (by omega) H (f := 5) (x := F 5) rfl, hF, n1, pk_sub (by omega), if_neg (nI_ge hp (by omega)), if_neg (nI_pos (by omega)), OS_gI hB (by omega) H (f := 5) (x := F 5) rfl, hF, pk_sub (by omega), if_neg (nI_ge hq (by omega))]
  exact nZ1
/-- the class's groups and ties at the beginning of a phase -/
def cin (v now : Nat → Nat) (m : Nat) (h : Nat → Nat → Int32) : Prop :=
  (∀ k, k < m → h 4 (low (now k)) = nI (now k)) ∧ (∀ l, l < 9 → (∀ k, k < m → low (now k) ≠ l) → h 4 l = 0) ∧ ∀ j k, j < m → k < m → j ≠ k → h 3 (9 * low (now j) + low (now k)) = nI (tT v (now j) (now k))
theorem c_joinAll {now : Nat → Nat} {m p : Nat} {post : PS → Prop} (hB : oB 6 S0 B) (H : CS S0 B F h S) (hF : F 5 = nI (v 0)) (hv : okV v) (hp : p < v 0 - 1) (hm : m = v 0 - p) (hprt : prt (v 0) now m) (hci : cin v now m h)
    (next : ∀ (S1 : PS) (h1 : Nat → Nat → Int32), CS S0 B F h1 S1 → (∀ k, k ≠ 1 → k ≠ 2 → k ≠ 5 → h1 k = h k) → (∀ i, i < m → h1 1 (9 * p + i) = nI (gq v now m i) ∧ h1 2 (9 * p + i) = nI (pq v now m i)) → (∀ j, j < 9 * p ∨ 9 * p + m ≤ j → h1 1 j = h 1 j ∧ h1 2 j = h 2 j) → post S1) : f_X3_joinAll S (B 0) (nI p) post := by
  have h0 := hv.1
  -- places
  have pla : ∀ (d q fuel W : Nat) (S1 : PS) (h1 : Nat → Nat → Int32), q + d = m → d < fuel → CS S0 B F h1 S1 → wai now m (pkd v now m q) W → (∀ k, k ≠ 1 → k ≠ 2 → k ≠ 5 → h1 k = h k) → (∀ i, i < q → h1 1 (9 * p + i) = nI (gq v now m i) ∧ h1 2 (9 * p + i) = nI (pq v now m i)) → (∀ j, j < 9 * p ∨ 9 * p + q ≤ j → h1 1 j = h 1 j ∧ h1 2 j = h 2 j) → (∀ k, k < m → (pkd v now m q).testBit k = false → h1 5 (low (now k)) = nI (tT v (now k) (Jn v now m q))) → f_X3_joinAll_L40 post fuel S1 (B 0) (nI p) (nI W) (nI q) := by
    intro d
    induction d with
    | zero =>
      intro q fuel W S1 h1 hq hf H1 hW c1 c2 c3 c4
      obtain ⟨f, rfl⟩ : ∃ f, fuel = f + 1 := ⟨fuel - 1, by omega⟩
      simp only [f_X3_joinAll_L40, f_X3_groupsIn]
      rw [OS_isO hB (by omega) H1, OS_gI hB (by omega) H1 (f := 5) (x := F 5) rfl, hF, pk_sub (by omega), if_pos (nI_le (by omega) (by omega))]
      have e : q = m := by omega
      rw [e] at c2 c3
      exact next S1 h1 H1 c1 c2 c3
    | succ d ih =>
      intro q fuel W S1 h1 hq hf H1 hW c1 c2 c3 c4
      obtain ⟨f, rfl⟩ : ∃ f, fuel = f + 1 := ⟨fuel - 1, by omega⟩
      obtain ⟨s1, s2, s3, -⟩ := sq_spec hprt (show q < m by omega)
      obtain ⟨j1, j2, -⟩ := jn_spec hprt (show q ≤ m by omega)
      obtain ⟨l1, l2⟩ := prt_low hprt h0 s2
      have hbit : (pkd v now m q).testBit (sq v now m q) = false := (j1 _ s2).mp s3
      simp only [f_X3_joinAll_L40, f_X3_groupsIn]
      rw [OS_isO hB (by omega) H1, OS_gI hB (by omega) H1 (f := 5) (x := F 5) rfl, hF, pk_sub (by omega), if_neg (nI_ge (show q < v 0 - p by omega) (by omega)), OS_isO hB (by omega) H1, c_strong hB H1 hv hprt (by omega) hW (fun k hk => j1 k hk) c4, s1, OS_isO hB (by omega) H1]
      show f_X3_put S1 (B 0) (nI p) (nI q) (nI (low (now (sq v now m q)))) _
      unfold f_X3_put
      rw [OS_isO hB (by omega) H1, c_hasPlace hB H1 hF h0 hp (by omega), if_neg (by decide), OS_gR hB (by omega) H1 (k := 1) (f := 0) rfl, OS_gR hB (by omega) H1 (k := 4) (f := 3) rfl, OS_aI hB H1 (k := 4) (by omega) (show low (now (sq v now m q)) < 9 by omega) (by decide), c1 4 (by decide) (by decide) (by decide), hci.1 _ s2, n9, pk_mul, nI_add]
      refine OS_sI hB (by omega) H1 (k := 1) (by omega) (show p * 9 + q < 72 by omega) (by decide) (fun S2 H2 => ?_)
      rw [OS_gR hB (by omega) H2 (k := 2) (f := 1) rfl, OS_gR hB (by omega) H2 (k := 5) (f := 4) rfl, OS_aI hB H2 (k := 5) (by omega) (show low (now (sq v now m q)) < 9 by omega) (by decide), hu_ne (by decide), c4 _ s2 hbit]
      refine OS_sI hB (by omega) H2 (k := 2) (by omega) (show p * 9 + q < 72 by omega) (by decide) (fun S3 H3 => ?_)
      have e9 : nI W &&& ((1 <<< (nI (low (now (sq v now m q))) &&& 31)) ^^^ (-1)) = nI (bn W (2 ^ low (now (sq v now m q)))) := by rw [b_bit _ (by omega), b_bn]
      show f_X3_joinAll_L76 post (f_X3_joinAll_L40 post f) 4096 S3 (B 0) (nI p) (nI W &&& ((1 <<< (nI (low (now (sq v now m q))) &&& 31)) ^^^ (-1))) (nI q) (nI (low (now (sq v now m q)))) 0
      rw [e9]
      -- the pulls grow
      have gro : ∀ (d i fu : Nat) (S4 : PS) (h4 : Nat → Nat → Int32), i + d = 9 → d < fu → CS S0 B F h4 S4 → (∀ k, k ≠ 5 → h4 k = hu (hu h1 1 (p * 9 + q) (nI (now (sq v now m q)))) 2 (p * 9 + q) (nI (tT v (now (sq v now m q)) (Jn v now m q))) k) → (∀ k, k < m → (pkd v now m q).testBit k = false → k ≠ sq v now m q → h4 5 (low (now k)) = (if low (now k) < i then nI (tT v (now k) (Jn v now m (q + 1))) else nI (tT v (now k) (Jn v now m q)))) → f_X3_joinAll_L76 post (f_X3_joinAll_L40 post f) fu S4 (B 0) (nI p) (nI (bn W (2 ^ low (now (sq v now m q))))) (nI q) (nI (low (now (sq v now m q)))) (nI i) := by
        intro d2
        induction d2 with
        | zero =>
          intro i fu S4 h4 hi hf4 H4 e1 e2
          obtain ⟨f', rfl⟩ : ∃ f', fu = f' + 1 := ⟨fu - 1, by omega⟩
          simp only [f_X3_joinAll_L76, f_X3_joinAll_J112]
          rw [if_pos (by rw [n9]; exact nI_le (by omega) (by omega)), nI_1]
          refine ih (q + 1) f _ S4 h4 (by omega) (by omega) H4 ⟨bn_lt hW.1, fun l hl => ?_⟩ (fun k k1 k2 k5 => by rw [e1 k k5, hu_ne k2, hu_ne k1]; exact c1 k k1 k2 k5) (fun i' hi' => ?_) (fun j hj => ?_) (fun k hk hb => ?_)
          · rw [bn_tb, Nat.testBit_two_pow, Bool.and_eq_true, hW.2 l hl]
            simp only [pkd, or_tb]
            constructor
            · rintro ⟨⟨k, k1, k2, k3⟩, h5⟩
              have h6 : ¬ low (now (sq v now m q)) = l := by simpa using h5
              refine ⟨k, k1, k2, ?_⟩
              have : k ≠ sq v now m q := fun e => h6 (by rw [← e]; exact k2)
              simp [k3, this]
            · rintro ⟨k, k1, k2, k3⟩
              have k4 : (pkd v now m q).testBit k = false ∧ ¬ k = sq v now m q := by simpa using k3
              refine ⟨⟨k, k1, k2, k4.1⟩, ?_⟩
              have : ¬ low (now (sq v now m q)) = l := fun e => k4.2 (prt_linj hprt k1 s2 (by rw [k2, e]))
              simp [this]
          · by_cases hiq : i' = q
            · subst hiq
              rw [e1 1 (by decide), e1 2 (by decide), Nat.mul_comm 9 p, hu_ne (by decide), hu_at, hu_at]
              exact ⟨rfl, rfl⟩
            · obtain ⟨a1, a2⟩ := c2 i' (by omega)
              rw [e1 1 (by decide), e1 2 (by decide), hu_ne (by decide), hu_off (by omega), hu_off (by omega), hu_ne (by decide)]
              exact ⟨a1, a2⟩
          · obtain ⟨a1, a2⟩ := c3 j (by omega)
            rw [e1 1 (by decide), e1 2 (by decide), hu_ne (by decide), hu_off (by omega), hu_off (by omega), hu_ne (by decide)]
            exact ⟨a1, a2⟩
          · have hb2 : (pkd v now m q).testBit k = false ∧ ¬ k = sq v now m q := by
              rw [pkd, or_tb] at hb; simpa using hb
            have := e2 k hk hb2.1 hb2.2
            rw [if_pos (by have := (prt_low hprt h0 hk).1; omega)] at this
            exact this
        | succ d2 ih2 =>
          intro i fu S4 h4 hi hf4 H4 e1 e2
          obtain ⟨f', rfl⟩ : ∃ f', fu = f' + 1 := ⟨fu - 1, by omega⟩
          simp only [f_X3_joinAll_L76]
          rw [if_neg (by rw [n9]; exact nI_ge (by omega) (by omega)), OS_gR hB (by omega) H4 (k := 5) (f := 4) rfl, OS_aI hB H4 (k := 5) (by omega) (show i < 9 by omega) (by decide), OS_gR hB (by omega) H4 (k := 3) (f := 2) rfl, n9, pk_mul, nI_add, OS_aI hB H4 (k := 3) (by omega) (show i * 9 + low (now (sq v now m q)) < 81 by omega) (by decide), nI_1]
          refine OS_sI hB (by omega) H4 (k := 5) (by omega) (show i < 9 by omega) (by decide) (fun S5 H5 => ?_)
          refine ih2 (i + 1) f' S5 _ (by omega) (by omega) H5 (fun k hk => by rw [hu_ne hk]; exact e1 k hk) (fun k hk hb hne => ?_)
          have e3 := e2 k hk hb hne
          by_cases e4 : low (now k) = i
          · rw [if_neg (by omega)] at e3
            rw [if_pos (by omega), ← e4, hu_at, e3, e1 3 (by decide), hu_ne (by decide), hu_ne (by decide), c1 3 (by decide) (by decide) (by decide), Nat.mul_comm (low (now k)) 9, hci.2.2 k _ hk s2 hne, nI_add]
            congr 1
            rw [Jn]
            refine (tT_addR ?_).symm
            rw [Nat.and_comm]
            exact s3
          · rw [hu_off e4, e3]
            by_cases e5 : low (now k) < i
            · rw [if_pos e5, if_pos (by omega)]
            · rw [if_neg e5, if_neg (by omega)]
      refine gro 9 0 4096 S3 _ (by omega) (by omega) H3 (fun k hk => rfl) (fun k hk hb hne => ?_)
      rw [if_neg (by omega), hu_ne (by decide), hu_ne (by decide)]
      exact c4 k hk hb
  -- who waits
  have wtg : ∀ (d i fuel W : Nat) (S1 : PS) (h1 : Nat → Nat → Int32), i + d = 9 → d < fuel → CS S0 B F h1 S1 → (∀ k, k ≠ 5 → h1 k = h k) → (∀ l, l < i → h1 5 l = 0) → W < 2 ^ 9 → (∀ l, l < 9 → (W.testBit l = true ↔ l < i ∧ ∃ k, k < m ∧ low (now k) = l)) → f_X3_joinAll_L4 post fuel S1 (B 0) (nI p) (nI W) (nI i) := by
    intro d
    induction d with
    | zero =>
      intro i fuel W S1 h1 hi hf H1 c1 c2 hW c3
      obtain ⟨f, rfl⟩ : ∃ f, fuel = f + 1 := ⟨fuel - 1, by omega⟩
      simp only [f_X3_joinAll_L4, f_X3_joinAll_J38]
      rw [if_pos (by rw [n9]; exact nI_le (by omega) (by omega))]
      refine pla m 0 4096 W S1 h1 (by omega) (by omega) H1 ⟨hW, fun l hl => ?_⟩ (fun k _ _ k5 => c1 k k5) (fun i hi => by omega) (fun j _ => by rw [c1 1 (by decide), c1 2 (by decide)]; exact ⟨rfl, rfl⟩) (fun k hk _ => ?_)
      · rw [c3 l hl]
        constructor
        · rintro ⟨-, k, k1, k2⟩; exact ⟨k, k1, k2, Nat.zero_testBit _⟩
        · rintro ⟨k, k1, k2, -⟩; exact ⟨by omega, k, k1, k2⟩
      · rw [c2 _ (by have := (prt_low hprt h0 hk).1; omega)]
        show (0 : Int32) = nI (tT v (now k) 0)
        rw [tT_0]; rfl
    | succ d ih =>
      intro i fuel W S1 h1 hi hf H1 c1 c2 hW c3
      obtain ⟨f, rfl⟩ : ∃ f, fuel = f + 1 := ⟨fuel - 1, by omega⟩
      simp only [f_X3_joinAll_L4, f_X3_joinAll_J32]
      rw [if_neg (by rw [n9]; exact nI_ge (by omega) (by omega)), OS_gR hB (by omega) H1 (k := 5) (f := 4) rfl, nI_1]
      refine OS_sI hB (by omega) H1 (k := 5) (by omega) (show i < 9 by omega) (by decide) (fun S2 H2 => ?_)
      rw [OS_gR hB (by omega) H2 (k := 4) (f := 3) rfl, OS_aI hB H2 (k := 4) (by omega) (show i < 9 by omega) (by decide), hu_ne (by decide), c1 4 (by decide)]
      have c1' : ∀ k, k ≠ 5 → hu h1 5 i 0 k = h k := fun k hk => by rw [hu_ne hk]; exact c1 k hk
      have c2' : ∀ l, l < i + 1 → hu h1 5 i 0 5 l = 0 := fun l hl => by
        by_cases e : l = i
        · rw [e, hu_at]
        · rw [hu_off e]; exact c2 l (by omega)
      by_cases hex : ∃ k, k < m ∧ low (now k) = i
      · obtain ⟨k, k1, k2⟩ := hex
        have hk := hci.1 k k1
        rw [k2] at hk
        have hkz := hprt.1 k k1
        have hkl := prt_lt hprt h0 k1
        rw [hk, if_neg (by rw [nIe0 (by omega)]; exact hkz.1), b_bit i (by omega), b_or]
        refine ih (i + 1) f _ S2 _ (by omega) (by omega) H2 c1' c2' (Nat.or_lt_two_pow hW (Nat.pow_lt_pow_right (by omega) (by omega))) (fun l hl => ?_)
        rw [or_tb, Bool.or_eq_true, c3 l hl, decide_eq_true_eq]
        constructor
        · rintro (⟨a, b⟩ | a)
          · exact ⟨by omega, b⟩
          · exact ⟨by omega, k, k1, by rw [k2, a]⟩
        · rintro ⟨a, b⟩
          by_cases e : l = i
          · exact Or.inr e
          · exact Or.inl ⟨by omega, b⟩
      · rw [hci.2.1 i (by omega) (fun k k1 k2 => hex ⟨k, k1, k2⟩), if_pos rfl]
        refine ih (i + 1) f W S2 _ (by omega) (by omega) H2 c1' c2' hW (fun l hl => ?_)
        rw [c3 l hl]
        constructor
        · rintro ⟨a, b⟩; exact ⟨by omega, b⟩
        · rintro ⟨a, b⟩
          refine ⟨?_, b⟩
          by_cases e : l = i
          · exact absurd (by rw [e] at b; exact b) hex
          · omega
  exact wtg 9 0 4096 0 S h (by omega) (by omega) H (fun _ _ => rfl) (fun l hl => by omega) (by omega) (fun l hl => by rw [Nat.zero_testBit]; simp)
end CRS

