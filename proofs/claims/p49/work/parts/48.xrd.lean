/-! what the class answers, of its village alone -/
def rs (E : Nat → String) (o : Nat × Int32) (post : Int32 → PS → Prop) (postX : String → PS → Prop) (S : PS) : Prop := match o with
  | (0, x) => post x S
  | (n + 1, _) => postX (E (n + 1)) S
def eE (a b : String) : Nat → String := fun n => if n = 1 then a else b
def oWgt (v : Vt) (x y : Int32) : Nat × Int32 := if inb v x = true then (if inb v y = true then (0, nI (wt v (ix x) (ix y))) else (1, 0)) else (1, 0)
def oHou (v : Vt) (x y : Int32) : Nat × Int32 := if inb v x = true then (if y = 0 then (0, nI (v (4 + ix x))) else if y = 1 then (0, nI (bo v (ix x))) else if y = 2 then (0, nI (tS v (ix x) (ev v))) else if y = 3 then (0, nI (tS v (ix x) (ss v (ix x)))) else if y = 4 then (0, nI (tS v (ix x) (os v (ix x)))) else if y = 5 then (0, (clo v (ix x) (v 0)).1) else (2, 0)) else (1, 0)
def inB (v : Vt) (x : Int32) : Bool := decide (¬ x < 0) && decide (x ≤ nI (2 ^ v 0 - 1))
def oTie (v : Vt) (x y : Int32) : Nat × Int32 := if inB v x = true then (if inB v y = true then (if x &&& y = 0 then (0, nI (tT v (ix x) (ix y))) else (1, 0)) else (1, 0)) else (1, 0)
def amv (v : Vt) (k : Nat) : Nat := fo v (sds v ^^^ 2 ^ k)
def bsm (g : Nat → Nat) : Nat → Nat
  | 0 => 0
  | n + 1 => if n = 0 then 0 else if g (bsm g n) ≤ g n then bsm g n else n
def oBst (v : Vt) : Nat × Int32 := if v 0 = 0 then (1, 0) else (0, nI (bsm (amv v) (v 0)))
def oIfM (v : Vt) (x : Int32) : Nat × Int32 := if inb v x = true then (0, nI (amv v (ix x))) else (1, 0)
def ptn (v : Vt) (n : Nat) : Nat := sm (fun k => if low (rch v k) = k then 1 else 0) n
def oPof (v : Vt) (x : Int32) : Nat × Int32 := if inb v x = true then (0, nI (rch v (ix x))) else (1, 0)
def oBat (v : Vt) (x : Int32) : Nat × Int32 := if 0 ≤ x then (match (bl v)[ix x]? with | some q => (0, nI (10 * q.1 + q.2)) | none => (1, 0)) else (1, 0)
def oHvy (v : Vt) : Nat × Int32 := if hvF v = -1 then (1, 0) else (0, hvF v)
def oAcc (v : Vt) (n m : Nat) (x : Int32) : Nat × Int32 := if x = 0 then (0, nI (v 0)) else if x = 1 then (0, nI (bm v)) else if x = 2 then (0, nI (ws v)) else if x = 3 then (0, nI (sm (fun k => v (4 + k)) (v 0))) else if x = 4 then (0, nI (acr v)) else if x = 5 then (0, nI (v 1)) else if x = 6 then (0, nI (v 2)) else if x = 7 then (0, nI (v 3)) else if x = 8 then (0, nI (lon v)) else if x = 9 then (0, nI n) else if x = 10 then (0, nI m) else (1, 0)
theorem inB_iff {v : Vt} (h0 : v 0 ≤ 9) {x : Int32} : inB v x = true ↔ inS v x := by
  have hp := Nat.pow_le_pow_right (show 0 < 2 by omega) h0
  have hp0 := Nat.pow_pos (n := v 0) (show 0 < 2 by omega)
  unfold inB inS
  rw [Bool.and_eq_true, decide_eq_true_eq, decide_eq_true_eq]
  constructor
  · rintro ⟨h1, h2⟩
    obtain ⟨j, hj, rfl⟩ := nI_of2 (M := nI (2 ^ v 0 - 1)) (n := 2 ^ v 0 - 1) (nI_toInt (by omega)) h1 h2
    exact ⟨j, by omega, rfl⟩
  · rintro ⟨j, hj, rfl⟩
    exact ⟨nI_pos (by omega), nI_le (by omega) (by omega)⟩
theorem inB_of {v : Vt} (h0 : v 0 ≤ 9) {x : Int32} (h : inB v x = true) : ix x < 2 ^ v 0 ∧ x = nI (ix x) := by
  have hp := Nat.pow_le_pow_right (show 0 < 2 by omega) h0
  obtain ⟨s, hs, rfl⟩ := (inB_iff h0).mp h
  rw [ix_nI (by omega)]; exact ⟨hs, rfl⟩
theorem rch_b {v : Vt} (hv : okV v) {k : Nat} (hk : k < v 0) : rch v k ≠ 0 ∧ rch v k < 2 ^ 9 := by
  have h0 := hv.1
  have h1 : (rch v k).testBit k = true := rcO_has _
  refine ⟨fun z => ?_, ?_⟩
  · rw [z, Nat.zero_testBit] at h1; cases h1
  · exact Nat.lt_of_lt_of_le (b_lt_of (fun j hj => rcO_lo hk _ j hj)) (Nat.pow_le_pow_right (by omega) h0)
theorem bsm_lt (g : Nat → Nat) : ∀ n, 0 < n → bsm g n < n
  | 0, h => by omega
  | 1, _ => by show (if 0 = 0 then 0 else _) < 1; rw [if_pos rfl]; omega
  | n + 2, _ => by
    have := bsm_lt g (n + 1) (by omega)
    show (if n + 1 = 0 then 0 else if g (bsm g (n + 1)) ≤ g (n + 1) then bsm g (n + 1) else n + 1) < n + 2
    rw [if_neg (by omega)]
    split <;> omega
def bcF (x : Int32) : Int32 := ((((((((x - ((((x).toUInt32 >>> (((1 : Int32)).toUInt32 &&& Int32.toUInt32 31)).toInt32) &&& 1431655765)) &&& 858993459) + (((((x - ((((x).toUInt32 >>> (((1 : Int32)).toUInt32 &&& Int32.toUInt32 31)).toInt32) &&& 1431655765))).toUInt32 >>> (((2 : Int32)).toUInt32 &&& Int32.toUInt32 31)).toInt32) &&& 858993459)) + ((((((x - ((((x).toUInt32 >>> (((1 : Int32)).toUInt32 &&& Int32.toUInt32 31)).toInt32) &&& 1431655765)) &&& 858993459) + (((((x - ((((x).toUInt32 >>> (((1 : Int32)).toUInt32 &&& Int32.toUInt32 31)).toInt32) &&& 1431655765))).toUInt32 >>> (((2 : Int32)).toUInt32 &&& Int32.toUInt32 31)).toInt32) &&& 858993459))).toUInt32 >>> (((4 : Int32)).toUInt32 &&& Int32.toUInt32 31)).toInt32)) &&& 252645135) + ((((((((x - ((((x).toUInt32 >>> (((1 : Int32)).toUInt32 &&& Int32.toUInt32 31)).toInt32) &&& 1431655765)) &&& 858993459) + (((((x - ((((x).toUInt32 >>> (((1 : Int32)).toUInt32 &&& Int32.toUInt32 31)).toInt32) &&& 1431655765))).toUInt32 >>> (((2 : Int32)).toUInt32 &&& Int32.toUInt32 31)).toInt32) &&& 858993459)) + ((((((x - ((((x).toUInt32 >>> (((1 : Int32)).toUInt32 &&& Int32.toUInt32 31)).toInt32) &&& 1431655765)) &&& 858993459) + (((((x - ((((x).toUInt32 >>> (((1 : Int32)).toUInt32 &&& Int32.toUInt32 31)).toInt32) &&& 1431655765))).toUInt32 >>> (((2 : Int32)).toUInt32 &&& Int32.toUInt32 31)).toInt32) &&& 858993459))).toUInt32 >>> (((4 : Int32)).toUInt32 &&& Int32.toUInt32 31)).toInt32)) &&& 252645135)).toUInt32 >>> (((8 : Int32)).toUInt32 &&& Int32.toUInt32 31)).toInt32)) + (((((((((x - ((((x).toUInt32 >>> (((1 : Int32)).toUInt32 &&& Int32.toUInt32 31)).toInt32) &&& 1431655765)) &&& 858993459) + (((((x - ((((x).toUInt32 >>> (((1 : Int32)).toUInt32 &&& Int32.toUInt32 31)).toInt32) &&& 1431655765))).toUInt32 >>> (((2 : Int32)).toUInt32 &&& Int32.toUInt32 31)).toInt32) &&& 858993459)) + ((((((x - ((((x).toUInt32 >>> (((1 : Int32)).toUInt32 &&& Int32.toUInt32 31)).toInt32) &&& 1431655765)) &&& 858993459) + (((((x - ((((x).toUInt32 >>> (((1 : Int32)).toUInt32 &&& Int32.toUInt32 31)).toInt32) &&& 1431655765))).toUInt32 >>> (((2 : Int32)).toUInt32 &&& Int32.toUInt32 31)).toInt32) &&& 858993459))).toUInt32 >>> (((4 : Int32)).toUInt32 &&& Int32.toUInt32 31)).toInt32)) &&& 252645135) + ((((((((x - ((((x).toUInt32 >>> (((1 : Int32)).toUInt32 &&& Int32.toUInt32 31)).toInt32) &&& 1431655765)) &&& 858993459) + (((((x - ((((x).toUInt32 >>> (((1 : Int32)).toUInt32 &&& Int32.toUInt32 31)).toInt32) &&& 1431655765))).toUInt32 >>> (((2 : Int32)).toUInt32 &&& Int32.toUInt32 31)).toInt32) &&& 858993459)) + ((((((x - ((((x).toUInt32 >>> (((1 : Int32)).toUInt32 &&& Int32.toUInt32 31)).toInt32) &&& 1431655765)) &&& 858993459) + (((((x - ((((x).toUInt32 >>> (((1 : Int32)).toUInt32 &&& Int32.toUInt32 31)).toInt32) &&& 1431655765))).toUInt32 >>> (((2 : Int32)).toUInt32 &&& Int32.toUInt32 31)).toInt32) &&& 858993459))).toUInt32 >>> (((4 : Int32)).toUInt32 &&& Int32.toUInt32 31)).toInt32)) &&& 252645135)).toUInt32 >>> (((8 : Int32)).toUInt32 &&& Int32.toUInt32 31)).toInt32))).toUInt32 >>> (((16 : Int32)).toUInt32 &&& Int32.toUInt32 31)).toInt32)) &&& 63)
theorem bcF_s : ∀ s, s < 512 → bcF (nI s) = nI (pc s 9) := by decide +kernel
theorem bcnt (s : Nat) (hs : s < 512) (S : PS) (post : Int32 → PS → Prop) : f_J6_bitCount_0f7a4 S (nI s) post = post (nI (pc s 9)) S := by
  rw [← bcF_s s hs]; rfl
section XRD
variable {S : PS} {ow : Ow} {A : Nat → Nat} {v : Vt} {hs : List Vt} {sv : Option Vt} {r : Nat → Int32} {tx : List Nat} {fa : Int32} {ln : List Nat} {bc bs : Nat} {post : Int32 → PS → Prop} {postX : String → PS → Prop}
theorem x_weight {x y : Int32} (h : CI S ow A v hs sv r tx fa ln) (hv : okV v) (h1 : 1 ≤ bc) (h2 : 6 ≤ bs) (next : rs (eE "java/lang/IndexOutOfBoundsException" "") (oWgt v x y) post postX S) : f_X7_weight S (A 12) x y bc bs post postX := by
  obtain ⟨t, hV⟩ := Vx h
  unfold f_X7_weight f_X7_weight_J22
  unfold oWgt at next
  rw [G_0 h, O_0 h]
  by_cases hx : inb v x = true
  · rw [if_pos hx] at next
    rw [e_hasY hV (inb_iff.mp hx), if_neg (by decide), G_0 h, O_0 h]
    by_cases hy : inb v y = true
    · rw [if_pos hy] at next
      obtain ⟨b1, b2⟩ := inb_of hv.1 hx
      obtain ⟨b3, b4⟩ := inb_of hv.1 hy
      rw [e_hasY hV (inb_iff.mp hy), if_neg (by decide), G_0 h, O_0 h, b2, b4, e_tie hV hv (by have := hv.1; omega) (by have := hv.1; omega)]
      exact next
    · rw [if_neg hy] at next
      rw [e_hasN hV (fun z => hy (inb_iff.mpr z)), if_pos rfl]
      exact ⟨h1, h2, next⟩
  · rw [if_neg hx] at next
    rw [e_hasN hV (fun z => hx (inb_iff.mpr z)), if_pos rfl]
    exact ⟨h1, h2, next⟩
theorem x_householdOf {x y : Int32} (h : CI S ow A v hs sv r tx fa ln) (hv : okV v) (h1 : 1 ≤ bc) (h2 : 6 ≤ bs) (next : rs (eE "java/lang/IndexOutOfBoundsException" "java/lang/IllegalArgumentException") (oHou v x y) post postX S) : f_X7_householdOf S (A 12) x y bc bs post postX := by
  obtain ⟨t, hV⟩ := Vx h
  have h0 := hv.1
  unfold f_X7_householdOf
  unfold oHou at next
  rw [G_0 h, O_0 h]
  by_cases hx : inb v x = true
  · rw [if_pos hx] at next
    obtain ⟨b1, b2⟩ := inb_of hv.1 hx
    have l1 := ss_lt hv (k := ix x)
    have l2 := os_lt hv (k := ix x)
    rw [e_hasY hV (inb_iff.mp hx), if_neg (by decide)]
    generalize hi : ix x = i at next b1 b2 l1 l2
    rw [b2]
    by_cases y0 : y = 0
    · rw [if_pos y0] at next ⊢
      rw [G_0 h, O_0 h, e_sideOf hV hv (by omega)]; exact next
    rw [if_neg y0] at next ⊢
    by_cases y1 : y = 1
    · rw [if_pos y1] at next ⊢
      rw [G_0 h, O_0 h, e_bondsOf hV hv (by omega)]; exact next
    rw [if_neg y1] at next ⊢
    by_cases y2 : y = 2
    · rw [if_pos y2] at next ⊢
      have hp := Nat.pow_le_pow_right (show 0 < 2 by omega) h0
      rw [G_0 h, G_0 h, O_0 h, e_every hV hv, O_0 h, e_tieToSet hV hv (by omega) (by omega)]; exact next
    rw [if_neg y2] at next ⊢
    by_cases y3 : y = 3
    · rw [if_pos y3] at next ⊢
      rw [G_0 h, G_0 h, O_0 h, e_same hV hv (by omega), O_0 h, e_tieToSet hV hv (by omega) (by omega)]; exact next
    rw [if_neg y3] at next ⊢
    by_cases y4 : y = 4
    · rw [if_pos y4] at next ⊢
      rw [G_0 h, G_0 h, O_0 h, e_other hV hv (by omega), O_0 h, e_tieToSet hV hv (by omega) (by omega)]; exact next
    rw [if_neg y4] at next ⊢
    by_cases y5 : y = 5
    · rw [if_pos y5] at next ⊢
      rw [G_0 h, O_0 h, e_closest hV hv (by omega)]; exact next
    rw [if_neg y5] at next ⊢
    exact ⟨h1, h2, next⟩
  · rw [if_neg hx] at next
    rw [e_hasN hV (fun z => hx (inb_iff.mpr z)), if_pos rfl]
    exact ⟨h1, h2, next⟩
theorem x_feud (h : CI S ow A v hs sv r tx fa ln) (hv : okV v) (next : post (nI (fo v (sds v))) S) : f_X7_feud S (A 12) post := by
  obtain ⟨t, hV⟩ := Vx h
  unfold f_X7_feud
  rw [G_0 h, O_0 h, e_feud hV hv, fb_fo hv]; exact next
theorem x_feudAgain (h : CI S ow A v hs sv r tx fa ln) (hv : okV v) (next : post (nI (fo v (sds v))) S) : f_X7_feudAgain S (A 12) post := by
  obtain ⟨t, hV⟩ := Vx h
  unfold f_X7_feudAgain
  rw [G_0 h, O_0 h, e_halves hV hv, fh_fo hv]; exact next
theorem x_bestMove (h : CI S ow A v hs sv r tx fa ln) (hv : okV v) (h1 : 1 ≤ bc) (h2 : 6 ≤ bs) (next : rs (eE "java/util/NoSuchElementException" "") (oBst v) post postX S) : f_X7_bestMove S (A 12) bc bs post postX := by
  obtain ⟨t, hV⟩ := Vx h
  have h0 := hv.1
  unfold f_X7_bestMove
  unfold oBst at next
  rw [G_0 h, V1 hV]
  by_cases e : v 0 = 0
  · rw [if_pos e] at next
    rw [if_pos (by rw [e]; rfl)]
    exact ⟨h1, h2, next⟩
  · rw [if_neg e] at next
    rw [if_neg (nI_ne0 (by omega) (by omega))]
    have am : ∀ k, k < v 0 → amv v k < 10000000 := fun k _ => tT_lt hv
    have key := loop_i (W := fun fuel k (s : Unit) => f_X7_bestMove_L24 post postX fuel S bc bs (A 12) (nI (bsm (amv v) k)) (nI k)) (I := fun k _ => 1 ≤ k) (v 0) (fun n s hI => ?_) (fun n k s hk hI ih => ?_) 4096 1 () (by omega) (by omega) (Nat.le_refl _)
    · exact key
    · show f_X7_bestMove_L24 post postX (n + 1) S bc bs (A 12) _ _
      simp only [f_X7_bestMove_L24]
      rw [G_0 h, V1 hV, if_pos (nI_le (Nat.le_refl _) (by omega))]
      exact next
    · have hb := bsm_lt (amv v) k (by omega)
      have e1 : bsm (amv v) (k + 1) = if amv v (bsm (amv v) k) ≤ amv v k then bsm (amv v) k else k := if_neg (by omega)
      have ih := ih () (by omega)
      have ih : f_X7_bestMove_L24 post postX n S bc bs (A 12) (nI (bsm (amv v) (k + 1))) (nI (k + 1)) := ih
      have a1 := am k hk
      have a2 := am (bsm (amv v) k) (by omega)
      show f_X7_bestMove_L24 post postX (n + 1) S bc bs (A 12) _ _
      simp only [f_X7_bestMove_L24, f_X7_bestMove_J56]
      rw [G_0 h, V1 hV, if_neg (nI_ge hk (by omega)), G_0 h, O_0 h, e_after' hV hv hk, G_0 h, O_0 h, e_after' hV hv (show bsm (amv v) k < v 0 by omega), nI_1]
      rw [e1] at ih
      by_cases q : amv v (bsm (amv v) k) ≤ amv v k
      · rw [if_pos q] at ih
        rw [if_pos (show nI (fo v (sds v ^^^ 2 ^ bsm (amv v) k)) ≤ nI (fo v (sds v ^^^ 2 ^ k)) from nI_le q (by show amv v k < _; omega))]
        exact ih
      · rw [if_neg q] at ih
        rw [if_neg (show ¬ nI (fo v (sds v ^^^ 2 ^ bsm (amv v) k)) ≤ nI (fo v (sds v ^^^ 2 ^ k)) from nI_ge (Nat.not_le.mp q) (by show amv v (bsm (amv v) k) < _; omega))]
        exact ih
theorem x_ifMoved {x : Int32} (h : CI S ow A v hs sv r tx fa ln) (hv : okV v) (h1 : 1 ≤ bc) (h2 : 6 ≤ bs) (next : rs (eE "java/lang/IndexOutOfBoundsException" "") (oIfM v x) post postX S) : f_X7_ifMoved S (A 12) x bc bs post postX := by
  obtain ⟨t, hV⟩ := Vx h
  unfold f_X7_ifMoved
  unfold oIfM at next
  rw [G_0 h, O_0 h]
  by_cases hx : inb v x = true
  · rw [if_pos hx] at next
    obtain ⟨b1, b2⟩ := inb_of hv.1 hx
    rw [e_hasY hV (inb_iff.mp hx), if_neg (by decide), G_0 h, O_0 h, b2, e_after' hV hv b1]
    exact next
  · rw [if_neg hx] at next
    rw [e_hasN hV (fun z => hx (inb_iff.mpr z)), if_pos rfl]
    exact ⟨h1, h2, next⟩
theorem x_parts (h : CI S ow A v hs sv r tx fa ln) (hv : okV v) (next : post (nI (ptn v (v 0))) S) : f_X7_parts S (A 12) post := by
  obtain ⟨t, hV⟩ := Vx h
  have h0 := hv.1
  have key := lp_eq (L := fun fuel k => f_X7_parts_L4 post fuel S (A 12) (nI (ptn v k)) (nI k)) (P := post (nI (ptn v (v 0))) S) (n := v 0) (fun n k hk => ?_) (fun n => ?_) 0 4096 (by omega) (by omega)
  · unfold f_X7_parts
    have key : f_X7_parts_L4 post 4096 S (A 12) (nI (ptn v 0)) (nI 0) = post (nI (ptn v (v 0))) S := key
    have e0 : ptn v 0 = 0 := rfl
    rw [e0] at key
    show f_X7_parts_L4 post 4096 S (A 12) (nI 0) (nI 0)
    rw [key]; exact next
  · obtain ⟨r1, r2⟩ := rch_b hv hk
    show f_X7_parts_L4 post (n + 1) S (A 12) (nI (ptn v k)) (nI k) = f_X7_parts_L4 post n S (A 12) (nI (ptn v (k + 1))) (nI (k + 1))
    have e1 : ptn v (k + 1) = ptn v k + (if low (rch v k) = k then 1 else 0) := rfl
    have hl := (low_spec r1 r2).1
    rw [f_X7_parts_L4]
    rw [G_0 h, V1 hV, if_neg (nI_ge hk (by omega)), G_0 h, O_0 h, e_reach hV hv (by omega), show rcO v k (v 0) = rch v k from rfl, e_low1 r1 r2, e1]
    unfold f_X7_parts_J33
    by_cases q : low (rch v k) = k
    · rw [if_pos q, if_pos (by rw [q]), nI_1, nI_1]
    · rw [if_neg q, if_neg (fun z => q ((nI_eq (by omega) (by omega)).mp z)), nI_1]; rfl
  · show f_X7_parts_L4 post (n + 1) S (A 12) (nI (ptn v (v 0))) (nI (v 0)) = _
    rw [f_X7_parts_L4]
    rw [G_0 h, V1 hV, if_pos (nI_le (Nat.le_refl _) (by omega))]
theorem x_partOf {x : Int32} (h : CI S ow A v hs sv r tx fa ln) (hv : okV v) (h1 : 1 ≤ bc) (h2 : 6 ≤ bs) (next : rs (eE "java/lang/IndexOutOfBoundsException" "") (oPof v x) post postX S) : f_X7_partOf S (A 12) x bc bs post postX := by
  obtain ⟨t, hV⟩ := Vx h
  unfold f_X7_partOf
  unfold oPof at next
  rw [G_0 h, O_0 h]
  by_cases hx : inb v x = true
  · rw [if_pos hx] at next
    obtain ⟨b1, b2⟩ := inb_of hv.1 hx
    rw [e_hasY hV (inb_iff.mp hx), if_neg (by decide), G_0 h, O_0 h, b2, e_reach hV hv (by have := hv.1; omega)]
    exact next
  · rw [if_neg hx] at next
    rw [e_hasN hV (fun z => hx (inb_iff.mpr z)), if_pos rfl]
    exact ⟨h1, h2, next⟩
theorem kp_no {x : Int32} {q : Int32 → PS → Prop} {E : Nat → Prop} (hx : x < 0) : ∀ (l : List (Nat × Nat)) (c0 : Nat), c0 + l.length < 1000 → kp (lkB v x q S) E l c0 = E (c0 + (l.filter (bnd v)).length)
  | [], c0, _ => rfl
  | p :: l, c0, h2 => by
    rw [List.length_cons] at h2
    show (if 0 < wt v p.1 p.2 then (if nI c0 = x then q (nI (10 * p.1 + p.2)) S else kp (lkB v x q S) E l (c0 + 1)) else kp (lkB v x q S) E l c0) = _
    by_cases e : 0 < wt v p.1 p.2
    · rw [if_pos e, if_neg (fun z => nI_pos (n := c0) (by omega) (by rw [z]; exact hx)), kp_no hx l (c0 + 1) (by omega), List.filter_cons_of_pos (by unfold bnd; exact decide_eq_true e), List.length_cons, show c0 + 1 + (l.filter (bnd v)).length = c0 + ((l.filter (bnd v)).length + 1) by omega]
    · rw [if_neg e, List.filter_cons_of_neg (by unfold bnd; rw [decide_eq_false e]; decide)]
      exact kp_no hx l c0 (by omega)
theorem x_bondAt {x : Int32} (h : CI S ow A v hs sv r tx fa ln) (hv : okV v) (h1 : 1 ≤ bc) (h2 : 6 ≤ bs) (next : rs (eE "java/util/NoSuchElementException" "") (oBat v x) post postX S) : f_X7_bondAt S (A 12) x bc bs post postX := by
  obtain ⟨t, hV⟩ := Vx h
  have h0 := hv.1
  have hp := prs36 (v 0) (by omega)
  unfold f_X7_bondAt
  unfold oBat at next
  rw [G_0 h, O_0 h, e_bondBy hV hv]
  by_cases hx : 0 ≤ x
  · rw [if_pos hx] at next
    obtain ⟨c, hc, rfl⟩ := nI_of (Int32.not_lt.mpr hx)
    rw [ix_nI hc] at next
    rw [kp_lk hc (prs (v 0) (v 0)) 0 (Nat.zero_le _) (by omega), Nat.sub_zero, show (List.filter (bnd v) (prs (v 0) (v 0)))[c]? = (bl v)[c]? from rfl]
    cases e : (bl v)[c]? with
    | none =>
      rw [e] at next
      dsimp only
      rw [if_neg (by decide)]
      exact ⟨h1, h2, next⟩
    | some q =>
      rw [e] at next
      have hmem := List.mem_filter.mp (List.mem_of_getElem? e)
      have hq := prs_mem (Nat.le_refl _) q hmem.1
      dsimp only
      rw [if_pos (nI_pos' (by omega))]
      exact next
  · rw [if_neg hx] at next
    rw [kp_no (Int32.not_le.mp hx) (prs (v 0) (v 0)) 0 (by omega), if_neg (by decide)]
    exact ⟨h1, h2, next⟩
theorem hvF_or (v : Vt) : hvF v = -1 ∨ ∃ p q : Nat, p < 9 ∧ q < 9 ∧ hvF v = nI (10 * p + q) := by
  unfold hvF
  rcases ((prs (v 0) (v 0)).foldl (fun s q => hvS v q.1 q.2 s) (hv0 v)).2 with ⟨e, -⟩ | ⟨p, q, e1, e2, e3, -⟩
  · exact Or.inl e
  · exact Or.inr ⟨p, q, e1, e2, e3⟩
theorem x_heaviest (h : CI S ow A v hs sv r tx fa ln) (hv : okV v) (h1 : 1 ≤ bc) (h2 : 6 ≤ bs) (next : rs (eE "java/util/NoSuchElementException" "") (oHvy v) post postX S) : f_X7_heaviest S (A 12) bc bs post postX := by
  obtain ⟨t, hV⟩ := Vx h
  unfold f_X7_heaviest
  unfold oHvy at next
  rw [G_0 h, O_0 h, e_heaviest hV hv]
  rcases hvF_or v with e | ⟨p, q, e1, e2, e3⟩
  · rw [if_pos e] at next
    rw [e, if_neg (by decide)]
    exact ⟨h1, h2, next⟩
  · have hne : ¬ hvF v = -1 := fun z => by
      rw [e3] at z
      exact absurd (show nI (10 * p + q) < 0 by rw [z]; decide) (nI_pos (by omega))
    rw [if_neg hne] at next
    rw [e3] at next ⊢
    rw [if_pos (nI_pos' (by omega))]
    exact next
theorem x_phases (h : CI S ow A v hs sv r tx fa ln) (hv : okV v) (next : post (nI (v 0 - 1)) S) : f_X7_phases S (A 12) post := by
  obtain ⟨t, hV⟩ := Vx h
  unfold f_X7_phases
  rw [G_0 h, O_0 h, e_phaseCount hV hv]; exact next
theorem ws_tT {v : Vt} : ws v = tT v (ev v) (ev v) / 2 := by unfold ws; rw [tT_ev]
theorem pc_sds {v : Vt} (hv : okV v) : pc (sds v) 9 = sm (fun k => v (4 + k)) (v 0) := by
  have h0 := hv.1
  rw [← sm_cut (f := fun k => v (4 + k)) (n := v 0) (m := 9) h0 (fun k h1 h2 => hv.2.2.1 k h2 h1)]
  refine sm_ext (fun k hk => ?_)
  have hb := hv.2.1 k hk
  rw [sds_t hv.2.1 hk]
  by_cases e : v (4 + k) = 1
  · rw [if_pos (decide_eq_true e), e]
  · rw [if_neg (fun z => e (of_decide_eq_true z))]; omega
theorem x_account {x : Int32} (h : CI S ow A v hs sv r tx fa ln) (hv : okV v) (h1 : 1 ≤ bc) (h2 : 6 ≤ bs) (next : rs (eE "java/lang/IllegalArgumentException" "") (oAcc v tx.length hs.length x) post postX S) : f_X7_account S (A 12) x bc bs post postX := by
  obtain ⟨t, hV⟩ := Vx h
  have h0 := hv.1
  unfold f_X7_account
  unfold oAcc at next
  by_cases q0 : x = 0
  · rw [if_pos q0] at next ⊢
    rw [G_0 h, V1 hV]; exact next
  rw [if_neg q0] at next ⊢
  by_cases q1 : x = 1
  · rw [if_pos q1] at next ⊢
    rw [G_0 h, O_0 h, e_bondCount hV hv]; exact next
  rw [if_neg q1] at next ⊢
  by_cases q2 : x = 2
  · rw [if_pos q2] at next ⊢
    rw [G_0 h, O_0 h, e_weightSum hV hv]; exact next
  rw [if_neg q2] at next ⊢
  by_cases q3 : x = 3
  · rw [if_pos q3] at next ⊢
    rw [G_0 h, V2 hV, bcnt (sds v) (by have := sds_lt hv; omega), pc_sds hv]; exact next
  rw [if_neg q3] at next ⊢
  by_cases q4 : x = 4
  · rw [if_pos q4] at next ⊢
    rw [G_0 h, O_0 h, e_across hV hv]; exact next
  rw [if_neg q4] at next ⊢
  by_cases q5 : x = 5
  · rw [if_pos q5] at next ⊢
    rw [G_0 h, V3 hV]; exact next
  rw [if_neg q5] at next ⊢
  by_cases q6 : x = 6
  · rw [if_pos q6] at next ⊢
    rw [G_0 h, V4 hV]; exact next
  rw [if_neg q6] at next ⊢
  by_cases q7 : x = 7
  · rw [if_pos q7] at next ⊢
    rw [G_0 h, V5 hV]; exact next
  rw [if_neg q7] at next ⊢
  by_cases q8 : x = 8
  · rw [if_pos q8] at next ⊢
    rw [G_0 h, O_0 h, e_lonely hV hv]; exact next
  rw [if_neg q8] at next ⊢
  by_cases q9 : x = 9
  · rw [if_pos q9] at next ⊢
    rw [G_7 h, O_7 h, p7_len (CI_7 h)]; exact next
  rw [if_neg q9] at next ⊢
  by_cases q10 : x = 10
  · rw [if_pos q10] at next ⊢
    obtain ⟨ra, nx, f, p1, p2, p3, p4, p5, -⟩ := h.2.2.2.2.1
    rw [G_3 h, O_3 h]
    unfold f_X2_count
    rw [gI_eq p1 p5 rfl]; exact next
  rw [if_neg q10] at next ⊢
  exact ⟨h1, h2, next⟩
/-- a change of its own, or why not -/
theorem x_change {o : Nat} {x y w : Int32} (h : CI S ow A v hs sv r tx fa ln) (hv : okV v) (ht : tot v + 3000 < 10000000) (ho : o ≤ 6) (h1 : 2 ≤ bc) (h2 : 87 ≤ bs) (no : ∀ q, refR v o x y w = some q → ∀ S1, CI S1 ow A v hs sv (rK q.1 q.2) tx fa ln → keeps CC S ow S1 ow → postX "java/lang/UnsupportedOperationException" S1) (next : refR v o x y w = none → ∀ S1 ow1, CI S1 ow1 A (doV v o x y w) ((v :: hs).take 8) sv r tx fa ln → keeps CC S ow S1 ow1 → post (nI (doA v o x y w)) S1) : isO S (A 12) 11 (f_X7_refuses S (A 12) (nI o) x y w fun v2 S1 => if v2 = 0 then isO S1 (A 12) 11 (∃ mc5 ms5 : Nat, mc5 ≤ bc ∧ ms5 ≤ bs ∧ (f_X7_changed S1 (A 12) (nI o) x y w mc5 ms5 fun v6 S4 => post v6 S4)) else tX S1 "java/lang/UnsupportedOperationException" bc bs postX) := by
  rw [G_O h]
  refine x_refuses h hv o x y w ho (fun hn => ?_) (fun q hq S1 h3 k3 => ?_)
  · obtain ⟨a, b⟩ := doV_ok hv o x y w hn
    rw [if_pos rfl, G_O h]
    refine ⟨2, 87, h1, h2, ?_⟩
    exact x_changed h hv ho hn (okV_of a (by omega)) (Nat.le_refl _) (Nat.le_refl _) (next hn)
  · rw [if_neg (by decide)]
    exact ⟨by omega, by omega, no q hq S1 h3 (k3.mono (by decide))⟩
end XRD

