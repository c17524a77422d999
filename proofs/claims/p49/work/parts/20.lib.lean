/-! THE PURE LEVEL. numbers, bits, sums, loops -/
theorem lp_eq {L : Nat → Nat → Prop} {P : Prop} {n : Nat} (hs : ∀ fuel i, i < n → L (fuel + 1) i = L fuel (i + 1)) (he : ∀ fuel, L (fuel + 1) n = P) : ∀ (i fuel : Nat), i ≤ n → n - i < fuel → L fuel i = P := by
  intro i fuel hi hf
  obtain ⟨d, hd⟩ : ∃ d, d = n - i := ⟨_, rfl⟩
  induction d generalizing i fuel with
  | zero =>
    obtain ⟨f, rfl⟩ : ∃ f, fuel = f + 1 := ⟨fuel - 1, by omega⟩
    rw [show i = n by omega]
    exact he f
  | succ d ih =>
    obtain ⟨f, rfl⟩ : ∃ f, fuel = f + 1 := ⟨fuel - 1, by omega⟩
    rw [hs f i (by omega)]
    exact ih (i + 1) f (by omega) (by omega) (by omega)
theorem lp_im {L : Nat → Nat → Prop} {n : Nat} (hs : ∀ fuel i, i < n → L fuel (i + 1) → L (fuel + 1) i) (he : ∀ fuel, L (fuel + 1) n) : ∀ (i fuel : Nat), i ≤ n → n - i < fuel → L fuel i := by
  intro i fuel hi hf
  obtain ⟨d, hd⟩ : ∃ d, d = n - i := ⟨_, rfl⟩
  induction d generalizing i fuel with
  | zero =>
    obtain ⟨f, rfl⟩ : ∃ f, fuel = f + 1 := ⟨fuel - 1, by omega⟩
    rw [show i = n by omega]
    exact he f
  | succ d ih =>
    obtain ⟨f, rfl⟩ : ∃ f, fuel = f + 1 := ⟨fuel - 1, by omega⟩
    exact hs f i (by omega) (ih (i + 1) f (by omega) (by omega) (by omega))
def sm (f : Nat → Nat) : Nat → Nat
  | 0 => 0
  | n + 1 => sm f n + f n
theorem sm_ext {f g : Nat → Nat} : ∀ {n : Nat}, (∀ k, k < n → f k = g k) → sm f n = sm g n
  | 0, _ => rfl
  | n + 1, h => by rw [sm, sm, sm_ext (fun k hk => h k (by omega)), h n (by omega)]
theorem sm_add (f g : Nat → Nat) : ∀ n : Nat, sm (fun k => f k + g k) n = sm f n + sm g n
  | 0 => rfl
  | n + 1 => by simp only [sm, sm_add f g n]; omega
theorem sm_zero {f : Nat → Nat} : ∀ {n : Nat}, (∀ k, k < n → f k = 0) → sm f n = 0
  | 0, _ => rfl
  | n + 1, h => by rw [sm, sm_zero (fun k hk => h k (by omega)), h n (by omega)]
theorem sm_le {f g : Nat → Nat} : ∀ {n : Nat}, (∀ k, k < n → f k ≤ g k) → sm f n ≤ sm g n
  | 0, _ => Nat.le_refl _
  | n + 1, h => by
    have h1 := sm_le (n := n) (fun k hk => h k (by omega))
    have h2 := h n (by omega)
    simp only [sm]; omega
theorem sm_one {f : Nat → Nat} {i : Nat} : ∀ {n : Nat}, i < n → f i ≤ sm f n
  | n + 1, h => by
    rw [sm]
    by_cases hi : i = n
    · subst hi; omega
    · have := sm_one (f := f) (n := n) (i := i) (by omega); omega
theorem sm_swap (f : Nat → Nat → Nat) (m : Nat) : ∀ n : Nat, sm (fun i => sm (fun j => f i j) m) n = sm (fun j => sm (fun i => f i j) n) m
  | 0 => (sm_zero (fun _ _ => rfl)).symm
  | n + 1 => by
    rw [sm, sm_swap f m n, ← sm_add]
    exact sm_ext (fun k _ => rfl)
theorem sm_cut {f : Nat → Nat} {n : Nat} : ∀ {m : Nat}, n ≤ m → (∀ k, n ≤ k → k < m → f k = 0) → sm f m = sm f n
  | 0, h, _ => by rw [show n = 0 by omega]
  | m + 1, h, h0 => by
    by_cases hm : n = m + 1
    · rw [hm]
    · rw [sm, sm_cut (m := m) (by omega) (fun k a b => h0 k a (by omega)), h0 m (by omega) (by omega)]; omega
theorem sm_mul (c : Nat) (f : Nat → Nat) : ∀ n : Nat, sm (fun k => c * f k) n = c * sm f n
  | 0 => rfl
  | n + 1 => by rw [sm, sm, sm_mul c f n, Nat.mul_add]
/-- bits -/
theorem b_smod : ∀ k, k < 31 → ((nI k &&& 31).toBitVec.smod 32).toNat = k := by decide
theorem b_bit : ∀ k, k < 31 → (1 : Int32) <<< (nI k &&& 31) = nI (2 ^ k) := by decide
theorem b_all : ∀ n, n < 31 → ((1 : Int32) <<< (nI n &&& 31)) - 1 = nI (2 ^ n - 1) := by decide
theorem b_shr {s k : Nat} (hs : s < 2 ^ 31) (hk : k < 31) : nI s >>> (nI k &&& 31) = nI (s / 2 ^ k) := pk_shrN hs _ k (b_smod k hk)
theorem b_in {s k : Nat} (hs : s < 2 ^ 31) (hk : k < 31) : (((nI s >>> (nI k &&& 31)) &&& 1) = 1) = (s.testBit k = true) := by
  rw [b_shr hs hk, pk_andN (k := 1) (by have := Nat.div_le_self s (2 ^ k); omega) (by decide), show (1 : Int32) = nI 1 from rfl, nI_eq (by omega) (by omega), Nat.testBit_eq_decide_div_mod_eq]
  simp
theorem b_and (a b : Nat) : nI a &&& nI b = nI (a &&& b) := by
  apply Int32.toBitVec_inj.mp
  apply BitVec.eq_of_getLsbD_eq
  intro i hi
  simp [nI, BitVec.getLsbD_ofNat, Nat.testBit_and, hi]
theorem b_or (a b : Nat) : nI a ||| nI b = nI (a ||| b) := by
  apply Int32.toBitVec_inj.mp
  apply BitVec.eq_of_getLsbD_eq
  intro i hi
  simp [nI, BitVec.getLsbD_ofNat, Nat.testBit_or, hi]
theorem b_xor (a b : Nat) : nI a ^^^ nI b = nI (a ^^^ b) := by
  apply Int32.toBitVec_inj.mp
  apply BitVec.eq_of_getLsbD_eq
  intro i hi
  simp [nI, BitVec.getLsbD_ofNat, Nat.testBit_xor, hi]
/-- the households of one set that aren't in another -/
def bn (a b : Nat) : Nat := a &&& (a ^^^ b)
theorem bn_tb (a b k : Nat) : (bn a b).testBit k = (a.testBit k && !b.testBit k) := by
  unfold bn
  rw [Nat.testBit_and, Nat.testBit_xor]
  cases a.testBit k <;> cases b.testBit k <;> rfl
theorem b_bn (a b : Nat) : nI a &&& (nI b ^^^ (-1)) = nI (bn a b) := by
  apply Int32.toBitVec_inj.mp
  apply BitVec.eq_of_getLsbD_eq
  intro i hi
  have h1 : ((-1 : Int32).toBitVec).getLsbD i = true := by
    rw [show (-1 : Int32).toBitVec = BitVec.allOnes 32 from rfl, BitVec.getLsbD_allOnes]; simp [hi]
  simp only [Int32.toBitVec_and, Int32.toBitVec_xor, BitVec.getLsbD_and, BitVec.getLsbD_xor, h1]
  simp only [nI, Int32.toBitVec_ofNat', BitVec.getLsbD_ofNat, bn_tb, hi, decide_true, Bool.true_and]
  cases a.testBit i <;> cases b.testBit i <;> rfl
theorem b_lt_of {s n : Nat} (h : ∀ k, n ≤ k → s.testBit k = false) : s < 2 ^ n := Nat.lt_pow_two_of_testBit s h
theorem b_hi {s n k : Nat} (h : s < 2 ^ n) (hk : n ≤ k) : s.testBit k = false := Nat.testBit_lt_two_pow (Nat.lt_of_lt_of_le h (Nat.pow_le_pow_right (by omega) hk))
theorem bn_lt {a b n : Nat} (h : a < 2 ^ n) : bn a b < 2 ^ n := b_lt_of (fun k hk => by rw [bn_tb, b_hi h hk]; rfl)
theorem b_allt (n k : Nat) : (2 ^ n - 1).testBit k = decide (k < n) := Nat.testBit_two_pow_sub_one n k
/-- a mask out of numbers 0 and 1 -/
def mk9 (f : Nat → Nat) : Nat → Nat := sm (fun k => f k * 2 ^ k)
theorem mk9_lt {f : Nat → Nat} : ∀ {n : Nat}, (∀ k, k < n → f k ≤ 1) → mk9 f n < 2 ^ n
  | 0, _ => Nat.zero_lt_one
  | n + 1, h => by
    have h1 := mk9_lt (n := n) (fun k hk => h k (by omega))
    have h2 : f n * 2 ^ n ≤ 1 * 2 ^ n := Nat.mul_le_mul_right _ (h n (by omega))
    have h3 : 2 ^ (n + 1) = 2 ^ n + 2 ^ n := by rw [Nat.pow_succ]; omega
    show mk9 f n + f n * 2 ^ n < _
    omega
theorem mk9_tb {f : Nat → Nat} : ∀ {n : Nat}, (∀ k, k < n → f k ≤ 1) → ∀ k, (mk9 f n).testBit k = (decide (k < n) && decide (f k = 1))
  | 0, _, k => by simp [mk9, sm]
  | n + 1, h, k => by
    have h1 := mk9_lt (n := n) (fun k hk => h k (by omega))
    have h2 := mk9_tb (n := n) (fun k hk => h k (by omega)) k
    have e : mk9 f (n + 1) = 2 ^ n * f n + mk9 f n := by
      show mk9 f n + f n * 2 ^ n = _
      rw [Nat.mul_comm]; omega
    rw [e, Nat.testBit_two_pow_mul_add _ h1]
    by_cases hk : k < n
    · rw [if_pos hk, h2]; simp [hk, show k < n + 1 by omega]
    · rw [if_neg hk]
      have h3 := h n (by omega)
      by_cases hkn : k = n
      · subst hkn
        have : f k = 0 ∨ f k = 1 := by omega
        rcases this with h4 | h4 <;> simp [h4]
      · have : f n = 0 ∨ f n = 1 := by omega
        rw [show k - n = (k - n - 1) + 1 by omega, Nat.testBit_succ]
        rcases this with h4 | h4 <;> simp [h4, show ¬ k < n + 1 by omega]
theorem b_ext {s t : Nat} (n : Nat) (hs : s < 2 ^ n) (ht : t < 2 ^ n) (h : ∀ k, k < n → s.testBit k = t.testBit k) : s = t :=
  Nat.eq_of_testBit_eq (fun k => by
    by_cases hk : k < n
    · exact h k hk
    · rw [b_hi hs (by omega), b_hi ht (by omega)])
/-- what an instruction asks of the pool, where the cell is known -/
theorem gI_eq {S : PS} {a ci k : Nat} {fs : List Value} {x : Int32} {kk : Int32 → Prop} (ha : a ∈ S.1) (he : S.2 a = .inr (ci, fs)) (hk : fs[k]? = some (.int x)) : gI S a ci k kk = kk x := by
  apply propext
  constructor
  · rintro ⟨-, fs', w, e1, e2, h⟩
    rw [he] at e1; cases e1; rw [hk] at e2; cases e2; exact h
  · exact fun h => ⟨ha, fs, x, he, hk, h⟩
theorem gR_eq {S : PS} {a ci k : Nat} {fs : List Value} {x : Nat} {kk : Nat → Prop} (ha : a ∈ S.1) (he : S.2 a = .inr (ci, fs)) (hk : fs[k]? = some (.ref x)) : gR S a ci k kk = kk x := by
  apply propext
  constructor
  · rintro ⟨-, fs', w, e1, e2, h⟩
    rw [he] at e1; cases e1; rw [hk] at e2; cases e2; exact h
  · exact fun h => ⟨ha, fs, x, he, hk, h⟩
theorem aI_eq {S : PS} {a t n : Nat} {f : Nat → Int32} {i : Int32} {kk : Int32 → Prop} (ha : a ∈ S.1) (he : S.2 a = .inl (t, n, .inl f)) (hi : vp_in i n) : aI S a t i kk = kk (f i.toNatClampNeg) := by
  apply propext
  constructor
  · rintro ⟨-, n', f', e1, -, h⟩
    rw [he] at e1; cases e1; exact h
  · exact fun h => ⟨ha, n, f, he, hi, h⟩
theorem aI_nI {S : PS} {a t n j : Nat} {f : Nat → Int32} {kk : Int32 → Prop} (ha : a ∈ S.1) (he : S.2 a = .inl (t, n, .inl f)) (hj : j < n) (hn : n < 2 ^ 31) : aI S a t (nI j) kk = kk (f j) := by
  rw [aI_eq ha he (vp_in_nI hj hn), nI_clamp (by omega)]
theorem sI_eq {S : PS} {a t n : Nat} {f : Nat → Int32} {i x : Int32} {kk : PS → Prop} (ha : a ∈ S.1) (he : S.2 a = .inl (t, n, .inl f)) (hi : vp_in i n) : sI S a t i x kk = kk (p_set S a (.inl (t, n, .inl (upd f i.toNatClampNeg x)))) := by
  apply propext
  constructor
  · rintro ⟨-, n', f', e1, -, h⟩
    rw [he] at e1; cases e1; exact h
  · exact fun h => ⟨ha, n, f, he, hi, h⟩
theorem sI_nI {S : PS} {a t n j : Nat} {f : Nat → Int32} {x : Int32} {kk : PS → Prop} (ha : a ∈ S.1) (he : S.2 a = .inl (t, n, .inl f)) (hj : j < n) (hn : n < 2 ^ 31) : sI S a t (nI j) x kk = kk (p_set S a (.inl (t, n, .inl (upd f j x)))) := by
  rw [sI_eq ha he (vp_in_nI hj hn), nI_clamp (by omega)]
theorem pV_eq {S : PS} {a ci k : Nat} {fs : List Value} {v : Value} {kk : PS → Prop} (ha : a ∈ S.1) (he : S.2 a = .inr (ci, fs)) (hk : k < fs.length) : pV S a ci k v kk = kk (p_set S a (.inr (ci, fs.set k v))) := by
  apply propext
  constructor
  · rintro ⟨-, fs', e1, -, h⟩
    rw [he] at e1; cases e1; exact h
  · exact fun h => ⟨ha, fs, he, hk, h⟩
theorem isO_eq {S : PS} {a ci : Nat} {fs : List Value} {P : Prop} (ha : a ∈ S.1) (he : S.2 a = .inr (ci, fs)) : isO S a ci P = P := propext ⟨fun h => h.2.2, fun h => ⟨ha, ⟨fs, he⟩, h⟩⟩
theorem nZ0 {P : Prop} : nZ .boolean 0 P = P := propext ⟨fun h => h.2, fun h => ⟨rfl, h⟩⟩
theorem nZ1 {P : Prop} : nZ .boolean 1 P = P := propext ⟨fun h => h.2, fun h => ⟨rfl, h⟩⟩
theorem lE_eq {S : PS} {a t n : Nat} {f : Nat → Int32} {kk : Int32 → Prop} (ha : a ∈ S.1) (he : S.2 a = .inl (t, n, .inl f)) (ht : t < 3) : lE S a kk = kk (nI n) := by
  apply propext
  constructor
  · rintro ⟨-, t', n', f', -, e1, h⟩
    rw [he] at e1; cases e1; exact h
  · exact fun h => ⟨ha, t, n, f, ht, he, h⟩
theorem c2 : (¬ (2 : Int32) = 0) = True := by decide
theorem c10 : (¬ (10 : Int32) = 0) = True := by decide
theorem n0 : (0 : Int32) = nI 0 := rfl
theorem n1 : (1 : Int32) = nI 1 := rfl
theorem n2 : (2 : Int32) = nI 2 := rfl
theorem n9 : (9 : Int32) = nI 9 := rfl
theorem n10 : (10 : Int32) = nI 10 := rfl
/-- a loop that begins at m -/
theorem lp_eqm {L : Nat → Nat → Prop} {P : Prop} {m n : Nat} (hs : ∀ fuel i, m ≤ i → i < n → L (fuel + 1) i = L fuel (i + 1)) (he : ∀ fuel, L (fuel + 1) n = P) : ∀ (i fuel : Nat), m ≤ i → i ≤ n → n - i < fuel → L fuel i = P := by
  intro i fuel hm hi hf
  obtain ⟨d, hd⟩ : ∃ d, d = n - i := ⟨_, rfl⟩
  induction d generalizing i fuel with
  | zero =>
    obtain ⟨f, rfl⟩ : ∃ f, fuel = f + 1 := ⟨fuel - 1, by omega⟩
    rw [show i = n by omega]
    exact he f
  | succ d ih =>
    obtain ⟨f, rfl⟩ : ∃ f, fuel = f + 1 := ⟨fuel - 1, by omega⟩
    rw [hs f i hm (by omega)]
    exact ih (i + 1) f (by omega) (by omega) (by omega) (by omega)
def pr (n : Nat) (g : Nat → Nat → Nat) : Nat := sm (fun i => sm (fun j => if i < j then g i j else 0) n) n
/-- two loops over all pairs, a sum -/
theorem lp_pair {Lo : Nat → Nat → Nat → Prop} {Li : Nat → Nat → Nat → Nat → Nat → Prop} {g : Nat → Nat → Nat} {n : Nat} {P : Nat → Prop} (hn : n < 4000)
    (ho : ∀ fuel c i, i < n → Lo (fuel + 1) c i = Li fuel 4096 c i (i + 1))
    (hi : ∀ fuel fu c i j, i < j → j < n → Li fuel (fu + 1) c i j = Li fuel fu (c + g i j) i (j + 1))
    (hx : ∀ fuel fu c i, i < n → Li fuel (fu + 1) c i n = Lo fuel c (i + 1))
    (he : ∀ fuel c, Lo (fuel + 1) c n = P c) : Lo 4096 0 0 = P (pr n g) := by
  refine lp_eq (L := fun fuel i => Lo fuel (sm (fun i => sm (fun j => if i < j then g i j else 0) n) i) i) (n := n) (fun fuel i hin => ?_) (fun fuel => he _ _) 0 4096 (by omega) (by omega)
  show Lo (fuel + 1) _ i = Lo fuel _ (i + 1)
  rw [ho _ _ _ hin, sm]
  generalize sm (fun i => sm (fun j => if i < j then g i j else 0) n) i = c
  have h := lp_eqm (L := fun fu j => Li fuel fu (c + sm (fun j => if i < j then g i j else 0) j) i j) (P := Lo fuel (c + sm (fun j => if i < j then g i j else 0) n) (i + 1)) (m := i + 1) (n := n) (fun fu j hj hjn => ?_) (fun fu => hx _ _ _ _ hin) (i + 1) 4096 (by omega) (by omega) (by omega)
  · rw [sm_zero (n := i + 1) (fun k hk => if_neg (show ¬ i < k by omega))] at h
    exact h
  · show Li fuel (fu + 1) _ i j = Li fuel fu _ i (j + 1)
    rw [hi _ _ _ _ _ (by omega) hjn, sm, if_pos (show i < j by omega), Nat.add_assoc]
def rowp (n i : Nat) : Nat → List (Nat × Nat)
  | 0 => []
  | d + 1 => (i, n - (d + 1)) :: rowp n i d
/-- all pairs of places below n, the first the lower one, in their order (from the d last rows on) -/
def prs (n : Nat) : Nat → List (Nat × Nat)
  | 0 => []
  | d + 1 => rowp n (n - (d + 1)) d ++ prs n d
def kp {σ : Type} (B : Nat → Nat → σ → (σ → Prop) → Prop) (P : σ → Prop) : List (Nat × Nat) → σ → Prop
  | [] => P
  | q :: l => fun s => B q.1 q.2 s (kp B P l)
theorem kp_app {σ : Type} {B : Nat → Nat → σ → (σ → Prop) → Prop} {P : σ → Prop} : ∀ {l k : List (Nat × Nat)}, kp B P (l ++ k) = kp B (kp B P k) l
  | [], _ => rfl
  | q :: l, k => by
    funext s
    show B q.1 q.2 s (kp B P (l ++ k)) = B q.1 q.2 s (kp B (kp B P k) l)
    rw [kp_app]
/-- two loops over all pairs, with any body -/
theorem lp_prs {σ : Type} {Lo : Nat → σ → Nat → Prop} {Li : Nat → Nat → σ → Nat → Nat → Prop} {B : Nat → Nat → σ → (σ → Prop) → Prop} {n : Nat} {P : σ → Prop} (hn : n < 4000)
    (ho : ∀ fuel s i, i < n → Lo (fuel + 1) s i = Li fuel 4096 s i (i + 1))
    (hi : ∀ fuel fu s i j, i < j → j < n → Li fuel (fu + 1) s i j = B i j s (fun s' => Li fuel fu s' i (j + 1)))
    (hx : ∀ fuel fu s i, i < n → Li fuel (fu + 1) s i n = Lo fuel s (i + 1))
    (he : ∀ fuel s, Lo (fuel + 1) s n = P s) (s : σ) : Lo 4096 s 0 = kp B P (prs n n) s := by
  have hin : ∀ (fuel i d fu : Nat) (s : σ), i < n → d ≤ n - (i + 1) → d < fu → Li fuel fu s i (n - d) = kp B (fun s => Lo fuel s (i + 1)) (rowp n i d) s := by
    intro fuel i d
    induction d with
    | zero =>
      intro fu s h1 h2 h3
      obtain ⟨f, rfl⟩ : ∃ f, fu = f + 1 := ⟨fu - 1, by omega⟩
      exact hx _ _ _ _ h1
    | succ d ih =>
      intro fu s h1 h2 h3
      obtain ⟨f, rfl⟩ : ∃ f, fu = f + 1 := ⟨fu - 1, by omega⟩
      rw [hi _ _ _ _ _ (by omega) (by omega)]
      show _ = B i (n - (d + 1)) s (kp B (fun s => Lo fuel s (i + 1)) (rowp n i d))
      congr 1
      funext s'
      have := ih f s' h1 (by omega) (by omega)
      rw [show n - d = n - (d + 1) + 1 by omega] at this
      exact this
  have hout : ∀ (d fuel : Nat) (s : σ), d ≤ n → d < fuel → Lo fuel s (n - d) = kp B P (prs n d) s := by
    intro d
    induction d with
    | zero =>
      intro fuel s h1 h2
      obtain ⟨f, rfl⟩ : ∃ f, fuel = f + 1 := ⟨fuel - 1, by omega⟩
      exact he _ _
    | succ d ih =>
      intro fuel s h1 h2
      obtain ⟨f, rfl⟩ : ∃ f, fuel = f + 1 := ⟨fuel - 1, by omega⟩
      rw [ho _ _ _ (by omega)]
      have h3 := hin f (n - (d + 1)) d 4096 s (by omega) (by omega) (by omega)
      rw [show n - d = n - (d + 1) + 1 by omega] at h3
      rw [h3]
      show _ = kp B P (rowp n (n - (d + 1)) d ++ prs n d) s
      rw [kp_app]
      congr 1
      funext s'
      have := ih f s' (by omega) (by omega)
      rw [show n - d = n - (d + 1) + 1 by omega] at this
      exact this
  have := hout n 4096 s (Nat.le_refl _) (by omega)
  rw [Nat.sub_self] at this
  exact this
theorem prs_mem {n d : Nat} (hd : d ≤ n) : ∀ q ∈ prs n d, q.1 < q.2 ∧ q.2 < n := by
  have hr : ∀ (i d : Nat), i + d < n → ∀ q ∈ rowp n i d, q.1 = i ∧ i < q.2 ∧ q.2 < n := by
    intro i d
    induction d with
    | zero => intro _ q hq; cases hq
    | succ d ih =>
      intro h q hq
      rcases List.mem_cons.mp hq with rfl | hq
      · exact ⟨rfl, by show i < n - (d + 1); omega, by show n - (d + 1) < n; omega⟩
      · exact ih (by omega) q hq
  induction d with
  | zero => intro q hq; cases hq
  | succ d ih =>
    intro q hq
    rcases List.mem_append.mp hq with hq | hq
    · obtain ⟨h1, h2, h3⟩ := hr _ _ (by omega) q hq
      omega
    · exact ih (by omega) q hq
theorem nIe0 {x : Nat} (h : x < 2 ^ 31) : (nI x = 0) = (x = 0) := by rw [n0, nI_eq h (by omega)]
theorem nIe1 {x : Nat} (h : x < 2 ^ 31) : (nI x = 1) = (x = 1) := by rw [n1, nI_eq h (by omega)]

