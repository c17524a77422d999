/-! the claim about the pool, closed *from an empty pool* -/
theorem CI_ext {S : PS} {ow : Ow} {A A' : Nat → Nat} {v : Vt} {hs : List Vt} {sv : Option Vt} {r : Nat → Int32} {tx : List Nat} {fa : Int32} {ln : List Nat} (hA : ∀ k, k ≤ 12 → A' k = A k) (h : CI S ow A v hs sv r tx fa ln) : CI S ow A' v hs sv r tx fa ln := by
  unfold CI P12
  rw [hA 0 (by omega), hA 1 (by omega), hA 2 (by omega), hA 3 (by omega), hA 4 (by omega), hA 5 (by omega), hA 6 (by omega), hA 7 (by omega), hA 8 (by omega), hA 9 (by omega), hA 10 (by omega), hA 12 (by omega)]
  exact h
def lwA (A : Nat → Nat) (q13 q14 q15 : Nat) : Nat → Nat := fun k => if k = 13 then q13 else if k = 14 then q14 else if k = 15 then q15 else A k
theorem pure_law (adK : Nat → Nat) (L : Nat) (xs : Nat → Int32) (hL : L ≤ 2048) : f_L_law adK L xs S_0 603072 7202922 := by
  have hcl : (1 : Int32).toNatClampNeg = 1 := nI_clamp (n := 1) (by omega)
  unfold f_L_law
  refine ⟨by omega, by omega, fun q hq => ?_⟩
  obtain ⟨S2, e2⟩ : ∃ S2, S2 = p_add S_0 q (.inr (11, [.null, .null, .null, .null, .null, .null, .null, .null, .null, .null, .null, .null])) := ⟨_, rfl⟩
  rw [← e2]
  refine ⟨40, 3000, by omega, by omega, ?_⟩
  refine i_class (ow := un (fun _ => 0) q 12) (by rw [e2]; exact add_mem) un_at (by rw [e2]; exact add_at) (by omega) (by omega) (fun S5 w5 A hA k5 c5 => ?_)
  refine ⟨by omega, by omega, fun q8 hq8 => ?_⟩
  obtain ⟨S9, e9⟩ : ∃ S9, S9 = p_add S5 q8 (.inr (12, [.int 0, .null, .int 0, .int 0, .int 0, .int 0, .int 0, .int 0, .int 0, .null, .null, .null, .null, .int 0, .int 0, .null, .null, .int 0, .int 0, .int 0, .int 0, .null, .int 0, .null, .int 0])) := ⟨_, rfl⟩
  rw [← e9]
  have k9 : keeps [] S5 w5 S9 (un w5 q8 15) := by rw [e9]; exact keeps_add hq8
  refine ⟨9, 2121, by omega, by omega, ?_⟩
  refine i_model (ow := un w5 q8 15) ⟨by rw [e9]; exact add_mem, un_at, by rw [e9]; exact add_at, by simp, fun p hp => by cases hp⟩ (by omega) (by omega) (fun S12 w12 B k12 hB0 hPo => ?_)
  refine ⟨by decide, by rw [hcl]; omega, by omega, by rw [hcl]; omega, fun q15 hq15 => ?_⟩
  rw [hcl]
  obtain ⟨S16, e16⟩ : ∃ S16, S16 = p_add S12 q15 (.inl (4, 1, .inr (.inl (fun _ => 0)))) := ⟨_, rfl⟩
  rw [← e16]
  have k16 : keeps [] S12 w12 S16 (un w12 q15 13) := by rw [e16]; exact keeps_add hq15
  have o16 : q15 ∈ S16.1 ∧ un w12 q15 13 q15 = 13 ∧ S16.2 q15 = .inl (4, 1, .inr (.inl (fun _ => 0))) := ⟨by rw [e16]; exact add_mem, un_at, by rw [e16]; exact add_at⟩
  refine ⟨by decide, by rw [hcl]; omega, by omega, by rw [hcl]; omega, fun q19 hq19 => ?_⟩
  rw [hcl]
  obtain ⟨S20, e20⟩ : ∃ S20, S20 = p_add S16 q19 (.inl (5, 1, .inr (.inr (.inr (.inl (fun _ => 0)))))) := ⟨_, rfl⟩
  rw [← e20]
  have k20 : keeps [] S16 (un w12 q15 13) S20 (un (un w12 q15 13) q19 14) := by rw [e20]; exact keeps_add hq19
  have o20 : q19 ∈ S20.1 ∧ un (un w12 q15 13) q19 14 q19 = 14 ∧ S20.2 q19 = .inl (5, 1, .inr (.inr (.inr (.inl (fun _ => 0))))) := ⟨by rw [e20]; exact add_mem, un_at, by rw [e20]; exact add_at⟩
  have kM : keeps [] S12 w12 S20 (un (un w12 q15 13) q19 14) := k16.trans k20
  have kC : keeps [15] S5 w5 S20 (un (un w12 q15 13) q19 14) := ((keeps_nil k9).trans k12).trans (keeps_nil kM)
  obtain ⟨z1, z2, z3⟩ := k20 q15 o16.1
  have hI : LIv S20 (un (un w12 q15 13) q19 14) (lwA A q15 q19 q8) v0F [] none (fun _ => 0) [] (-1) [] := by
    refine ⟨CI_ext (A := A) (fun k hk => ?_) (CI_fr c5 kC (CC_o (fun c hc => by simp at hc; omega))), ⟨B, _, _, hB0, Po_fr (by omega) hPo kM (by simp), fun k _ => rfl, mX_new⟩, ⟨fun _ => 0, z1, z2.trans o16.2.1, (z3 (by simp)).trans o16.2.2⟩, ⟨fun _ => 0, o20⟩⟩
    unfold lwA
    rw [if_neg (by omega), if_neg (by omega), if_neg (by omega)]
  have hB : LB 0 v0F [] none [] [] := ⟨⟨okV_0, by decide⟩, fun w hw => (by cases hw), fun w hw => (by cases hw), Nat.zero_le _, Nat.zero_le _⟩
  have h := law_loop (adK := adK) (xs := xs) hL 4096 0 S20 _ v0F [] none _ [] (-1) [] (603072 - 1 - 40 - 1 - 9 - 1 - 1) (7202922 - 12 - 3000 - 25 - 2121 - 1 - 1) hI hB (by omega) (by omega) (by omega) (by omega)
  have e12 : lwA A q15 q19 q8 12 = q := hA
  rw [e12, show lwA A q15 q19 q8 13 = q15 from rfl, show lwA A q15 q19 q8 14 = q19 from rfl, show lwA A q15 q19 q8 15 = q8 from rfl, show nI (4 * 0) = 0 from rfl] at h
  exact h
