/-! the input and its orders carried out, by the reference -/
section MRN
variable {S0 S : PS} {B : Nat → Nat} {F : Nat → Int32} {h : Nat → Nat → Int32} {v : Vt} {hs : List Vt} {sv : Option Vt} {r : Nat → Int32} {tx : List Nat} {fa : Int32} {ln : List Nat}
theorem mX_tO (m : mX F h hs sv r tx fa ln) (h60 : tx.length ≤ 60) (hb : ∀ (i x : Nat), tx[i]? = some x → x < 128) : tO F h tx := ⟨m.2.2.2.1.1, h60, fun i c hc => ⟨m.2.2.2.1.2 i c hc, hb i c hc⟩⟩
theorem ag_m {os : List Od} {i j : Nat} {o : Od} (hos : osM h os) (ho : os[i]? = some o) (hok : orOk o) (hj : j + 1 ≤ cnt o.1) : h 8 (4 * i + 1 + j) = ag o j := ag_of (g := fun j => h 8 (4 * i + 1 + j)) hok (hos i o ho).2 hj
def rG (F : Nat → Int32) (y : Int32) : Nat → Int32 := Fu (Fu (Fu (Fu F 7 (F 5)) 8 (F 6)) 5 8) 6 y
theorem mX_rG {y : Int32} (m : mX F h hs sv r tx fa ln) : mX (rG F y) h hs sv (rB r 8 y) tx fa ln := by
  obtain ⟨a, b, ⟨c1, c2, c3, c4⟩, d, f, g⟩ := m
  exact ⟨a, b, ⟨rfl, rfl, c1, fun _ => c2⟩, d, f, g⟩
end MRN

