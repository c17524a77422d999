/-! what the reference answers -/
def mN (S0 : PS) (B : Nat → Nat) (v : Vt) (hs : List Vt) (sv : Option Vt) (r : Nat → Int32) (tx : List Nat) (fa : Int32) (ln : List Nat) (o : Nat × Int32) (post : Int32 → PS → Prop) : Prop := ∀ S1 F1 h1, RS S0 B F1 h1 S1 → F1 0 = nI o.1 → rowV h1 0 v → mX F1 h1 hs sv r tx fa ln → post o.2 S1
section MRD
variable {S0 S : PS} {B : Nat → Nat} {F : Nat → Int32} {h : Nat → Nat → Int32} {v : Vt} {hs : List Vt} {sv : Option Vt} {r : Nat → Int32} {tx : List Nat} {fa : Int32} {ln : List Nat} {post : Int32 → PS → Prop}
theorem mX_rst {h1 : Nat → Nat → Int32} (m : mX F h hs sv r tx fa ln) (t : rst h h1) : mX F h1 hs sv r tx fa ln := mX_ext m ⟨rfl, rfl, rfl, rfl, rfl, rfl, rfl, rfl, rfl⟩ (t.1 7 (by decide)) (t.1 9 (by decide)) (fun x h2 _ => t.2 x h2)
end MRD

