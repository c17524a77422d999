theorem tw_o : Cond.code Lib.objectInit ⟨#[0xb1]⟩ 1 none ∈ wG := wQ_1 36 (by decide +kernel) rfl
def aR (S : PS) (a : Nat) (i : Int32) (kk : Nat → Prop) : Prop := a ∈ S.1 ∧ ∃ (n : Nat) (f : Nat → Option Nat) (b : Nat), S.2 a = .inl (3, n, .inr (.inr (.inr (.inr f)))) ∧ vp_in i n ∧ f i.toNatClampNeg = some b ∧ kk b
section P6
variable {p : Program} {l : Launch} {e : Env} {R : Room} {s : State} {m : MethodId} {args : Array Value} {below : List Frame} {meth : Method} {c : Code} {H : Heap} {locs : List Loc} {cells slots : Nat} {Q : State → Prop}
variable {cc : ByteArray} {pc nL : Nat} {ls : Array Slot} {rest : List Value} {D : va_G} {cy : Nat → ClassId} {G : p_GT} {A : Nat → Prop} {S : PS} {own : String} {a : Nat}
theorem q_aaldR {i : Int32} (X : p_X p m c cc nL s args own D cy G A) (hH : p_H D cy S A s H locs) {kk : Nat → Prop} (hf : aR S a i kk) (hdg : decode cc pc = .ok (.aaload, 1))
    (next : ∀ v : Nat, kk v → W p l e R s m args below meth c H locs cells slots Q (F0 m (pc + 1) ls (.ref v :: rest))) : W p l e R s m args below meth c H locs cells slots Q (F0 m pc ls (.int i :: .ref a :: rest)) := by
  obtain ⟨hL, n, f, b, he, hin, hb, hk⟩ := hf
  refine q_aald X hH (kk := fun v => v = some b) ⟨hL, n, f, he, hin, hb⟩ hdg (fun v hv => ?_)
  subst hv
  exact next b hk
end P6
