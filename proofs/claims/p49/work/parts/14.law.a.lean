def f_L_law_J1907 (adK : Nat → Nat) (L : Nat) (xs : Nat → Int32) (g15 : PS → Nat → Nat → Nat → Int32 → Prop) (S : PS) (bc bs : Nat) (l1 : Nat) (l2 : Int32) : Prop :=
  ∃ mc2 ms2 : Nat, mc2 ≤ bc ∧ ms2 ≤ bs ∧ (f_L_acts L xs S l1 ((60 : Int32) + ((4 : Int32) * l2)) mc2 ms2 fun S1 => (
  g15 S1 (bc - mc2) (bs - ms2) l1 (l2 + 1)))
def f_L_law_J1901 (adK : Nat → Nat) (L : Nat) (xs : Nat → Int32) (g1723 : PS → Nat → Nat → Nat → Int32 → Int32 → Int32 → Prop) (S : PS) (bc bs : Nat) (l1 : Nat) (l2 : Int32) (l4 : Int32) (l21 : Int32) : Prop :=
  g1723 S bc bs l1 l2 l4 (l21 + 1)
def f_L_law_J1895 (adK : Nat → Nat) (L : Nat) (xs : Nat → Int32) (g1748 : PS → Nat → Nat → Nat → Int32 → Int32 → Int32 → Int32 → Prop) (S : PS) (bc bs : Nat) (l1 : Nat) (l2 : Int32) (l4 : Int32) (l21 : Int32) (l22 : Int32) : Prop :=
  g1748 S bc bs l1 l2 l4 l21 (l22 + 1)
def f_L_law_J1874 (adK : Nat → Nat) (L : Nat) (xs : Nat → Int32) (g1748 : PS → Nat → Nat → Nat → Int32 → Int32 → Int32 → Int32 → Prop) (S : PS) (bc bs : Nat) (l1 : Nat) (l2 : Int32) (l4 : Int32) (l21 : Int32) (l22 : Int32) (l23 : Int32) (l24 : Int32) (t0 : Int32) : Prop :=
  if t0 < 0 then
    False
  else
    if t0 = 0 then
      if l23 ≤ l24 then
        f_L_law_J1895 adK L xs g1748 S bc bs l1 l2 l4 l21 l22
      else
        False
    else
      f_L_law_J1895 adK L xs g1748 S bc bs l1 l2 l4 l21 l22
def f_L_law_J1873 (adK : Nat → Nat) (L : Nat) (xs : Nat → Int32) (g1748 : PS → Nat → Nat → Nat → Int32 → Int32 → Int32 → Int32 → Prop) (S : PS) (bc bs : Nat) (l1 : Nat) (l2 : Int32) (l4 : Int32) (l21 : Int32) (l22 : Int32) (l23 : Int32) (l24 : Int32) (t0 : Int32) (t1 : Int32) : Prop :=
  f_L_law_J1874 adK L xs g1748 S bc bs l1 l2 l4 l21 l22 l23 l24 (t1 - t0)
def f_L_law_J1856 (adK : Nat → Nat) (L : Nat) (xs : Nat → Int32) (g1748 : PS → Nat → Nat → Nat → Int32 → Int32 → Int32 → Int32 → Prop) (S : PS) (bc bs : Nat) (l1 : Nat) (l2 : Int32) (l4 : Int32) (l21 : Int32) (l22 : Int32) (l23 : Int32) (l24 : Int32) (t0 : Int32) : Prop :=
  if l23 = 0 then
    f_L_law_J1873 adK L xs g1748 S bc bs l1 l2 l4 l21 l22 l23 l24 100000000 t0
  else
    isO S l1 11 (
    ∃ mc3 ms3 : Nat, mc3 ≤ bc ∧ ms3 ≤ bs ∧ (f_X7_between S l1 0 l23 mc3 ms3 (fun v4 S2 => (
    f_L_law_J1873 adK L xs g1748 S2 (bc - mc3) (bs - ms3) l1 l2 l4 l21 l22 l23 l24 v4 t0)) (fun _ _ => False)))
def f_L_law_J1832 (adK : Nat → Nat) (L : Nat) (xs : Nat → Int32) (g1748 : PS → Nat → Nat → Nat → Int32 → Int32 → Int32 → Int32 → Prop) (S : PS) (bc bs : Nat) (l1 : Nat) (l2 : Int32) (l4 : Int32) (l21 : Int32) (l22 : Int32) (l23 : Int32) (l24 : Int32) (t0 : Int32) (t1 : Int32) (t2 : Nat) (t3 : Int32) : Prop :=
  isO S t2 11 (
  ∃ mc2 ms2 : Nat, mc2 ≤ bc ∧ ms2 ≤ bs ∧ (f_X7_householdOf S t2 t1 t0 mc2 ms2 (fun v3 S1 => (
  f_L_law_J1874 adK L xs g1748 S1 (bc - mc2) (bs - ms2) l1 l2 l4 l21 l22 l23 l24 (t3 - v3))) (fun _ _ => False)))
def f_L_law_J1806 (adK : Nat → Nat) (L : Nat) (xs : Nat → Int32) (g1748 : PS → Nat → Nat → Nat → Int32 → Int32 → Int32 → Int32 → Prop) (S : PS) (bc bs : Nat) (l1 : Nat) (l2 : Int32) (l4 : Int32) (l21 : Int32) (l22 : Int32) (l23 : Int32) (l24 : Int32) (t0 : Int32) (t1 : Int32) (t2 : Nat) : Prop :=
  isO S t2 11 (
  ∃ mc2 ms2 : Nat, mc2 ≤ bc ∧ ms2 ≤ bs ∧ (f_X7_householdOf S t2 t1 t0 mc2 ms2 (fun v3 S1 => (
  if l21 = 0 then
    f_L_law_J1832 adK L xs g1748 S1 (bc - mc2) (bs - ms2) l1 l2 l4 l21 l22 l23 l24 2 l24 l1 v3
  else
    if l21 = 1 then
      f_L_law_J1832 adK L xs g1748 S1 (bc - mc2) (bs - ms2) l1 l2 l4 l21 l22 l23 l24 1 l24 l1 v3
    else
      f_L_law_J1832 adK L xs g1748 S1 (bc - mc2) (bs - ms2) l1 l2 l4 l21 l22 l23 l24 4 l24 l1 v3)) (fun _ _ => False)))
def f_L_law_L1748 (adK : Nat → Nat) (L : Nat) (xs : Nat → Int32) (g1723 : PS → Nat → Nat → Nat → Int32 → Int32 → Int32 → Prop) : Nat → PS → Nat → Nat → Nat → Int32 → Int32 → Int32 → Int32 → Prop
  | 0, _, _, _, _, _, _, _, _ => False
  | n + 1, S, bc, bs, l1, l2, l4, l21, l22 =>
  if l4 ≤ l22 then
    f_L_law_J1901 adK L xs g1723 S bc bs l1 l2 l4 l21
  else
    isO S l1 11 (
    ∃ mc3 ms3 : Nat, mc3 ≤ bc ∧ ms3 ≤ bs ∧ (f_X7_ranked S l1 l21 (l22 - 1) mc3 ms3 (fun v4 S2 => (
    isO S2 l1 11 (
    ∃ mc6 ms6 : Nat, mc6 ≤ (bc - mc3) ∧ ms6 ≤ (bs - ms3) ∧ (f_X7_ranked S2 l1 l21 l22 mc6 ms6 (fun v7 S5 => (
    if 3 ≤ l21 then
      if v7 = 0 then
        f_L_law_J1856 adK L xs (f_L_law_L1748 adK L xs g1723 n) S5 ((bc - mc3) - mc6) ((bs - ms3) - ms6) l1 l2 l4 l21 l22 v4 v7 100000000
      else
        isO S5 l1 11 (
        ∃ mc11 ms11 : Nat, mc11 ≤ ((bc - mc3) - mc6) ∧ ms11 ≤ ((bs - ms3) - ms6) ∧ (f_X7_between S5 l1 0 v7 mc11 ms11 (fun v12 S10 => (
        f_L_law_J1856 adK L xs (f_L_law_L1748 adK L xs g1723 n) S10 (((bc - mc3) - mc6) - mc11) (((bs - ms3) - ms6) - ms11) l1 l2 l4 l21 l22 v4 v7 v12)) (fun _ _ => False)))
    else
      if l21 = 0 then
        f_L_law_J1806 adK L xs (f_L_law_L1748 adK L xs g1723 n) S5 ((bc - mc3) - mc6) ((bs - ms3) - ms6) l1 l2 l4 l21 l22 v4 v7 2 v4 l1
      else
        if l21 = 1 then
          f_L_law_J1806 adK L xs (f_L_law_L1748 adK L xs g1723 n) S5 ((bc - mc3) - mc6) ((bs - ms3) - ms6) l1 l2 l4 l21 l22 v4 v7 1 v4 l1
        else
          f_L_law_J1806 adK L xs (f_L_law_L1748 adK L xs g1723 n) S5 ((bc - mc3) - mc6) ((bs - ms3) - ms6) l1 l2 l4 l21 l22 v4 v7 4 v4 l1)) (fun _ _ => False))))) (fun _ _ => False)))
def f_L_law_L1723 (adK : Nat → Nat) (L : Nat) (xs : Nat → Int32) (g15 : PS → Nat → Nat → Nat → Int32 → Prop) : Nat → PS → Nat → Nat → Nat → Int32 → Int32 → Int32 → Prop
  | 0, _, _, _, _, _, _, _ => False
  | n + 1, S, bc, bs, l1, l2, l4, l21 =>
  if 4 ≤ l21 then
    f_L_law_J1907 adK L xs g15 S bc bs l1 l2
  else
    ∃ mc3 ms3 : Nat, mc3 ≤ bc ∧ ms3 ≤ bs ∧ (f_L_ranked S l1 l21 l4 mc3 ms3 fun v4 S2 => (
    if v4 = (-30000) then
      f_L_law_L1748 adK L xs (f_L_law_L1723 adK L xs g15 n) 4096 S2 (bc - mc3) (bs - ms3) l1 l2 l4 l21 1
    else
      False))
def f_L_law_J1709 (adK : Nat → Nat) (L : Nat) (xs : Nat → Int32) (g15 : PS → Nat → Nat → Nat → Int32 → Prop) (S : PS) (bc bs : Nat) (l1 : Nat) (l2 : Int32) (l4 : Int32) (l20 : Int32) : Prop :=
  ∃ mc2 ms2 : Nat, mc2 ≤ bc ∧ ms2 ≤ bs ∧ (f_L_met S l1 mc2 ms2 fun v3 S1 => (
  if v3 = l20 then
    f_L_law_L1723 adK L xs g15 4096 S1 (bc - mc2) (bs - ms2) l1 l2 l4 0
  else
    False))
def f_L_law_J1667 (adK : Nat → Nat) (L : Nat) (xs : Nat → Int32) (g1242 : PS → Nat → Nat → Nat → Int32 → Nat → Int32 → Int32 → Nat → Int32 → Int32 → Prop) (S : PS) (bc bs : Nat) (l1 : Nat) (l2 : Int32) (l3 : Nat) (l4 : Int32) (l14 : Int32) (l19 : Nat) (l21 : Int32) (l23 : Int32) (l24 : Int32) (t0 : Int32) : Prop :=
  f_J6_numberOfTrailingZeros_0f7a4 S l23 fun v2 S1 => (
  sI S1 l19 0 v2 0 fun S3 => (
  f_J6_numberOfTrailingZeros_0f7a4 S3 l24 fun v5 S4 => (
  sI S4 l19 0 v5 0 fun S6 => (
  f_J6_numberOfTrailingZeros_0f7a4 S6 (l23 ||| l24) fun v8 S7 => (
  sI S7 l19 0 v8 (l23 ||| l24) fun S9 => (
  g1242 S9 bc bs l1 l2 l3 l4 l14 l19 t0 (l21 + 1)))))))
def f_L_law_J1665 (adK : Nat → Nat) (L : Nat) (xs : Nat → Int32) (g1242 : PS → Nat → Nat → Nat → Int32 → Nat → Int32 → Int32 → Nat → Int32 → Int32 → Prop) (S : PS) (bc bs : Nat) (l1 : Nat) (l2 : Int32) (l3 : Nat) (l4 : Int32) (l14 : Int32) (l19 : Nat) (l20 : Int32) (l21 : Int32) (l23 : Int32) (l24 : Int32) : Prop :=
  f_L_law_J1667 adK L xs g1242 S bc bs l1 l2 l3 l4 l14 l19 l21 l23 l24 l20
def f_L_law_J1519 (adK : Nat → Nat) (L : Nat) (xs : Nat → Int32) (g1242 : PS → Nat → Nat → Nat → Int32 → Nat → Int32 → Int32 → Nat → Int32 → Int32 → Prop) (S : PS) (bc bs : Nat) (l1 : Nat) (l2 : Int32) (l3 : Nat) (l4 : Int32) (l14 : Int32) (l19 : Nat) (l20 : Int32) (l21 : Int32) (l23 : Int32) (l24 : Int32) (l25 : Int32) (l26 : Nat) : Prop :=
  isO S l1 11 (
  ∃ mc2 ms2 : Nat, mc2 ≤ bc ∧ ms2 ≤ bs ∧ (f_X7_phaseOf S l1 l21 0 mc2 ms2 (fun v3 S1 => (
  if v3 = l25 then
    isO S1 l1 11 (
    ∃ mc6 ms6 : Nat, mc6 ≤ (bc - mc2) ∧ ms6 ≤ (bs - ms2) ∧ (f_X7_phaseOf S1 l1 l21 1 mc6 ms6 (fun v7 S5 => (
    if v7 = (l4 - l21) then
      isO S5 l1 11 (
      ∃ mc10 ms10 : Nat, mc10 ≤ ((bc - mc2) - mc6) ∧ ms10 ≤ ((bs - ms2) - ms6) ∧ (f_X7_phaseOf S5 l1 l21 2 mc10 ms10 (fun v11 S9 => (
      f_J6_numberOfTrailingZeros_0f7a4 S9 l23 fun v13 S12 => (
      if v11 = v13 then
        isO S12 l1 11 (
        ∃ mc16 ms16 : Nat, mc16 ≤ (((bc - mc2) - mc6) - mc10) ∧ ms16 ≤ (((bs - ms2) - ms6) - ms10) ∧ (f_X7_phaseOf S12 l1 l21 3 mc16 ms16 (fun v17 S15 => (
        f_J6_numberOfTrailingZeros_0f7a4 S15 l24 fun v19 S18 => (
        if v17 = v19 then
          isO S18 l1 11 (
          ∃ mc22 ms22 : Nat, mc22 ≤ ((((bc - mc2) - mc6) - mc10) - mc16) ∧ ms22 ≤ ((((bs - ms2) - ms6) - ms10) - ms16) ∧ (f_X7_phaseOf S18 l1 l21 4 mc22 ms22 (fun v23 S21 => (
          if v23 = l23 then
            ∃ mc26 ms26 : Nat, mc26 ≤ (((((bc - mc2) - mc6) - mc10) - mc16) - mc22) ∧ ms26 ≤ (((((bs - ms2) - ms6) - ms10) - ms16) - ms22) ∧ (f_L_joined S21 l1 l21 (l4 - l21) mc26 ms26 fun v27 S25 => (
            if v27 = (-30000) then
              isO S25 l1 11 (
              ∃ mc30 ms30 : Nat, mc30 ≤ ((((((bc - mc2) - mc6) - mc10) - mc16) - mc22) - mc26) ∧ ms30 ≤ ((((((bs - ms2) - ms6) - ms10) - ms16) - ms22) - ms26) ∧ (f_X7_tellPhase S25 l1 l21 mc30 ms30 (fun v31 S29 => (
              nO S29 1 [.null, .int 0, .int 0, .int 0] 4 (((((((bc - mc2) - mc6) - mc10) - mc16) - mc22) - mc26) - mc30) (((((((bs - ms2) - ms6) - ms10) - ms16) - ms22) - ms26) - ms30) fun q32 S33 bc34 bs35 => (
              ∃ mc37 ms37 : Nat, mc37 ≤ bc34 ∧ ms37 ≤ bs35 ∧ (f_J4_init_da8c8 S33 q32 mc37 ms37 fun S36 => (
              isO S36 q32 1 (
              ∃ mc40 ms40 : Nat, mc40 ≤ (bc34 - mc37) ∧ ms40 ≤ (bs35 - ms37) ∧ (f_J4_append_15ec4_u adK S36 q32 l26 mc40 ms40 fun v41 S39 => (
              isO S39 v41 1 (
              ∃ mc43 ms43 : Nat, mc43 ≤ ((bc34 - mc37) - mc40) ∧ ms43 ≤ ((bs35 - ms37) - ms40) ∧ (f_J4_append_15ec4_u adK S39 v41 (adK 2) mc43 ms43 fun v44 S42 => (
              isO S42 v44 1 (
              ∃ mc46 ms46 : Nat, mc46 ≤ (((bc34 - mc37) - mc40) - mc43) ∧ ms46 ≤ (((bs35 - ms37) - ms40) - ms43) ∧ (f_J4_append_bf812 S42 v44 l25 mc46 ms46 fun v47 S45 => (
              isO S45 v47 1 (
              ∃ mc49 ms49 : Nat, mc49 ≤ ((((bc34 - mc37) - mc40) - mc43) - mc46) ∧ ms49 ≤ ((((bs35 - ms37) - ms40) - ms43) - ms46) ∧ (f_J4_toString_0e30d S45 v47 mc49 ms49 fun v50 S48 => (
              ∃ mc52 ms52 : Nat, mc52 ≤ (((((bc34 - mc37) - mc40) - mc43) - mc46) - mc49) ∧ ms52 ≤ (((((bs35 - ms37) - ms40) - ms43) - ms46) - ms49) ∧ (f_L_isLine adK S48 l1 v31 v50 mc52 ms52 fun v53 S51 => (
              if v53 = 0 then
                False
              else
                if l20 = (-30000) then
                  if l25 = l14 then
                    f_L_law_J1667 adK L xs g1242 S51 ((((((bc34 - mc37) - mc40) - mc43) - mc46) - mc49) - mc52) ((((((bs35 - ms37) - ms40) - ms43) - ms46) - ms49) - ms52) l1 l2 l3 l4 l14 l19 l21 l23 l24 l21
                  else
                    f_L_law_J1665 adK L xs g1242 S51 ((((((bc34 - mc37) - mc40) - mc43) - mc46) - mc49) - mc52) ((((((bs35 - ms37) - ms40) - ms43) - ms46) - ms49) - ms52) l1 l2 l3 l4 l14 l19 l20 l21 l23 l24
                else
                  f_L_law_J1665 adK L xs g1242 S51 ((((((bc34 - mc37) - mc40) - mc43) - mc46) - mc49) - mc52) ((((((bs35 - ms37) - ms40) - ms43) - ms46) - ms49) - ms52) l1 l2 l3 l4 l14 l19 l20 l21 l23 l24))))))))))))))))))) (fun _ _ => False)))
            else
              False))
          else
            False)) (fun _ _ => False)))
        else
          False))) (fun _ _ => False)))
      else
        False))) (fun _ _ => False)))
    else
      False)) (fun _ _ => False)))
  else
    False)) (fun _ _ => False)))
def f_L_law_J1498 (adK : Nat → Nat) (L : Nat) (xs : Nat → Int32) (g1270 : PS → Nat → Nat → Nat → Int32 → Nat → Int32 → Int32 → Nat → Int32 → Int32 → Int32 → Int32 → Int32 → Int32 → Nat → Int32 → Prop) (S : PS) (bc bs : Nat) (l1 : Nat) (l2 : Int32) (l3 : Nat) (l4 : Int32) (l14 : Int32) (l19 : Nat) (l20 : Int32) (l21 : Int32) (l22 : Int32) (l23 : Int32) (l25 : Int32) (l26 : Nat) (l27 : Int32) (l28 : Int32) : Prop :=
  g1270 S bc bs l1 l2 l3 l4 l14 l19 l20 l21 (l22 ||| l28) l28 l23 l25 l26 (l27 + 1)
def f_L_law_J1484 (adK : Nat → Nat) (L : Nat) (xs : Nat → Int32) (g1429 : PS → Nat → Nat → Nat → Int32 → Nat → Int32 → Int32 → Nat → Int32 → Int32 → Int32 → Int32 → Int32 → Nat → Int32 → Int32 → Int32 → Prop) (S : PS) (bc bs : Nat) (l1 : Nat) (l2 : Int32) (l3 : Nat) (l4 : Int32) (l14 : Int32) (l19 : Nat) (l20 : Int32) (l21 : Int32) (l22 : Int32) (l23 : Int32) (l25 : Int32) (l27 : Int32) (l28 : Int32) (l29 : Int32) (t0 : Nat) (t1 : Nat) : Prop :=
  isO S t1 1 (
  ∃ mc2 ms2 : Nat, mc2 ≤ bc ∧ ms2 ≤ bs ∧ (f_J4_append_15ec4_u adK S t1 t0 mc2 ms2 fun v3 S1 => (
  isO S1 v3 1 (
  ∃ mc5 ms5 : Nat, mc5 ≤ (bc - mc2) ∧ ms5 ≤ (bs - ms2) ∧ (f_J4_toString_0e30d S1 v3 mc5 ms5 fun v6 S4 => (
  g1429 S4 ((bc - mc2) - mc5) ((bs - ms2) - ms5) l1 l2 l3 l4 l14 l19 l20 l21 l22 l23 l25 v6 l27 l28 (l29 + 1)))))))
def f_L_law_L1429 (adK : Nat → Nat) (L : Nat) (xs : Nat → Int32) (g1270 : PS → Nat → Nat → Nat → Int32 → Nat → Int32 → Int32 → Nat → Int32 → Int32 → Int32 → Int32 → Int32 → Int32 → Nat → Int32 → Prop) : Nat → PS → Nat → Nat → Nat → Int32 → Nat → Int32 → Int32 → Nat → Int32 → Int32 → Int32 → Int32 → Int32 → Nat → Int32 → Int32 → Int32 → Prop
  | 0, _, _, _, _, _, _, _, _, _, _, _, _, _, _, _, _, _, _ => False
  | n + 1, S, bc, bs, l1, l2, l3, l4, l14, l19, l20, l21, l22, l23, l25, l26, l27, l28, l29 =>
  if l4 ≤ l29 then
    f_L_law_J1498 adK L xs g1270 S bc bs l1 l2 l3 l4 l14 l19 l20 l21 l22 l23 l25 l26 l27 l28
  else
    nO S 1 [.null, .int 0, .int 0, .int 0] 4 bc bs fun q2 S3 bc4 bs5 => (
    ∃ mc7 ms7 : Nat, mc7 ≤ bc4 ∧ ms7 ≤ bs5 ∧ (f_J4_init_da8c8 S3 q2 mc7 ms7 fun S6 => (
    isO S6 q2 1 (
    ∃ mc10 ms10 : Nat, mc10 ≤ (bc4 - mc7) ∧ ms10 ≤ (bs5 - ms7) ∧ (f_J4_append_15ec4_u adK S6 q2 l26 mc10 ms10 fun v11 S9 => (
    if ((l28 >>> (l29 &&& 31)) &&& 1) = 1 then
      nO S9 1 [.null, .int 0, .int 0, .int 0] 4 ((bc4 - mc7) - mc10) ((bs5 - ms7) - ms10) fun q13 S14 bc15 bs16 => (
      ∃ mc18 ms18 : Nat, mc18 ≤ bc15 ∧ ms18 ≤ bs16 ∧ (f_J4_init_da8c8 S14 q13 mc18 ms18 fun S17 => (
      isO S17 q13 1 (
      ∃ mc21 ms21 : Nat, mc21 ≤ (bc15 - mc18) ∧ ms21 ≤ (bs16 - ms18) ∧ (f_J4_append_15ec4_u adK S17 q13 (adK 0) mc21 ms21 fun v22 S20 => (
      isO S20 v22 1 (
      ∃ mc24 ms24 : Nat, mc24 ≤ ((bc15 - mc18) - mc21) ∧ ms24 ≤ ((bs16 - ms18) - ms21) ∧ (f_J4_append_bf812 S20 v22 l29 mc24 ms24 fun v25 S23 => (
      isO S23 v25 1 (
      ∃ mc27 ms27 : Nat, mc27 ≤ (((bc15 - mc18) - mc21) - mc24) ∧ ms27 ≤ (((bs16 - ms18) - ms21) - ms24) ∧ (f_J4_toString_0e30d S23 v25 mc27 ms27 fun v28 S26 => (
      f_L_law_J1484 adK L xs (f_L_law_L1429 adK L xs g1270 n) S26 ((((bc15 - mc18) - mc21) - mc24) - mc27) ((((bs16 - ms18) - ms21) - ms24) - ms27) l1 l2 l3 l4 l14 l19 l20 l21 l22 l23 l25 l27 l28 l29 v28 v11))))))))))))
    else
      f_L_law_J1484 adK L xs (f_L_law_L1429 adK L xs g1270 n) S9 ((bc4 - mc7) - mc10) ((bs5 - ms7) - ms10) l1 l2 l3 l4 l14 l19 l20 l21 l22 l23 l25 l27 l28 l29 (adK 0) v11))))))
def f_L_law_J1418 (adK : Nat → Nat) (L : Nat) (xs : Nat → Int32) (g1270 : PS → Nat → Nat → Nat → Int32 → Nat → Int32 → Int32 → Nat → Int32 → Int32 → Int32 → Int32 → Int32 → Int32 → Nat → Int32 → Prop) (S : PS) (bc bs : Nat) (l1 : Nat) (l2 : Int32) (l3 : Nat) (l4 : Int32) (l14 : Int32) (l19 : Nat) (l20 : Int32) (l21 : Int32) (l22 : Int32) (l23 : Int32) (l25 : Int32) (l27 : Int32) (l28 : Int32) (t0 : Nat) (t1 : Nat) : Prop :=
  isO S t1 1 (
  ∃ mc2 ms2 : Nat, mc2 ≤ bc ∧ ms2 ≤ bs ∧ (f_J4_append_15ec4_u adK S t1 t0 mc2 ms2 fun v3 S1 => (
  isO S1 v3 1 (
  ∃ mc5 ms5 : Nat, mc5 ≤ (bc - mc2) ∧ ms5 ≤ (bs - ms2) ∧ (f_J4_toString_0e30d S1 v3 mc5 ms5 fun v6 S4 => (
  f_L_law_L1429 adK L xs g1270 4096 S4 ((bc - mc2) - mc5) ((bs - ms2) - ms5) l1 l2 l3 l4 l14 l19 l20 l21 l22 l23 l25 v6 l27 l28 0))))))
def f_L_law_J1353 (adK : Nat → Nat) (L : Nat) (xs : Nat → Int32) (g1270 : PS → Nat → Nat → Nat → Int32 → Nat → Int32 → Int32 → Nat → Int32 → Int32 → Int32 → Int32 → Int32 → Int32 → Nat → Int32 → Prop) (S : PS) (bc bs : Nat) (l1 : Nat) (l2 : Int32) (l3 : Nat) (l4 : Int32) (l14 : Int32) (l19 : Nat) (l20 : Int32) (l21 : Int32) (l22 : Int32) (l23 : Int32) (l26 : Nat) (l27 : Int32) (l28 : Int32) : Prop :=
  f_L_tie S l3 l28 l22 fun v2 S1 => (
  ∃ mc4 ms4 : Nat, mc4 ≤ bc ∧ ms4 ≤ bs ∧ (f_L_joined S1 l1 l21 l27 mc4 ms4 fun v5 S3 => (
  f_J6_numberOfTrailingZeros_0f7a4 S3 l28 fun v7 S6 => (
  if v5 = v7 then
    isO S6 l1 11 (
    ∃ mc10 ms10 : Nat, mc10 ≤ (bc - mc4) ∧ ms10 ≤ (bs - ms4) ∧ (f_X7_tieAt S6 l1 l21 l27 mc10 ms10 (fun v11 S9 => (
    if v11 = v2 then
      nO S9 1 [.null, .int 0, .int 0, .int 0] 4 ((bc - mc4) - mc10) ((bs - ms4) - ms10) fun q13 S14 bc15 bs16 => (
      ∃ mc18 ms18 : Nat, mc18 ≤ bc15 ∧ ms18 ≤ bs16 ∧ (f_J4_init_da8c8 S14 q13 mc18 ms18 fun S17 => (
      isO S17 q13 1 (
      ∃ mc21 ms21 : Nat, mc21 ≤ (bc15 - mc18) ∧ ms21 ≤ (bs16 - ms18) ∧ (f_J4_append_15ec4_u adK S17 q13 l26 mc21 ms21 fun v22 S20 => (
      if l27 ≤ 0 then
        f_L_law_J1418 adK L xs g1270 S20 ((bc15 - mc18) - mc21) ((bs16 - ms18) - ms21) l1 l2 l3 l4 l14 l19 l20 l21 l22 l23 v2 l27 l28 (adK 0) v22
      else
        f_L_law_J1418 adK L xs g1270 S20 ((bc15 - mc18) - mc21) ((bs16 - ms18) - ms21) l1 l2 l3 l4 l14 l19 l20 l21 l22 l23 v2 l27 l28 (adK 4) v22))))))
    else
      False)) (fun _ _ => False)))
  else
    False))))
def f_L_law_J1347 (adK : Nat → Nat) (L : Nat) (xs : Nat → Int32) (g1289 : PS → Nat → Nat → Nat → Int32 → Nat → Int32 → Int32 → Nat → Int32 → Int32 → Int32 → Int32 → Nat → Int32 → Int32 → Int32 → Prop) (S : PS) (bc bs : Nat) (l1 : Nat) (l2 : Int32) (l3 : Nat) (l4 : Int32) (l14 : Int32) (l19 : Nat) (l20 : Int32) (l21 : Int32) (l22 : Int32) (l23 : Int32) (l26 : Nat) (l27 : Int32) (l28 : Int32) (l29 : Int32) : Prop :=
  g1289 S bc bs l1 l2 l3 l4 l14 l19 l20 l21 l22 l23 l26 l27 l28 (l29 + (-1))
def f_L_law_J1340 (adK : Nat → Nat) (L : Nat) (xs : Nat → Int32) (g1289 : PS → Nat → Nat → Nat → Int32 → Nat → Int32 → Int32 → Nat → Int32 → Int32 → Int32 → Int32 → Nat → Int32 → Int32 → Int32 → Prop) (S : PS) (bc bs : Nat) (l1 : Nat) (l2 : Int32) (l3 : Nat) (l4 : Int32) (l14 : Int32) (l19 : Nat) (l20 : Int32) (l21 : Int32) (l22 : Int32) (l23 : Int32) (l26 : Nat) (l27 : Int32) (l29 : Int32) : Prop :=
  aI S l19 0 l29 fun v1 => (
  f_L_law_J1347 adK L xs g1289 S bc bs l1 l2 l3 l4 l14 l19 l20 l21 l22 l23 l26 l27 v1 l29)
def f_L_law_L1289 (adK : Nat → Nat) (L : Nat) (xs : Nat → Int32) (g1270 : PS → Nat → Nat → Nat → Int32 → Nat → Int32 → Int32 → Nat → Int32 → Int32 → Int32 → Int32 → Int32 → Int32 → Nat → Int32 → Prop) : Nat → PS → Nat → Nat → Nat → Int32 → Nat → Int32 → Int32 → Nat → Int32 → Int32 → Int32 → Int32 → Nat → Int32 → Int32 → Int32 → Prop
  | 0, _, _, _, _, _, _, _, _, _, _, _, _, _, _, _, _, _ => False
  | n + 1, S, bc, bs, l1, l2, l3, l4, l14, l19, l20, l21, l22, l23, l26, l27, l28, l29 =>
  if l29 < 0 then
    f_L_law_J1353 adK L xs g1270 S bc bs l1 l2 l3 l4 l14 l19 l20 l21 l22 l23 l26 l27 l28
  else
    aI S l19 0 l29 fun v2 => (
    if v2 = 0 then
      f_L_law_J1347 adK L xs (f_L_law_L1289 adK L xs g1270 n) S bc bs l1 l2 l3 l4 l14 l19 l20 l21 l22 l23 l26 l27 l28 l29
    else
      aI S l19 0 l29 fun v4 => (
      if (v4 &&& l22) = 0 then
        if l28 = 0 then
          f_L_law_J1340 adK L xs (f_L_law_L1289 adK L xs g1270 n) S bc bs l1 l2 l3 l4 l14 l19 l20 l21 l22 l23 l26 l27 l29
        else
          aI S l19 0 l29 fun v7 => (
          f_L_tie S l3 v7 l22 fun v9 S8 => (
          f_L_tie S8 l3 l28 l22 fun v11 S10 => (
          if v9 < v11 then
            f_L_law_J1347 adK L xs (f_L_law_L1289 adK L xs g1270 n) S10 bc bs l1 l2 l3 l4 l14 l19 l20 l21 l22 l23 l26 l27 l28 l29
          else
            f_L_law_J1340 adK L xs (f_L_law_L1289 adK L xs g1270 n) S10 bc bs l1 l2 l3 l4 l14 l19 l20 l21 l22 l23 l26 l27 l29)))
      else
        f_L_law_J1347 adK L xs (f_L_law_L1289 adK L xs g1270 n) S bc bs l1 l2 l3 l4 l14 l19 l20 l21 l22 l23 l26 l27 l28 l29))
def f_L_law_L1270 (adK : Nat → Nat) (L : Nat) (xs : Nat → Int32) (g1242 : PS → Nat → Nat → Nat → Int32 → Nat → Int32 → Int32 → Nat → Int32 → Int32 → Prop) : Nat → PS → Nat → Nat → Nat → Int32 → Nat → Int32 → Int32 → Nat → Int32 → Int32 → Int32 → Int32 → Int32 → Int32 → Nat → Int32 → Prop
  | 0, _, _, _, _, _, _, _, _, _, _, _, _, _, _, _, _, _ => False
  | n + 1, S, bc, bs, l1, l2, l3, l4, l14, l19, l20, l21, l22, l23, l24, l25, l26, l27 =>
  if (l4 - l21) ≤ l27 then
    f_L_law_J1519 adK L xs g1242 S bc bs l1 l2 l3 l4 l14 l19 l20 l21 l23 l24 l25 l26
  else
    f_L_law_L1289 adK L xs (f_L_law_L1270 adK L xs g1242 n) 4096 S bc bs l1 l2 l3 l4 l14 l19 l20 l21 l22 l23 l26 l27 0 (l4 - 1)
def f_L_law_L1242 (adK : Nat → Nat) (L : Nat) (xs : Nat → Int32) (g15 : PS → Nat → Nat → Nat → Int32 → Prop) : Nat → PS → Nat → Nat → Nat → Int32 → Nat → Int32 → Int32 → Nat → Int32 → Int32 → Prop
  | 0, _, _, _, _, _, _, _, _, _, _, _ => False
  | n + 1, S, bc, bs, l1, l2, l3, l4, l14, l19, l20, l21 =>
  if (l4 - 1) ≤ l21 then
    f_L_law_J1709 adK L xs g15 S bc bs l1 l2 l4 l20
  else
    f_L_law_L1270 adK L xs (f_L_law_L1242 adK L xs g15 n) 4096 S bc bs l1 l2 l3 l4 l14 l19 l20 l21 0 0 0 0 (adK 0) 0
def f_L_law_J1217 (adK : Nat → Nat) (L : Nat) (xs : Nat → Int32) (g15 : PS → Nat → Nat → Nat → Int32 → Prop) (S : PS) (bc bs : Nat) (l1 : Nat) (l2 : Int32) (l3 : Nat) (l4 : Int32) (l14 : Int32) (l19 : Nat) : Prop :=
  isO S l1 11 (
  f_X7_phases S l1 fun v2 S1 => (
  if v2 = (if 0 < (l4 - 1) then (l4 - 1) else 0) then
    f_L_law_L1242 adK L xs g15 4096 S1 bc bs l1 l2 l3 l4 l14 l19 (-30000) 0
  else
    False))
def f_L_law_L1195 (adK : Nat → Nat) (L : Nat) (xs : Nat → Int32) (g15 : PS → Nat → Nat → Nat → Int32 → Prop) : Nat → PS → Nat → Nat → Nat → Int32 → Nat → Int32 → Int32 → Nat → Int32 → Prop
  | 0, _, _, _, _, _, _, _, _, _, _ => False
  | n + 1, S, bc, bs, l1, l2, l3, l4, l14, l19, l20 =>
  if l4 ≤ l20 then
    f_L_law_J1217 adK L xs g15 S bc bs l1 l2 l3 l4 l14 l19
  else
    sI S l19 0 l20 ((1 : Int32) <<< (l20 &&& 31)) fun S2 => (
    (f_L_law_L1195 adK L xs g15 n) S2 bc bs l1 l2 l3 l4 l14 l19 (l20 + 1))
def f_L_law_J1186 (adK : Nat → Nat) (L : Nat) (xs : Nat → Int32) (g15 : PS → Nat → Nat → Nat → Int32 → Prop) (S : PS) (bc bs : Nat) (l1 : Nat) (l2 : Int32) (l3 : Nat) (l4 : Int32) (l14 : Int32) : Prop :=
  nA S 0 l4 bc bs fun q1 S2 bc3 bs4 => (
  f_L_law_L1195 adK L xs g15 4096 S2 bc3 bs4 l1 l2 l3 l4 l14 q1 0)
def f_L_law_J1035 (adK : Nat → Nat) (L : Nat) (xs : Nat → Int32) (g15 : PS → Nat → Nat → Nat → Int32 → Prop) (S : PS) (bc bs : Nat) (l1 : Nat) (l2 : Int32) (l3 : Nat) (l4 : Int32) (l6 : Int32) (l7 : Int32) (l8 : Int32) (l9 : Int32) (l10 : Int32) (l12 : Int32) (l13 : Int32) (l14 : Int32) (l16 : Int32) (t0 : Int32) (t1 : Int32) : Prop :=
  if t1 = t0 then
    ∃ mc3 ms3 : Nat, mc3 ≤ bc ∧ ms3 ≤ bs ∧ (f_L_bestMove S l1 mc3 ms3 fun v4 S2 => (
    if v4 = l16 then
      isO S2 l1 11 (
      f_X7_parts S2 l1 fun v7 S6 => (
      if v7 = l12 then
        isO S6 l1 11 (
        ∃ mc10 ms10 : Nat, mc10 ≤ (bc - mc3) ∧ ms10 ≤ (bs - ms3) ∧ (f_X7_account S6 l1 1 mc10 ms10 (fun v11 S9 => (
        if v11 = l7 then
          isO S9 l1 11 (
          ∃ mc14 ms14 : Nat, mc14 ≤ ((bc - mc3) - mc10) ∧ ms14 ≤ ((bs - ms3) - ms10) ∧ (f_X7_account S9 l1 2 mc14 ms14 (fun v15 S13 => (
          if v15 = l8 then
            isO S13 l1 11 (
            ∃ mc18 ms18 : Nat, mc18 ≤ (((bc - mc3) - mc10) - mc14) ∧ ms18 ≤ (((bs - ms3) - ms10) - ms14) ∧ (f_X7_account S13 l1 3 mc18 ms18 (fun v19 S17 => (
            f_J6_bitCount_0f7a4 S17 l6 fun v21 S20 => (
            if v19 = v21 then
              isO S20 l1 11 (
              ∃ mc24 ms24 : Nat, mc24 ≤ ((((bc - mc3) - mc10) - mc14) - mc18) ∧ ms24 ≤ ((((bs - ms3) - ms10) - ms14) - ms18) ∧ (f_X7_account S20 l1 4 mc24 ms24 (fun v25 S23 => (
              if v25 = l9 then
                isO S23 l1 11 (
                ∃ mc28 ms28 : Nat, mc28 ≤ (((((bc - mc3) - mc10) - mc14) - mc18) - mc24) ∧ ms28 ≤ (((((bs - ms3) - ms10) - ms14) - ms18) - ms24) ∧ (f_X7_account S23 l1 5 mc28 ms28 (fun v29 S27 => (
                isO S27 l1 11 (
                ∃ mc31 ms31 : Nat, mc31 ≤ ((((((bc - mc3) - mc10) - mc14) - mc18) - mc24) - mc28) ∧ ms31 ≤ ((((((bs - ms3) - ms10) - ms14) - ms18) - ms24) - ms28) ∧ (f_X7_account S27 l1 6 mc31 ms31 (fun v32 S30 => (
                if v29 = (l4 + v32) then
                  isO S30 l1 11 (
                  ∃ mc35 ms35 : Nat, mc35 ≤ (((((((bc - mc3) - mc10) - mc14) - mc18) - mc24) - mc28) - mc31) ∧ ms35 ≤ (((((((bs - ms3) - ms10) - ms14) - ms18) - ms24) - ms28) - ms31) ∧ (f_X7_account S30 l1 7 mc35 ms35 (fun v36 S34 => (
                  isO S34 l1 11 (
                  ∃ mc38 ms38 : Nat, mc38 ≤ ((((((((bc - mc3) - mc10) - mc14) - mc18) - mc24) - mc28) - mc31) - mc35) ∧ ms38 ≤ ((((((((bs - ms3) - ms10) - ms14) - ms18) - ms24) - ms28) - ms31) - ms35) ∧ (f_X7_account S34 l1 6 mc38 ms38 (fun v39 S37 => (
                  if v39 < v36 then
                    False
                  else
                    isO S37 l1 11 (
                    ∃ mc42 ms42 : Nat, mc42 ≤ (((((((((bc - mc3) - mc10) - mc14) - mc18) - mc24) - mc28) - mc31) - mc35) - mc38) ∧ ms42 ≤ (((((((((bs - ms3) - ms10) - ms14) - ms18) - ms24) - ms28) - ms31) - ms35) - ms38) ∧ (f_X7_account S37 l1 8 mc42 ms42 (fun v43 S41 => (
                    if v43 = l10 then
                      isO S41 l1 11 (
                      f_X7_isTold S41 l1 fun v46 S45 => (
                      if v46 = 0 then
                        False
                      else
                        if l7 ≤ 0 then
                          f_L_law_J1186 adK L xs g15 S45 ((((((((((bc - mc3) - mc10) - mc14) - mc18) - mc24) - mc28) - mc31) - mc35) - mc38) - mc42) ((((((((((bs - ms3) - ms10) - ms14) - ms18) - ms24) - ms28) - ms31) - ms35) - ms38) - ms42) l1 l2 l3 l4 l14
                        else
                          isO S45 l1 11 (
                          ∃ mc50 ms50 : Nat, mc50 ≤ ((((((((((bc - mc3) - mc10) - mc14) - mc18) - mc24) - mc28) - mc31) - mc35) - mc38) - mc42) ∧ ms50 ≤ ((((((((((bs - ms3) - ms10) - ms14) - ms18) - ms24) - ms28) - ms31) - ms35) - ms38) - ms42) ∧ (f_X7_meanWeight S45 l1 mc50 ms50 (fun v51 S49 => (
                          vf_n64 (FP.ddiv (FP.i2d l8) (FP.i2d l7)) ∧ (
                          if (Op.cmpValue (FP.dcmp v51 (FP.ddiv (FP.i2d l8) (FP.i2d l7))) .l) = 0 then
                            isO S49 l1 11 (
                            ∃ mc54 ms54 : Nat, mc54 ≤ (((((((((((bc - mc3) - mc10) - mc14) - mc18) - mc24) - mc28) - mc31) - mc35) - mc38) - mc42) - mc50) ∧ ms54 ≤ (((((((((((bs - ms3) - ms10) - ms14) - ms18) - ms24) - ms28) - ms31) - ms35) - ms38) - ms42) - ms50) ∧ (f_X7_feudShare S49 l1 mc54 ms54 (fun v55 S53 => (
                            vf_n32 (FP.fdiv (FP.i2f l13) (FP.i2f l8)) ∧ (
                            if (Op.cmpValue (FP.fcmp v55 (FP.fdiv (FP.i2f l13) (FP.i2f l8))) .l) = 0 then
                              f_L_law_J1186 adK L xs g15 S53 ((((((((((((bc - mc3) - mc10) - mc14) - mc18) - mc24) - mc28) - mc31) - mc35) - mc38) - mc42) - mc50) - mc54) ((((((((((((bs - ms3) - ms10) - ms14) - ms18) - ms24) - ms28) - ms31) - ms35) - ms38) - ms42) - ms50) - ms54) l1 l2 l3 l4 l14
                            else
                              False))) (fun _ _ => False)))
                          else
                            False))) (fun _ _ => False)))))
                    else
                      False)) (fun _ _ => False))))) (fun _ _ => False))))) (fun _ _ => False)))
                else
                  False)) (fun _ _ => False))))) (fun _ _ => False)))
              else
                False)) (fun _ _ => False)))
            else
              False))) (fun _ _ => False)))
          else
            False)) (fun _ _ => False)))
        else
          False)) (fun _ _ => False)))
      else
        False))
    else
      False))
  else
    False
def f_L_law_J934 (adK : Nat → Nat) (L : Nat) (xs : Nat → Int32) (g15 : PS → Nat → Nat → Nat → Int32 → Prop) (S : PS) (bc bs : Nat) (l1 : Nat) (l2 : Int32) (l3 : Nat) (l4 : Int32) (l6 : Int32) (l7 : Int32) (l8 : Int32) (l9 : Int32) (l10 : Int32) (l11 : Int32) (l12 : Int32) (l13 : Int32) (l14 : Int32) (l15 : Int32) (l16 : Int32) (l17 : Nat) (l18 : Nat) : Prop :=
  isO S l1 11 (
  ∃ mc2 ms2 : Nat, mc2 ≤ bc ∧ ms2 ≤ bs ∧ (f_X7_tell S l1 mc2 ms2 fun v3 S1 => (
  ∃ mc5 ms5 : Nat, mc5 ≤ (bc - mc2) ∧ ms5 ≤ (bs - ms2) ∧ (f_L_isLine adK S1 l1 v3 l17 mc5 ms5 fun v6 S4 => (
  if v6 = 0 then
    False
  else
    isO S4 l1 11 (
    ∃ mc9 ms9 : Nat, mc9 ≤ ((bc - mc2) - mc5) ∧ ms9 ≤ ((bs - ms2) - ms5) ∧ (f_X7_tellSides S4 l1 mc9 ms9 fun v10 S8 => (
    ∃ mc12 ms12 : Nat, mc12 ≤ (((bc - mc2) - mc5) - mc9) ∧ ms12 ≤ (((bs - ms2) - ms5) - ms9) ∧ (f_L_isLine adK S8 l1 v10 l18 mc12 ms12 fun v13 S11 => (
    if v13 = 0 then
      False
    else
      ∃ mc16 ms16 : Nat, mc16 ≤ ((((bc - mc2) - mc5) - mc9) - mc12) ∧ ms16 ≤ ((((bs - ms2) - ms5) - ms9) - ms12) ∧ (f_L_bondAt S11 l1 l7 mc16 ms16 fun v17 S15 => (
      if v17 = (-30000) then
        ∃ mc20 ms20 : Nat, mc20 ≤ (((((bc - mc2) - mc5) - mc9) - mc12) - mc16) ∧ ms20 ≤ (((((bs - ms2) - ms5) - ms9) - ms12) - ms16) ∧ (f_L_heaviest S15 l1 mc20 ms20 fun v21 S19 => (
        if v21 = l11 then
          isO S19 l1 11 (
          f_X7_feud S19 l1 fun v24 S23 => (
          if v24 = l13 then
            isO S23 l1 11 (
            f_X7_feudAgain S23 l1 fun v27 S26 => (
            if v27 = l13 then
              ∃ mc30 ms30 : Nat, mc30 ≤ ((((((bc - mc2) - mc5) - mc9) - mc12) - mc16) - mc20) ∧ ms30 ≤ ((((((bs - ms2) - ms5) - ms9) - ms12) - ms16) - ms20) ∧ (f_L_least S26 l1 mc30 ms30 fun v31 S29 => (
              if v31 = l14 then
                ∃ mc34 ms34 : Nat, mc34 ≤ (((((((bc - mc2) - mc5) - mc9) - mc12) - mc16) - mc20) - mc30) ∧ ms34 ≤ (((((((bs - ms2) - ms5) - ms9) - ms12) - ms16) - ms20) - ms30) ∧ (f_L_leastAgain S29 l1 mc34 ms34 fun v35 S33 => (
                if v35 = l14 then
                  ∃ mc38 ms38 : Nat, mc38 ≤ ((((((((bc - mc2) - mc5) - mc9) - mc12) - mc16) - mc20) - mc30) - mc34) ∧ ms38 ≤ ((((((((bs - ms2) - ms5) - ms9) - ms12) - ms16) - ms20) - ms30) - ms34) ∧ (f_L_leastSides S33 l1 mc38 ms38 fun v39 S37 => (
                  if l4 ≤ 1 then
                    f_L_law_J1035 adK L xs g15 S37 (((((((((bc - mc2) - mc5) - mc9) - mc12) - mc16) - mc20) - mc30) - mc34) - mc38) (((((((((bs - ms2) - ms5) - ms9) - ms12) - ms16) - ms20) - ms30) - ms34) - ms38) l1 l2 l3 l4 l6 l7 l8 l9 l10 l12 l13 l14 l16 (-30000) v39
                  else
                    f_L_law_J1035 adK L xs g15 S37 (((((((((bc - mc2) - mc5) - mc9) - mc12) - mc16) - mc20) - mc30) - mc34) - mc38) (((((((((bs - ms2) - ms5) - ms9) - ms12) - ms16) - ms20) - ms30) - ms34) - ms38) l1 l2 l3 l4 l6 l7 l8 l9 l10 l12 l13 l14 l16 l15 v39))
                else
                  False))
              else
                False))
            else
              False))
          else
            False))
        else
          False))
      else
        False))))))))))))
def f_L_law_J925 (adK : Nat → Nat) (L : Nat) (xs : Nat → Int32) (g900 : PS → Nat → Nat → Nat → Int32 → Nat → Int32 → Int32 → Int32 → Int32 → Int32 → Int32 → Int32 → Int32 → Int32 → Int32 → Int32 → Int32 → Int32 → Nat → Nat → Int32 → Prop) (S : PS) (bc bs : Nat) (l1 : Nat) (l2 : Int32) (l3 : Nat) (l4 : Int32) (l5 : Int32) (l6 : Int32) (l7 : Int32) (l8 : Int32) (l9 : Int32) (l10 : Int32) (l11 : Int32) (l12 : Int32) (l13 : Int32) (l14 : Int32) (l16 : Int32) (l17 : Nat) (l18 : Nat) (l19 : Int32) (t0 : Int32) (t1 : Int32) : Prop :=
  g900 S bc bs l1 l2 l3 l4 l5 l6 l7 l8 l9 l10 l11 l12 l13 l14 (t1 + t0) l16 l17 l18 (l19 + 2)
def f_L_law_L900 (adK : Nat → Nat) (L : Nat) (xs : Nat → Int32) (g15 : PS → Nat → Nat → Nat → Int32 → Prop) : Nat → PS → Nat → Nat → Nat → Int32 → Nat → Int32 → Int32 → Int32 → Int32 → Int32 → Int32 → Int32 → Int32 → Int32 → Int32 → Int32 → Int32 → Int32 → Nat → Nat → Int32 → Prop
  | 0, _, _, _, _, _, _, _, _, _, _, _, _, _, _, _, _, _, _, _, _, _, _ => False
  | n + 1, S, bc, bs, l1, l2, l3, l4, l5, l6, l7, l8, l9, l10, l11, l12, l13, l14, l15, l16, l17, l18, l19 =>
  if l5 < l19 then
    f_L_law_J934 adK L xs g15 S bc bs l1 l2 l3 l4 l6 l7 l8 l9 l10 l11 l12 l13 l14 l15 l16 l17 l18
  else
    f_L_feud S l3 l19 fun v3 S2 => (
    if v3 = l14 then
      f_L_law_J925 adK L xs (f_L_law_L900 adK L xs g15 n) S2 bc bs l1 l2 l3 l4 l5 l6 l7 l8 l9 l10 l11 l12 l13 l14 l16 l17 l18 l19 1 l15
    else
      f_L_law_J925 adK L xs (f_L_law_L900 adK L xs g15 n) S2 bc bs l1 l2 l3 l4 l5 l6 l7 l8 l9 l10 l11 l12 l13 l14 l16 l17 l18 l19 0 l15)
def f_L_law_J897 (adK : Nat → Nat) (L : Nat) (xs : Nat → Int32) (g15 : PS → Nat → Nat → Nat → Int32 → Prop) (S : PS) (bc bs : Nat) (l1 : Nat) (l2 : Int32) (l3 : Nat) (l4 : Int32) (l5 : Int32) (l6 : Int32) (l7 : Int32) (l8 : Int32) (l9 : Int32) (l10 : Int32) (l11 : Int32) (l12 : Int32) (l13 : Int32) (l14 : Int32) (l15 : Int32) (l16 : Int32) (l17 : Nat) (l18 : Nat) : Prop :=
  f_L_law_L900 adK L xs g15 4096 S bc bs l1 l2 l3 l4 l5 l6 l7 l8 l9 l10 l11 l12 l13 l14 l15 l16 l17 l18 2
def f_L_law_J883 (adK : Nat → Nat) (L : Nat) (xs : Nat → Int32) (g780 : PS → Nat → Nat → Nat → Int32 → Nat → Int32 → Int32 → Int32 → Int32 → Int32 → Int32 → Int32 → Int32 → Int32 → Int32 → Int32 → Int32 → Int32 → Nat → Nat → Int32 → Prop) (S : PS) (bc bs : Nat) (l1 : Nat) (l2 : Int32) (l3 : Nat) (l4 : Int32) (l5 : Int32) (l6 : Int32) (l7 : Int32) (l8 : Int32) (l9 : Int32) (l10 : Int32) (l11 : Int32) (l12 : Int32) (l13 : Int32) (l14 : Int32) (l15 : Int32) (l16 : Int32) (l17 : Nat) (l19 : Int32) (t0 : Nat) (t1 : Nat) : Prop :=
  isO S t1 1 (
  ∃ mc2 ms2 : Nat, mc2 ≤ bc ∧ ms2 ≤ bs ∧ (f_J4_append_15ec4_u adK S t1 t0 mc2 ms2 fun v3 S1 => (
  isO S1 v3 1 (
  ∃ mc5 ms5 : Nat, mc5 ≤ (bc - mc2) ∧ ms5 ≤ (bs - ms2) ∧ (f_J4_toString_0e30d S1 v3 mc5 ms5 fun v6 S4 => (
  g780 S4 ((bc - mc2) - mc5) ((bs - ms2) - ms5) l1 l2 l3 l4 l5 l6 l7 l8 l9 l10 l11 l12 l13 l14 l15 l16 l17 v6 (l19 + 1)))))))
def f_L_law_J859 (adK : Nat → Nat) (L : Nat) (xs : Nat → Int32) (g780 : PS → Nat → Nat → Nat → Int32 → Nat → Int32 → Int32 → Int32 → Int32 → Int32 → Int32 → Int32 → Int32 → Int32 → Int32 → Int32 → Int32 → Int32 → Nat → Nat → Int32 → Prop) (S : PS) (bc bs : Nat) (l1 : Nat) (l2 : Int32) (l3 : Nat) (l4 : Int32) (l5 : Int32) (l6 : Int32) (l7 : Int32) (l8 : Int32) (l9 : Int32) (l10 : Int32) (l11 : Int32) (l12 : Int32) (l13 : Int32) (l14 : Int32) (l15 : Int32) (l16 : Int32) (l17 : Nat) (l18 : Nat) (l19 : Int32) : Prop :=
  nO S 1 [.null, .int 0, .int 0, .int 0] 4 bc bs fun q1 S2 bc3 bs4 => (
  ∃ mc6 ms6 : Nat, mc6 ≤ bc3 ∧ ms6 ≤ bs4 ∧ (f_J4_init_da8c8 S2 q1 mc6 ms6 fun S5 => (
  isO S5 q1 1 (
  ∃ mc9 ms9 : Nat, mc9 ≤ (bc3 - mc6) ∧ ms9 ≤ (bs4 - ms6) ∧ (f_J4_append_15ec4_u adK S5 q1 l18 mc9 ms9 fun v10 S8 => (
  if l19 = 0 then
    f_L_law_J883 adK L xs g780 S8 ((bc3 - mc6) - mc9) ((bs4 - ms6) - ms9) l1 l2 l3 l4 l5 l6 l7 l8 l9 l10 l11 l12 l13 l14 l15 l16 l17 l19 (adK 3) v10
  else
    f_L_law_J883 adK L xs g780 S8 ((bc3 - mc6) - mc9) ((bs4 - ms6) - ms9) l1 l2 l3 l4 l5 l6 l7 l8 l9 l10 l11 l12 l13 l14 l15 l16 l17 l19 (adK 0) v10))))))
def f_L_law_J845 (adK : Nat → Nat) (L : Nat) (xs : Nat → Int32) (g789 : PS → Nat → Nat → Nat → Int32 → Nat → Int32 → Int32 → Int32 → Int32 → Int32 → Int32 → Int32 → Int32 → Int32 → Int32 → Int32 → Int32 → Int32 → Nat → Nat → Int32 → Int32 → Prop) (S : PS) (bc bs : Nat) (l1 : Nat) (l2 : Int32) (l3 : Nat) (l4 : Int32) (l5 : Int32) (l6 : Int32) (l7 : Int32) (l8 : Int32) (l9 : Int32) (l10 : Int32) (l11 : Int32) (l12 : Int32) (l13 : Int32) (l14 : Int32) (l15 : Int32) (l16 : Int32) (l17 : Nat) (l19 : Int32) (l20 : Int32) (t0 : Nat) (t1 : Nat) : Prop :=
  isO S t1 1 (
  ∃ mc2 ms2 : Nat, mc2 ≤ bc ∧ ms2 ≤ bs ∧ (f_J4_append_15ec4_u adK S t1 t0 mc2 ms2 fun v3 S1 => (
  isO S1 v3 1 (
  ∃ mc5 ms5 : Nat, mc5 ≤ (bc - mc2) ∧ ms5 ≤ (bs - ms2) ∧ (f_J4_toString_0e30d S1 v3 mc5 ms5 fun v6 S4 => (
  g789 S4 ((bc - mc2) - mc5) ((bs - ms2) - ms5) l1 l2 l3 l4 l5 l6 l7 l8 l9 l10 l11 l12 l13 l14 l15 l16 l17 v6 l19 (l20 + 1)))))))
def f_L_law_L789 (adK : Nat → Nat) (L : Nat) (xs : Nat → Int32) (g780 : PS → Nat → Nat → Nat → Int32 → Nat → Int32 → Int32 → Int32 → Int32 → Int32 → Int32 → Int32 → Int32 → Int32 → Int32 → Int32 → Int32 → Int32 → Nat → Nat → Int32 → Prop) : Nat → PS → Nat → Nat → Nat → Int32 → Nat → Int32 → Int32 → Int32 → Int32 → Int32 → Int32 → Int32 → Int32 → Int32 → Int32 → Int32 → Int32 → Int32 → Nat → Nat → Int32 → Int32 → Prop
  | 0, _, _, _, _, _, _, _, _, _, _, _, _, _, _, _, _, _, _, _, _, _, _, _ => False
  | n + 1, S, bc, bs, l1, l2, l3, l4, l5, l6, l7, l8, l9, l10, l11, l12, l13, l14, l15, l16, l17, l18, l19, l20 =>
  if l4 ≤ l20 then
    f_L_law_J859 adK L xs g780 S bc bs l1 l2 l3 l4 l5 l6 l7 l8 l9 l10 l11 l12 l13 l14 l15 l16 l17 l18 l19
  else
    nO S 1 [.null, .int 0, .int 0, .int 0] 4 bc bs fun q2 S3 bc4 bs5 => (
    ∃ mc7 ms7 : Nat, mc7 ≤ bc4 ∧ ms7 ≤ bs5 ∧ (f_J4_init_da8c8 S3 q2 mc7 ms7 fun S6 => (
    isO S6 q2 1 (
    ∃ mc10 ms10 : Nat, mc10 ≤ (bc4 - mc7) ∧ ms10 ≤ (bs5 - ms7) ∧ (f_J4_append_15ec4_u adK S6 q2 l18 mc10 ms10 fun v11 S9 => (
    if ((l6 >>> (l20 &&& 31)) &&& 1) = l19 then
      nO S9 1 [.null, .int 0, .int 0, .int 0] 4 ((bc4 - mc7) - mc10) ((bs5 - ms7) - ms10) fun q13 S14 bc15 bs16 => (
      ∃ mc18 ms18 : Nat, mc18 ≤ bc15 ∧ ms18 ≤ bs16 ∧ (f_J4_init_da8c8 S14 q13 mc18 ms18 fun S17 => (
      isO S17 q13 1 (
      ∃ mc21 ms21 : Nat, mc21 ≤ (bc15 - mc18) ∧ ms21 ≤ (bs16 - ms18) ∧ (f_J4_append_15ec4_u adK S17 q13 (adK 0) mc21 ms21 fun v22 S20 => (
      isO S20 v22 1 (
      ∃ mc24 ms24 : Nat, mc24 ≤ ((bc15 - mc18) - mc21) ∧ ms24 ≤ ((bs16 - ms18) - ms21) ∧ (f_J4_append_bf812 S20 v22 l20 mc24 ms24 fun v25 S23 => (
      isO S23 v25 1 (
      ∃ mc27 ms27 : Nat, mc27 ≤ (((bc15 - mc18) - mc21) - mc24) ∧ ms27 ≤ (((bs16 - ms18) - ms21) - ms24) ∧ (f_J4_toString_0e30d S23 v25 mc27 ms27 fun v28 S26 => (
      f_L_law_J845 adK L xs (f_L_law_L789 adK L xs g780 n) S26 ((((bc15 - mc18) - mc21) - mc24) - mc27) ((((bs16 - ms18) - ms21) - ms24) - ms27) l1 l2 l3 l4 l5 l6 l7 l8 l9 l10 l11 l12 l13 l14 l15 l16 l17 l19 l20 v28 v11))))))))))))
    else
      f_L_law_J845 adK L xs (f_L_law_L789 adK L xs g780 n) S9 ((bc4 - mc7) - mc10) ((bs5 - ms7) - ms10) l1 l2 l3 l4 l5 l6 l7 l8 l9 l10 l11 l12 l13 l14 l15 l16 l17 l19 l20 (adK 0) v11))))))
def f_L_law_L780 (adK : Nat → Nat) (L : Nat) (xs : Nat → Int32) (g15 : PS → Nat → Nat → Nat → Int32 → Prop) : Nat → PS → Nat → Nat → Nat → Int32 → Nat → Int32 → Int32 → Int32 → Int32 → Int32 → Int32 → Int32 → Int32 → Int32 → Int32 → Int32 → Int32 → Int32 → Nat → Nat → Int32 → Prop
  | 0, _, _, _, _, _, _, _, _, _, _, _, _, _, _, _, _, _, _, _, _, _, _ => False
  | n + 1, S, bc, bs, l1, l2, l3, l4, l5, l6, l7, l8, l9, l10, l11, l12, l13, l14, l15, l16, l17, l18, l19 =>
  if 2 ≤ l19 then
    f_L_law_J897 adK L xs g15 S bc bs l1 l2 l3 l4 l5 l6 l7 l8 l9 l10 l11 l12 l13 l14 l15 l16 l17 l18
  else
    f_L_law_L789 adK L xs (f_L_law_L780 adK L xs g15 n) 4096 S bc bs l1 l2 l3 l4 l5 l6 l7 l8 l9 l10 l11 l12 l13 l14 l15 l16 l17 l18 l19 0
def f_L_law_J777 (adK : Nat → Nat) (L : Nat) (xs : Nat → Int32) (g15 : PS → Nat → Nat → Nat → Int32 → Prop) (S : PS) (bc bs : Nat) (l1 : Nat) (l2 : Int32) (l3 : Nat) (l4 : Int32) (l5 : Int32) (l6 : Int32) (l7 : Int32) (l8 : Int32) (l9 : Int32) (l10 : Int32) (l11 : Int32) (l12 : Int32) (l13 : Int32) (l14 : Int32) (l15 : Int32) (l16 : Int32) (l17 : Nat) (l18 : Nat) : Prop :=
  f_L_law_L780 adK L xs g15 4096 S bc bs l1 l2 l3 l4 l5 l6 l7 l8 l9 l10 l11 l12 l13 l14 l15 l16 l17 l18 0
def f_L_law_J771 (adK : Nat → Nat) (L : Nat) (xs : Nat → Int32) (g138 : PS → Nat → Nat → Nat → Int32 → Nat → Int32 → Int32 → Int32 → Int32 → Int32 → Int32 → Int32 → Int32 → Int32 → Int32 → Int32 → Int32 → Int32 → Nat → Nat → Int32 → Prop) (S : PS) (bc bs : Nat) (l1 : Nat) (l2 : Int32) (l3 : Nat) (l4 : Int32) (l5 : Int32) (l6 : Int32) (l7 : Int32) (l8 : Int32) (l9 : Int32) (l10 : Int32) (l11 : Int32) (l12 : Int32) (l13 : Int32) (l14 : Int32) (l15 : Int32) (l16 : Int32) (l17 : Nat) (l18 : Nat) (l19 : Int32) : Prop :=
  g138 S bc bs l1 l2 l3 l4 l5 l6 l7 l8 l9 l10 l11 l12 l13 l14 l15 l16 l17 l18 (l19 + 1)
def f_L_law_L713 (adK : Nat → Nat) (L : Nat) (xs : Nat → Int32) (g138 : PS → Nat → Nat → Nat → Int32 → Nat → Int32 → Int32 → Int32 → Int32 → Int32 → Int32 → Int32 → Int32 → Int32 → Int32 → Int32 → Int32 → Int32 → Nat → Nat → Int32 → Prop) : Nat → PS → Nat → Nat → Nat → Int32 → Nat → Int32 → Int32 → Int32 → Int32 → Int32 → Int32 → Int32 → Int32 → Int32 → Int32 → Int32 → Int32 → Int32 → Nat → Nat → Int32 → Int32 → Prop
  | 0, _, _, _, _, _, _, _, _, _, _, _, _, _, _, _, _, _, _, _, _, _, _, _ => False
  | n + 1, S, bc, bs, l1, l2, l3, l4, l5, l6, l7, l8, l9, l10, l11, l12, l13, l14, l15, l16, l17, l18, l19, l25 =>
  if l19 ≤ l25 then
    f_L_law_J771 adK L xs g138 S bc bs l1 l2 l3 l4 l5 l6 l7 l8 l9 l10 l11 l12 l13 l14 l15 l16 l17 l18 l19
  else
    f_L_least_ S l3 l19 l25 fun v3 S2 => (
    isO S2 l1 11 (
    ∃ mc5 ms5 : Nat, mc5 ≤ bc ∧ ms5 ≤ bs ∧ (f_X7_between S2 l1 l19 l25 mc5 ms5 (fun v6 S4 => (
    if v6 = v3 then
      isO S4 l1 11 (
      ∃ mc9 ms9 : Nat, mc9 ≤ (bc - mc5) ∧ ms9 ≤ (bs - ms5) ∧ (f_X7_betweenAgain S4 l1 l25 l19 mc9 ms9 (fun v10 S8 => (
      if v10 = v3 then
        if l14 ≤ v3 then
          (f_L_law_L713 adK L xs g138 n) S8 ((bc - mc5) - mc9) ((bs - ms5) - ms9) l1 l2 l3 l4 l5 l6 l7 l8 l9 l10 l11 l12 l13 l14 l15 l16 l17 l18 l19 (l25 + 1)
        else
          False
      else
        False)) (fun _ _ => False)))
    else
      False)) (fun _ _ => False))))
def f_L_law_J710 (adK : Nat → Nat) (L : Nat) (xs : Nat → Int32) (g138 : PS → Nat → Nat → Nat → Int32 → Nat → Int32 → Int32 → Int32 → Int32 → Int32 → Int32 → Int32 → Int32 → Int32 → Int32 → Int32 → Int32 → Int32 → Nat → Nat → Int32 → Prop) (S : PS) (bc bs : Nat) (l1 : Nat) (l2 : Int32) (l3 : Nat) (l4 : Int32) (l5 : Int32) (l6 : Int32) (l7 : Int32) (l8 : Int32) (l9 : Int32) (l10 : Int32) (l11 : Int32) (l12 : Int32) (l13 : Int32) (l14 : Int32) (l15 : Int32) (l16 : Int32) (l17 : Nat) (l18 : Nat) (l19 : Int32) : Prop :=
  f_L_law_L713 adK L xs g138 4096 S bc bs l1 l2 l3 l4 l5 l6 l7 l8 l9 l10 l11 l12 l13 l14 l15 l16 l17 l18 l19 0
def f_L_law_J706 (adK : Nat → Nat) (L : Nat) (xs : Nat → Int32) (g138 : PS → Nat → Nat → Nat → Int32 → Nat → Int32 → Int32 → Int32 → Int32 → Int32 → Int32 → Int32 → Int32 → Int32 → Int32 → Int32 → Int32 → Int32 → Nat → Nat → Int32 → Prop) (S : PS) (bc bs : Nat) (l1 : Nat) (l2 : Int32) (l3 : Nat) (l4 : Int32) (l5 : Int32) (l6 : Int32) (l7 : Int32) (l8 : Int32) (l9 : Int32) (l10 : Int32) (l11 : Int32) (l12 : Int32) (l13 : Int32) (l14 : Int32) (l15 : Int32) (l17 : Nat) (l18 : Nat) (l19 : Int32) : Prop :=
  f_L_law_J710 adK L xs g138 S bc bs l1 l2 l3 l4 l5 l6 l7 l8 l9 l10 l11 l12 l13 l14 l15 l19 l17 l18 l19
def f_L_law_J554 (adK : Nat → Nat) (L : Nat) (xs : Nat → Int32) (g138 : PS → Nat → Nat → Nat → Int32 → Nat → Int32 → Int32 → Int32 → Int32 → Int32 → Int32 → Int32 → Int32 → Int32 → Int32 → Int32 → Int32 → Int32 → Nat → Nat → Int32 → Prop) (S : PS) (bc bs : Nat) (l1 : Nat) (l2 : Int32) (l3 : Nat) (l4 : Int32) (l5 : Int32) (l6 : Int32) (l7 : Int32) (l8 : Int32) (l9 : Int32) (l10 : Int32) (l11 : Int32) (l12 : Int32) (l13 : Int32) (l14 : Int32) (l15 : Int32) (l16 : Int32) (l17 : Nat) (l18 : Nat) (l19 : Int32) (l20 : Int32) (l21 : Int32) (l22 : Int32) (t0 : Int32) : Prop :=
  f_L_feud S l3 (l6 ^^^ ((1 : Int32) <<< (l19 &&& 31))) fun v2 S1 => (
  isO S1 l1 11 (
  ∃ mc4 ms4 : Nat, mc4 ≤ bc ∧ ms4 ≤ bs ∧ (f_X7_householdOf S1 l1 l19 1 mc4 ms4 (fun v5 S3 => (
  if v5 = l20 then
    isO S3 l1 11 (
    ∃ mc8 ms8 : Nat, mc8 ≤ (bc - mc4) ∧ ms8 ≤ (bs - ms4) ∧ (f_X7_householdOf S3 l1 l19 2 mc8 ms8 (fun v9 S7 => (
    f_L_tie S7 l3 ((1 : Int32) <<< (l19 &&& 31)) l5 fun v11 S10 => (
    if v9 = v11 then
      isO S10 l1 11 (
      ∃ mc14 ms14 : Nat, mc14 ≤ ((bc - mc4) - mc8) ∧ ms14 ≤ ((bs - ms4) - ms8) ∧ (f_X7_householdOf S10 l1 l19 3 mc14 ms14 (fun v15 S13 => (
      f_L_tie S13 l3 ((1 : Int32) <<< (l19 &&& 31)) t0 fun v17 S16 => (
      if v15 = v17 then
        isO S16 l1 11 (
        ∃ mc20 ms20 : Nat, mc20 ≤ (((bc - mc4) - mc8) - mc14) ∧ ms20 ≤ (((bs - ms4) - ms8) - ms14) ∧ (f_X7_householdOf S16 l1 l19 4 mc20 ms20 (fun v21 S19 => (
        f_L_tie S19 l3 ((1 : Int32) <<< (l19 &&& 31)) (l5 &&& (t0 ^^^ (-1))) fun v23 S22 => (
        if v21 = v23 then
          isO S22 l1 11 (
          ∃ mc26 ms26 : Nat, mc26 ≤ ((((bc - mc4) - mc8) - mc14) - mc20) ∧ ms26 ≤ ((((bs - ms4) - ms8) - ms14) - ms20) ∧ (f_X7_householdOf S22 l1 l19 5 mc26 ms26 (fun v27 S25 => (
          if v27 = l21 then
            isO S25 l1 11 (
            ∃ mc30 ms30 : Nat, mc30 ≤ (((((bc - mc4) - mc8) - mc14) - mc20) - mc26) ∧ ms30 ≤ (((((bs - ms4) - ms8) - ms14) - ms20) - ms26) ∧ (f_X7_partOf S25 l1 l19 mc30 ms30 (fun v31 S29 => (
            if v31 = l22 then
              isO S29 l1 11 (
              ∃ mc34 ms34 : Nat, mc34 ≤ ((((((bc - mc4) - mc8) - mc14) - mc20) - mc26) - mc30) ∧ ms34 ≤ ((((((bs - ms4) - ms8) - ms14) - ms20) - ms26) - ms30) ∧ (f_X7_ifMoved S29 l1 l19 mc34 ms34 (fun v35 S33 => (
              if v35 = v2 then
                if l16 = (-30000) then
                  f_L_law_J706 adK L xs g138 S33 (((((((bc - mc4) - mc8) - mc14) - mc20) - mc26) - mc30) - mc34) (((((((bs - ms4) - ms8) - ms14) - ms20) - ms26) - ms30) - ms34) l1 l2 l3 l4 l5 l6 l7 l8 l9 l10 l11 l12 l13 l14 l15 l17 l18 l19
                else
                  f_L_feud S33 l3 (l6 ^^^ ((1 : Int32) <<< (l16 &&& 31))) fun v39 S38 => (
                  if v39 ≤ v2 then
                    f_L_law_J710 adK L xs g138 S38 (((((((bc - mc4) - mc8) - mc14) - mc20) - mc26) - mc30) - mc34) (((((((bs - ms4) - ms8) - ms14) - ms20) - ms26) - ms30) - ms34) l1 l2 l3 l4 l5 l6 l7 l8 l9 l10 l11 l12 l13 l14 l15 l16 l17 l18 l19
                  else
                    f_L_law_J706 adK L xs g138 S38 (((((((bc - mc4) - mc8) - mc14) - mc20) - mc26) - mc30) - mc34) (((((((bs - ms4) - ms8) - ms14) - ms20) - ms26) - ms30) - ms34) l1 l2 l3 l4 l5 l6 l7 l8 l9 l10 l11 l12 l13 l14 l15 l17 l18 l19)
              else
                False)) (fun _ _ => False)))
            else
              False)) (fun _ _ => False)))
          else
            False)) (fun _ _ => False)))
        else
          False))) (fun _ _ => False)))
      else
        False))) (fun _ _ => False)))
    else
      False))) (fun _ _ => False)))
  else
    False)) (fun _ _ => False))))
def f_L_law_J528 (adK : Nat → Nat) (L : Nat) (xs : Nat → Int32) (g138 : PS → Nat → Nat → Nat → Int32 → Nat → Int32 → Int32 → Int32 → Int32 → Int32 → Int32 → Int32 → Int32 → Int32 → Int32 → Int32 → Int32 → Int32 → Nat → Nat → Int32 → Prop) (S : PS) (bc bs : Nat) (l1 : Nat) (l2 : Int32) (l3 : Nat) (l4 : Int32) (l5 : Int32) (l6 : Int32) (l7 : Int32) (l8 : Int32) (l9 : Int32) (l10 : Int32) (l11 : Int32) (l13 : Int32) (l14 : Int32) (l15 : Int32) (l16 : Int32) (l17 : Nat) (l18 : Nat) (l19 : Int32) (l20 : Int32) (l21 : Int32) (l22 : Int32) (t0 : Int32) (t1 : Int32) : Prop :=
  if ((l6 >>> (l19 &&& 31)) &&& 1) = 1 then
    f_L_law_J554 adK L xs g138 S bc bs l1 l2 l3 l4 l5 l6 l7 l8 l9 l10 l11 (t1 + t0) l13 l14 l15 l16 l17 l18 l19 l20 l21 l22 l6
  else
    f_L_law_J554 adK L xs g138 S bc bs l1 l2 l3 l4 l5 l6 l7 l8 l9 l10 l11 (t1 + t0) l13 l14 l15 l16 l17 l18 l19 l20 l21 l22 (l5 &&& (l6 ^^^ (-1)))
def f_L_law_J505 (adK : Nat → Nat) (L : Nat) (xs : Nat → Int32) (g138 : PS → Nat → Nat → Nat → Int32 → Nat → Int32 → Int32 → Int32 → Int32 → Int32 → Int32 → Int32 → Int32 → Int32 → Int32 → Int32 → Int32 → Int32 → Nat → Nat → Int32 → Prop) (S : PS) (bc bs : Nat) (l1 : Nat) (l2 : Int32) (l3 : Nat) (l4 : Int32) (l5 : Int32) (l6 : Int32) (l7 : Int32) (l8 : Int32) (l9 : Int32) (l11 : Int32) (l12 : Int32) (l13 : Int32) (l14 : Int32) (l15 : Int32) (l16 : Int32) (l17 : Nat) (l18 : Nat) (l19 : Int32) (l20 : Int32) (l21 : Int32) (l22 : Int32) (t0 : Int32) (t1 : Int32) : Prop :=
  if (l22 &&& (-l22)) = ((1 : Int32) <<< (l19 &&& 31)) then
    f_L_law_J528 adK L xs g138 S bc bs l1 l2 l3 l4 l5 l6 l7 l8 l9 (t1 + t0) l11 l13 l14 l15 l16 l17 l18 l19 l20 l21 l22 1 l12
  else
    f_L_law_J528 adK L xs g138 S bc bs l1 l2 l3 l4 l5 l6 l7 l8 l9 (t1 + t0) l11 l13 l14 l15 l16 l17 l18 l19 l20 l21 l22 0 l12
def f_L_law_J493 (adK : Nat → Nat) (L : Nat) (xs : Nat → Int32) (g138 : PS → Nat → Nat → Nat → Int32 → Nat → Int32 → Int32 → Int32 → Int32 → Int32 → Int32 → Int32 → Int32 → Int32 → Int32 → Int32 → Int32 → Int32 → Nat → Nat → Int32 → Prop) (S : PS) (bc bs : Nat) (l1 : Nat) (l2 : Int32) (l3 : Nat) (l4 : Int32) (l5 : Int32) (l6 : Int32) (l7 : Int32) (l8 : Int32) (l9 : Int32) (l10 : Int32) (l11 : Int32) (l12 : Int32) (l13 : Int32) (l14 : Int32) (l15 : Int32) (l16 : Int32) (l17 : Nat) (l18 : Nat) (l19 : Int32) (l20 : Int32) (l21 : Int32) (l22 : Int32) : Prop :=
  if l20 = 0 then
    f_L_law_J505 adK L xs g138 S bc bs l1 l2 l3 l4 l5 l6 l7 l8 l9 l11 l12 l13 l14 l15 l16 l17 l18 l19 l20 l21 l22 1 l10
  else
    f_L_law_J505 adK L xs g138 S bc bs l1 l2 l3 l4 l5 l6 l7 l8 l9 l11 l12 l13 l14 l15 l16 l17 l18 l19 l20 l21 l22 0 l10
def f_L_law_J487 (adK : Nat → Nat) (L : Nat) (xs : Nat → Int32) (g442 : PS → Nat → Nat → Nat → Int32 → Nat → Int32 → Int32 → Int32 → Int32 → Int32 → Int32 → Int32 → Int32 → Int32 → Int32 → Int32 → Int32 → Int32 → Nat → Nat → Int32 → Int32 → Int32 → Int32 → Int32 → Prop) (S : PS) (bc bs : Nat) (l1 : Nat) (l2 : Int32) (l3 : Nat) (l4 : Int32) (l5 : Int32) (l6 : Int32) (l7 : Int32) (l8 : Int32) (l9 : Int32) (l10 : Int32) (l11 : Int32) (l12 : Int32) (l13 : Int32) (l14 : Int32) (l15 : Int32) (l16 : Int32) (l17 : Nat) (l18 : Nat) (l19 : Int32) (l20 : Int32) (l21 : Int32) (l22 : Int32) (l23 : Int32) : Prop :=
  g442 S bc bs l1 l2 l3 l4 l5 l6 l7 l8 l9 l10 l11 l12 l13 l14 l15 l16 l17 l18 l19 l20 l21 l22 (l23 + 1)
def f_L_law_J481 (adK : Nat → Nat) (L : Nat) (xs : Nat → Int32) (g452 : PS → Nat → Nat → Nat → Int32 → Nat → Int32 → Int32 → Int32 → Int32 → Int32 → Int32 → Int32 → Int32 → Int32 → Int32 → Int32 → Int32 → Int32 → Nat → Nat → Int32 → Int32 → Int32 → Int32 → Int32 → Int32 → Prop) (S : PS) (bc bs : Nat) (l1 : Nat) (l2 : Int32) (l3 : Nat) (l4 : Int32) (l5 : Int32) (l6 : Int32) (l7 : Int32) (l8 : Int32) (l9 : Int32) (l10 : Int32) (l11 : Int32) (l12 : Int32) (l13 : Int32) (l14 : Int32) (l15 : Int32) (l16 : Int32) (l17 : Nat) (l18 : Nat) (l19 : Int32) (l20 : Int32) (l21 : Int32) (l22 : Int32) (l23 : Int32) (l24 : Int32) : Prop :=
  g452 S bc bs l1 l2 l3 l4 l5 l6 l7 l8 l9 l10 l11 l12 l13 l14 l15 l16 l17 l18 l19 l20 l21 l22 l23 (l24 + 1)
def f_L_law_L452 (adK : Nat → Nat) (L : Nat) (xs : Nat → Int32) (g442 : PS → Nat → Nat → Nat → Int32 → Nat → Int32 → Int32 → Int32 → Int32 → Int32 → Int32 → Int32 → Int32 → Int32 → Int32 → Int32 → Int32 → Int32 → Nat → Nat → Int32 → Int32 → Int32 → Int32 → Int32 → Prop) : Nat → PS → Nat → Nat → Nat → Int32 → Nat → Int32 → Int32 → Int32 → Int32 → Int32 → Int32 → Int32 → Int32 → Int32 → Int32 → Int32 → Int32 → Int32 → Nat → Nat → Int32 → Int32 → Int32 → Int32 → Int32 → Int32 → Prop
  | 0, _, _, _, _, _, _, _, _, _, _, _, _, _, _, _, _, _, _, _, _, _, _, _, _, _, _, _ => False
  | n + 1, S, bc, bs, l1, l2, l3, l4, l5, l6, l7, l8, l9, l10, l11, l12, l13, l14, l15, l16, l17, l18, l19, l20, l21, l22, l23, l24 =>
  if l4 ≤ l24 then
    f_L_law_J487 adK L xs g442 S bc bs l1 l2 l3 l4 l5 l6 l7 l8 l9 l10 l11 l12 l13 l14 l15 l16 l17 l18 l19 l20 l21 l22 l23
  else
    f_L_tie S l3 ((1 : Int32) <<< (l24 &&& 31)) l22 fun v3 S2 => (
    if v3 ≤ 0 then
      f_L_law_J481 adK L xs (f_L_law_L452 adK L xs g442 n) S2 bc bs l1 l2 l3 l4 l5 l6 l7 l8 l9 l10 l11 l12 l13 l14 l15 l16 l17 l18 l19 l20 l21 l22 l23 l24
    else
      f_L_law_J481 adK L xs (f_L_law_L452 adK L xs g442 n) S2 bc bs l1 l2 l3 l4 l5 l6 l7 l8 l9 l10 l11 l12 l13 l14 l15 l16 l17 l18 l19 l20 l21 (l22 ||| ((1 : Int32) <<< (l24 &&& 31))) l23 l24)
def f_L_law_L442 (adK : Nat → Nat) (L : Nat) (xs : Nat → Int32) (g138 : PS → Nat → Nat → Nat → Int32 → Nat → Int32 → Int32 → Int32 → Int32 → Int32 → Int32 → Int32 → Int32 → Int32 → Int32 → Int32 → Int32 → Int32 → Nat → Nat → Int32 → Prop) : Nat → PS → Nat → Nat → Nat → Int32 → Nat → Int32 → Int32 → Int32 → Int32 → Int32 → Int32 → Int32 → Int32 → Int32 → Int32 → Int32 → Int32 → Int32 → Nat → Nat → Int32 → Int32 → Int32 → Int32 → Int32 → Prop
  | 0, _, _, _, _, _, _, _, _, _, _, _, _, _, _, _, _, _, _, _, _, _, _, _, _, _, _ => False
  | n + 1, S, bc, bs, l1, l2, l3, l4, l5, l6, l7, l8, l9, l10, l11, l12, l13, l14, l15, l16, l17, l18, l19, l20, l21, l22, l23 =>
  if l4 ≤ l23 then
    f_L_law_J493 adK L xs g138 S bc bs l1 l2 l3 l4 l5 l6 l7 l8 l9 l10 l11 l12 l13 l14 l15 l16 l17 l18 l19 l20 l21 l22
  else
    f_L_law_L452 adK L xs (f_L_law_L442 adK L xs g138 n) 4096 S bc bs l1 l2 l3 l4 l5 l6 l7 l8 l9 l10 l11 l12 l13 l14 l15 l16 l17 l18 l19 l20 l21 l22 l23 0
def f_L_law_J439 (adK : Nat → Nat) (L : Nat) (xs : Nat → Int32) (g138 : PS → Nat → Nat → Nat → Int32 → Nat → Int32 → Int32 → Int32 → Int32 → Int32 → Int32 → Int32 → Int32 → Int32 → Int32 → Int32 → Int32 → Int32 → Nat → Nat → Int32 → Prop) (S : PS) (bc bs : Nat) (l1 : Nat) (l2 : Int32) (l3 : Nat) (l4 : Int32) (l5 : Int32) (l6 : Int32) (l7 : Int32) (l8 : Int32) (l9 : Int32) (l10 : Int32) (l11 : Int32) (l12 : Int32) (l13 : Int32) (l14 : Int32) (l15 : Int32) (l16 : Int32) (l17 : Nat) (l18 : Nat) (l19 : Int32) (l20 : Int32) (l21 : Int32) (l22 : Int32) : Prop :=
  f_L_law_L442 adK L xs g138 4096 S bc bs l1 l2 l3 l4 l5 l6 l7 l8 l9 l10 l11 l12 l13 l14 l15 l16 l17 l18 l19 l20 l21 l22 0
def f_L_law_J433 (adK : Nat → Nat) (L : Nat) (xs : Nat → Int32) (g160 : PS → Nat → Nat → Nat → Int32 → Nat → Int32 → Int32 → Int32 → Int32 → Int32 → Int32 → Int32 → Int32 → Int32 → Int32 → Int32 → Int32 → Int32 → Nat → Nat → Int32 → Int32 → Int32 → Int32 → Int32 → Prop) (S : PS) (bc bs : Nat) (l1 : Nat) (l2 : Int32) (l3 : Nat) (l4 : Int32) (l5 : Int32) (l6 : Int32) (l7 : Int32) (l8 : Int32) (l9 : Int32) (l10 : Int32) (l11 : Int32) (l12 : Int32) (l13 : Int32) (l14 : Int32) (l15 : Int32) (l16 : Int32) (l17 : Nat) (l18 : Nat) (l19 : Int32) (l20 : Int32) (l21 : Int32) (l22 : Int32) (l23 : Int32) : Prop :=
  g160 S bc bs l1 l2 l3 l4 l5 l6 l7 l8 l9 l10 l11 l12 l13 l14 l15 l16 l17 l18 l19 l20 l21 l22 (l23 + 1)
def f_L_law_J423 (adK : Nat → Nat) (L : Nat) (xs : Nat → Int32) (g160 : PS → Nat → Nat → Nat → Int32 → Nat → Int32 → Int32 → Int32 → Int32 → Int32 → Int32 → Int32 → Int32 → Int32 → Int32 → Int32 → Int32 → Int32 → Nat → Nat → Int32 → Int32 → Int32 → Int32 → Int32 → Prop) (S : PS) (bc bs : Nat) (l1 : Nat) (l2 : Int32) (l3 : Nat) (l4 : Int32) (l5 : Int32) (l6 : Int32) (l7 : Int32) (l8 : Int32) (l9 : Int32) (l10 : Int32) (l12 : Int32) (l13 : Int32) (l14 : Int32) (l15 : Int32) (l16 : Int32) (l17 : Nat) (l18 : Nat) (l19 : Int32) (l20 : Int32) (l21 : Int32) (l22 : Int32) (l23 : Int32) : Prop :=
  f_L_law_J433 adK L xs g160 S bc bs l1 l2 l3 l4 l5 l6 l7 l8 l9 l10 (((10 : Int32) * l19) + l23) l12 l13 l14 l15 l16 l17 l18 l19 l20 l21 l22 l23
def f_L_law_J359 (adK : Nat → Nat) (L : Nat) (xs : Nat → Int32) (g160 : PS → Nat → Nat → Nat → Int32 → Nat → Int32 → Int32 → Int32 → Int32 → Int32 → Int32 → Int32 → Int32 → Int32 → Int32 → Int32 → Int32 → Int32 → Nat → Nat → Int32 → Int32 → Int32 → Int32 → Int32 → Prop) (S : PS) (bc bs : Nat) (l1 : Nat) (l2 : Int32) (l3 : Nat) (l4 : Int32) (l5 : Int32) (l6 : Int32) (l7 : Int32) (l8 : Int32) (l9 : Int32) (l10 : Int32) (l11 : Int32) (l12 : Int32) (l13 : Int32) (l14 : Int32) (l15 : Int32) (l16 : Int32) (l18 : Nat) (l19 : Int32) (l20 : Int32) (l21 : Int32) (l22 : Int32) (l23 : Int32) (t0 : Nat) (t1 : Nat) : Prop :=
  isO S t1 1 (
  ∃ mc2 ms2 : Nat, mc2 ≤ bc ∧ ms2 ≤ bs ∧ (f_J4_append_15ec4_u adK S t1 t0 mc2 ms2 fun v3 S1 => (
  isO S1 v3 1 (
  ∃ mc5 ms5 : Nat, mc5 ≤ (bc - mc2) ∧ ms5 ≤ (bs - ms2) ∧ (f_J4_append_bf812 S1 v3 l19 mc5 ms5 fun v6 S4 => (
  isO S4 v6 1 (
  ∃ mc8 ms8 : Nat, mc8 ≤ ((bc - mc2) - mc5) ∧ ms8 ≤ ((bs - ms2) - ms5) ∧ (f_J4_append_bf812 S4 v6 l23 mc8 ms8 fun v9 S7 => (
  isO S7 v9 1 (
  ∃ mc11 ms11 : Nat, mc11 ≤ (((bc - mc2) - mc5) - mc8) ∧ ms11 ≤ (((bs - ms2) - ms5) - ms8) ∧ (f_J4_append_15ec4_u adK S7 v9 (adK 2) mc11 ms11 fun v12 S10 => (
  aQ S10 l3 l19 fun v13 => (
  aI S10 v13 0 l23 fun v14 => (
  isO S10 v12 1 (
  ∃ mc16 ms16 : Nat, mc16 ≤ ((((bc - mc2) - mc5) - mc8) - mc11) ∧ ms16 ≤ ((((bs - ms2) - ms5) - ms8) - ms11) ∧ (f_J4_append_bf812 S10 v12 v14 mc16 ms16 fun v17 S15 => (
  isO S15 v17 1 (
  ∃ mc19 ms19 : Nat, mc19 ≤ (((((bc - mc2) - mc5) - mc8) - mc11) - mc16) ∧ ms19 ≤ (((((bs - ms2) - ms5) - ms8) - ms11) - ms16) ∧ (f_J4_toString_0e30d S15 v17 mc19 ms19 fun v20 S18 => (
  if l11 = (-30000) then
    f_L_law_J423 adK L xs g160 S18 ((((((bc - mc2) - mc5) - mc8) - mc11) - mc16) - mc19) ((((((bs - ms2) - ms5) - ms8) - ms11) - ms16) - ms19) l1 l2 l3 l4 l5 l6 l7 l8 l9 l10 l12 l13 l14 l15 l16 v20 l18 l19 l20 l21 l22 l23
  else
    aQ S18 l3 l19 fun v22 => (
    aI S18 v22 0 l23 fun v23 => (
    (¬ (10 : Int32) = 0) ∧ (
    aQ S18 l3 (l11 / 10) fun v24 => (
    (¬ (10 : Int32) = 0) ∧ (
    aI S18 v24 0 (l11 - l11 / 10 * 10) fun v25 => (
    if v23 ≤ v25 then
      f_L_law_J433 adK L xs g160 S18 ((((((bc - mc2) - mc5) - mc8) - mc11) - mc16) - mc19) ((((((bs - ms2) - ms5) - ms8) - ms11) - ms16) - ms19) l1 l2 l3 l4 l5 l6 l7 l8 l9 l10 l11 l12 l13 l14 l15 l16 v20 l18 l19 l20 l21 l22 l23
    else
      f_L_law_J423 adK L xs g160 S18 ((((((bc - mc2) - mc5) - mc8) - mc11) - mc16) - mc19) ((((((bs - ms2) - ms5) - ms8) - ms11) - ms16) - ms19) l1 l2 l3 l4 l5 l6 l7 l8 l9 l10 l12 l13 l14 l15 l16 v20 l18 l19 l20 l21 l22 l23))))))))))))))))))))))))))
def f_L_law_J331 (adK : Nat → Nat) (L : Nat) (xs : Nat → Int32) (g160 : PS → Nat → Nat → Nat → Int32 → Nat → Int32 → Int32 → Int32 → Int32 → Int32 → Int32 → Int32 → Int32 → Int32 → Int32 → Int32 → Int32 → Int32 → Nat → Nat → Int32 → Int32 → Int32 → Int32 → Int32 → Prop) (S : PS) (bc bs : Nat) (l1 : Nat) (l2 : Int32) (l3 : Nat) (l4 : Int32) (l5 : Int32) (l6 : Int32) (l7 : Int32) (l8 : Int32) (l10 : Int32) (l11 : Int32) (l12 : Int32) (l13 : Int32) (l14 : Int32) (l15 : Int32) (l16 : Int32) (l17 : Nat) (l18 : Nat) (l19 : Int32) (l20 : Int32) (l21 : Int32) (l22 : Int32) (l23 : Int32) (t0 : Int32) (t1 : Int32) : Prop :=
  nO S 1 [.null, .int 0, .int 0, .int 0] 4 bc bs fun q1 S2 bc3 bs4 => (
  ∃ mc6 ms6 : Nat, mc6 ≤ bc3 ∧ ms6 ≤ bs4 ∧ (f_J4_init_da8c8 S2 q1 mc6 ms6 fun S5 => (
  isO S5 q1 1 (
  ∃ mc9 ms9 : Nat, mc9 ≤ (bc3 - mc6) ∧ ms9 ≤ (bs4 - ms6) ∧ (f_J4_append_15ec4_u adK S5 q1 l17 mc9 ms9 fun v10 S8 => (
  if l7 ≤ 1 then
    f_L_law_J359 adK L xs g160 S8 ((bc3 - mc6) - mc9) ((bs4 - ms6) - ms9) l1 l2 l3 l4 l5 l6 l7 l8 (t1 + t0) l10 l11 l12 l13 l14 l15 l16 l18 l19 l20 l21 l22 l23 (adK 0) v10
  else
    f_L_law_J359 adK L xs g160 S8 ((bc3 - mc6) - mc9) ((bs4 - ms6) - ms9) l1 l2 l3 l4 l5 l6 l7 l8 (t1 + t0) l10 l11 l12 l13 l14 l15 l16 l18 l19 l20 l21 l22 l23 (adK 1) v10))))))
def f_L_law_J253 (adK : Nat → Nat) (L : Nat) (xs : Nat → Int32) (g160 : PS → Nat → Nat → Nat → Int32 → Nat → Int32 → Int32 → Int32 → Int32 → Int32 → Int32 → Int32 → Int32 → Int32 → Int32 → Int32 → Int32 → Int32 → Nat → Nat → Int32 → Int32 → Int32 → Int32 → Int32 → Prop) (S : PS) (bc bs : Nat) (l1 : Nat) (l2 : Int32) (l3 : Nat) (l4 : Int32) (l5 : Int32) (l6 : Int32) (l7 : Int32) (l8 : Int32) (l9 : Int32) (l10 : Int32) (l11 : Int32) (l12 : Int32) (l13 : Int32) (l14 : Int32) (l15 : Int32) (l16 : Int32) (l17 : Nat) (l18 : Nat) (l19 : Int32) (l20 : Int32) (l21 : Int32) (l22 : Int32) (l23 : Int32) : Prop :=
  if l23 ≤ l19 then
    f_L_law_J433 adK L xs g160 S bc bs l1 l2 l3 l4 l5 l6 l7 l8 l9 l10 l11 l12 l13 l14 l15 l16 l17 l18 l19 l20 l21 l22 l23
  else
    aQ S l3 l19 fun v2 => (
    aI S v2 0 l23 fun v3 => (
    if v3 = 0 then
      f_L_law_J433 adK L xs g160 S bc bs l1 l2 l3 l4 l5 l6 l7 l8 l9 l10 l11 l12 l13 l14 l15 l16 l17 l18 l19 l20 l21 l22 l23
    else
      ∃ mc6 ms6 : Nat, mc6 ≤ bc ∧ ms6 ≤ bs ∧ (f_L_bondAt S l1 l7 mc6 ms6 fun v7 S5 => (
      if v7 = (((10 : Int32) * l19) + l23) then
        aQ S5 l3 l19 fun v9 => (
        aI S5 v9 0 l23 fun v10 => (
        if ((l6 >>> (l19 &&& 31)) &&& 1) = ((l6 >>> (l23 &&& 31)) &&& 1) then
          f_L_law_J331 adK L xs g160 S5 (bc - mc6) (bs - ms6) l1 l2 l3 l4 l5 l6 (l7 + 1) (l8 + v10) l10 l11 l12 l13 l14 l15 l16 l17 l18 l19 l20 l21 l22 l23 0 l9
        else
          f_L_law_J331 adK L xs g160 S5 (bc - mc6) (bs - ms6) l1 l2 l3 l4 l5 l6 (l7 + 1) (l8 + v10) l10 l11 l12 l13 l14 l15 l16 l17 l18 l19 l20 l21 l22 l23 1 l9))
      else
        False))))
def f_L_law_J246 (adK : Nat → Nat) (L : Nat) (xs : Nat → Int32) (g160 : PS → Nat → Nat → Nat → Int32 → Nat → Int32 → Int32 → Int32 → Int32 → Int32 → Int32 → Int32 → Int32 → Int32 → Int32 → Int32 → Int32 → Int32 → Nat → Nat → Int32 → Int32 → Int32 → Int32 → Int32 → Prop) (S : PS) (bc bs : Nat) (l1 : Nat) (l2 : Int32) (l3 : Nat) (l4 : Int32) (l5 : Int32) (l6 : Int32) (l7 : Int32) (l8 : Int32) (l9 : Int32) (l10 : Int32) (l11 : Int32) (l12 : Int32) (l13 : Int32) (l14 : Int32) (l15 : Int32) (l16 : Int32) (l17 : Nat) (l18 : Nat) (l19 : Int32) (l20 : Int32) (l21 : Int32) (l22 : Int32) (l23 : Int32) (t0 : Int32) (t1 : Int32) : Prop :=
  if t1 ≤ t0 then
    f_L_law_J253 adK L xs g160 S bc bs l1 l2 l3 l4 l5 l6 l7 l8 l9 l10 l11 l12 l13 l14 l15 l16 l17 l18 l19 l20 l21 l22 l23
  else
    f_L_law_J253 adK L xs g160 S bc bs l1 l2 l3 l4 l5 l6 l7 l8 l9 l10 l11 l12 l13 l14 l15 l16 l17 l18 l19 l20 l23 l22 l23
def f_L_law_J220 (adK : Nat → Nat) (L : Nat) (xs : Nat → Int32) (g160 : PS → Nat → Nat → Nat → Int32 → Nat → Int32 → Int32 → Int32 → Int32 → Int32 → Int32 → Int32 → Int32 → Int32 → Int32 → Int32 → Int32 → Int32 → Nat → Nat → Int32 → Int32 → Int32 → Int32 → Int32 → Prop) (S : PS) (bc bs : Nat) (l1 : Nat) (l2 : Int32) (l3 : Nat) (l4 : Int32) (l5 : Int32) (l6 : Int32) (l7 : Int32) (l8 : Int32) (l9 : Int32) (l10 : Int32) (l11 : Int32) (l12 : Int32) (l13 : Int32) (l14 : Int32) (l15 : Int32) (l16 : Int32) (l17 : Nat) (l18 : Nat) (l19 : Int32) (l21 : Int32) (l22 : Int32) (l23 : Int32) (t0 : Int32) (t1 : Int32) : Prop :=
  aQ S l3 l19 fun v1 => (
  aI S v1 0 l23 fun v2 => (
  if 0 ≤ l21 then
    aQ S l3 l19 fun v4 => (
    aI S v4 0 l21 fun v5 => (
    f_L_law_J246 adK L xs g160 S bc bs l1 l2 l3 l4 l5 l6 l7 l8 l9 l10 l11 l12 l13 l14 l15 l16 l17 l18 l19 (t1 + t0) l21 l22 l23 v5 v2))
  else
    f_L_law_J246 adK L xs g160 S bc bs l1 l2 l3 l4 l5 l6 l7 l8 l9 l10 l11 l12 l13 l14 l15 l16 l17 l18 l19 (t1 + t0) l21 l22 l23 0 v2))
def f_L_law_J203 (adK : Nat → Nat) (L : Nat) (xs : Nat → Int32) (g160 : PS → Nat → Nat → Nat → Int32 → Nat → Int32 → Int32 → Int32 → Int32 → Int32 → Int32 → Int32 → Int32 → Int32 → Int32 → Int32 → Int32 → Int32 → Nat → Nat → Int32 → Int32 → Int32 → Int32 → Int32 → Prop) (S : PS) (bc bs : Nat) (l1 : Nat) (l2 : Int32) (l3 : Nat) (l4 : Int32) (l5 : Int32) (l6 : Int32) (l7 : Int32) (l8 : Int32) (l9 : Int32) (l10 : Int32) (l11 : Int32) (l12 : Int32) (l13 : Int32) (l14 : Int32) (l15 : Int32) (l16 : Int32) (l17 : Nat) (l18 : Nat) (l19 : Int32) (l20 : Int32) (l21 : Int32) (l22 : Int32) (l23 : Int32) : Prop :=
  aQ S l3 l19 fun v1 => (
  aI S v1 0 l23 fun v2 => (
  if v2 ≤ 0 then
    f_L_law_J220 adK L xs g160 S bc bs l1 l2 l3 l4 l5 l6 l7 l8 l9 l10 l11 l12 l13 l14 l15 l16 l17 l18 l19 l21 l22 l23 0 l20
  else
    f_L_law_J220 adK L xs g160 S bc bs l1 l2 l3 l4 l5 l6 l7 l8 l9 l10 l11 l12 l13 l14 l15 l16 l17 l18 l19 l21 l22 l23 1 l20))
def f_L_law_L160 (adK : Nat → Nat) (L : Nat) (xs : Nat → Int32) (g138 : PS → Nat → Nat → Nat → Int32 → Nat → Int32 → Int32 → Int32 → Int32 → Int32 → Int32 → Int32 → Int32 → Int32 → Int32 → Int32 → Int32 → Int32 → Nat → Nat → Int32 → Prop) : Nat → PS → Nat → Nat → Nat → Int32 → Nat → Int32 → Int32 → Int32 → Int32 → Int32 → Int32 → Int32 → Int32 → Int32 → Int32 → Int32 → Int32 → Int32 → Nat → Nat → Int32 → Int32 → Int32 → Int32 → Int32 → Prop
  | 0, _, _, _, _, _, _, _, _, _, _, _, _, _, _, _, _, _, _, _, _, _, _, _, _, _, _ => False
  | n + 1, S, bc, bs, l1, l2, l3, l4, l5, l6, l7, l8, l9, l10, l11, l12, l13, l14, l15, l16, l17, l18, l19, l20, l21, l22, l23 =>
  if l4 ≤ l23 then
    f_L_law_J439 adK L xs g138 S bc bs l1 l2 l3 l4 l5 l6 l7 l8 l9 l10 l11 l12 l13 l14 l15 l16 l17 l18 l19 l20 l21 l22
  else
    aQ S l3 l19 fun v2 => (
    aI S v2 0 l23 fun v3 => (
    aQ S l3 l23 fun v4 => (
    aI S v4 0 l19 fun v5 => (
    if v3 = v5 then
      if l19 = l23 then
        aQ S l3 l19 fun v8 => (
        aI S v8 0 l23 fun v9 => (
        if v9 = 0 then
          f_L_law_J203 adK L xs (f_L_law_L160 adK L xs g138 n) S bc bs l1 l2 l3 l4 l5 l6 l7 l8 l9 l10 l11 l12 l13 l14 l15 l16 l17 l18 l19 l20 l21 l22 l23
        else
          False))
      else
        f_L_law_J203 adK L xs (f_L_law_L160 adK L xs g138 n) S bc bs l1 l2 l3 l4 l5 l6 l7 l8 l9 l10 l11 l12 l13 l14 l15 l16 l17 l18 l19 l20 l21 l22 l23
    else
      False))))
def f_L_law_L138 (adK : Nat → Nat) (L : Nat) (xs : Nat → Int32) (g15 : PS → Nat → Nat → Nat → Int32 → Prop) : Nat → PS → Nat → Nat → Nat → Int32 → Nat → Int32 → Int32 → Int32 → Int32 → Int32 → Int32 → Int32 → Int32 → Int32 → Int32 → Int32 → Int32 → Int32 → Nat → Nat → Int32 → Prop
  | 0, _, _, _, _, _, _, _, _, _, _, _, _, _, _, _, _, _, _, _, _, _, _ => False
  | n + 1, S, bc, bs, l1, l2, l3, l4, l5, l6, l7, l8, l9, l10, l11, l12, l13, l14, l15, l16, l17, l18, l19 =>
  if l4 ≤ l19 then
    f_L_law_J777 adK L xs g15 S bc bs l1 l2 l3 l4 l5 l6 l7 l8 l9 l10 l11 l12 l13 l14 l15 l16 l17 l18
  else
    f_L_law_L160 adK L xs (f_L_law_L138 adK L xs g15 n) 4096 S bc bs l1 l2 l3 l4 l5 l6 l7 l8 l9 l10 l11 l12 l13 l14 l15 l16 l17 l18 l19 0 (-1) ((1 : Int32) <<< (l19 &&& 31)) 0
def f_L_law_J117 (adK : Nat → Nat) (L : Nat) (xs : Nat → Int32) (g15 : PS → Nat → Nat → Nat → Int32 → Prop) (S : PS) (bc bs : Nat) (l1 : Nat) (l2 : Int32) (l3 : Nat) (l4 : Int32) (l5 : Int32) (l6 : Int32) (l7 : Int32) (l8 : Int32) (l9 : Int32) (l10 : Int32) (l11 : Int32) (l12 : Int32) (l13 : Int32) (t0 : Int32) : Prop :=
  f_L_law_L138 adK L xs g15 4096 S bc bs l1 l2 l3 l4 l5 l6 l7 l8 l9 l10 l11 l12 l13 t0 0 (-30000) (adK 0) (adK 0) 0
def f_L_law_J91 (adK : Nat → Nat) (L : Nat) (xs : Nat → Int32) (g15 : PS → Nat → Nat → Nat → Int32 → Prop) (S : PS) (bc bs : Nat) (l1 : Nat) (l2 : Int32) (l3 : Nat) (l4 : Int32) (l5 : Int32) (l6 : Int32) (l7 : Int32) (l8 : Int32) (l9 : Int32) (l10 : Int32) (l11 : Int32) (l12 : Int32) : Prop :=
  f_L_feud S l3 l6 fun v2 S1 => (
  if l4 ≤ 1 then
    f_L_law_J117 adK L xs g15 S1 bc bs l1 l2 l3 l4 l5 l6 l7 l8 l9 l10 l11 l12 v2 (-30000)
  else
    f_L_least_ S1 l3 (-1) (-1) fun v5 S4 => (
    f_L_law_J117 adK L xs g15 S4 bc bs l1 l2 l3 l4 l5 l6 l7 l8 l9 l10 l11 l12 v2 v5))
def f_L_law_L63 (adK : Nat → Nat) (L : Nat) (xs : Nat → Int32) (g15 : PS → Nat → Nat → Nat → Int32 → Prop) : Nat → PS → Nat → Nat → Nat → Int32 → Nat → Int32 → Int32 → Int32 → Int32 → Int32 → Int32 → Int32 → Int32 → Int32 → Int32 → Prop
  | 0, _, _, _, _, _, _, _, _, _, _, _, _, _, _, _, _ => False
  | n + 1, S, bc, bs, l1, l2, l3, l4, l5, l6, l7, l8, l9, l10, l11, l12, l13 =>
  if l4 ≤ l13 then
    f_L_law_J91 adK L xs g15 S bc bs l1 l2 l3 l4 l5 l6 l7 l8 l9 l10 l11 l12
  else
    isO S l1 11 (
    ∃ mc3 ms3 : Nat, mc3 ≤ bc ∧ ms3 ≤ bs ∧ (f_X7_householdOf S l1 l13 0 mc3 ms3 (fun v4 S2 => (
    (f_L_law_L63 adK L xs g15 n) S2 (bc - mc3) (bs - ms3) l1 l2 l3 l4 l5 (l6 ||| (v4 <<< (l13 &&& 31))) l7 l8 l9 l10 l11 l12 (l13 + 1))) (fun _ _ => False)))
def f_L_law_L15 (adK : Nat → Nat) (L : Nat) (xs : Nat → Int32) : Nat → PS → Nat → Nat → Nat → Int32 → Prop
  | 0, _, _, _, _, _ => False
  | n + 1, S, bc, bs, l1, l2 =>
  if 3 ≤ l2 then
    True
  else
    ∃ mc3 ms3 : Nat, mc3 ≤ bc ∧ ms3 ≤ bs ∧ (f_L_weights S l1 mc3 ms3 fun v4 S2 => (
    lEQ S2 v4 fun v5 => (
    f_L_law_L63 adK L xs (f_L_law_L15 adK L xs n) 4096 S2 (bc - mc3) (bs - ms3) l1 l2 v4 v5 (((1 : Int32) <<< (v5 &&& 31)) - 1) 0 0 0 0 0 (-30000) 0 0)))
def f_L_law (adK : Nat → Nat) (L : Nat) (xs : Nat → Int32) (S : PS) (bc bs : Nat) : Prop :=
  nO S 11 [.null, .null, .null, .null, .null, .null, .null, .null, .null, .null, .null, .null] 12 bc bs fun q1 S2 bc3 bs4 => (
  ∃ mc6 ms6 : Nat, mc6 ≤ bc3 ∧ ms6 ≤ bs4 ∧ (f_X7_init S2 q1 mc6 ms6 fun S5 => (
  ∃ mc9 ms9 : Nat, mc9 ≤ (bc3 - mc6) ∧ ms9 ≤ (bs4 - ms6) ∧ (f_L_build L xs S5 q1 mc9 ms9 fun S8 => (
  f_L_law_L15 adK L xs 4096 S8 ((bc3 - mc6) - mc9) ((bs4 - ms6) - ms9) q1 0)))))
