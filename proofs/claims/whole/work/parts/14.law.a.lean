def f_L_law_J2561 (adK : Nat → Nat) (L : Nat) (xs : Nat → Int32) (g28 : PS → Nat → Nat → Nat → Nat → Nat → Nat → Int32 → Prop) (S : PS) (bc bs : Nat) (l1 : Nat) (l2 : Nat) (l3 : Nat) (l4 : Nat) (l5 : Int32) : Prop :=
  g28 S bc bs l1 l2 l3 l4 (l5 + 4)
def f_L_law_J285 (adK : Nat → Nat) (L : Nat) (xs : Nat → Int32) (g28 : PS → Nat → Nat → Nat → Nat → Nat → Nat → Int32 → Prop) (S : PS) (bc bs : Nat) (l1 : Nat) (l2 : Nat) (l3 : Nat) (l4 : Nat) (l5 : Int32) : Prop :=
  f_L_law_J2561 adK L xs g28 S bc bs l1 l2 l3 l4 l5
def f_L_law_J244 (adK : Nat → Nat) (L : Nat) (xs : Nat → Int32) (g28 : PS → Nat → Nat → Nat → Nat → Nat → Nat → Int32 → Prop) (S : PS) (bc bs : Nat) (l1 : Nat) (l2 : Nat) (l3 : Nat) (l4 : Nat) (l5 : Int32) : Prop :=
  ∃ mc2 ms2 : Nat, mc2 ≤ bc ∧ ms2 ≤ bs ∧ (f_L_household S l1 l3 mc2 ms2 fun v3 S1 => (
  isO S1 l2 12 (
  f_X8_household S1 l2 fun v5 S4 => (
  isO S4 l2 12 (
  f_X8_thrown S4 l2 fun v7 S6 => (
  if v7 = v3 then
    if v3 = 0 then
      aL S6 l3 0 fun v10 => (
      if (lg_cmp v10 v5.toInt64) = 0 then
        f_L_law_J285 adK L xs g28 S6 (bc - mc2) (bs - ms2) l1 l2 l3 l4 l5
      else
        False)
    else
      f_L_law_J285 adK L xs g28 S6 (bc - mc2) (bs - ms2) l1 l2 l3 l4 l5
  else
    False))))))
def f_L_law_J341 (adK : Nat → Nat) (L : Nat) (xs : Nat → Int32) (g28 : PS → Nat → Nat → Nat → Nat → Nat → Nat → Int32 → Prop) (S : PS) (bc bs : Nat) (l1 : Nat) (l2 : Nat) (l3 : Nat) (l4 : Nat) (l5 : Int32) : Prop :=
  f_L_law_J2561 adK L xs g28 S bc bs l1 l2 l3 l4 l5
def f_L_law_J288 (adK : Nat → Nat) (L : Nat) (xs : Nat → Int32) (g28 : PS → Nat → Nat → Nat → Nat → Nat → Nat → Int32 → Prop) (S : PS) (bc bs : Nat) (l1 : Nat) (l2 : Nat) (l3 : Nat) (l4 : Nat) (l5 : Int32) : Prop :=
  vp_in (l5 + 1) L ∧ (
  ∃ mc2 ms2 : Nat, mc2 ≤ bc ∧ ms2 ≤ bs ∧ (f_L_leave S l1 (xs (l5 + 1).toNatClampNeg) l3 mc2 ms2 fun v3 S1 => (
  vp_in (l5 + 1) L ∧ (
  isO S1 l2 12 (
  f_X8_leave S1 l2 (xs (l5 + 1).toNatClampNeg) fun v5 S4 => (
  isO S4 l2 12 (
  f_X8_thrown S4 l2 fun v7 S6 => (
  if v7 = v3 then
    if v3 = 0 then
      aL S6 l3 0 fun v10 => (
      if (lg_cmp v10 v5.toInt64) = 0 then
        f_L_law_J341 adK L xs g28 S6 (bc - mc2) (bs - ms2) l1 l2 l3 l4 l5
      else
        False)
    else
      f_L_law_J341 adK L xs g28 S6 (bc - mc2) (bs - ms2) l1 l2 l3 l4 l5
  else
    False))))))))
def f_L_law_J421 (adK : Nat → Nat) (L : Nat) (xs : Nat → Int32) (g28 : PS → Nat → Nat → Nat → Nat → Nat → Nat → Int32 → Prop) (S : PS) (bc bs : Nat) (l1 : Nat) (l2 : Nat) (l3 : Nat) (l4 : Nat) (l5 : Int32) : Prop :=
  f_L_law_J2561 adK L xs g28 S bc bs l1 l2 l3 l4 l5
def f_L_law_J344 (adK : Nat → Nat) (L : Nat) (xs : Nat → Int32) (g28 : PS → Nat → Nat → Nat → Nat → Nat → Nat → Int32 → Prop) (S : PS) (bc bs : Nat) (l1 : Nat) (l2 : Nat) (l3 : Nat) (l4 : Nat) (l5 : Int32) : Prop :=
  vp_in (l5 + 1) L ∧ (
  vp_in (l5 + 2) L ∧ (
  vp_in (l5 + 3) L ∧ (
  ∃ mc2 ms2 : Nat, mc2 ≤ bc ∧ ms2 ≤ bs ∧ (f_L_bond S l1 (xs (l5 + 1).toNatClampNeg) (xs (l5 + 2).toNatClampNeg) (xs (l5 + 3).toNatClampNeg) l3 mc2 ms2 fun v3 S1 => (
  vp_in (l5 + 1) L ∧ (
  vp_in (l5 + 2) L ∧ (
  vp_in (l5 + 3) L ∧ (
  isO S1 l2 12 (
  f_X8_bond S1 l2 (xs (l5 + 1).toNatClampNeg) (xs (l5 + 2).toNatClampNeg) (xs (l5 + 3).toNatClampNeg) fun v5 S4 => (
  isO S4 l2 12 (
  f_X8_thrown S4 l2 fun v7 S6 => (
  if v7 = v3 then
    if v3 = 0 then
      aL S6 l3 0 fun v10 => (
      if (lg_cmp v10 v5.toInt64) = 0 then
        f_L_law_J421 adK L xs g28 S6 (bc - mc2) (bs - ms2) l1 l2 l3 l4 l5
      else
        False)
    else
      f_L_law_J421 adK L xs g28 S6 (bc - mc2) (bs - ms2) l1 l2 l3 l4 l5
  else
    False))))))))))))
def f_L_law_J489 (adK : Nat → Nat) (L : Nat) (xs : Nat → Int32) (g28 : PS → Nat → Nat → Nat → Nat → Nat → Nat → Int32 → Prop) (S : PS) (bc bs : Nat) (l1 : Nat) (l2 : Nat) (l3 : Nat) (l4 : Nat) (l5 : Int32) : Prop :=
  f_L_law_J2561 adK L xs g28 S bc bs l1 l2 l3 l4 l5
def f_L_law_J424 (adK : Nat → Nat) (L : Nat) (xs : Nat → Int32) (g28 : PS → Nat → Nat → Nat → Nat → Nat → Nat → Int32 → Prop) (S : PS) (bc bs : Nat) (l1 : Nat) (l2 : Nat) (l3 : Nat) (l4 : Nat) (l5 : Int32) : Prop :=
  vp_in (l5 + 1) L ∧ (
  vp_in (l5 + 2) L ∧ (
  ∃ mc2 ms2 : Nat, mc2 ≤ bc ∧ ms2 ≤ bs ∧ (f_L_loosen S l1 (xs (l5 + 1).toNatClampNeg) (xs (l5 + 2).toNatClampNeg) l3 mc2 ms2 fun v3 S1 => (
  vp_in (l5 + 1) L ∧ (
  vp_in (l5 + 2) L ∧ (
  isO S1 l2 12 (
  f_X8_loosen S1 l2 (xs (l5 + 1).toNatClampNeg) (xs (l5 + 2).toNatClampNeg) fun v5 S4 => (
  isO S4 l2 12 (
  f_X8_thrown S4 l2 fun v7 S6 => (
  if v7 = v3 then
    if v3 = 0 then
      aL S6 l3 0 fun v10 => (
      if (lg_cmp v10 v5.toInt64) = 0 then
        f_L_law_J489 adK L xs g28 S6 (bc - mc2) (bs - ms2) l1 l2 l3 l4 l5
      else
        False)
    else
      f_L_law_J489 adK L xs g28 S6 (bc - mc2) (bs - ms2) l1 l2 l3 l4 l5
  else
    False))))))))))
def f_L_law_J557 (adK : Nat → Nat) (L : Nat) (xs : Nat → Int32) (g28 : PS → Nat → Nat → Nat → Nat → Nat → Nat → Int32 → Prop) (S : PS) (bc bs : Nat) (l1 : Nat) (l2 : Nat) (l3 : Nat) (l4 : Nat) (l5 : Int32) : Prop :=
  f_L_law_J2561 adK L xs g28 S bc bs l1 l2 l3 l4 l5
def f_L_law_J492 (adK : Nat → Nat) (L : Nat) (xs : Nat → Int32) (g28 : PS → Nat → Nat → Nat → Nat → Nat → Nat → Int32 → Prop) (S : PS) (bc bs : Nat) (l1 : Nat) (l2 : Nat) (l3 : Nat) (l4 : Nat) (l5 : Int32) : Prop :=
  vp_in (l5 + 1) L ∧ (
  vp_in (l5 + 2) L ∧ (
  ∃ mc2 ms2 : Nat, mc2 ≤ bc ∧ ms2 ≤ bs ∧ (f_L_marry S l1 (xs (l5 + 1).toNatClampNeg) (xs (l5 + 2).toNatClampNeg) l3 mc2 ms2 fun v3 S1 => (
  vp_in (l5 + 1) L ∧ (
  vp_in (l5 + 2) L ∧ (
  isO S1 l2 12 (
  f_X8_marry S1 l2 (xs (l5 + 1).toNatClampNeg) (xs (l5 + 2).toNatClampNeg) fun v5 S4 => (
  isO S4 l2 12 (
  f_X8_thrown S4 l2 fun v7 S6 => (
  if v7 = v3 then
    if v3 = 0 then
      aL S6 l3 0 fun v10 => (
      if (lg_cmp v10 v5.toInt64) = 0 then
        f_L_law_J557 adK L xs g28 S6 (bc - mc2) (bs - ms2) l1 l2 l3 l4 l5
      else
        False)
    else
      f_L_law_J557 adK L xs g28 S6 (bc - mc2) (bs - ms2) l1 l2 l3 l4 l5
  else
    False))))))))))
def f_L_law_J625 (adK : Nat → Nat) (L : Nat) (xs : Nat → Int32) (g28 : PS → Nat → Nat → Nat → Nat → Nat → Nat → Int32 → Prop) (S : PS) (bc bs : Nat) (l1 : Nat) (l2 : Nat) (l3 : Nat) (l4 : Nat) (l5 : Int32) : Prop :=
  f_L_law_J2561 adK L xs g28 S bc bs l1 l2 l3 l4 l5
def f_L_law_J560 (adK : Nat → Nat) (L : Nat) (xs : Nat → Int32) (g28 : PS → Nat → Nat → Nat → Nat → Nat → Nat → Int32 → Prop) (S : PS) (bc bs : Nat) (l1 : Nat) (l2 : Nat) (l3 : Nat) (l4 : Nat) (l5 : Int32) : Prop :=
  vp_in (l5 + 1) L ∧ (
  vp_in (l5 + 2) L ∧ (
  ∃ mc2 ms2 : Nat, mc2 ≤ bc ∧ ms2 ≤ bs ∧ (f_L_stand S l1 (xs (l5 + 1).toNatClampNeg) (xs (l5 + 2).toNatClampNeg) l3 mc2 ms2 fun v3 S1 => (
  vp_in (l5 + 1) L ∧ (
  vp_in (l5 + 2) L ∧ (
  isO S1 l2 12 (
  f_X8_stand S1 l2 (xs (l5 + 1).toNatClampNeg) (xs (l5 + 2).toNatClampNeg) fun v5 S4 => (
  isO S4 l2 12 (
  f_X8_thrown S4 l2 fun v7 S6 => (
  if v7 = v3 then
    if v3 = 0 then
      aL S6 l3 0 fun v10 => (
      if (lg_cmp v10 v5.toInt64) = 0 then
        f_L_law_J625 adK L xs g28 S6 (bc - mc2) (bs - ms2) l1 l2 l3 l4 l5
      else
        False)
    else
      f_L_law_J625 adK L xs g28 S6 (bc - mc2) (bs - ms2) l1 l2 l3 l4 l5
  else
    False))))))))))
def f_L_law_J669 (adK : Nat → Nat) (L : Nat) (xs : Nat → Int32) (g28 : PS → Nat → Nat → Nat → Nat → Nat → Nat → Int32 → Prop) (S : PS) (bc bs : Nat) (l1 : Nat) (l2 : Nat) (l3 : Nat) (l4 : Nat) (l5 : Int32) : Prop :=
  f_L_law_J2561 adK L xs g28 S bc bs l1 l2 l3 l4 l5
def f_L_law_J628 (adK : Nat → Nat) (L : Nat) (xs : Nat → Int32) (g28 : PS → Nat → Nat → Nat → Nat → Nat → Nat → Int32 → Prop) (S : PS) (bc bs : Nat) (l1 : Nat) (l2 : Nat) (l3 : Nat) (l4 : Nat) (l5 : Int32) : Prop :=
  ∃ mc2 ms2 : Nat, mc2 ≤ bc ∧ ms2 ≤ bs ∧ (f_L_part S l1 l3 mc2 ms2 fun v3 S1 => (
  isO S1 l2 12 (
  f_X8_part S1 l2 fun v5 S4 => (
  isO S4 l2 12 (
  f_X8_thrown S4 l2 fun v7 S6 => (
  if v7 = v3 then
    if v3 = 0 then
      aL S6 l3 0 fun v10 => (
      if (lg_cmp v10 v5.toInt64) = 0 then
        f_L_law_J669 adK L xs g28 S6 (bc - mc2) (bs - ms2) l1 l2 l3 l4 l5
      else
        False)
    else
      f_L_law_J669 adK L xs g28 S6 (bc - mc2) (bs - ms2) l1 l2 l3 l4 l5
  else
    False))))))
def f_L_law_J737 (adK : Nat → Nat) (L : Nat) (xs : Nat → Int32) (g28 : PS → Nat → Nat → Nat → Nat → Nat → Nat → Int32 → Prop) (S : PS) (bc bs : Nat) (l1 : Nat) (l2 : Nat) (l3 : Nat) (l4 : Nat) (l5 : Int32) : Prop :=
  f_L_law_J2561 adK L xs g28 S bc bs l1 l2 l3 l4 l5
def f_L_law_J672 (adK : Nat → Nat) (L : Nat) (xs : Nat → Int32) (g28 : PS → Nat → Nat → Nat → Nat → Nat → Nat → Int32 → Prop) (S : PS) (bc bs : Nat) (l1 : Nat) (l2 : Nat) (l3 : Nat) (l4 : Nat) (l5 : Int32) : Prop :=
  vp_in (l5 + 1) L ∧ (
  vp_in (l5 + 2) L ∧ (
  ∃ mc2 ms2 : Nat, mc2 ≤ bc ∧ ms2 ≤ bs ∧ (f_L_weight S l1 (xs (l5 + 1).toNatClampNeg) (xs (l5 + 2).toNatClampNeg) l3 mc2 ms2 fun v3 S1 => (
  vp_in (l5 + 1) L ∧ (
  vp_in (l5 + 2) L ∧ (
  isO S1 l2 12 (
  f_X8_weight S1 l2 (xs (l5 + 1).toNatClampNeg) (xs (l5 + 2).toNatClampNeg) fun v5 S4 => (
  isO S4 l2 12 (
  f_X8_thrown S4 l2 fun v7 S6 => (
  if v7 = v3 then
    if v3 = 0 then
      aL S6 l3 0 fun v10 => (
      if (lg_cmp v10 v5.toInt64) = 0 then
        f_L_law_J737 adK L xs g28 S6 (bc - mc2) (bs - ms2) l1 l2 l3 l4 l5
      else
        False)
    else
      f_L_law_J737 adK L xs g28 S6 (bc - mc2) (bs - ms2) l1 l2 l3 l4 l5
  else
    False))))))))))
def f_L_law_J805 (adK : Nat → Nat) (L : Nat) (xs : Nat → Int32) (g28 : PS → Nat → Nat → Nat → Nat → Nat → Nat → Int32 → Prop) (S : PS) (bc bs : Nat) (l1 : Nat) (l2 : Nat) (l3 : Nat) (l4 : Nat) (l5 : Int32) : Prop :=
  f_L_law_J2561 adK L xs g28 S bc bs l1 l2 l3 l4 l5
def f_L_law_J740 (adK : Nat → Nat) (L : Nat) (xs : Nat → Int32) (g28 : PS → Nat → Nat → Nat → Nat → Nat → Nat → Int32 → Prop) (S : PS) (bc bs : Nat) (l1 : Nat) (l2 : Nat) (l3 : Nat) (l4 : Nat) (l5 : Int32) : Prop :=
  vp_in (l5 + 1) L ∧ (
  vp_in (l5 + 2) L ∧ (
  ∃ mc2 ms2 : Nat, mc2 ≤ bc ∧ ms2 ≤ bs ∧ (f_L_householdOf S l1 (xs (l5 + 1).toNatClampNeg) (xs (l5 + 2).toNatClampNeg) l3 mc2 ms2 fun v3 S1 => (
  vp_in (l5 + 1) L ∧ (
  vp_in (l5 + 2) L ∧ (
  isO S1 l2 12 (
  f_X8_householdOf S1 l2 (xs (l5 + 1).toNatClampNeg) (xs (l5 + 2).toNatClampNeg) fun v5 S4 => (
  isO S4 l2 12 (
  f_X8_thrown S4 l2 fun v7 S6 => (
  if v7 = v3 then
    if v3 = 0 then
      aL S6 l3 0 fun v10 => (
      if (lg_cmp v10 v5.toInt64) = 0 then
        f_L_law_J805 adK L xs g28 S6 (bc - mc2) (bs - ms2) l1 l2 l3 l4 l5
      else
        False)
    else
      f_L_law_J805 adK L xs g28 S6 (bc - mc2) (bs - ms2) l1 l2 l3 l4 l5
  else
    False))))))))))
def f_L_law_J873 (adK : Nat → Nat) (L : Nat) (xs : Nat → Int32) (g28 : PS → Nat → Nat → Nat → Nat → Nat → Nat → Int32 → Prop) (S : PS) (bc bs : Nat) (l1 : Nat) (l2 : Nat) (l3 : Nat) (l4 : Nat) (l5 : Int32) : Prop :=
  f_L_law_J2561 adK L xs g28 S bc bs l1 l2 l3 l4 l5
def f_L_law_J808 (adK : Nat → Nat) (L : Nat) (xs : Nat → Int32) (g28 : PS → Nat → Nat → Nat → Nat → Nat → Nat → Int32 → Prop) (S : PS) (bc bs : Nat) (l1 : Nat) (l2 : Nat) (l3 : Nat) (l4 : Nat) (l5 : Int32) : Prop :=
  vp_in (l5 + 1) L ∧ (
  vp_in (l5 + 2) L ∧ (
  ∃ mc2 ms2 : Nat, mc2 ≤ bc ∧ ms2 ≤ bs ∧ (f_L_tied S l1 (xs (l5 + 1).toNatClampNeg) (xs (l5 + 2).toNatClampNeg) l3 mc2 ms2 fun v3 S1 => (
  vp_in (l5 + 1) L ∧ (
  vp_in (l5 + 2) L ∧ (
  isO S1 l2 12 (
  f_X8_tied S1 l2 (xs (l5 + 1).toNatClampNeg) (xs (l5 + 2).toNatClampNeg) fun v5 S4 => (
  isO S4 l2 12 (
  f_X8_thrown S4 l2 fun v7 S6 => (
  if v7 = v3 then
    if v3 = 0 then
      aL S6 l3 0 fun v10 => (
      if (lg_cmp v10 v5.toInt64) = 0 then
        f_L_law_J873 adK L xs g28 S6 (bc - mc2) (bs - ms2) l1 l2 l3 l4 l5
      else
        False)
    else
      f_L_law_J873 adK L xs g28 S6 (bc - mc2) (bs - ms2) l1 l2 l3 l4 l5
  else
    False))))))))))
def f_L_law_J876 (adK : Nat → Nat) (L : Nat) (xs : Nat → Int32) (g28 : PS → Nat → Nat → Nat → Nat → Nat → Nat → Int32 → Prop) (S : PS) (bc bs : Nat) (l1 : Nat) (l2 : Nat) (l3 : Nat) (l4 : Nat) (l5 : Int32) : Prop :=
  isO S l1 11 (
  f_X7_feud S l1 fun v2 S1 => (
  isO S1 l2 12 (
  f_X8_feud S1 l2 fun v4 S3 => (
  if v2 = v4 then
    f_L_law_J2561 adK L xs g28 S3 bc bs l1 l2 l3 l4 l5
  else
    False))))
def f_L_law_J889 (adK : Nat → Nat) (L : Nat) (xs : Nat → Int32) (g28 : PS → Nat → Nat → Nat → Nat → Nat → Nat → Int32 → Prop) (S : PS) (bc bs : Nat) (l1 : Nat) (l2 : Nat) (l3 : Nat) (l4 : Nat) (l5 : Int32) : Prop :=
  isO S l1 11 (
  f_X7_feudAgain S l1 fun v2 S1 => (
  isO S1 l2 12 (
  f_X8_feudAgain S1 l2 fun v4 S3 => (
  if v2 = v4 then
    f_L_law_J2561 adK L xs g28 S3 bc bs l1 l2 l3 l4 l5
  else
    False))))
def f_L_law_J902 (adK : Nat → Nat) (L : Nat) (xs : Nat → Int32) (g28 : PS → Nat → Nat → Nat → Nat → Nat → Nat → Int32 → Prop) (S : PS) (bc bs : Nat) (l1 : Nat) (l2 : Nat) (l3 : Nat) (l4 : Nat) (l5 : Int32) : Prop :=
  isO S l1 11 (
  f_X7_phases S l1 fun v2 S1 => (
  isO S1 l2 12 (
  f_X8_phases S1 l2 fun v4 S3 => (
  if v2 = v4 then
    f_L_law_J2561 adK L xs g28 S3 bc bs l1 l2 l3 l4 l5
  else
    False))))
def f_L_law_J980 (adK : Nat → Nat) (L : Nat) (xs : Nat → Int32) (g28 : PS → Nat → Nat → Nat → Nat → Nat → Nat → Int32 → Prop) (S : PS) (bc bs : Nat) (l1 : Nat) (l2 : Nat) (l3 : Nat) (l4 : Nat) (l5 : Int32) : Prop :=
  f_L_law_J2561 adK L xs g28 S bc bs l1 l2 l3 l4 l5
def f_L_law_J915 (adK : Nat → Nat) (L : Nat) (xs : Nat → Int32) (g28 : PS → Nat → Nat → Nat → Nat → Nat → Nat → Int32 → Prop) (S : PS) (bc bs : Nat) (l1 : Nat) (l2 : Nat) (l3 : Nat) (l4 : Nat) (l5 : Int32) : Prop :=
  vp_in (l5 + 1) L ∧ (
  vp_in (l5 + 2) L ∧ (
  ∃ mc2 ms2 : Nat, mc2 ≤ bc ∧ ms2 ≤ bs ∧ (f_L_phaseOf S l1 (xs (l5 + 1).toNatClampNeg) (xs (l5 + 2).toNatClampNeg) l3 mc2 ms2 fun v3 S1 => (
  vp_in (l5 + 1) L ∧ (
  vp_in (l5 + 2) L ∧ (
  isO S1 l2 12 (
  f_X8_phaseOf S1 l2 (xs (l5 + 1).toNatClampNeg) (xs (l5 + 2).toNatClampNeg) fun v5 S4 => (
  isO S4 l2 12 (
  f_X8_thrown S4 l2 fun v7 S6 => (
  if v7 = v3 then
    if v3 = 0 then
      aL S6 l3 0 fun v10 => (
      if (lg_cmp v10 v5.toInt64) = 0 then
        f_L_law_J980 adK L xs g28 S6 (bc - mc2) (bs - ms2) l1 l2 l3 l4 l5
      else
        False)
    else
      f_L_law_J980 adK L xs g28 S6 (bc - mc2) (bs - ms2) l1 l2 l3 l4 l5
  else
    False))))))))))
def f_L_law_J1048 (adK : Nat → Nat) (L : Nat) (xs : Nat → Int32) (g28 : PS → Nat → Nat → Nat → Nat → Nat → Nat → Int32 → Prop) (S : PS) (bc bs : Nat) (l1 : Nat) (l2 : Nat) (l3 : Nat) (l4 : Nat) (l5 : Int32) : Prop :=
  f_L_law_J2561 adK L xs g28 S bc bs l1 l2 l3 l4 l5
def f_L_law_J983 (adK : Nat → Nat) (L : Nat) (xs : Nat → Int32) (g28 : PS → Nat → Nat → Nat → Nat → Nat → Nat → Int32 → Prop) (S : PS) (bc bs : Nat) (l1 : Nat) (l2 : Nat) (l3 : Nat) (l4 : Nat) (l5 : Int32) : Prop :=
  vp_in (l5 + 1) L ∧ (
  vp_in (l5 + 2) L ∧ (
  ∃ mc2 ms2 : Nat, mc2 ≤ bc ∧ ms2 ≤ bs ∧ (f_L_joined S l1 (xs (l5 + 1).toNatClampNeg) (xs (l5 + 2).toNatClampNeg) l3 mc2 ms2 fun v3 S1 => (
  vp_in (l5 + 1) L ∧ (
  vp_in (l5 + 2) L ∧ (
  isO S1 l2 12 (
  f_X8_joined S1 l2 (xs (l5 + 1).toNatClampNeg) (xs (l5 + 2).toNatClampNeg) fun v5 S4 => (
  isO S4 l2 12 (
  f_X8_thrown S4 l2 fun v7 S6 => (
  if v7 = v3 then
    if v3 = 0 then
      aL S6 l3 0 fun v10 => (
      if (lg_cmp v10 v5.toInt64) = 0 then
        f_L_law_J1048 adK L xs g28 S6 (bc - mc2) (bs - ms2) l1 l2 l3 l4 l5
      else
        False)
    else
      f_L_law_J1048 adK L xs g28 S6 (bc - mc2) (bs - ms2) l1 l2 l3 l4 l5
  else
    False))))))))))
def f_L_law_J1116 (adK : Nat → Nat) (L : Nat) (xs : Nat → Int32) (g28 : PS → Nat → Nat → Nat → Nat → Nat → Nat → Int32 → Prop) (S : PS) (bc bs : Nat) (l1 : Nat) (l2 : Nat) (l3 : Nat) (l4 : Nat) (l5 : Int32) : Prop :=
  f_L_law_J2561 adK L xs g28 S bc bs l1 l2 l3 l4 l5
def f_L_law_J1051 (adK : Nat → Nat) (L : Nat) (xs : Nat → Int32) (g28 : PS → Nat → Nat → Nat → Nat → Nat → Nat → Int32 → Prop) (S : PS) (bc bs : Nat) (l1 : Nat) (l2 : Nat) (l3 : Nat) (l4 : Nat) (l5 : Int32) : Prop :=
  vp_in (l5 + 1) L ∧ (
  vp_in (l5 + 2) L ∧ (
  ∃ mc2 ms2 : Nat, mc2 ≤ bc ∧ ms2 ≤ bs ∧ (f_L_tieAt S l1 (xs (l5 + 1).toNatClampNeg) (xs (l5 + 2).toNatClampNeg) l3 mc2 ms2 fun v3 S1 => (
  vp_in (l5 + 1) L ∧ (
  vp_in (l5 + 2) L ∧ (
  isO S1 l2 12 (
  f_X8_tieAt S1 l2 (xs (l5 + 1).toNatClampNeg) (xs (l5 + 2).toNatClampNeg) fun v5 S4 => (
  isO S4 l2 12 (
  f_X8_thrown S4 l2 fun v7 S6 => (
  if v7 = v3 then
    if v3 = 0 then
      aL S6 l3 0 fun v10 => (
      if (lg_cmp v10 v5.toInt64) = 0 then
        f_L_law_J1116 adK L xs g28 S6 (bc - mc2) (bs - ms2) l1 l2 l3 l4 l5
      else
        False)
    else
      f_L_law_J1116 adK L xs g28 S6 (bc - mc2) (bs - ms2) l1 l2 l3 l4 l5
  else
    False))))))))))
def f_L_law_J1160 (adK : Nat → Nat) (L : Nat) (xs : Nat → Int32) (g28 : PS → Nat → Nat → Nat → Nat → Nat → Nat → Int32 → Prop) (S : PS) (bc bs : Nat) (l1 : Nat) (l2 : Nat) (l3 : Nat) (l4 : Nat) (l5 : Int32) : Prop :=
  f_L_law_J2561 adK L xs g28 S bc bs l1 l2 l3 l4 l5
def f_L_law_J1119 (adK : Nat → Nat) (L : Nat) (xs : Nat → Int32) (g28 : PS → Nat → Nat → Nat → Nat → Nat → Nat → Int32 → Prop) (S : PS) (bc bs : Nat) (l1 : Nat) (l2 : Nat) (l3 : Nat) (l4 : Nat) (l5 : Int32) : Prop :=
  ∃ mc2 ms2 : Nat, mc2 ≤ bc ∧ ms2 ≤ bs ∧ (f_L_least S l1 l3 mc2 ms2 fun v3 S1 => (
  isO S1 l2 12 (
  f_X8_least S1 l2 fun v5 S4 => (
  isO S4 l2 12 (
  f_X8_thrown S4 l2 fun v7 S6 => (
  if v7 = v3 then
    if v3 = 0 then
      aL S6 l3 0 fun v10 => (
      if (lg_cmp v10 v5.toInt64) = 0 then
        f_L_law_J1160 adK L xs g28 S6 (bc - mc2) (bs - ms2) l1 l2 l3 l4 l5
      else
        False)
    else
      f_L_law_J1160 adK L xs g28 S6 (bc - mc2) (bs - ms2) l1 l2 l3 l4 l5
  else
    False))))))
def f_L_law_J1204 (adK : Nat → Nat) (L : Nat) (xs : Nat → Int32) (g28 : PS → Nat → Nat → Nat → Nat → Nat → Nat → Int32 → Prop) (S : PS) (bc bs : Nat) (l1 : Nat) (l2 : Nat) (l3 : Nat) (l4 : Nat) (l5 : Int32) : Prop :=
  f_L_law_J2561 adK L xs g28 S bc bs l1 l2 l3 l4 l5
def f_L_law_J1163 (adK : Nat → Nat) (L : Nat) (xs : Nat → Int32) (g28 : PS → Nat → Nat → Nat → Nat → Nat → Nat → Int32 → Prop) (S : PS) (bc bs : Nat) (l1 : Nat) (l2 : Nat) (l3 : Nat) (l4 : Nat) (l5 : Int32) : Prop :=
  ∃ mc2 ms2 : Nat, mc2 ≤ bc ∧ ms2 ≤ bs ∧ (f_L_leastAgain S l1 l3 mc2 ms2 fun v3 S1 => (
  isO S1 l2 12 (
  f_X8_leastAgain S1 l2 fun v5 S4 => (
  isO S4 l2 12 (
  f_X8_thrown S4 l2 fun v7 S6 => (
  if v7 = v3 then
    if v3 = 0 then
      aL S6 l3 0 fun v10 => (
      if (lg_cmp v10 v5.toInt64) = 0 then
        f_L_law_J1204 adK L xs g28 S6 (bc - mc2) (bs - ms2) l1 l2 l3 l4 l5
      else
        False)
    else
      f_L_law_J1204 adK L xs g28 S6 (bc - mc2) (bs - ms2) l1 l2 l3 l4 l5
  else
    False))))))
def f_L_law_J1248 (adK : Nat → Nat) (L : Nat) (xs : Nat → Int32) (g28 : PS → Nat → Nat → Nat → Nat → Nat → Nat → Int32 → Prop) (S : PS) (bc bs : Nat) (l1 : Nat) (l2 : Nat) (l3 : Nat) (l4 : Nat) (l5 : Int32) : Prop :=
  f_L_law_J2561 adK L xs g28 S bc bs l1 l2 l3 l4 l5
def f_L_law_J1207 (adK : Nat → Nat) (L : Nat) (xs : Nat → Int32) (g28 : PS → Nat → Nat → Nat → Nat → Nat → Nat → Int32 → Prop) (S : PS) (bc bs : Nat) (l1 : Nat) (l2 : Nat) (l3 : Nat) (l4 : Nat) (l5 : Int32) : Prop :=
  ∃ mc2 ms2 : Nat, mc2 ≤ bc ∧ ms2 ≤ bs ∧ (f_L_met S l1 l3 mc2 ms2 fun v3 S1 => (
  isO S1 l2 12 (
  f_X8_met S1 l2 fun v5 S4 => (
  isO S4 l2 12 (
  f_X8_thrown S4 l2 fun v7 S6 => (
  if v7 = v3 then
    if v3 = 0 then
      aL S6 l3 0 fun v10 => (
      if (lg_cmp v10 v5.toInt64) = 0 then
        f_L_law_J1248 adK L xs g28 S6 (bc - mc2) (bs - ms2) l1 l2 l3 l4 l5
      else
        False)
    else
      f_L_law_J1248 adK L xs g28 S6 (bc - mc2) (bs - ms2) l1 l2 l3 l4 l5
  else
    False))))))
def f_L_law_J1292 (adK : Nat → Nat) (L : Nat) (xs : Nat → Int32) (g28 : PS → Nat → Nat → Nat → Nat → Nat → Nat → Int32 → Prop) (S : PS) (bc bs : Nat) (l1 : Nat) (l2 : Nat) (l3 : Nat) (l4 : Nat) (l5 : Int32) : Prop :=
  f_L_law_J2561 adK L xs g28 S bc bs l1 l2 l3 l4 l5
def f_L_law_J1251 (adK : Nat → Nat) (L : Nat) (xs : Nat → Int32) (g28 : PS → Nat → Nat → Nat → Nat → Nat → Nat → Int32 → Prop) (S : PS) (bc bs : Nat) (l1 : Nat) (l2 : Nat) (l3 : Nat) (l4 : Nat) (l5 : Int32) : Prop :=
  ∃ mc2 ms2 : Nat, mc2 ≤ bc ∧ ms2 ≤ bs ∧ (f_L_leastSides S l1 l3 mc2 ms2 fun v3 S1 => (
  isO S1 l2 12 (
  f_X8_leastSides S1 l2 fun v5 S4 => (
  isO S4 l2 12 (
  f_X8_thrown S4 l2 fun v7 S6 => (
  if v7 = v3 then
    if v3 = 0 then
      aL S6 l3 0 fun v10 => (
      if (lg_cmp v10 v5.toInt64) = 0 then
        f_L_law_J1292 adK L xs g28 S6 (bc - mc2) (bs - ms2) l1 l2 l3 l4 l5
      else
        False)
    else
      f_L_law_J1292 adK L xs g28 S6 (bc - mc2) (bs - ms2) l1 l2 l3 l4 l5
  else
    False))))))
def f_L_law_J1360 (adK : Nat → Nat) (L : Nat) (xs : Nat → Int32) (g28 : PS → Nat → Nat → Nat → Nat → Nat → Nat → Int32 → Prop) (S : PS) (bc bs : Nat) (l1 : Nat) (l2 : Nat) (l3 : Nat) (l4 : Nat) (l5 : Int32) : Prop :=
  f_L_law_J2561 adK L xs g28 S bc bs l1 l2 l3 l4 l5
def f_L_law_J1295 (adK : Nat → Nat) (L : Nat) (xs : Nat → Int32) (g28 : PS → Nat → Nat → Nat → Nat → Nat → Nat → Int32 → Prop) (S : PS) (bc bs : Nat) (l1 : Nat) (l2 : Nat) (l3 : Nat) (l4 : Nat) (l5 : Int32) : Prop :=
  vp_in (l5 + 1) L ∧ (
  vp_in (l5 + 2) L ∧ (
  ∃ mc2 ms2 : Nat, mc2 ≤ bc ∧ ms2 ≤ bs ∧ (f_L_between S l1 (xs (l5 + 1).toNatClampNeg) (xs (l5 + 2).toNatClampNeg) l3 mc2 ms2 fun v3 S1 => (
  vp_in (l5 + 1) L ∧ (
  vp_in (l5 + 2) L ∧ (
  isO S1 l2 12 (
  f_X8_between S1 l2 (xs (l5 + 1).toNatClampNeg) (xs (l5 + 2).toNatClampNeg) fun v5 S4 => (
  isO S4 l2 12 (
  f_X8_thrown S4 l2 fun v7 S6 => (
  if v7 = v3 then
    if v3 = 0 then
      aL S6 l3 0 fun v10 => (
      if (lg_cmp v10 v5.toInt64) = 0 then
        f_L_law_J1360 adK L xs g28 S6 (bc - mc2) (bs - ms2) l1 l2 l3 l4 l5
      else
        False)
    else
      f_L_law_J1360 adK L xs g28 S6 (bc - mc2) (bs - ms2) l1 l2 l3 l4 l5
  else
    False))))))))))
def f_L_law_J1428 (adK : Nat → Nat) (L : Nat) (xs : Nat → Int32) (g28 : PS → Nat → Nat → Nat → Nat → Nat → Nat → Int32 → Prop) (S : PS) (bc bs : Nat) (l1 : Nat) (l2 : Nat) (l3 : Nat) (l4 : Nat) (l5 : Int32) : Prop :=
  f_L_law_J2561 adK L xs g28 S bc bs l1 l2 l3 l4 l5
def f_L_law_J1363 (adK : Nat → Nat) (L : Nat) (xs : Nat → Int32) (g28 : PS → Nat → Nat → Nat → Nat → Nat → Nat → Int32 → Prop) (S : PS) (bc bs : Nat) (l1 : Nat) (l2 : Nat) (l3 : Nat) (l4 : Nat) (l5 : Int32) : Prop :=
  vp_in (l5 + 1) L ∧ (
  vp_in (l5 + 2) L ∧ (
  ∃ mc2 ms2 : Nat, mc2 ≤ bc ∧ ms2 ≤ bs ∧ (f_L_betweenAgain S l1 (xs (l5 + 1).toNatClampNeg) (xs (l5 + 2).toNatClampNeg) l3 mc2 ms2 fun v3 S1 => (
  vp_in (l5 + 1) L ∧ (
  vp_in (l5 + 2) L ∧ (
  isO S1 l2 12 (
  f_X8_betweenAgain S1 l2 (xs (l5 + 1).toNatClampNeg) (xs (l5 + 2).toNatClampNeg) fun v5 S4 => (
  isO S4 l2 12 (
  f_X8_thrown S4 l2 fun v7 S6 => (
  if v7 = v3 then
    if v3 = 0 then
      aL S6 l3 0 fun v10 => (
      if (lg_cmp v10 v5.toInt64) = 0 then
        f_L_law_J1428 adK L xs g28 S6 (bc - mc2) (bs - ms2) l1 l2 l3 l4 l5
      else
        False)
    else
      f_L_law_J1428 adK L xs g28 S6 (bc - mc2) (bs - ms2) l1 l2 l3 l4 l5
  else
    False))))))))))
def f_L_law_J1472 (adK : Nat → Nat) (L : Nat) (xs : Nat → Int32) (g28 : PS → Nat → Nat → Nat → Nat → Nat → Nat → Int32 → Prop) (S : PS) (bc bs : Nat) (l1 : Nat) (l2 : Nat) (l3 : Nat) (l4 : Nat) (l5 : Int32) : Prop :=
  f_L_law_J2561 adK L xs g28 S bc bs l1 l2 l3 l4 l5
def f_L_law_J1431 (adK : Nat → Nat) (L : Nat) (xs : Nat → Int32) (g28 : PS → Nat → Nat → Nat → Nat → Nat → Nat → Int32 → Prop) (S : PS) (bc bs : Nat) (l1 : Nat) (l2 : Nat) (l3 : Nat) (l4 : Nat) (l5 : Int32) : Prop :=
  ∃ mc2 ms2 : Nat, mc2 ≤ bc ∧ ms2 ≤ bs ∧ (f_L_bestMove S l1 l3 mc2 ms2 fun v3 S1 => (
  isO S1 l2 12 (
  f_X8_bestMove S1 l2 fun v5 S4 => (
  isO S4 l2 12 (
  f_X8_thrown S4 l2 fun v7 S6 => (
  if v7 = v3 then
    if v3 = 0 then
      aL S6 l3 0 fun v10 => (
      if (lg_cmp v10 v5.toInt64) = 0 then
        f_L_law_J1472 adK L xs g28 S6 (bc - mc2) (bs - ms2) l1 l2 l3 l4 l5
      else
        False)
    else
      f_L_law_J1472 adK L xs g28 S6 (bc - mc2) (bs - ms2) l1 l2 l3 l4 l5
  else
    False))))))
def f_L_law_J1528 (adK : Nat → Nat) (L : Nat) (xs : Nat → Int32) (g28 : PS → Nat → Nat → Nat → Nat → Nat → Nat → Int32 → Prop) (S : PS) (bc bs : Nat) (l1 : Nat) (l2 : Nat) (l3 : Nat) (l4 : Nat) (l5 : Int32) : Prop :=
  f_L_law_J2561 adK L xs g28 S bc bs l1 l2 l3 l4 l5
def f_L_law_J1475 (adK : Nat → Nat) (L : Nat) (xs : Nat → Int32) (g28 : PS → Nat → Nat → Nat → Nat → Nat → Nat → Int32 → Prop) (S : PS) (bc bs : Nat) (l1 : Nat) (l2 : Nat) (l3 : Nat) (l4 : Nat) (l5 : Int32) : Prop :=
  vp_in (l5 + 1) L ∧ (
  ∃ mc2 ms2 : Nat, mc2 ≤ bc ∧ ms2 ≤ bs ∧ (f_L_ifMoved S l1 (xs (l5 + 1).toNatClampNeg) l3 mc2 ms2 fun v3 S1 => (
  vp_in (l5 + 1) L ∧ (
  isO S1 l2 12 (
  f_X8_ifMoved S1 l2 (xs (l5 + 1).toNatClampNeg) fun v5 S4 => (
  isO S4 l2 12 (
  f_X8_thrown S4 l2 fun v7 S6 => (
  if v7 = v3 then
    if v3 = 0 then
      aL S6 l3 0 fun v10 => (
      if (lg_cmp v10 v5.toInt64) = 0 then
        f_L_law_J1528 adK L xs g28 S6 (bc - mc2) (bs - ms2) l1 l2 l3 l4 l5
      else
        False)
    else
      f_L_law_J1528 adK L xs g28 S6 (bc - mc2) (bs - ms2) l1 l2 l3 l4 l5
  else
    False))))))))
def f_L_law_J1608 (adK : Nat → Nat) (L : Nat) (xs : Nat → Int32) (g28 : PS → Nat → Nat → Nat → Nat → Nat → Nat → Int32 → Prop) (S : PS) (bc bs : Nat) (l1 : Nat) (l2 : Nat) (l3 : Nat) (l4 : Nat) (l5 : Int32) : Prop :=
  f_L_law_J2561 adK L xs g28 S bc bs l1 l2 l3 l4 l5
def f_L_law_J1531 (adK : Nat → Nat) (L : Nat) (xs : Nat → Int32) (g28 : PS → Nat → Nat → Nat → Nat → Nat → Nat → Int32 → Prop) (S : PS) (bc bs : Nat) (l1 : Nat) (l2 : Nat) (l3 : Nat) (l4 : Nat) (l5 : Int32) : Prop :=
  vp_in (l5 + 1) L ∧ (
  vp_in (l5 + 2) L ∧ (
  vp_in (l5 + 3) L ∧ (
  ∃ mc2 ms2 : Nat, mc2 ≤ bc ∧ ms2 ≤ bs ∧ (f_L_ifBond S l1 (xs (l5 + 1).toNatClampNeg) (xs (l5 + 2).toNatClampNeg) (xs (l5 + 3).toNatClampNeg) l3 mc2 ms2 fun v3 S1 => (
  vp_in (l5 + 1) L ∧ (
  vp_in (l5 + 2) L ∧ (
  vp_in (l5 + 3) L ∧ (
  isO S1 l2 12 (
  f_X8_ifBond S1 l2 (xs (l5 + 1).toNatClampNeg) (xs (l5 + 2).toNatClampNeg) (xs (l5 + 3).toNatClampNeg) fun v5 S4 => (
  isO S4 l2 12 (
  f_X8_thrown S4 l2 fun v7 S6 => (
  if v7 = v3 then
    if v3 = 0 then
      aL S6 l3 0 fun v10 => (
      if (lg_cmp v10 v5.toInt64) = 0 then
        f_L_law_J1608 adK L xs g28 S6 (bc - mc2) (bs - ms2) l1 l2 l3 l4 l5
      else
        False)
    else
      f_L_law_J1608 adK L xs g28 S6 (bc - mc2) (bs - ms2) l1 l2 l3 l4 l5
  else
    False))))))))))))
def f_L_law_J1683 (adK : Nat → Nat) (L : Nat) (xs : Nat → Int32) (g28 : PS → Nat → Nat → Nat → Nat → Nat → Nat → Int32 → Prop) (S : PS) (bc bs : Nat) (l1 : Nat) (l2 : Nat) (l3 : Nat) (l4 : Nat) (l5 : Int32) : Prop :=
  f_L_law_J2561 adK L xs g28 S bc bs l1 l2 l3 l4 l5
def f_L_law_J1677 (adK : Nat → Nat) (L : Nat) (xs : Nat → Int32) (g28 : PS → Nat → Nat → Nat → Nat → Nat → Nat → Int32 → Prop) (S : PS) (bc bs : Nat) (l1 : Nat) (l2 : Nat) (l3 : Nat) (l4 : Nat) (l5 : Int32) (t0 : Int64) (t1 : Int64) : Prop :=
  if (lg_cmp t1 t0) = 0 then
    f_L_law_J1683 adK L xs g28 S bc bs l1 l2 l3 l4 l5
  else
    False
def f_L_law_J1611 (adK : Nat → Nat) (L : Nat) (xs : Nat → Int32) (g28 : PS → Nat → Nat → Nat → Nat → Nat → Nat → Int32 → Prop) (S : PS) (bc bs : Nat) (l1 : Nat) (l2 : Nat) (l3 : Nat) (l4 : Nat) (l5 : Int32) : Prop :=
  vp_in (l5 + 1) L ∧ (
  vp_in (l5 + 2) L ∧ (
  ∃ mc2 ms2 : Nat, mc2 ≤ bc ∧ ms2 ≤ bs ∧ (f_L_isCritical S l1 (xs (l5 + 1).toNatClampNeg) (xs (l5 + 2).toNatClampNeg) l3 mc2 ms2 fun v3 S1 => (
  vp_in (l5 + 1) L ∧ (
  vp_in (l5 + 2) L ∧ (
  isO S1 l2 12 (
  f_X8_isCritical S1 l2 (xs (l5 + 1).toNatClampNeg) (xs (l5 + 2).toNatClampNeg) fun v5 S4 => (
  isO S4 l2 12 (
  f_X8_thrown S4 l2 fun v7 S6 => (
  if v7 = v3 then
    if v3 = 0 then
      aL S6 l3 0 fun v10 => (
      if v5 = 0 then
        f_L_law_J1677 adK L xs g28 S6 (bc - mc2) (bs - ms2) l1 l2 l3 l4 l5 0 v10
      else
        f_L_law_J1677 adK L xs g28 S6 (bc - mc2) (bs - ms2) l1 l2 l3 l4 l5 1 v10)
    else
      f_L_law_J1683 adK L xs g28 S6 (bc - mc2) (bs - ms2) l1 l2 l3 l4 l5
  else
    False))))))))))
def f_L_law_J1686 (adK : Nat → Nat) (L : Nat) (xs : Nat → Int32) (g28 : PS → Nat → Nat → Nat → Nat → Nat → Nat → Int32 → Prop) (S : PS) (bc bs : Nat) (l1 : Nat) (l2 : Nat) (l3 : Nat) (l4 : Nat) (l5 : Int32) : Prop :=
  isO S l1 11 (
  f_X7_parts S l1 fun v2 S1 => (
  isO S1 l2 12 (
  f_X8_parts S1 l2 fun v4 S3 => (
  if v2 = v4 then
    f_L_law_J2561 adK L xs g28 S3 bc bs l1 l2 l3 l4 l5
  else
    False))))
def f_L_law_J1752 (adK : Nat → Nat) (L : Nat) (xs : Nat → Int32) (g28 : PS → Nat → Nat → Nat → Nat → Nat → Nat → Int32 → Prop) (S : PS) (bc bs : Nat) (l1 : Nat) (l2 : Nat) (l3 : Nat) (l4 : Nat) (l5 : Int32) : Prop :=
  f_L_law_J2561 adK L xs g28 S bc bs l1 l2 l3 l4 l5
def f_L_law_J1699 (adK : Nat → Nat) (L : Nat) (xs : Nat → Int32) (g28 : PS → Nat → Nat → Nat → Nat → Nat → Nat → Int32 → Prop) (S : PS) (bc bs : Nat) (l1 : Nat) (l2 : Nat) (l3 : Nat) (l4 : Nat) (l5 : Int32) : Prop :=
  vp_in (l5 + 1) L ∧ (
  ∃ mc2 ms2 : Nat, mc2 ≤ bc ∧ ms2 ≤ bs ∧ (f_L_partOf S l1 (xs (l5 + 1).toNatClampNeg) l3 mc2 ms2 fun v3 S1 => (
  vp_in (l5 + 1) L ∧ (
  isO S1 l2 12 (
  f_X8_partOf S1 l2 (xs (l5 + 1).toNatClampNeg) fun v5 S4 => (
  isO S4 l2 12 (
  f_X8_thrown S4 l2 fun v7 S6 => (
  if v7 = v3 then
    if v3 = 0 then
      aL S6 l3 0 fun v10 => (
      if (lg_cmp v10 v5.toInt64) = 0 then
        f_L_law_J1752 adK L xs g28 S6 (bc - mc2) (bs - ms2) l1 l2 l3 l4 l5
      else
        False)
    else
      f_L_law_J1752 adK L xs g28 S6 (bc - mc2) (bs - ms2) l1 l2 l3 l4 l5
  else
    False))))))))
def f_L_law_J1808 (adK : Nat → Nat) (L : Nat) (xs : Nat → Int32) (g28 : PS → Nat → Nat → Nat → Nat → Nat → Nat → Int32 → Prop) (S : PS) (bc bs : Nat) (l1 : Nat) (l2 : Nat) (l3 : Nat) (l4 : Nat) (l5 : Int32) : Prop :=
  f_L_law_J2561 adK L xs g28 S bc bs l1 l2 l3 l4 l5
def f_L_law_J1755 (adK : Nat → Nat) (L : Nat) (xs : Nat → Int32) (g28 : PS → Nat → Nat → Nat → Nat → Nat → Nat → Int32 → Prop) (S : PS) (bc bs : Nat) (l1 : Nat) (l2 : Nat) (l3 : Nat) (l4 : Nat) (l5 : Int32) : Prop :=
  vp_in (l5 + 1) L ∧ (
  ∃ mc2 ms2 : Nat, mc2 ≤ bc ∧ ms2 ≤ bs ∧ (f_L_bondAt S l1 (xs (l5 + 1).toNatClampNeg) l3 mc2 ms2 fun v3 S1 => (
  vp_in (l5 + 1) L ∧ (
  isO S1 l2 12 (
  f_X8_bondAt S1 l2 (xs (l5 + 1).toNatClampNeg) fun v5 S4 => (
  isO S4 l2 12 (
  f_X8_thrown S4 l2 fun v7 S6 => (
  if v7 = v3 then
    if v3 = 0 then
      aL S6 l3 0 fun v10 => (
      if (lg_cmp v10 v5.toInt64) = 0 then
        f_L_law_J1808 adK L xs g28 S6 (bc - mc2) (bs - ms2) l1 l2 l3 l4 l5
      else
        False)
    else
      f_L_law_J1808 adK L xs g28 S6 (bc - mc2) (bs - ms2) l1 l2 l3 l4 l5
  else
    False))))))))
def f_L_law_J1852 (adK : Nat → Nat) (L : Nat) (xs : Nat → Int32) (g28 : PS → Nat → Nat → Nat → Nat → Nat → Nat → Int32 → Prop) (S : PS) (bc bs : Nat) (l1 : Nat) (l2 : Nat) (l3 : Nat) (l4 : Nat) (l5 : Int32) : Prop :=
  f_L_law_J2561 adK L xs g28 S bc bs l1 l2 l3 l4 l5
def f_L_law_J1811 (adK : Nat → Nat) (L : Nat) (xs : Nat → Int32) (g28 : PS → Nat → Nat → Nat → Nat → Nat → Nat → Int32 → Prop) (S : PS) (bc bs : Nat) (l1 : Nat) (l2 : Nat) (l3 : Nat) (l4 : Nat) (l5 : Int32) : Prop :=
  ∃ mc2 ms2 : Nat, mc2 ≤ bc ∧ ms2 ≤ bs ∧ (f_L_heaviest S l1 l3 mc2 ms2 fun v3 S1 => (
  isO S1 l2 12 (
  f_X8_heaviest S1 l2 fun v5 S4 => (
  isO S4 l2 12 (
  f_X8_thrown S4 l2 fun v7 S6 => (
  if v7 = v3 then
    if v3 = 0 then
      aL S6 l3 0 fun v10 => (
      if (lg_cmp v10 v5.toInt64) = 0 then
        f_L_law_J1852 adK L xs g28 S6 (bc - mc2) (bs - ms2) l1 l2 l3 l4 l5
      else
        False)
    else
      f_L_law_J1852 adK L xs g28 S6 (bc - mc2) (bs - ms2) l1 l2 l3 l4 l5
  else
    False))))))
def f_L_law_J1920 (adK : Nat → Nat) (L : Nat) (xs : Nat → Int32) (g28 : PS → Nat → Nat → Nat → Nat → Nat → Nat → Int32 → Prop) (S : PS) (bc bs : Nat) (l1 : Nat) (l2 : Nat) (l3 : Nat) (l4 : Nat) (l5 : Int32) : Prop :=
  f_L_law_J2561 adK L xs g28 S bc bs l1 l2 l3 l4 l5
def f_L_law_J1855 (adK : Nat → Nat) (L : Nat) (xs : Nat → Int32) (g28 : PS → Nat → Nat → Nat → Nat → Nat → Nat → Int32 → Prop) (S : PS) (bc bs : Nat) (l1 : Nat) (l2 : Nat) (l3 : Nat) (l4 : Nat) (l5 : Int32) : Prop :=
  vp_in (l5 + 1) L ∧ (
  vp_in (l5 + 2) L ∧ (
  ∃ mc2 ms2 : Nat, mc2 ≤ bc ∧ ms2 ≤ bs ∧ (f_L_ranked S l1 (xs (l5 + 1).toNatClampNeg) (xs (l5 + 2).toNatClampNeg) l3 mc2 ms2 fun v3 S1 => (
  vp_in (l5 + 1) L ∧ (
  vp_in (l5 + 2) L ∧ (
  isO S1 l2 12 (
  f_X8_ranked S1 l2 (xs (l5 + 1).toNatClampNeg) (xs (l5 + 2).toNatClampNeg) fun v5 S4 => (
  isO S4 l2 12 (
  f_X8_thrown S4 l2 fun v7 S6 => (
  if v7 = v3 then
    if v3 = 0 then
      aL S6 l3 0 fun v10 => (
      if (lg_cmp v10 v5.toInt64) = 0 then
        f_L_law_J1920 adK L xs g28 S6 (bc - mc2) (bs - ms2) l1 l2 l3 l4 l5
      else
        False)
    else
      f_L_law_J1920 adK L xs g28 S6 (bc - mc2) (bs - ms2) l1 l2 l3 l4 l5
  else
    False))))))))))
def f_L_law_J1923 (adK : Nat → Nat) (L : Nat) (xs : Nat → Int32) (g28 : PS → Nat → Nat → Nat → Nat → Nat → Nat → Int32 → Prop) (S : PS) (bc bs : Nat) (l1 : Nat) (l2 : Nat) (l3 : Nat) (l4 : Nat) (l5 : Int32) : Prop :=
  isO S l1 11 (
  f_X7_isTold S l1 fun v2 S1 => (
  isO S1 l2 12 (
  f_X8_isTold S1 l2 fun v4 S3 => (
  if v2 = v4 then
    f_L_law_J2561 adK L xs g28 S3 bc bs l1 l2 l3 l4 l5
  else
    False))))
def f_L_law_J1991 (adK : Nat → Nat) (L : Nat) (xs : Nat → Int32) (g28 : PS → Nat → Nat → Nat → Nat → Nat → Nat → Int32 → Prop) (S : PS) (bc bs : Nat) (l1 : Nat) (l2 : Nat) (l3 : Nat) (l4 : Nat) (l5 : Int32) : Prop :=
  f_L_law_J2561 adK L xs g28 S bc bs l1 l2 l3 l4 l5
def f_L_law_J1936 (adK : Nat → Nat) (L : Nat) (xs : Nat → Int32) (g28 : PS → Nat → Nat → Nat → Nat → Nat → Nat → Int32 → Prop) (S : PS) (bc bs : Nat) (l1 : Nat) (l2 : Nat) (l3 : Nat) (l4 : Nat) (l5 : Int32) : Prop :=
  vp_in (l5 + 1) L ∧ (
  ∃ mc2 ms2 : Nat, mc2 ≤ bc ∧ ms2 ≤ bs ∧ (f_L_append S l1 (((xs (l5 + 1).toNatClampNeg).toUInt32 % 65536).toInt32) l3 mc2 ms2 fun v3 S1 => (
  vp_in (l5 + 1) L ∧ (
  isO S1 l2 12 (
  f_X8_append S1 l2 (((xs (l5 + 1).toNatClampNeg).toUInt32 % 65536).toInt32) fun v5 S4 => (
  isO S4 l2 12 (
  f_X8_thrown S4 l2 fun v7 S6 => (
  if v7 = v3 then
    if v3 = 0 then
      aL S6 l3 0 fun v10 => (
      if (lg_cmp v10 v5.toInt64) = 0 then
        f_L_law_J1991 adK L xs g28 S6 (bc - mc2) (bs - ms2) l1 l2 l3 l4 l5
      else
        False)
    else
      f_L_law_J1991 adK L xs g28 S6 (bc - mc2) (bs - ms2) l1 l2 l3 l4 l5
  else
    False))))))))
def f_L_law_J2035 (adK : Nat → Nat) (L : Nat) (xs : Nat → Int32) (g28 : PS → Nat → Nat → Nat → Nat → Nat → Nat → Int32 → Prop) (S : PS) (bc bs : Nat) (l1 : Nat) (l2 : Nat) (l3 : Nat) (l4 : Nat) (l5 : Int32) : Prop :=
  f_L_law_J2561 adK L xs g28 S bc bs l1 l2 l3 l4 l5
def f_L_law_J1994 (adK : Nat → Nat) (L : Nat) (xs : Nat → Int32) (g28 : PS → Nat → Nat → Nat → Nat → Nat → Nat → Int32 → Prop) (S : PS) (bc bs : Nat) (l1 : Nat) (l2 : Nat) (l3 : Nat) (l4 : Nat) (l5 : Int32) : Prop :=
  ∃ mc2 ms2 : Nat, mc2 ≤ bc ∧ ms2 ≤ bs ∧ (f_L_run adK S l1 l3 mc2 ms2 fun v3 S1 => (
  isO S1 l2 12 (
  f_X8_run S1 l2 fun v5 S4 => (
  isO S4 l2 12 (
  f_X8_thrown S4 l2 fun v7 S6 => (
  if v7 = v3 then
    if v3 = 0 then
      aL S6 l3 0 fun v10 => (
      if (lg_cmp v10 v5.toInt64) = 0 then
        f_L_law_J2035 adK L xs g28 S6 (bc - mc2) (bs - ms2) l1 l2 l3 l4 l5
      else
        False)
    else
      f_L_law_J2035 adK L xs g28 S6 (bc - mc2) (bs - ms2) l1 l2 l3 l4 l5
  else
    False))))))
def f_L_law_J2038 (adK : Nat → Nat) (L : Nat) (xs : Nat → Int32) (g28 : PS → Nat → Nat → Nat → Nat → Nat → Nat → Int32 → Prop) (S : PS) (bc bs : Nat) (l1 : Nat) (l2 : Nat) (l3 : Nat) (l4 : Nat) (l5 : Int32) : Prop :=
  isO S l1 11 (
  f_X7_faultPosition S l1 fun v2 S1 => (
  isO S1 l2 12 (
  f_X8_faultPosition S1 l2 fun v4 S3 => (
  if v2 = v4 then
    f_L_law_J2561 adK L xs g28 S3 bc bs l1 l2 l3 l4 l5
  else
    False))))
def f_L_law_J2132 (adK : Nat → Nat) (L : Nat) (xs : Nat → Int32) (g28 : PS → Nat → Nat → Nat → Nat → Nat → Nat → Int32 → Prop) (S : PS) (bc bs : Nat) (l1 : Nat) (l2 : Nat) (l3 : Nat) (l4 : Nat) (l5 : Int32) : Prop :=
  f_L_law_J2561 adK L xs g28 S bc bs l1 l2 l3 l4 l5
def f_L_law_J2099 (adK : Nat → Nat) (L : Nat) (xs : Nat → Int32) (g28 : PS → Nat → Nat → Nat → Nat → Nat → Nat → Int32 → Prop) (S : PS) (bc bs : Nat) (l1 : Nat) (l2 : Nat) (l3 : Nat) (l4 : Nat) (l5 : Int32) (l6 : Int32) (t0 : Int32) (t1 : Int32) (t2 : Nat) : Prop :=
  isO S t2 12 (
  f_X8_reason S t2 t1 t0 fun v2 S1 => (
  isO S1 l2 12 (
  f_X8_thrown S1 l2 fun v4 S3 => (
  if v4 = l6 then
    if l6 = 0 then
      aL S3 l3 0 fun v7 => (
      if (lg_cmp v7 v2.toInt64) = 0 then
        f_L_law_J2132 adK L xs g28 S3 bc bs l1 l2 l3 l4 l5
      else
        False)
    else
      f_L_law_J2132 adK L xs g28 S3 bc bs l1 l2 l3 l4 l5
  else
    False))))
def f_L_law_J2072 (adK : Nat → Nat) (L : Nat) (xs : Nat → Int32) (g28 : PS → Nat → Nat → Nat → Nat → Nat → Nat → Int32 → Prop) (S : PS) (bc bs : Nat) (l1 : Nat) (l2 : Nat) (l3 : Nat) (l4 : Nat) (l5 : Int32) (t0 : Int32) (t1 : Int32) (t2 : Nat) : Prop :=
  ∃ mc2 ms2 : Nat, mc2 ≤ bc ∧ ms2 ≤ bs ∧ (f_L_reason S t2 t1 t0 l3 mc2 ms2 fun v3 S1 => (
  vp_in (l5 + 1) L ∧ (
  vp_in (l5 + 2) L ∧ (
  if (xs (l5 + 2).toNatClampNeg) = 0 then
    f_L_law_J2099 adK L xs g28 S1 (bc - mc2) (bs - ms2) l1 l2 l3 l4 l5 v3 0 (xs (l5 + 1).toNatClampNeg) l2
  else
    f_L_law_J2099 adK L xs g28 S1 (bc - mc2) (bs - ms2) l1 l2 l3 l4 l5 v3 1 (xs (l5 + 1).toNatClampNeg) l2))))
def f_L_law_J2051 (adK : Nat → Nat) (L : Nat) (xs : Nat → Int32) (g28 : PS → Nat → Nat → Nat → Nat → Nat → Nat → Int32 → Prop) (S : PS) (bc bs : Nat) (l1 : Nat) (l2 : Nat) (l3 : Nat) (l4 : Nat) (l5 : Int32) : Prop :=
  vp_in (l5 + 1) L ∧ (
  vp_in (l5 + 2) L ∧ (
  if (xs (l5 + 2).toNatClampNeg) = 0 then
    f_L_law_J2072 adK L xs g28 S bc bs l1 l2 l3 l4 l5 0 (xs (l5 + 1).toNatClampNeg) l1
  else
    f_L_law_J2072 adK L xs g28 S bc bs l1 l2 l3 l4 l5 1 (xs (l5 + 1).toNatClampNeg) l1))
def f_L_law_J2135 (adK : Nat → Nat) (L : Nat) (xs : Nat → Int32) (g28 : PS → Nat → Nat → Nat → Nat → Nat → Nat → Int32 → Prop) (S : PS) (bc bs : Nat) (l1 : Nat) (l2 : Nat) (l3 : Nat) (l4 : Nat) (l5 : Int32) : Prop :=
  isO S l1 11 (
  ∃ mc2 ms2 : Nat, mc2 ≤ bc ∧ ms2 ≤ bs ∧ (f_X7_tell S l1 mc2 ms2 fun v3 S1 => (
  isO S1 l2 12 (
  f_X8_tell S1 l2 fun v5 S4 => (
  if v3 = v5 then
    f_L_law_J2561 adK L xs g28 S4 (bc - mc2) (bs - ms2) l1 l2 l3 l4 l5
  else
    False)))))
def f_L_law_J2201 (adK : Nat → Nat) (L : Nat) (xs : Nat → Int32) (g28 : PS → Nat → Nat → Nat → Nat → Nat → Nat → Int32 → Prop) (S : PS) (bc bs : Nat) (l1 : Nat) (l2 : Nat) (l3 : Nat) (l4 : Nat) (l5 : Int32) : Prop :=
  f_L_law_J2561 adK L xs g28 S bc bs l1 l2 l3 l4 l5
def f_L_law_J2148 (adK : Nat → Nat) (L : Nat) (xs : Nat → Int32) (g28 : PS → Nat → Nat → Nat → Nat → Nat → Nat → Int32 → Prop) (S : PS) (bc bs : Nat) (l1 : Nat) (l2 : Nat) (l3 : Nat) (l4 : Nat) (l5 : Int32) : Prop :=
  vp_in (l5 + 1) L ∧ (
  ∃ mc2 ms2 : Nat, mc2 ≤ bc ∧ ms2 ≤ bs ∧ (f_L_tellPhase S l1 (xs (l5 + 1).toNatClampNeg) l3 mc2 ms2 fun v3 S1 => (
  vp_in (l5 + 1) L ∧ (
  isO S1 l2 12 (
  f_X8_tellPhase S1 l2 (xs (l5 + 1).toNatClampNeg) fun v5 S4 => (
  isO S4 l2 12 (
  f_X8_thrown S4 l2 fun v7 S6 => (
  if v7 = v3 then
    if v3 = 0 then
      aL S6 l3 0 fun v10 => (
      if (lg_cmp v10 v5.toInt64) = 0 then
        f_L_law_J2201 adK L xs g28 S6 (bc - mc2) (bs - ms2) l1 l2 l3 l4 l5
      else
        False)
    else
      f_L_law_J2201 adK L xs g28 S6 (bc - mc2) (bs - ms2) l1 l2 l3 l4 l5
  else
    False))))))))
def f_L_law_J2204 (adK : Nat → Nat) (L : Nat) (xs : Nat → Int32) (g28 : PS → Nat → Nat → Nat → Nat → Nat → Nat → Int32 → Prop) (S : PS) (bc bs : Nat) (l1 : Nat) (l2 : Nat) (l3 : Nat) (l4 : Nat) (l5 : Int32) : Prop :=
  isO S l1 11 (
  ∃ mc2 ms2 : Nat, mc2 ≤ bc ∧ ms2 ≤ bs ∧ (f_X7_tellSides S l1 mc2 ms2 fun v3 S1 => (
  isO S1 l2 12 (
  f_X8_tellSides S1 l2 fun v5 S4 => (
  if v3 = v5 then
    f_L_law_J2561 adK L xs g28 S4 (bc - mc2) (bs - ms2) l1 l2 l3 l4 l5
  else
    False)))))
def f_L_law_J2270 (adK : Nat → Nat) (L : Nat) (xs : Nat → Int32) (g28 : PS → Nat → Nat → Nat → Nat → Nat → Nat → Int32 → Prop) (S : PS) (bc bs : Nat) (l1 : Nat) (l2 : Nat) (l3 : Nat) (l4 : Nat) (l5 : Int32) : Prop :=
  f_L_law_J2561 adK L xs g28 S bc bs l1 l2 l3 l4 l5
def f_L_law_J2217 (adK : Nat → Nat) (L : Nat) (xs : Nat → Int32) (g28 : PS → Nat → Nat → Nat → Nat → Nat → Nat → Int32 → Prop) (S : PS) (bc bs : Nat) (l1 : Nat) (l2 : Nat) (l3 : Nat) (l4 : Nat) (l5 : Int32) : Prop :=
  vp_in (l5 + 1) L ∧ (
  ∃ mc2 ms2 : Nat, mc2 ≤ bc ∧ ms2 ≤ bs ∧ (f_L_character S l1 (xs (l5 + 1).toNatClampNeg) l3 mc2 ms2 fun v3 S1 => (
  vp_in (l5 + 1) L ∧ (
  isO S1 l2 12 (
  f_X8_character S1 l2 (xs (l5 + 1).toNatClampNeg) fun v5 S4 => (
  isO S4 l2 12 (
  f_X8_thrown S4 l2 fun v7 S6 => (
  if v7 = v3 then
    if v3 = 0 then
      aL S6 l3 0 fun v10 => (
      if (lg_cmp v10 v5.toInt64) = 0 then
        f_L_law_J2270 adK L xs g28 S6 (bc - mc2) (bs - ms2) l1 l2 l3 l4 l5
      else
        False)
    else
      f_L_law_J2270 adK L xs g28 S6 (bc - mc2) (bs - ms2) l1 l2 l3 l4 l5
  else
    False))))))))
def f_L_law_J2326 (adK : Nat → Nat) (L : Nat) (xs : Nat → Int32) (g28 : PS → Nat → Nat → Nat → Nat → Nat → Nat → Int32 → Prop) (S : PS) (bc bs : Nat) (l1 : Nat) (l2 : Nat) (l3 : Nat) (l4 : Nat) (l5 : Int32) : Prop :=
  f_L_law_J2561 adK L xs g28 S bc bs l1 l2 l3 l4 l5
def f_L_law_J2273 (adK : Nat → Nat) (L : Nat) (xs : Nat → Int32) (g28 : PS → Nat → Nat → Nat → Nat → Nat → Nat → Int32 → Prop) (S : PS) (bc bs : Nat) (l1 : Nat) (l2 : Nat) (l3 : Nat) (l4 : Nat) (l5 : Int32) : Prop :=
  vp_in (l5 + 1) L ∧ (
  ∃ mc2 ms2 : Nat, mc2 ≤ bc ∧ ms2 ≤ bs ∧ (f_L_account S l1 (xs (l5 + 1).toNatClampNeg) l3 mc2 ms2 fun v3 S1 => (
  vp_in (l5 + 1) L ∧ (
  isO S1 l2 12 (
  f_X8_account S1 l2 (xs (l5 + 1).toNatClampNeg) fun v5 S4 => (
  isO S4 l2 12 (
  f_X8_thrown S4 l2 fun v7 S6 => (
  if v7 = v3 then
    if v3 = 0 then
      aL S6 l3 0 fun v10 => (
      if (lg_cmp v10 v5.toInt64) = 0 then
        f_L_law_J2326 adK L xs g28 S6 (bc - mc2) (bs - ms2) l1 l2 l3 l4 l5
      else
        False)
    else
      f_L_law_J2326 adK L xs g28 S6 (bc - mc2) (bs - ms2) l1 l2 l3 l4 l5
  else
    False))))))))
def f_L_law_J2391 (adK : Nat → Nat) (L : Nat) (xs : Nat → Int32) (g28 : PS → Nat → Nat → Nat → Nat → Nat → Nat → Int32 → Prop) (S : PS) (bc bs : Nat) (l1 : Nat) (l2 : Nat) (l3 : Nat) (l4 : Nat) (l5 : Int32) : Prop :=
  f_L_law_J2561 adK L xs g28 S bc bs l1 l2 l3 l4 l5
def f_L_law_J2329 (adK : Nat → Nat) (L : Nat) (xs : Nat → Int32) (g28 : PS → Nat → Nat → Nat → Nat → Nat → Nat → Int32 → Prop) (S : PS) (bc bs : Nat) (l1 : Nat) (l2 : Nat) (l3 : Nat) (l4 : Nat) (l5 : Int32) : Prop :=
  ∃ mc2 ms2 : Nat, mc2 ≤ bc ∧ ms2 ≤ bs ∧ (f_L_meanWeight S l1 l4 mc2 ms2 fun v3 S1 => (
  isO S1 l2 12 (
  f_X8_meanWeight S1 l2 fun v5 S4 => (
  isO S4 l2 12 (
  f_X8_thrown S4 l2 fun v7 S6 => (
  if v7 = v3 then
    if v3 = 0 then
      aD S6 l4 0 fun v10 => (
      if (Op.cmpValue (FP.dcmp v10 v5) .l) = 0 then
        f_L_law_J2391 adK L xs g28 S6 (bc - mc2) (bs - ms2) l1 l2 l3 l4 l5
      else
        aD S6 l4 0 fun v12 => (
        aD S6 l4 0 fun v13 => (
        if (Op.cmpValue (FP.dcmp v12 v13) .l) = 0 then
          False
        else
          if (Op.cmpValue (FP.dcmp v5 v5) .l) = 0 then
            False
          else
            f_L_law_J2391 adK L xs g28 S6 (bc - mc2) (bs - ms2) l1 l2 l3 l4 l5)))
    else
      f_L_law_J2391 adK L xs g28 S6 (bc - mc2) (bs - ms2) l1 l2 l3 l4 l5
  else
    False))))))
def f_L_law_J2457 (adK : Nat → Nat) (L : Nat) (xs : Nat → Int32) (g28 : PS → Nat → Nat → Nat → Nat → Nat → Nat → Int32 → Prop) (S : PS) (bc bs : Nat) (l1 : Nat) (l2 : Nat) (l3 : Nat) (l4 : Nat) (l5 : Int32) : Prop :=
  f_L_law_J2561 adK L xs g28 S bc bs l1 l2 l3 l4 l5
def f_L_law_J2394 (adK : Nat → Nat) (L : Nat) (xs : Nat → Int32) (g28 : PS → Nat → Nat → Nat → Nat → Nat → Nat → Int32 → Prop) (S : PS) (bc bs : Nat) (l1 : Nat) (l2 : Nat) (l3 : Nat) (l4 : Nat) (l5 : Int32) : Prop :=
  ∃ mc2 ms2 : Nat, mc2 ≤ bc ∧ ms2 ≤ bs ∧ (f_L_feudShare S l1 l4 mc2 ms2 fun v3 S1 => (
  isO S1 l2 12 (
  f_X8_feudShare S1 l2 fun v5 S4 => (
  isO S4 l2 12 (
  f_X8_thrown S4 l2 fun v7 S6 => (
  if v7 = v3 then
    if v3 = 0 then
      aD S6 l4 0 fun v10 => (
      vf_n64 (FP.f2d v5) ∧ (
      if (Op.cmpValue (FP.dcmp v10 (FP.f2d v5)) .l) = 0 then
        f_L_law_J2457 adK L xs g28 S6 (bc - mc2) (bs - ms2) l1 l2 l3 l4 l5
      else
        aD S6 l4 0 fun v12 => (
        aD S6 l4 0 fun v13 => (
        if (Op.cmpValue (FP.dcmp v12 v13) .l) = 0 then
          False
        else
          if (Op.cmpValue (FP.fcmp v5 v5) .l) = 0 then
            False
          else
            f_L_law_J2457 adK L xs g28 S6 (bc - mc2) (bs - ms2) l1 l2 l3 l4 l5))))
    else
      f_L_law_J2457 adK L xs g28 S6 (bc - mc2) (bs - ms2) l1 l2 l3 l4 l5
  else
    False))))))
def f_L_law_J2501 (adK : Nat → Nat) (L : Nat) (xs : Nat → Int32) (g28 : PS → Nat → Nat → Nat → Nat → Nat → Nat → Int32 → Prop) (S : PS) (bc bs : Nat) (l1 : Nat) (l2 : Nat) (l3 : Nat) (l4 : Nat) (l5 : Int32) : Prop :=
  f_L_law_J2561 adK L xs g28 S bc bs l1 l2 l3 l4 l5
def f_L_law_J2460 (adK : Nat → Nat) (L : Nat) (xs : Nat → Int32) (g28 : PS → Nat → Nat → Nat → Nat → Nat → Nat → Int32 → Prop) (S : PS) (bc bs : Nat) (l1 : Nat) (l2 : Nat) (l3 : Nat) (l4 : Nat) (l5 : Int32) : Prop :=
  ∃ mc2 ms2 : Nat, mc2 ≤ bc ∧ ms2 ≤ bs ∧ (f_L_undo S l1 l3 mc2 ms2 fun v3 S1 => (
  isO S1 l2 12 (
  f_X8_undo S1 l2 fun v5 S4 => (
  isO S4 l2 12 (
  f_X8_thrown S4 l2 fun v7 S6 => (
  if v7 = v3 then
    if v3 = 0 then
      aL S6 l3 0 fun v10 => (
      if (lg_cmp v10 v5.toInt64) = 0 then
        f_L_law_J2501 adK L xs g28 S6 (bc - mc2) (bs - ms2) l1 l2 l3 l4 l5
      else
        False)
    else
      f_L_law_J2501 adK L xs g28 S6 (bc - mc2) (bs - ms2) l1 l2 l3 l4 l5
  else
    False))))))
def f_L_law_J2504 (adK : Nat → Nat) (L : Nat) (xs : Nat → Int32) (g28 : PS → Nat → Nat → Nat → Nat → Nat → Nat → Int32 → Prop) (S : PS) (bc bs : Nat) (l1 : Nat) (l2 : Nat) (l3 : Nat) (l4 : Nat) (l5 : Int32) : Prop :=
  isO S l1 11 (
  ∃ mc2 ms2 : Nat, mc2 ≤ bc ∧ ms2 ≤ bs ∧ (f_X7_save S l1 mc2 ms2 fun v3 S1 => (
  isO S1 l2 12 (
  f_X8_save S1 l2 fun v5 S4 => (
  if v3 = v5 then
    f_L_law_J2561 adK L xs g28 S4 (bc - mc2) (bs - ms2) l1 l2 l3 l4 l5
  else
    False)))))
def f_L_law_J2558 (adK : Nat → Nat) (L : Nat) (xs : Nat → Int32) (g28 : PS → Nat → Nat → Nat → Nat → Nat → Nat → Int32 → Prop) (S : PS) (bc bs : Nat) (l1 : Nat) (l2 : Nat) (l3 : Nat) (l4 : Nat) (l5 : Int32) : Prop :=
  f_L_law_J2561 adK L xs g28 S bc bs l1 l2 l3 l4 l5
def f_L_law_J2517 (adK : Nat → Nat) (L : Nat) (xs : Nat → Int32) (g28 : PS → Nat → Nat → Nat → Nat → Nat → Nat → Int32 → Prop) (S : PS) (bc bs : Nat) (l1 : Nat) (l2 : Nat) (l3 : Nat) (l4 : Nat) (l5 : Int32) : Prop :=
  ∃ mc2 ms2 : Nat, mc2 ≤ bc ∧ ms2 ≤ bs ∧ (f_L_restore S l1 l3 mc2 ms2 fun v3 S1 => (
  isO S1 l2 12 (
  f_X8_restore S1 l2 fun v5 S4 => (
  isO S4 l2 12 (
  f_X8_thrown S4 l2 fun v7 S6 => (
  if v7 = v3 then
    if v3 = 0 then
      aL S6 l3 0 fun v10 => (
      if (lg_cmp v10 v5.toInt64) = 0 then
        f_L_law_J2558 adK L xs g28 S6 (bc - mc2) (bs - ms2) l1 l2 l3 l4 l5
      else
        False)
    else
      f_L_law_J2558 adK L xs g28 S6 (bc - mc2) (bs - ms2) l1 l2 l3 l4 l5
  else
    False))))))
def f_L_law_L28 (adK : Nat → Nat) (L : Nat) (xs : Nat → Int32) : Nat → PS → Nat → Nat → Nat → Nat → Nat → Nat → Int32 → Prop
  | 0, _, _, _, _, _, _, _, _ => False
  | n + 1, S, bc, bs, l1, l2, l3, l4, l5 =>
  if ((Int32.ofNat L) - 4) < l5 then
    True
  else
    vp_in (l5) L ∧ (
    if ((xs (l5).toNatClampNeg) &&& 63) = 0 then
      f_L_law_J244 adK L xs (f_L_law_L28 adK L xs n) S bc bs l1 l2 l3 l4 l5
    else
    if ((xs (l5).toNatClampNeg) &&& 63) = 1 then
      f_L_law_J288 adK L xs (f_L_law_L28 adK L xs n) S bc bs l1 l2 l3 l4 l5
    else
    if ((xs (l5).toNatClampNeg) &&& 63) = 2 then
      f_L_law_J344 adK L xs (f_L_law_L28 adK L xs n) S bc bs l1 l2 l3 l4 l5
    else
    if ((xs (l5).toNatClampNeg) &&& 63) = 3 then
      f_L_law_J424 adK L xs (f_L_law_L28 adK L xs n) S bc bs l1 l2 l3 l4 l5
    else
    if ((xs (l5).toNatClampNeg) &&& 63) = 4 then
      f_L_law_J492 adK L xs (f_L_law_L28 adK L xs n) S bc bs l1 l2 l3 l4 l5
    else
    if ((xs (l5).toNatClampNeg) &&& 63) = 5 then
      f_L_law_J560 adK L xs (f_L_law_L28 adK L xs n) S bc bs l1 l2 l3 l4 l5
    else
    if ((xs (l5).toNatClampNeg) &&& 63) = 6 then
      f_L_law_J628 adK L xs (f_L_law_L28 adK L xs n) S bc bs l1 l2 l3 l4 l5
    else
    if ((xs (l5).toNatClampNeg) &&& 63) = 7 then
      f_L_law_J672 adK L xs (f_L_law_L28 adK L xs n) S bc bs l1 l2 l3 l4 l5
    else
    if ((xs (l5).toNatClampNeg) &&& 63) = 8 then
      f_L_law_J740 adK L xs (f_L_law_L28 adK L xs n) S bc bs l1 l2 l3 l4 l5
    else
    if ((xs (l5).toNatClampNeg) &&& 63) = 9 then
      f_L_law_J808 adK L xs (f_L_law_L28 adK L xs n) S bc bs l1 l2 l3 l4 l5
    else
    if ((xs (l5).toNatClampNeg) &&& 63) = 10 then
      f_L_law_J876 adK L xs (f_L_law_L28 adK L xs n) S bc bs l1 l2 l3 l4 l5
    else
    if ((xs (l5).toNatClampNeg) &&& 63) = 11 then
      f_L_law_J889 adK L xs (f_L_law_L28 adK L xs n) S bc bs l1 l2 l3 l4 l5
    else
    if ((xs (l5).toNatClampNeg) &&& 63) = 12 then
      f_L_law_J902 adK L xs (f_L_law_L28 adK L xs n) S bc bs l1 l2 l3 l4 l5
    else
    if ((xs (l5).toNatClampNeg) &&& 63) = 13 then
      f_L_law_J915 adK L xs (f_L_law_L28 adK L xs n) S bc bs l1 l2 l3 l4 l5
    else
    if ((xs (l5).toNatClampNeg) &&& 63) = 14 then
      f_L_law_J983 adK L xs (f_L_law_L28 adK L xs n) S bc bs l1 l2 l3 l4 l5
    else
    if ((xs (l5).toNatClampNeg) &&& 63) = 15 then
      f_L_law_J1051 adK L xs (f_L_law_L28 adK L xs n) S bc bs l1 l2 l3 l4 l5
    else
    if ((xs (l5).toNatClampNeg) &&& 63) = 16 then
      f_L_law_J1119 adK L xs (f_L_law_L28 adK L xs n) S bc bs l1 l2 l3 l4 l5
    else
    if ((xs (l5).toNatClampNeg) &&& 63) = 17 then
      f_L_law_J1163 adK L xs (f_L_law_L28 adK L xs n) S bc bs l1 l2 l3 l4 l5
    else
    if ((xs (l5).toNatClampNeg) &&& 63) = 18 then
      f_L_law_J1207 adK L xs (f_L_law_L28 adK L xs n) S bc bs l1 l2 l3 l4 l5
    else
    if ((xs (l5).toNatClampNeg) &&& 63) = 19 then
      f_L_law_J1251 adK L xs (f_L_law_L28 adK L xs n) S bc bs l1 l2 l3 l4 l5
    else
    if ((xs (l5).toNatClampNeg) &&& 63) = 20 then
      f_L_law_J1295 adK L xs (f_L_law_L28 adK L xs n) S bc bs l1 l2 l3 l4 l5
    else
    if ((xs (l5).toNatClampNeg) &&& 63) = 21 then
      f_L_law_J1363 adK L xs (f_L_law_L28 adK L xs n) S bc bs l1 l2 l3 l4 l5
    else
    if ((xs (l5).toNatClampNeg) &&& 63) = 22 then
      f_L_law_J1431 adK L xs (f_L_law_L28 adK L xs n) S bc bs l1 l2 l3 l4 l5
    else
    if ((xs (l5).toNatClampNeg) &&& 63) = 23 then
      f_L_law_J1475 adK L xs (f_L_law_L28 adK L xs n) S bc bs l1 l2 l3 l4 l5
    else
    if ((xs (l5).toNatClampNeg) &&& 63) = 24 then
      f_L_law_J1531 adK L xs (f_L_law_L28 adK L xs n) S bc bs l1 l2 l3 l4 l5
    else
    if ((xs (l5).toNatClampNeg) &&& 63) = 25 then
      f_L_law_J1611 adK L xs (f_L_law_L28 adK L xs n) S bc bs l1 l2 l3 l4 l5
    else
    if ((xs (l5).toNatClampNeg) &&& 63) = 26 then
      f_L_law_J1686 adK L xs (f_L_law_L28 adK L xs n) S bc bs l1 l2 l3 l4 l5
    else
    if ((xs (l5).toNatClampNeg) &&& 63) = 27 then
      f_L_law_J1699 adK L xs (f_L_law_L28 adK L xs n) S bc bs l1 l2 l3 l4 l5
    else
    if ((xs (l5).toNatClampNeg) &&& 63) = 28 then
      f_L_law_J1755 adK L xs (f_L_law_L28 adK L xs n) S bc bs l1 l2 l3 l4 l5
    else
    if ((xs (l5).toNatClampNeg) &&& 63) = 29 then
      f_L_law_J1811 adK L xs (f_L_law_L28 adK L xs n) S bc bs l1 l2 l3 l4 l5
    else
    if ((xs (l5).toNatClampNeg) &&& 63) = 30 then
      f_L_law_J1855 adK L xs (f_L_law_L28 adK L xs n) S bc bs l1 l2 l3 l4 l5
    else
    if ((xs (l5).toNatClampNeg) &&& 63) = 31 then
      f_L_law_J1923 adK L xs (f_L_law_L28 adK L xs n) S bc bs l1 l2 l3 l4 l5
    else
    if ((xs (l5).toNatClampNeg) &&& 63) = 32 then
      f_L_law_J1936 adK L xs (f_L_law_L28 adK L xs n) S bc bs l1 l2 l3 l4 l5
    else
    if ((xs (l5).toNatClampNeg) &&& 63) = 33 then
      f_L_law_J1994 adK L xs (f_L_law_L28 adK L xs n) S bc bs l1 l2 l3 l4 l5
    else
    if ((xs (l5).toNatClampNeg) &&& 63) = 34 then
      f_L_law_J2038 adK L xs (f_L_law_L28 adK L xs n) S bc bs l1 l2 l3 l4 l5
    else
    if ((xs (l5).toNatClampNeg) &&& 63) = 35 then
      f_L_law_J2051 adK L xs (f_L_law_L28 adK L xs n) S bc bs l1 l2 l3 l4 l5
    else
    if ((xs (l5).toNatClampNeg) &&& 63) = 36 then
      f_L_law_J2135 adK L xs (f_L_law_L28 adK L xs n) S bc bs l1 l2 l3 l4 l5
    else
    if ((xs (l5).toNatClampNeg) &&& 63) = 37 then
      f_L_law_J2148 adK L xs (f_L_law_L28 adK L xs n) S bc bs l1 l2 l3 l4 l5
    else
    if ((xs (l5).toNatClampNeg) &&& 63) = 38 then
      f_L_law_J2204 adK L xs (f_L_law_L28 adK L xs n) S bc bs l1 l2 l3 l4 l5
    else
    if ((xs (l5).toNatClampNeg) &&& 63) = 39 then
      f_L_law_J2217 adK L xs (f_L_law_L28 adK L xs n) S bc bs l1 l2 l3 l4 l5
    else
    if ((xs (l5).toNatClampNeg) &&& 63) = 40 then
      f_L_law_J2273 adK L xs (f_L_law_L28 adK L xs n) S bc bs l1 l2 l3 l4 l5
    else
    if ((xs (l5).toNatClampNeg) &&& 63) = 41 then
      f_L_law_J2329 adK L xs (f_L_law_L28 adK L xs n) S bc bs l1 l2 l3 l4 l5
    else
    if ((xs (l5).toNatClampNeg) &&& 63) = 42 then
      f_L_law_J2394 adK L xs (f_L_law_L28 adK L xs n) S bc bs l1 l2 l3 l4 l5
    else
    if ((xs (l5).toNatClampNeg) &&& 63) = 43 then
      f_L_law_J2460 adK L xs (f_L_law_L28 adK L xs n) S bc bs l1 l2 l3 l4 l5
    else
    if ((xs (l5).toNatClampNeg) &&& 63) = 44 then
      f_L_law_J2504 adK L xs (f_L_law_L28 adK L xs n) S bc bs l1 l2 l3 l4 l5
    else
    if ((xs (l5).toNatClampNeg) &&& 63) = 45 then
      f_L_law_J2517 adK L xs (f_L_law_L28 adK L xs n) S bc bs l1 l2 l3 l4 l5
    else
      f_L_law_J2561 adK L xs (f_L_law_L28 adK L xs n) S bc bs l1 l2 l3 l4 l5)
def f_L_law (adK : Nat → Nat) (L : Nat) (xs : Nat → Int32) (S : PS) (bc bs : Nat) : Prop :=
  nO S 11 [.null, .null, .null, .null, .null, .null, .null, .null, .null, .null, .null, .null] 12 bc bs fun q1 S2 bc3 bs4 => (
  ∃ mc6 ms6 : Nat, mc6 ≤ bc3 ∧ ms6 ≤ bs4 ∧ (f_X7_init S2 q1 mc6 ms6 fun S5 => (
  nO S5 12 [.int 0, .null, .int 0, .int 0, .int 0, .int 0, .int 0, .int 0, .int 0, .null, .null, .null, .null, .int 0, .int 0, .null, .null, .int 0, .int 0, .int 0, .int 0, .null, .int 0, .null, .int 0] 25 (bc3 - mc6) (bs4 - ms6) fun q8 S9 bc10 bs11 => (
  ∃ mc13 ms13 : Nat, mc13 ≤ bc10 ∧ ms13 ≤ bs11 ∧ (f_X8_init S9 q8 mc13 ms13 fun S12 => (
  nLo S12 1 (bc10 - mc13) (bs11 - ms13) fun q15 S16 bc17 bs18 => (
  nD S16 1 bc17 bs18 fun q19 S20 bc21 bs22 => (
  f_L_law_L28 adK L xs 4096 S20 bc21 bs22 q1 q8 q15 q19 0))))))))
