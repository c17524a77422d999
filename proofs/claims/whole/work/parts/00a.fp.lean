/-! numbers that are none are never met (first, as these names want the whole library) -/
theorem n64_of {a : UInt64} (h : FP.Core.dIsNaN a = false) : vf_n64 a := by
  have h1 := (FP.Core.ne_nan a).mp ((FP.Core.notNaN_iff a).mp h)
  unfold vf_n64
  rw [UInt64.le_iff_toNat_le, FP.Core.mask_toNat]
  exact Nat.le_trans h1 (by decide)
theorem n32_of {a : UInt32} (h : FP.Core.fIsNaN a = false) : vf_n32 a := by
  have h1 := (FP.Core.ne_nan32 a).mp ((FP.Core.notNaN_iff32 a).mp h)
  unfold vf_n32
  rw [UInt32.le_iff_toNat_le, FP.Core.mask_toNat32]
  exact Nat.le_trans h1 (by decide)
theorem dd_ok {x y : Int32} (h : y ≠ 0) : FP.Core.dIsNaN (FP.ddiv (FP.i2d x) (FP.i2d y)) = false :=
  FP.Core.ddiv_out ((FP.Core.notNaN_iff _).mpr (FP.Core.i2d_fin x).ne_nan) (FP.Core.i2d_fin y) (fun z => FP.Core.i2d_ne_zero h ((FP.Core.zero_bits2 _).mp z))
theorem fd_ok {x y : Int32} (h : y ≠ 0) : FP.Core.fIsNaN (FP.fdiv (FP.i2f x) (FP.i2f y)) = false :=
  FP.Core.fdiv_out ((FP.Core.notNaN_iff32 _).mpr (FP.Core.i2f_fin x).ne_nan) (FP.Core.i2f_fin y) (fun z => FP.Core.i2f_ne_zero h ((FP.Core.zero_bits232 _).mp z))
theorem f2_ok {a : UInt32} (h : FP.Core.fIsNaN a = false) : FP.Core.dIsNaN (FP.f2d a) = false := (FP.f2d_nan a).trans h
theorem dc_0 {a : UInt64} (h : FP.Core.dIsNaN a = false) : Op.cmpValue (FP.dcmp a a) .l = 0 := by
  rw [show FP.dcmp a a = some .eq from FP.Core.dcmp_refl h]
  rfl
