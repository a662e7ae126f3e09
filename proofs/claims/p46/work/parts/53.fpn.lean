/-! quotients of numbers are numbers -/
theorem fp_n64 {a : UInt64} (h : FP.Core.val64 a ≠ .nan) : nf64 a := by
  have h1 := (FP.Core.ne_nan a).mp h
  show a &&& 0x7fffffffffffffff ≤ 0x7ff0000000000000
  rw [UInt64.le_iff_toNat_le, UInt64.toNat_and]
  rw [show (0x7fffffffffffffff : UInt64).toNat = 2 ^ 63 - 1 from rfl, Nat.and_two_pow_sub_one_eq_mod]
  exact h1
theorem fp_n32 {a : UInt32} (h : FP.Core.val32 a ≠ .nan) : nf32 a := by
  have h1 := (FP.Core.ne_nan32 a).mp h
  show a &&& 0x7fffffff ≤ 0x7f800000
  rw [UInt32.le_iff_toNat_le, UInt32.toNat_and]
  rw [show (0x7fffffff : UInt32).toNat = 2 ^ 31 - 1 from rfl, Nat.and_two_pow_sub_one_eq_mod]
  exact h1
theorem fp_quot {f : FP.Core.Fmt} {i j : Int} {x y : FP.Core.Datum} (hx : FP.Core.Whole i x) (hy : FP.Core.Whole j y) (hj : j ≠ 0) : FP.Core.quotient f x y ≠ .nan := by
  cases x with
  | nan => exact hx.elim
  | inf s => exact hx.elim
  | fin s c q =>
    cases y with
    | nan => exact hy.elim
    | inf s => exact hy.elim
    | fin t d r =>
      have hd : d ≠ 0 := fun e => hj ((FP.Core.whole_zero hy).mp e)
      show (if d = 0 then _ else FP.Core.roundRatio f (s != t) c d (q - r)) ≠ _
      rw [if_neg hd]
      exact FP.Core.roundRatio_ne_nan _ _ _ _ _
theorem fp_ddiv (x y : Int32) (hy : y.toInt ≠ 0) : FP.Core.val64 (FP.ddiv (FP.i2d x) (FP.i2d y)) ≠ .nan := by
  show FP.Core.val64 (FP.Core.ddiv (FP.Core.i2d x) (FP.Core.i2d y)) ≠ .nan
  rw [FP.Core.val64_ddiv]
  exact fp_quot (FP.Core.i2d_int x) (FP.Core.i2d_int y) hy
theorem fp_fdiv (x y : Int32) (hx : x.toInt.natAbs ≤ 2 ^ 24) (hy : y.toInt.natAbs ≤ 2 ^ 24) (h0 : y.toInt ≠ 0) : FP.Core.val32 (FP.fdiv (FP.i2f x) (FP.i2f y)) ≠ .nan := by
  show FP.Core.val32 (FP.Core.fdiv (FP.Core.i2f x) (FP.Core.i2f y)) ≠ .nan
  rw [FP.Core.val32_fdiv]
  exact fp_quot (FP.Core.i2f_int hx) (FP.Core.i2f_int hy) h0
theorem fp_f2d {a : UInt32} (h : FP.Core.val32 a ≠ .nan) : FP.Core.val64 (FP.f2d a) ≠ .nan := by
  rw [FP.f2d_core ((FP.Core.notNaN_iff32 a).mpr h), FP.Core.val64_f2d]
  cases e : FP.Core.val32 a with
  | nan => exact absurd e h
  | inf s => intro z; cases z
  | fin s c q => exact FP.Core.roundRatio_ne_nan _ _ _ _ _
theorem fp_cmp {a : UInt64} (h : FP.Core.val64 a ≠ .nan) : Op.cmpValue (FP.dcmp a a) .l = 0 := by
  rw [show FP.dcmp a a = FP.Core.dcmp a a from rfl, FP.Core.dcmp_self h]
  rfl
theorem fp_0 : FP.Core.val32 FP.fconst0 ≠ .nan := by
  rw [FP.Core.ne_nan32]
  decide +kernel
