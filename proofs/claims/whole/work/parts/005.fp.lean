/-! rows of doubles: need FloatLaws2, which makes the round read the whole library: late, with 900 and 910 -/
theorem m_guard (j : Int64) (x : Int32) (hx : x ≠ 0) : FP.ddiv (FP.l2d j) (FP.i2d x) &&& 0x7fffffffffffffff ≤ 0x7ff0000000000000 := by
  have hn : FP.Core.dIsNaN (FP.Core.ddiv (FP.Core.l2d j) (FP.Core.i2d x)) = false := by
    refine FP.Core.ddiv_out (FP.Core.l2d_fin j).notNaN (FP.Core.i2d_fin x) ?_
    rw [FP.Core.zero_bits2]
    exact FP.Core.i2d_ne_zero hx
  have hb : ¬ (9218868437227405312 < (FP.Core.ddiv (FP.Core.l2d j) (FP.Core.i2d x)).toNat % 2 ^ 63) := fun k => by
    rw [(FP.Core.isNaN_bits _).mpr k] at hn
    exact absurd hn (by decide)
  show FP.Core.ddiv (FP.Core.l2d j) (FP.Core.i2d x) &&& 0x7fffffffffffffff ≤ 0x7ff0000000000000
  rw [UInt64.le_iff_toNat_le, UInt64.toNat_and, show (0x7fffffffffffffff : UInt64).toNat = 2 ^ 63 - 1 from rfl, Nat.and_two_pow_sub_one_eq_mod]
  exact Nat.le_of_not_lt hb
theorem i2d_l2d {x : Int32} {j : Int64} (h : j.toInt = x.toInt) : FP.i2d x = FP.l2d j := by
  show FP.Core.i2d x = FP.Core.l2d j
  unfold FP.Core.i2d FP.Core.l2d
  rw [h]
