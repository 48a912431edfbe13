/-! A quotient of two whole numbers is a number, where the second is not 0. -/
theorem vi_div (a b : Int32) (hb : ¬ b = 0) : vf_n64 (FP.ddiv (FP.i2d a) (FP.i2d b)) := by
  have h : ¬ FP.Core.dIsNaN (FP.Core.ddiv (FP.Core.i2d a) (FP.Core.i2d b)) = true := by
    rw [FP.Core.ddiv_nan_iff]
    rintro (h | h | ⟨s, t, h, -⟩ | ⟨-, h⟩)
    · obtain ⟨s, c, q, e⟩ := FP.Core.i2d_fin a
      rw [e] at h; cases h
    · obtain ⟨s, c, q, e⟩ := FP.Core.i2d_fin b
      rw [e] at h; cases h
    · obtain ⟨s, c, q, e⟩ := FP.Core.i2d_fin a
      rw [e] at h; cases h
    · exact FP.Core.i2d_ne_zero hb ((FP.Core.zero_bits2 _).mp h)
  rw [FP.Core.isNaN_bits] at h
  unfold vf_n64
  rw [UInt64.le_iff_toNat_le, UInt64.toNat_and]
  have e1 : (0x7fffffffffffffff : UInt64).toNat = 2 ^ 63 - 1 := by decide
  have e2 : (0x7ff0000000000000 : UInt64).toNat = 9218868437227405312 := by decide
  rw [e1, e2, Nat.and_two_pow_sub_one_eq_mod]
  exact Nat.not_lt.mp h
