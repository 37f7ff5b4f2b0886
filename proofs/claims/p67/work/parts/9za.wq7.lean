/-! the world: mean warmth, share of sleep, the audit -/
theorem n64_no {x : UInt64} (h : Jvm.FP.Core.dIsNaN x = false) : n64 x := by
  have h3 : ¬ 9218868437227405312 < x.toNat % 2 ^ 63 := fun hc => by
    rw [(Jvm.FP.Core.isNaN_bits x).mpr hc] at h
    cases h
  show x &&& 0x7fffffffffffffff ≤ 0x7ff0000000000000
  have h1 : (0x7fffffffffffffff : UInt64).toNat = 2 ^ 63 - 1 := by decide
  have h2 : (0x7ff0000000000000 : UInt64).toNat = 9218868437227405312 := by decide
  rw [UInt64.le_iff_toNat_le, UInt64.toNat_and, h1, h2, Nat.and_two_pow_sub_one_eq_mod]
  exact Nat.le_of_not_lt h3
theorem n32_no {x : UInt32} (h : Jvm.FP.Core.fIsNaN x = false) : n32 x := by
  have h3 : ¬ 2139095040 < x.toNat % 2 ^ 31 := fun hc => by
    rw [(Jvm.FP.Core.isNaN_bits32 x).mpr hc] at h
    cases h
  show x &&& 0x7fffffff ≤ 0x7f800000
  have h1 : (0x7fffffff : UInt32).toNat = 2 ^ 31 - 1 := by decide
  have h2 : (0x7f800000 : UInt32).toNat = 2139095040 := by decide
  rw [UInt32.le_iff_toNat_le, UInt32.toNat_and, h1, h2, Nat.and_two_pow_sub_one_eq_mod]
  exact Nat.le_of_not_lt h3
theorem no_n32 {x : UInt32} (h : n32 x) : Jvm.FP.Core.fIsNaN x = false := by
  have h : x &&& 0x7fffffff ≤ 0x7f800000 := h
  have h1 : (0x7fffffff : UInt32).toNat = 2 ^ 31 - 1 := by decide
  have h2 : (0x7f800000 : UInt32).toNat = 2139095040 := by decide
  rw [UInt32.le_iff_toNat_le, UInt32.toNat_and, h1, h2, Nat.and_two_pow_sub_one_eq_mod] at h
  cases hc : Jvm.FP.Core.fIsNaN x with
  | false => rfl
  | true => exact absurd ((Jvm.FP.Core.isNaN_bits32 x).mp hc) (Nat.not_lt.mpr h)
theorem nan_d {a b : Int32} (h : b ≠ 0) : n64 (FP.ddiv (FP.i2d a) (FP.i2d b)) := n64_no (Jvm.FP.Core.ddiv_out (Jvm.FP.Core.i2d_fin a).notNaN (Jvm.FP.Core.i2d_fin b) (fun hz => Jvm.FP.Core.i2d_ne_zero h ((Jvm.FP.Core.zero_bits2 _).mp hz)))
theorem nan_f {a b : Int32} (h : b ≠ 0) : n32 (FP.fdiv (FP.i2f a) (FP.i2f b)) := n32_no (Jvm.FP.Core.fdiv_out (Jvm.FP.Core.i2f_fin a).notNaN (Jvm.FP.Core.i2f_fin b) (fun hz => Jvm.FP.Core.i2f_ne_zero h ((Jvm.FP.Core.zero_bits232 _).mp hz)))
theorem nan_fd {a : UInt32} (h : n32 a) : n64 (FP.f2d a) := n64_no ((Jvm.FP.f2d_nan a).trans (no_n32 h))
section WQ7
variable {n : Nat} {w : WS}
end WQ7



