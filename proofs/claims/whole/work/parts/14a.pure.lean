/-! MEAN SCORES -/
theorem z_ddiv {a b : Int32} (h : b ≠ 0) : vf_n64 (FP.ddiv (FP.i2d a) (FP.i2d b)) := by
  have h1 : FP.Core.dIsNaN (FP.ddiv (FP.i2d a) (FP.i2d b)) = false := FP.Core.ddiv_out (FP.Core.i2d_fin a).notNaN (FP.Core.i2d_fin b) (fun q => FP.Core.i2d_ne_zero h ((FP.Core.zero_bits2 _).mp q))
  have h2 : ¬ 9218868437227405312 < (FP.ddiv (FP.i2d a) (FP.i2d b)).toNat % 2 ^ 63 := fun q => by
    rw [(FP.Core.isNaN_bits _).mpr q] at h1; cases h1
  unfold vf_n64
  rw [UInt64.le_iff_toNat_le, UInt64.toNat_and]
  have e1 : (0x7fffffffffffffff : UInt64).toNat = 2 ^ 63 - 1 := by decide
  have e2 : (0x7ff0000000000000 : UInt64).toNat = 9218868437227405312 := by decide
  rw [e1, e2, Nat.and_two_pow_sub_one_eq_mod]
  omega
def mnD (sum pl : Nat) : UInt64 := if pl = 0 then FP.dconst0 else FP.ddiv (FP.i2d (nI sum)) (FP.i2d (nI pl))
theorem z_ne0 {a : Nat} (h : a < 2 ^ 31) (h0 : ¬ a = 0) : nI a ≠ 0 := fun q => h0 ((z_eq0 h).mp q)
