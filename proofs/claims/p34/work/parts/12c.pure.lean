/-! MEAN SCORES -/
def mnD (sum pl : Nat) : UInt64 := if pl = 0 then FP.dconst0 else FP.ddiv (FP.i2d (nI sum)) (FP.i2d (nI pl))
theorem z_ne0 {a : Nat} (h : a < 2 ^ 31) (h0 : ¬ a = 0) : nI a ≠ 0 := fun q => h0 ((z_eq0 h).mp q)
