/-! SMALL ROWS FOR THE LAW'S OWN -/
def bwN (v : Int32) (k : Nat) : Nat := v.toBitVec.toNat % 2 ^ 31 % k
theorem bwN_lt (v : Int32) {k : Nat} (h : 0 < k) : bwN v k < k := Nat.mod_lt _ h
def clF (E : EV) (k : Nat) : Int32 := if k < E.2.2.2.2.2.2.1 then E.2.2.2.2.2.2.2 k else nI (790386105 * (k + 3))
theorem pinV_nn {k : Nat} (h : ¬ pinV k < 0) : k < 9 := Classical.byContradiction fun q => h (by rw [pinV, if_neg q]; decide)
theorem pinV_neg {k : Nat} (h : pinV k < 0) : ¬ k < 9 := fun q => by
  rw [pinV, if_pos q] at h
  exact absurd h (nI_pos (by omega))
theorem z_0T : (0 : Int32).toInt = 0 := by decide
theorem z_l01 {f : Int32} (h : f ≤ 0) : f < 1 := by
  rw [Int32.le_iff_toInt_le, z_0T] at h
  rw [Int32.lt_iff_toInt_lt, z_1T]; omega
theorem z_n01 {f : Int32} (h : ¬ f ≤ 0) : ¬ f < 1 := fun q => h (by
  rw [Int32.lt_iff_toInt_lt, z_1T] at q
  rw [Int32.le_iff_toInt_le, z_0T]; omega)
theorem z_lei {f : Int32} (h : f.toInt ≤ 0) : f ≤ 0 := by rw [Int32.le_iff_toInt_le, z_0T]; exact h
theorem z_am1 (x : Int32) : x + (-1) = x - 1 := by rw [Int32.sub_eq_add_neg]
theorem mB_n0 {g k : Nat} (h : mB g k ≠ 0) : g / 2 ^ k % 2 = 1 := by have := mB_lt g k; unfold mB at *; omega
theorem mB_n1 {g k : Nat} (h : mB g k = 0) : ¬ g / 2 ^ k % 2 = 1 := by unfold mB at h; omega
