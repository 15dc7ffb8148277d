/-! WHAT THE METHODS OF PINS WORK OUT, on numbers -/
/-- a pin's number as the class keeps it: 9 stands for none -/
def pinV (k : Nat) : Int32 := if k < 9 then nI k else -1
def tbQ : Nat → Nat := fun j => ([9, 9, 0, 9, 9, 9, 1, 9, 2, 9, 3, 9, 4, 9, 5, 9, 6, 9, 7, 9, 9, 9, 8, 9, 9] : List Nat).getD j 9
theorem tPL_eq : ∀ j, j < 25 → tPL j = pinV (tbQ j) := by decide +kernel
def pinQ (r z : Int32) : Nat := if r < 0 then 9 else if 5 ≤ r then 9 else if z < 0 then 9 else if 5 ≤ z then 9 else tbQ (r * 5 + z).toNatClampNeg
theorem tbQ_le : ∀ j, j < 25 → tbQ j ≤ 9 := by decide +kernel
theorem z_in5 {x : Int32} (h0 : ¬ x < 0) (h5 : ¬ 5 ≤ x) : ∃ a : Nat, a < 5 ∧ x = nI a := by
  rcases nI_of h0 with ⟨j, hj, rfl⟩
  refine ⟨j, ?_, rfl⟩
  have h6 : ¬ (nI 5 ≤ nI j) := h5
  rw [nI_leI (by decide) hj] at h6
  omega
theorem pinQ_nI {a b : Nat} (ha : a < 5) (hb : b < 5) : pinQ (nI a) (nI b) = tbQ (a * 5 + b) := by
  have h1 : ¬ nI a < 0 := nI_pos (by omega)
  have h2 : ¬ 5 ≤ nI a := nI_ge (a := a) (b := 5) ha (by decide)
  have h3 : ¬ nI b < 0 := nI_pos (by omega)
  have h4 : ¬ 5 ≤ nI b := nI_ge (a := b) (b := 5) hb (by decide)
  unfold pinQ
  rw [if_neg h1, if_neg h2, if_neg h3, if_neg h4, show nI a * 5 + nI b = nI (a * 5 + b) from by rw [← nI_add, ← pk_mul]; rfl, nI_clamp (by omega)]
theorem pinQ_le (r z : Int32) : pinQ r z ≤ 9 := by
  unfold pinQ
  split
  · omega
  · split
    · omega
    · split
      · omega
      · split
        · omega
        · rename_i h1 h2 h3 h4
          obtain ⟨a, ha, rfl⟩ := z_in5 h1 h2
          obtain ⟨b, hb, rfl⟩ := z_in5 h3 h4
          rw [show nI a * 5 + nI b = nI (a * 5 + b) from by rw [← nI_add, ← pk_mul]; rfl, nI_clamp (by omega)]
          exact tbQ_le _ (by omega)
theorem tb_rl : ∀ a, a < 5 → ∀ b, b < 5 → tbQ (a * 5 + b) < 9 → tRO (tbQ (a * 5 + b)) = nI a ∧ tLA (tbQ (a * 5 + b)) = nI b := by decide +kernel
theorem pinQ_rl {r z : Int32} (h : pinQ r z < 9) : tRO (pinQ r z) = r ∧ tLA (pinQ r z) = z := by
  by_cases h1 : r < 0
  · simp [pinQ, h1] at h
  · by_cases h2 : 5 ≤ r
    · simp [pinQ, h1, h2] at h
    · by_cases h3 : z < 0
      · simp [pinQ, h1, h2, h3] at h
      · by_cases h4 : 5 ≤ z
        · simp [pinQ, h1, h2, h3, h4] at h
        · obtain ⟨a, ha, rfl⟩ := z_in5 h1 h2
          obtain ⟨b, hb, rfl⟩ := z_in5 h3 h4
          rw [pinQ_nI ha hb] at h ⊢
          exact tb_rl a ha b hb h
/-- the set without the pin k -/
def dropK (s k : Nat) : Nat := s &&& (2 ^ k ^^^ 4294967295)
/-- what stands behind a hit of the pin k with the force f; n: how deep at most -/
def hiF : Nat → Nat → Nat → Int32 → Nat
  | 0, s, _, _ => s
  | n + 1, s, k, f => if k < 9 ∧ s / 2 ^ k % 2 = 1 ∧ ¬ f < 1 then hiF n (hiF n (dropK s k) (pinQ (tRO k + 1) (tLA k - 1)) (f - 2)) (pinQ (tRO k + 1) (tLA k + 1)) (f - 2) else s
theorem hiF_no {n s k : Nat} {f : Int32} (h : ¬ (k < 9 ∧ s / 2 ^ k % 2 = 1 ∧ ¬ f < 1)) : hiF n s k f = s := by
  cases n with
  | zero => rfl
  | succ n => simp only [hiF]; rw [if_neg h]
theorem dropK_le (s k : Nat) : dropK s k ≤ s := Nat.and_le_left
theorem hiF_le : ∀ (n s k : Nat) (f : Int32), hiF n s k f ≤ s
  | 0, s, _, _ => Nat.le_refl s
  | n + 1, s, k, f => by
    simp only [hiF]
    split
    · exact Nat.le_trans (hiF_le n _ _ _) (Nat.le_trans (hiF_le n _ _ _) (dropK_le s k))
    · exact Nat.le_refl s
theorem bit_iff (s k : Nat) : s.testBit k = true ↔ s / 2 ^ k % 2 = 1 := by
  rw [Nat.testBit_eq_decide_div_mod_eq]; simp
/-- sets: each of the one is of the other -/
def sbs (a b : Nat) : Prop := ∀ j, a.testBit j = true → b.testBit j = true
theorem sbs_rf (a : Nat) : sbs a a := fun _ h => h
theorem sbs_tr {a b c : Nat} (h : sbs a b) (h2 : sbs b c) : sbs a c := fun j q => h2 j (h j q)
theorem sbs_drop (s k : Nat) : sbs (dropK s k) s := fun j h => by
  rw [dropK, Nat.testBit_and, Bool.and_eq_true] at h
  exact h.1
theorem drop_no {s k : Nat} (hk : k < 9) : (dropK s k).testBit k = false := by
  rw [dropK, Nat.testBit_and, Nat.testBit_xor, Nat.testBit_two_pow_self]
  have : ∀ k, k < 9 → Nat.testBit 4294967295 k = true := by decide +kernel
  rw [this k hk]; simp
theorem sbs_hi : ∀ (n s k : Nat) (f : Int32), sbs (hiF n s k f) s
  | 0, s, _, _ => sbs_rf s
  | n + 1, s, k, f => by
    simp only [hiF]
    split
    · exact sbs_tr (sbs_hi n _ _ _) (sbs_tr (sbs_hi n _ _ _) (sbs_drop s k))
    · exact sbs_rf s
theorem hiF_ne {n s k : Nat} {f : Int32} (hk : k < 9) (hs : s / 2 ^ k % 2 = 1) (hf : ¬ f < 1) : hiF (n + 1) s k f ≠ s := by
  intro e
  have h1 : (hiF (n + 1) s k f).testBit k = true := by rw [e]; exact (bit_iff s k).mpr hs
  simp only [hiF] at h1
  rw [if_pos ⟨hk, hs, hf⟩] at h1
  have h2 := sbs_tr (sbs_hi n _ _ _) (sbs_hi n (dropK s k) _ (f - 2)) k h1
  rw [drop_no hk] at h2
  cases h2
theorem hiF_same {n s k : Nat} {f : Int32} (hf : ¬ f < 1) : hiF (n + 1) s k f = s ↔ ¬ (k < 9 ∧ s / 2 ^ k % 2 = 1) := by
  constructor
  · intro h q
    exact hiF_ne q.1 q.2 hf h
  · intro h
    exact hiF_no (fun q => h ⟨q.1, q.2.1⟩)
/-- a ball: row by row, what stands and the force that is left -/
def roS (s b z : Nat) : Nat → Nat × Nat
  | 0 => (s, b + 2)
  | i + 1 => if (roS s b z i).2 = 0 then roS s b z i else if pinQ (nI i) (nI z) < 9 ∧ (roS s b z i).1 / 2 ^ (pinQ (nI i) (nI z)) % 2 = 1 then (hiF 3 (roS s b z i).1 (pinQ (nI i) (nI z)) (nI (roS s b z i).2), (roS s b z i).2 - 1) else roS s b z i
def roN (s b z : Nat) : Nat := (roS s b z 5).1
theorem ro_le (s b z : Nat) : ∀ i, (roS s b z i).1 ≤ s ∧ (roS s b z i).2 ≤ b + 2
  | 0 => ⟨Nat.le_refl _, Nat.le_refl _⟩
  | i + 1 => by
    have ih := ro_le s b z i
    simp only [roS]
    split
    · exact ih
    · split
      · exact ⟨Nat.le_trans (hiF_le _ _ _ _) ih.1, Nat.le_trans (Nat.sub_le _ _) ih.2⟩
      · exact ih
theorem roN_le (s b z : Nat) : roN s b z ≤ s := (ro_le s b z 5).1
theorem ro_sbs (s b z : Nat) : ∀ i, sbs (roS s b z i).1 s
  | 0 => sbs_rf s
  | i + 1 => by
    have ih := ro_sbs s b z i
    simp only [roS]
    split
    · exact ih
    · split
      · exact sbs_tr (sbs_hi _ _ _ _) ih
      · exact ih
theorem ro_stop {s b z i : Nat} (h : (roS s b z i).2 = 0) : ∀ j, i ≤ j → roS s b z j = roS s b z i
  | 0, hj => by have : i = 0 := by omega
                subst this; rfl
  | j + 1, hj => by
    by_cases e : i = j + 1
    · subst e; rfl
    · have h1 := ro_stop h j (by omega)
      simp only [roS]
      rw [h1, if_pos h]
theorem z_ge1 {a : Nat} (h : ¬ a = 0) (h2 : a < 2 ^ 31) : ¬ nI a < 1 := fun q => by
  have q2 : nI a < nI 1 := q
  rw [nI_ltI h2 (by decide)] at q2
  omega
theorem ro_same {s b z i : Nat} (hb : b < 5) (h0 : ¬ (roS s b z i).2 = 0) (h : hiF 3 (roS s b z i).1 (pinQ (nI i) (nI z)) (nI (roS s b z i).2) = (roS s b z i).1) : roS s b z (i + 1) = roS s b z i := by
  have h2 := (ro_le s b z i).2
  have h3 := (hiF_same (z_ge1 h0 (by omega))).mp h
  simp only [roS]
  rw [if_neg h0, if_neg h3]
theorem ro_diff {s b z i : Nat} (hb : b < 5) (h0 : ¬ (roS s b z i).2 = 0) (h : ¬ hiF 3 (roS s b z i).1 (pinQ (nI i) (nI z)) (nI (roS s b z i).2) = (roS s b z i).1) : roS s b z (i + 1) = (hiF 3 (roS s b z i).1 (pinQ (nI i) (nI z)) (nI (roS s b z i).2), (roS s b z i).2 - 1) := by
  have h2 := (ro_le s b z i).2
  have h3 : pinQ (nI i) (nI z) < 9 ∧ (roS s b z i).1 / 2 ^ (pinQ (nI i) (nI z)) % 2 = 1 := Classical.byContradiction fun q => h ((hiF_same (z_ge1 h0 (by omega))).mpr q)
  simp only [roS]
  rw [if_neg h0, if_pos h3]
/-- those that fall -/
def feN (s b z : Nat) : Nat := s &&& (roN s b z ^^^ 4294967295)
theorem bit_m1 : ∀ k, k < 9 → Nat.testBit 4294967295 k = true := by decide +kernel
theorem lt512_bit {s j : Nat} (hs : s < 512) (h : s.testBit j = true) : j < 9 := by
  rcases Nat.lt_or_ge j 9 with q | q
  · exact q
  · have : s < 2 ^ j := Nat.lt_of_lt_of_le hs (Nat.le_trans (by decide : 512 ≤ 2 ^ 9) (Nat.pow_le_pow_right (by decide) q))
    rw [Nat.testBit_lt_two_pow this] at h; cases h
theorem fe_bit {s b z : Nat} (hs : s < 512) (j : Nat) : (feN s b z).testBit j = (s.testBit j && !(roN s b z).testBit j) := by
  rw [feN, Nat.testBit_and, Nat.testBit_xor]
  cases h : s.testBit j with
  | false => simp
  | true => rw [bit_m1 j (lt512_bit hs h)]; simp
theorem fe_xor {s b z : Nat} (hs : s < 512) : s ^^^ roN s b z = feN s b z := by
  apply Nat.eq_of_testBit_eq
  intro j
  rw [fe_bit hs, Nat.testBit_xor]
  cases h : (roN s b z).testBit j with
  | false => simp
  | true => rw [ro_sbs s b z 5 j h]; rfl
theorem fe_rest {s b z : Nat} (hs : s < 512) : s &&& (feN s b z ^^^ 4294967295) = roN s b z := by
  apply Nat.eq_of_testBit_eq
  intro j
  rw [Nat.testBit_and, Nat.testBit_xor, fe_bit hs]
  cases h : s.testBit j with
  | false =>
    cases h2 : (roN s b z).testBit j with
    | false => simp
    | true => have := ro_sbs s b z 5 j h2; rw [h] at this; cases this
  | true => rw [bit_m1 j (lt512_bit hs h)]; simp
theorem fe_0 {s b z : Nat} (hs : s < 512) : feN s b z = 0 ↔ roN s b z = s := by
  constructor
  · intro h
    have := fe_rest (b := b) (z := z) hs
    rw [h] at this
    rw [← this]
    apply Nat.eq_of_testBit_eq
    intro j
    rw [Nat.testBit_and, Nat.testBit_xor]
    cases h : s.testBit j with
    | false => simp
    | true => rw [bit_m1 j (lt512_bit hs h)]; simp
  · intro h
    rw [← fe_xor hs, h, Nat.xor_self]
theorem fe_lt {s b z : Nat} (hs : s < 512) : feN s b z < 512 := Nat.lt_of_le_of_lt Nat.and_le_left hs
/-- the pin of the greatest number -/
def laF (s : Nat) : Nat → Int32
  | 0 => -1
  | i + 1 => if s / 2 ^ i % 2 = 1 then nI i else laF s i
/-- whether n throws at most, each of another ball, clear the set -/
def ccG (g : Nat → Nat → Bool) (s u b z : Nat) : Bool := decide (¬ u / 2 ^ b % 2 = 1) && (decide (¬ roN s b z = s) && g (roN s b z) (u ||| 2 ^ b))
def ccB : Nat → Nat → Nat → Bool
  | 0, s, _ => decide (s = 0)
  | n + 1, s, u => decide (s = 0) || (List.range 5).any (fun b => (List.range 5).any (fun z => ccG (ccB n) s u b z))
theorem ccB_t {n s u b z : Nat} (hb : b < 5) (hz : z < 5) (h : ccG (ccB n) s u b z = true) : ccB (n + 1) s u = true := by
  simp only [ccB, Bool.or_eq_true, List.any_eq_true, List.mem_range]
  exact Or.inr ⟨b, hb, z, hz, h⟩
theorem ccB_f {n s u : Nat} (h0 : ¬ s = 0) (h : ∀ b, b < 5 → ∀ z, z < 5 → ccG (ccB n) s u b z = false) : ¬ ccB (n + 1) s u = true := by
  simp only [ccB, Bool.or_eq_true, List.any_eq_true, List.mem_range, decide_eq_true_eq]
  rintro (q | ⟨b, hb, z, hz, q⟩)
  · exact h0 q
  · rw [h b hb z hz] at q; cases q
theorem or_lt32 {u b : Nat} (hu : u < 32) (hb : b < 5) : u ||| 2 ^ b < 32 := Nat.or_lt_two_pow (n := 5) hu (Nat.lt_of_lt_of_le (Nat.pow_lt_pow_right (by decide) hb) (by decide))
theorem ro_lt {s b z : Nat} (hs : s < 512) : roN s b z < 512 := Nat.lt_of_le_of_lt (roN_le s b z) hs
theorem z_1T : (1 : Int32).toInt = 1 := by decide
theorem z_2T : (2 : Int32).toInt = 2 := by decide
theorem z_lt1 {f : Int32} (h : f.toInt ≤ 0) : f < 1 := Int32.lt_iff_toInt_lt.mpr (by rw [z_1T]; omega)
theorem z_sub2 {f : Int32} {n : Int} (h : ¬ f < 1) (h2 : f.toInt ≤ n + 2) : (f - 2).toInt ≤ n := by
  have h3 : ¬ f.toInt < 1 := fun q => h (Int32.lt_iff_toInt_lt.mpr (by rw [z_1T]; exact q))
  have h4 := Int32.toInt_lt f
  rw [Int32.toInt_sub, z_2T, Int.bmod_eq_of_le (by omega) (by omega)]
  omega
theorem hiF_step {n s : Nat} {r z f : Int32} (hp : pinQ r z < 9) (hs : s / 2 ^ (pinQ r z) % 2 = 1) (hf : ¬ f < 1) : hiF n (hiF n (dropK s (pinQ r z)) (pinQ (r + 1) (z - 1)) (f - 2)) (pinQ (r + 1) (z + 1)) (f - 2) = hiF (n + 1) s (pinQ r z) f := by
  obtain ⟨h1, h2⟩ := pinQ_rl hp
  simp only [hiF]
  rw [if_pos ⟨hp, hs, hf⟩, h1, h2]
theorem z_nm1 {k : Nat} (h : k < 9) : ¬ nI k = -1 := by
  have : ∀ k, k < 9 → ¬ nI k = -1 := by decide +kernel
  exact this k h
/-- Integer.bitCount, step by step -/
def bc1 (n : Nat) : Nat := n - (n / 2 &&& 1431655765)
def bc2 (n : Nat) : Nat := (n &&& 858993459) + (n / 4 &&& 858993459)
def bc3 (n : Nat) : Nat := (n + n / 16) &&& 252645135
def bc4 (n : Nat) : Nat := n + n / 256
def bc5 (n : Nat) : Nat := n + n / 65536
def bc1s (n : Nat) : Nat := n % 512 - (n % 512 / 2 &&& 1431655765)
def pcN (n : Nat) : Nat := n % 2 + n / 2 % 2 + n / 4 % 2 + n / 8 % 2 + n / 16 % 2 + n / 32 % 2 + n / 64 % 2 + n / 128 % 2 + n / 256 % 2
theorem bc1_le {n : Nat} (h : n < 512) : bc1 n < 512 := Nat.lt_of_le_of_lt (Nat.sub_le _ _) h
theorem bc2_le {n : Nat} (h : n < 512) : bc2 n < 1024 := by
  have h1 : n &&& 858993459 ≤ n := Nat.and_le_left
  have h2 : n / 4 &&& 858993459 ≤ n / 4 := Nat.and_le_left
  unfold bc2; omega
theorem bc3_le {n : Nat} (h : n < 1024) : bc3 n < 2048 := by
  have h1 : (n + n / 16) &&& 252645135 ≤ n + n / 16 := Nat.and_le_left
  unfold bc3; omega
theorem bc4_eq {n : Nat} (h : n < 4096) : bc5 (bc4 n) = n + n / 256 := by unfold bc5 bc4; omega
theorem bc_all : ((List.range 512).all fun n => ((bc3 (bc2 (bc1 n)) + bc3 (bc2 (bc1 n)) / 256) &&& 63) == pcN n) = true := by decide +kernel
theorem bc_eq (n : Nat) (h : n < 512) : bc5 (bc4 (bc3 (bc2 (bc1 n)))) &&& 63 = pcN n := by
  have h3 := bc3_le (bc2_le (bc1_le h))
  rw [bc4_eq (by omega)]
  have := List.all_eq_true.mp bc_all n (List.mem_range.mpr h)
  exact eq_of_beq this
theorem pcN_le (n : Nat) : pcN n ≤ 9 := by unfold pcN; omega
theorem pc0_all : ((List.range 512).all fun n => (pcN n == 0) == (n == 0)) = true := by decide +kernel
theorem pcN_0 {n : Nat} (h : n < 512) : pcN n = 0 ↔ n = 0 := by
  have h1 := eq_of_beq (List.all_eq_true.mp pc0_all n (List.mem_range.mpr h))
  by_cases q : n = 0
  · subst q; exact ⟨fun _ => rfl, fun _ => rfl⟩
  · rw [beq_false_of_ne q] at h1
    exact ⟨fun z => by rw [z] at h1; exact absurd h1 (by decide), fun z => absurd z q⟩
/-- Integer.numberOfLeadingZeros -/
def nlN (x : Nat) : Nat := if 256 ≤ x then 23 else if 128 ≤ x then 24 else if 64 ≤ x then 25 else if 32 ≤ x then 26 else if 16 ≤ x then 27 else if 8 ≤ x then 28 else if 4 ≤ x then 29 else if 2 ≤ x then 30 else 31
def laN (s : Nat) : Nat → Nat
  | 0 => 9
  | i + 1 => if s / 2 ^ i % 2 = 1 then i else laN s i
theorem laN_le (s : Nat) : ∀ i, i ≤ 9 → laN s i ≤ 9
  | 0, _ => Nat.le_refl 9
  | i + 1, h => by
    simp only [laN]
    split
    · omega
    · exact laN_le s i (by omega)
theorem laF_N (s : Nat) : ∀ i, i ≤ 9 → laF s i = pinV (laN s i)
  | 0, _ => rfl
  | i + 1, h => by
    simp only [laF, laN]
    split
    · rw [pinV, if_pos (by omega)]
    · exact laF_N s i (by omega)
theorem nl_all : ((List.range 512).all fun n => n == 0 || (laN n 9 == 31 - nlN n)) = true := by decide +kernel
theorem nl_la (n : Nat) (h : n < 512) (h0 : ¬ n = 0) : nI (31 - nlN n) = laF n 9 := by
  have h1 := List.all_eq_true.mp nl_all n (List.mem_range.mpr h)
  have h2 : laN n 9 = 31 - nlN n := by simpa [h0] using h1
  have h4 : 23 ≤ nlN n := by unfold nlN; (repeat' split) <;> decide
  have h3 : 31 - nlN n < 9 := by omega
  rw [laF_N n 9 (Nat.le_refl _), h2, pinV, if_pos h3]
theorem la_0 : laF 0 9 = -1 := by decide +kernel
