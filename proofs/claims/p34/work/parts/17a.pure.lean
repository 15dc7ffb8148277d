/-! BOTH SIDES AT THE END: what is looked at from the last pin to the first -/
def smU (f : Nat → Nat) : Nat → Nat
  | 0 => 0
  | k + 1 => smU f k + f k
def smD (f : Nat → Nat) : Nat → Nat
  | 0 => 0
  | k + 1 => smD f k + f (8 - k)
theorem dn9 {k : Nat} (h : k < 9) : nI (8 - k) + Int32.ofInt (-1) = dnI 9 (k + 1) := by
  have e := dn_step h
  rw [show 9 - 1 - k = 8 - k by omega] at e
  exact e
theorem smD_s (f : Nat → Nat) (k : Nat) : smD f (k + 1) = smD f k + f (8 - k) := rfl
theorem smU_D (f : Nat → Nat) : smU f 9 = smD f 9 := by
  simp [smU, smD]
  omega
def b12 (w : Nat → Nat) : Nat → Nat := fun i => if w i = 12 then 1 else 0
def b11 (g : Nat) (w : Nat → Nat) : Nat → Nat := fun i => if w i = 12 ∨ (w i = 11 ∧ mB g i = 1) then 1 else 0
theorem b12_le (w : Nat → Nat) (i : Nat) : b12 w i ≤ 1 := by unfold b12; split <;> omega
theorem b11_le (g : Nat) (w : Nat → Nat) (i : Nat) : b11 g w i ≤ 1 := by unfold b11; split <;> omega
theorem smD_le {f : Nat → Nat} (h : ∀ i, f i ≤ 1) : ∀ k, smD f k ≤ k
  | 0 => Nat.le_refl 0
  | k + 1 => by have := smD_le h k; have := h (8 - k); simp only [smD]; omega
theorem bk_smU {w : Nat → Nat} (hw : ∀ i, w i ≤ 12) : ∀ i, bkN w i = smU (b12 w) i
  | 0 => rfl
  | i + 1 => by
    have := hw i
    simp only [bkN, smU, b12]
    rw [bk_smU hw i]
    by_cases h : w i = 12
    · rw [if_pos (by omega), if_pos h] <;> rfl
    · rw [if_neg (by omega), if_neg h] <;> rfl
theorem bk_sum {w : Nat → Nat} (hw : ∀ i, w i ≤ 12) : bkN w 9 = smD (b12 w) 9 := by rw [bk_smU hw, smU_D]
theorem bi_smU {g : Nat} {w : Nat → Nat} (hw : ∀ i, w i ≤ 12) : ∀ i, biN g w i = smU (b11 g w) i
  | 0 => rfl
  | i + 1 => by
    have := hw i
    have e := bi_smU (g := g) hw i
    simp only [biN, smU, b11]
    rw [e]
    have m : mB g i = 1 ↔ g / 2 ^ i % 2 = 1 := mB_1
    by_cases q : g / 2 ^ i % 2 = 1
    · rw [if_pos q]
      by_cases h : w i = 12 ∨ (w i = 11 ∧ mB g i = 1)
      · rw [if_pos (by omega), if_pos h] <;> rfl
      · rw [if_neg (fun y => h (by have := m.mpr q; omega)), if_neg h] <;> rfl
    · rw [if_neg q]
      by_cases h : w i = 12 ∨ (w i = 11 ∧ mB g i = 1)
      · rw [if_pos (show 12 ≤ w i + 0 by rcases h with h | h; (· omega); (· exact absurd (m.mp h.2) q)), if_pos h]
      · rw [if_neg (fun y => h (by omega)), if_neg h] <;> rfl
theorem bi_sum {g : Nat} {w : Nat → Nat} (hw : ∀ i, w i ≤ 12) : biN g w 9 = smD (b11 g w) 9 := by rw [bi_smU hw, smU_D]
def woD (w : Nat → Nat) : Nat → Nat
  | 0 => 9
  | k + 1 => if w (8 - k) < 12 ∧ (¬ woD w k < 9 ∨ w (woD w k) ≤ w (8 - k)) then 8 - k else woD w k
theorem woD_y {w : Nat → Nat} {k : Nat} (h : w (8 - k) < 12) (h2 : ¬ woD w k < 9 ∨ w (woD w k) ≤ w (8 - k)) : woD w (k + 1) = 8 - k := by simp only [woD]; rw [if_pos ⟨h, h2⟩]
theorem woD_n {w : Nat → Nat} {k : Nat} (h : ¬ (w (8 - k) < 12 ∧ (¬ woD w k < 9 ∨ w (woD w k) ≤ w (8 - k)))) : woD w (k + 1) = woD w k := by simp only [woD]; rw [if_neg h]
theorem woD_in (w : Nat → Nat) : ∀ k, k ≤ 9 → (woD w k = 9 ∧ ∀ j, 9 - k ≤ j → j < 9 → ¬ w j < 12) ∨ (9 - k ≤ woD w k ∧ woD w k < 9 ∧ w (woD w k) < 12 ∧ (∀ j, 9 - k ≤ j → j < 9 → w j < 12 → w j ≤ w (woD w k)) ∧ (∀ j, 9 - k ≤ j → j < woD w k → w j < 12 → w j < w (woD w k)))
  | 0, _ => Or.inl ⟨rfl, fun j h1 h2 => absurd h2 (by omega)⟩
  | k + 1, hk => by
    have ih := woD_in w k (by omega)
    by_cases c : w (8 - k) < 12 ∧ (¬ woD w k < 9 ∨ w (woD w k) ≤ w (8 - k))
    · rw [woD_y c.1 c.2]
      refine Or.inr ⟨by omega, by omega, c.1, fun j h1 h2 h3 => ?_, fun j h1 h2 h3 => absurd h2 (by omega)⟩
      by_cases e : j = 8 - k
      · subst e; exact Nat.le_refl _
      · rcases ih with ⟨i1, i2⟩ | ⟨i1, i2, i3, i4, i5⟩
        · exact absurd h3 (i2 j (by omega) h2)
        · have := i4 j (by omega) h2 h3
          rcases c.2 with y | y
          · exact absurd i2 y
          · omega
    · rw [woD_n c]
      rcases ih with ⟨i1, i2⟩ | ⟨i1, i2, i3, i4, i5⟩
      · refine Or.inl ⟨i1, fun j h1 h2 h3 => ?_⟩
        by_cases e : j = 8 - k
        · subst e; exact c ⟨h3, Or.inl (by omega)⟩
        · exact i2 j (by omega) h2 h3
      · have cc : w (8 - k) < 12 → w (8 - k) < w (woD w k) := fun y => Nat.lt_of_not_le (fun z => c ⟨y, Or.inr z⟩)
        refine Or.inr ⟨by omega, i2, i3, fun j h1 h2 h3 => ?_, fun j h1 h2 h3 => ?_⟩
        · by_cases e : j = 8 - k
          · subst e; exact Nat.le_of_lt (cc h3)
          · exact i4 j (by omega) h2 h3
        · by_cases e : j = 8 - k
          · subst e; exact cc h3
          · exact i5 j (by omega) h2 h3
theorem mwB_in2 {w : Nat → Nat} (hw : ∀ i, w i ≤ 12) : ∀ k, k ≤ 9 → (mwB w k = 9 ∧ ∀ j, j < k → ¬ w j < 12) ∨ (mwB w k < k ∧ w (mwB w k) < 12 ∧ (∀ j, j < k → w j < 12 → w j ≤ w (mwB w k)) ∧ (∀ j, j < mwB w k → w j < 12 → w j < w (mwB w k)))
  | 0, _ => Or.inl ⟨rfl, fun j h => absurd h (Nat.not_lt_zero j)⟩
  | k + 1, hk => by
    have ih := mwB_in2 hw k (by omega)
    have hwk := hw k
    by_cases c : w k = 12
    · rw [mwB_br c]
      rcases ih with ⟨i1, i2⟩ | ⟨i1, i2, i3, i4⟩
      · refine Or.inl ⟨i1, fun j h => ?_⟩
        by_cases e : j = k
        · subst e; omega
        · exact i2 j (by omega)
      · refine Or.inr ⟨by omega, i2, fun j h h3 => ?_, i4⟩
        by_cases e : j = k
        · subst e; omega
        · exact i3 j (by omega) h3
    · rcases ih with ⟨i1, i2⟩ | ⟨i1, i2, i3, i4⟩
      · rw [mwB_new c (by omega)]
        refine Or.inr ⟨by omega, by omega, fun j h h3 => ?_, fun j h h3 => absurd h3 (i2 j h)⟩
        by_cases e : j = k
        · subst e; exact Nat.le_refl _
        · exact absurd h3 (i2 j (by omega))
      · by_cases d : w (mwB w k) < w k
        · rw [mwB_up c (by omega) d]
          refine Or.inr ⟨by omega, by omega, fun j h h3 => ?_, fun j h h3 => ?_⟩
          · by_cases e : j = k
            · subst e; exact Nat.le_refl _
            · have := i3 j (by omega) h3; omega
          · have := i3 j h h3; omega
        · rw [mwB_keep c (by omega) d]
          refine Or.inr ⟨by omega, i2, fun j h h3 => ?_, i4⟩
          by_cases e : j = k
          · subst e; omega
          · exact i3 j (by omega) h3
theorem wo_mw {w : Nat → Nat} (hw : ∀ i, w i ≤ 12) : mwF w 9 = pinV (woD w 9) := by
  rw [(mw_eq hw 9 (Nat.le_refl _)).1]
  congr 1
  rcases woD_in w 9 (Nat.le_refl _) with ⟨i1, i2⟩ | ⟨i1, i2, i3, i4, i5⟩ <;> rcases mwB_in2 hw 9 (Nat.le_refl _) with ⟨k1, k2⟩ | ⟨k1, k2, k3, k4⟩
  · omega
  · exact absurd k2 (i2 _ (by omega) k1)
  · exact absurd i3 (k2 _ i2)
  · rcases Nat.lt_trichotomy (mwB w 9) (woD w 9) with h | h | h
    · have := i5 _ (by omega) h k2; have := k3 _ i2 i3; omega
    · exact h
    · have := k4 _ h i3; have := i4 _ (by omega) k1 k2; omega
theorem mB_if (g q : Nat) : (if g / 2 ^ q % 2 = 1 then 1 else 0) = mB g q := by
  have := mB_lt g q
  unfold mB at *
  split <;> omega
theorem fbN_s (bt : Nat → Nat) (v f : Nat) : fbN bt v (f + 1) = fbN bt v f + (if bt f = v then 1 else 0) := by
  simp only [fbN]; split <;> rfl
theorem fiB_congr {a b : Nat → Nat} : ∀ k, (∀ j, j < k → a j = b j) → fiB a k = fiB b k
  | 0, _ => rfl
  | k + 1, h => by
    have e := fiB_congr k (fun j hj => h j (by omega))
    simp only [fiB]
    rw [e]
    by_cases q : fiB b k < 9
    · rw [if_pos q, if_pos q, h _ (by have := fiB_in q; omega), h k (by omega)]
    · rw [if_neg q, if_neg q]
theorem Iv.ld {pl tu fr nf g n : Nat} {rv : Nat → Nat → Nat} {w aw : Nat → Nat} {pt ft ti bt : Nat → Nat → Nat} {th : Nat → Nat} (h : Iv pl tu fr nf g n rv w aw pt ft ti bt th) : blB (scL n rv) pl pl = fiB (scC pt ft ti bt th) pl := by
  rw [bl_fi h.hp1 h.hpl]
  exact fiB_congr pl (fun j hj => h.scl (by have := h.hpl; omega))
theorem z_dcmp {a b : Int32} (h : b ≠ 0) : Op.cmpValue (FP.dcmp (FP.ddiv (FP.i2d a) (FP.i2d b)) (FP.ddiv (FP.i2d a) (FP.i2d b))) .l = nI 0 := by
  have h1 : FP.Core.dIsNaN (FP.ddiv (FP.i2d a) (FP.i2d b)) = false := FP.Core.ddiv_out (FP.Core.i2d_fin a).notNaN (FP.Core.i2d_fin b) (fun q => FP.Core.i2d_ne_zero h ((FP.Core.zero_bits2 _).mp q))
  have h2 : FP.dcmp (FP.ddiv (FP.i2d a) (FP.i2d b)) (FP.ddiv (FP.i2d a) (FP.i2d b)) = some .eq := FP.Core.dcmp_self ((FP.Core.notNaN_iff _).mp h1)
  rw [h2]; rfl
theorem z_if {P Q : Prop} [Decidable P] [Decidable Q] {α : Type} {a b : α} (h : P ↔ Q) : (if P then a else b) = (if Q then a else b) := by
  by_cases q : P
  · rw [if_pos q, if_pos (h.mp q)]
  · rw [if_neg q, if_neg (fun y => q (h.mpr y))]
/-- the class' cells -/
abbrev CW (E : EV) (c0 a1 a2 a3 a4 a5 : Nat) (qs qa qb qc qd : Nat → Nat) (pl tu fr nf g sp : Nat) (w aw : Nat → Nat) (pt ft ti bt : Nat → Nat → Nat) (th : Nat → Nat) : va_W := [(c0, .inr (3, [.ref a1, .ref a3, .ref a5, .int (nI pl), .int (nI tu), .int (nI fr), .int (nI nf)])), (a1, .inr (0, [.ref a2, .int (nI g), .int (nI sp)])), (a2, aI E 9 w), (a3, .inr (1, [.ref a4])), (a4, aI E 5 aw), (a5, .inl (E.2.2.2.1, 4, .inr (.inr (.inr (.inr (fun k => some (qs k))))))), (qs 0, .inr (2, [.ref (qa 0), .ref (qb 0), .ref (qc 0), .ref (qd 0), .int (nI (th 0))])), (qa 0, aI E 30 (pt 0)), (qb 0, aI E 10 (ft 0)), (qc 0, aI E 10 (ti 0)), (qd 0, aI E 10 (bt 0)), (qs 1, .inr (2, [.ref (qa 1), .ref (qb 1), .ref (qc 1), .ref (qd 1), .int (nI (th 1))])), (qa 1, aI E 30 (pt 1)), (qb 1, aI E 10 (ft 1)), (qc 1, aI E 10 (ti 1)), (qd 1, aI E 10 (bt 1)), (qs 2, .inr (2, [.ref (qa 2), .ref (qb 2), .ref (qc 2), .ref (qd 2), .int (nI (th 2))])), (qa 2, aI E 30 (pt 2)), (qb 2, aI E 10 (ft 2)), (qc 2, aI E 10 (ti 2)), (qd 2, aI E 10 (bt 2)), (qs 3, .inr (2, [.ref (qa 3), .ref (qb 3), .ref (qc 3), .ref (qd 3), .int (nI (th 3))])), (qa 3, aI E 30 (pt 3)), (qb 3, aI E 10 (ft 3)), (qc 3, aI E 10 (ti 3)), (qd 3, aI E 10 (bt 3))]

