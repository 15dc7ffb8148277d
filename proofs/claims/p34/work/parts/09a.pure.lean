/-! CHECKSUMS: what both sides work out -/
def dgH (pl fr nf sp : Nat) (t b c : Int32) : Int64 := (((((((1999 : Int64) * (31 : Int64) + lN pl) * (31 : Int64) + Int32.toInt64 t) * (31 : Int64) + lN fr) * (31 : Int64) + lN nf) * (31 : Int64) + lN sp) * (31 : Int64) + Int32.toInt64 b) * (31 : Int64) + Int32.toInt64 c
/-! the two sides' functions are the same -/
theorem bk_bm {w : Nat → Nat} (hw : ∀ i, w i ≤ 12) : ∀ i, bkN w i = bmN w i
  | 0 => rfl
  | i + 1 => by
    have := hw i
    simp only [bkN, bmN]
    rw [bk_bm hw i]
    by_cases h : w i = 12
    · rw [if_pos (by omega), if_pos h]
    · rw [if_neg (by omega), if_neg h]; rfl
theorem mw_eq {w : Nat → Nat} (hw : ∀ i, w i ≤ 12) : ∀ i, i ≤ 9 → mwF w i = pinV (mwB w i) ∧ mwM w i = if mwB w i < 9 then nI (w (mwB w i)) else -1
  | 0, _ => ⟨rfl, rfl⟩
  | i + 1, h9 => by
    obtain ⟨h1, h2⟩ := mw_eq hw i (by omega)
    have e1 := hw i
    have e2 := hw (mwB w i)
    by_cases h : w i = 12
    · rw [mwB_br h]
      simp only [mwF, mwM]
      rw [if_pos (by omega), if_pos (by omega)]
      exact ⟨h1, h2⟩
    · by_cases q : mwB w i < 9
      · rw [if_pos q] at h2
        by_cases r : w (mwB w i) < w i
        · rw [mwB_up h q r]
          have z : ¬ nI (w i) ≤ mwM w i := by rw [h2, nI_leI (by omega) (by omega)]; omega
          simp only [mwF, mwM]
          rw [if_neg (by omega), if_neg z, if_neg (by omega), if_neg z, pinV_nI (by omega), if_pos (by omega)]
          exact ⟨rfl, rfl⟩
        · rw [mwB_keep h q r]
          have z : nI (w i) ≤ mwM w i := by rw [h2, nI_leI (by omega) (by omega)]; omega
          simp only [mwF, mwM]
          rw [if_neg (by omega), if_pos z, if_neg (by omega), if_pos z, if_pos q]
          exact ⟨h1, h2⟩
      · rw [if_neg q] at h2
        rw [mwB_new h q]
        have z : ¬ nI (w i) ≤ mwM w i := by rw [h2]; exact nI_gtm (by omega)
        simp only [mwF, mwM]
        rw [if_neg (by omega), if_neg z, if_neg (by omega), if_neg z, pinV_nI (by omega), if_pos (by omega)]
        exact ⟨rfl, rfl⟩
theorem bi_wb {g : Nat} {w : Nat → Nat} (hw : ∀ i, i < 9 → w i + g / 2 ^ i % 2 ≤ 12) : ∀ i, i ≤ 9 → biN g w i = wbM g w i
  | 0, _ => rfl
  | i + 1, h => by
    have e1 := hw i (by omega)
    simp only [biN, wbM]
    rw [bi_wb hw i (by omega)]
    by_cases q : g / 2 ^ i % 2 = 1
    · rw [if_pos q]
      rw [q] at e1 ⊢
      by_cases r : w i + 1 = 12
      · rw [if_pos (by omega), if_pos r]
      · rw [if_neg (by omega), if_neg r]; rfl
    · have q0 : g / 2 ^ i % 2 = 0 := by omega
      rw [if_neg q]
      rw [q0] at e1 ⊢
      by_cases r : w i + 0 = 12
      · rw [if_pos (by omega), if_pos r]
      · rw [if_neg (by omega), if_neg r]; rfl
