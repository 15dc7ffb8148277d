/-! WHAT THE LAW'S OWN ALLEY WORKS OUT, on numbers -/
def mB (g : Nat) : Nat → Nat := fun j => g / 2 ^ j % 2
theorem mB_lt (g j : Nat) : mB g j < 2 := Nat.mod_lt _ (by decide)
theorem mB_01 (g j : Nat) : mB g j = 0 ∨ mB g j = 1 := by have := mB_lt g j; omega
theorem mB_1 {g j : Nat} : mB g j = 1 ↔ g / 2 ^ j % 2 = 1 := Iff.rfl
theorem mB_tb (g j : Nat) : mB g j = if g.testBit j = true then 1 else 0 := by
  by_cases h : g.testBit j = true
  · rw [if_pos h]; exact (bit_iff g j).mp h
  · rw [if_neg h]
    have h2 : ¬ g / 2 ^ j % 2 = 1 := fun q => h ((bit_iff g j).mpr q)
    unfold mB; omega
theorem z_ite_2 (c : Prop) [Decidable c] : (if c then 1 else 0) < 2 := by split <;> decide
theorem mB_drop {g k : Nat} (hg : g < 512) (hk : k < 9) : upN (mB g) k 0 = mB (dropK g k) := by
  funext j
  rw [mB_tb]
  by_cases e : j = k
  · subst e; rw [upN_s, drop_no hk]; rfl
  · rw [upN_n _ _ _ e, mB_tb, dropK, Nat.testBit_and, Nat.testBit_xor, Nat.testBit_two_pow]
    cases h : g.testBit j with
    | false => simp
    | true => rw [bit_m1 j (lt512_bit hg h)]; simp [Ne.symm e]
theorem find_yes : ∀ i, i < 9 → pinV (pinQ (tRO i) (tLA i)) = nI i := by decide +kernel
theorem find_no {r z : Int32} (h : ∀ j, j < 9 → ¬ (tRO j = r ∧ tLA j = z)) : pinV (pinQ r z) = -1 := by
  by_cases q : pinQ r z < 9
  · exact absurd (pinQ_rl q) (h _ q)
  · exact pinV_m1.mpr q
theorem lt_s1 {P : Nat → Prop} {i : Nat} (h : ∀ j, j < i → P j) (hi : P i) : ∀ j, j < i + 1 → P j := fun j hj => by
  by_cases e : j = i
  · subst e; exact hi
  · exact h j (by omega)
def pcS (g : Nat) : Nat → Nat
  | 0 => 0
  | i + 1 => pcS g i + mB g i
theorem pcS_9 (g : Nat) : pcS g 9 = pcN g := by
  simp only [pcS, pcN, mB]; simp
theorem pcS_le (g : Nat) : ∀ i, pcS g i ≤ i
  | 0 => Nat.le_refl 0
  | i + 1 => by have := pcS_le g i; have := mB_lt g i; simp only [pcS]; omega
/-- what stands, and what falls -/
theorem mB_fr {g b z : Nat} (hg : g < 512) (j : Nat) : mB g j = mB (feN g b z) j + mB (roN g b z) j := by
  rw [mB_tb, mB_tb, mB_tb, fe_bit hg]
  cases h : g.testBit j with
  | false =>
    cases h2 : (roN g b z).testBit j with
    | false => simp
    | true => have := ro_sbs g b z 5 j h2; rw [h] at this; cases this
  | true => cases h2 : (roN g b z).testBit j <;> simp
theorem pcS_fr {g b z : Nat} (hg : g < 512) : ∀ i, pcS g i = pcS (feN g b z) i + pcS (roN g b z) i
  | 0 => rfl
  | i + 1 => by
    have := pcS_fr (b := b) (z := z) hg i
    have := mB_fr (b := b) (z := z) hg i
    simp only [pcS]; omega
theorem pcN_fr {g b z : Nat} (hg : g < 512) : pcN g = pcN (feN g b z) + pcN (roN g b z) := by
  rw [← pcS_9, ← pcS_9, ← pcS_9]; exact pcS_fr hg 9
/-- setting up -/
def suB (w f : Nat → Nat) : Nat → Nat → Nat
  | 0 => f
  | i + 1 => upN (suB w f i) i (if w i < 12 then 1 else 0)
theorem suB_val (w f : Nat → Nat) : ∀ i j, suB w f i j = if j < i then (if w j < 12 then 1 else 0) else f j
  | 0, j => by simp [suB]
  | i + 1, j => by
    simp only [suB]
    by_cases e : j = i
    · subst e; rw [upN_s, if_pos (show j < j + 1 by omega)]
    · rw [upN_n _ _ _ e, suB_val w f i j]
      by_cases h : j < i
      · rw [if_pos h, if_pos (show j < i + 1 by omega)]
      · rw [if_neg h, if_neg (show ¬ j < i + 1 by omega)]
theorem suN_bit (w : Nat → Nat) : ∀ i j, (suN w i).testBit j = decide (j < i ∧ w j < 12)
  | 0, j => by simp [suN]
  | i + 1, j => by
    simp only [suN]
    by_cases h : 12 ≤ w i
    · rw [if_pos h, suN_bit w i j]
      by_cases e : j = i
      · subst e; rw [decide_eq_decide]; omega
      · rw [decide_eq_decide]; omega
    · rw [if_neg h, Nat.testBit_or, suN_bit w i j, Nat.testBit_two_pow]
      by_cases e : j = i
      · subst e; simp; omega
      · rw [show decide (i = j) = false from by simp; omega, Bool.or_false, decide_eq_decide]; omega
theorem mB_su (w : Nat → Nat) (i j : Nat) : mB (suN w i) j = if j < i ∧ w j < 12 then 1 else 0 := by
  rw [mB_tb, suN_bit]; simp
theorem suB_9 {w : Nat → Nat} {g : Nat} (hg : g < 512) : suB w (mB g) 9 = mB (suN w 9) := by
  funext j
  rw [suB_val, mB_su]
  by_cases h : j < 9
  · rw [if_pos h]
    by_cases q : w j < 12
    · rw [if_pos q, if_pos ⟨h, q⟩]
    · rw [if_neg q, if_neg (fun y => q y.2)]
  · rw [if_neg h, if_neg (fun y => h y.1), mB_tb, if_neg (fun y => h (lt512_bit hg y))]
/-- a throw, row by row -/
theorem ro_skip {s b z i : Nat} (h : ¬ (pinQ (nI i) (nI z) < 9 ∧ (roS s b z i).1 / 2 ^ (pinQ (nI i) (nI z)) % 2 = 1)) : roS s b z (i + 1) = roS s b z i := by
  simp only [roS]; rw [if_neg h, ite_self]
theorem ro_zero {s b z i : Nat} (h : (roS s b z i).2 = 0) : roS s b z (i + 1) = roS s b z i := by
  simp only [roS]; rw [if_pos h]
theorem ro_hit {s b z i : Nat} (h0 : ¬ (roS s b z i).2 = 0) (h : pinQ (nI i) (nI z) < 9) (h2 : (roS s b z i).1 / 2 ^ (pinQ (nI i) (nI z)) % 2 = 1) : roS s b z (i + 1) = (hiF 3 (roS s b z i).1 (pinQ (nI i) (nI z)) (nI (roS s b z i).2), (roS s b z i).2 - 1) := by
  simp only [roS]; rw [if_neg h0, if_pos ⟨h, h2⟩]
/-- wear, ball by ball, pin by pin -/
theorem rw_yes {f : Nat} {w : Nat → Nat} {i : Nat} (h : mB f i = 1) : rwW f w (i + 1) = upN (rwW f w i) i (rwW f w i i + 1) := by
  simp only [rwW]; rw [if_pos (mB_1.mp h)]
theorem rw_no {f : Nat} {w : Nat → Nat} {i : Nat} (h : ¬ mB f i = 1) : rwW f w (i + 1) = rwW f w i := by
  simp only [rwW]; rw [if_neg (fun q => h (mB_1.mpr q))]
def awW (aw : Nat → Nat) (b : Nat) : Nat → Nat → Nat
  | 0 => aw
  | i + 1 => upN (awW aw b i) i (if i = b then 2 else aw i - 1)
theorem awW_val (aw : Nat → Nat) (b : Nat) : ∀ i j, awW aw b i j = if j < i then (if j = b then 2 else aw j - 1) else aw j
  | 0, j => by simp [awW]
  | i + 1, j => by
    simp only [awW]
    by_cases e : j = i
    · subst e; rw [upN_s, if_pos (show j < j + 1 by omega)]
    · rw [upN_n _ _ _ e, awW_val aw b i j]
      by_cases h : j < i
      · rw [if_pos h, if_pos (show j < i + 1 by omega)]
      · rw [if_neg h, if_neg (show ¬ j < i + 1 by omega)]
theorem snW_val (aw : Nat → Nat) : ∀ i j, snW aw i j = if j < i then aw j - 1 else aw j
  | 0, j => by simp [snW]
  | i + 1, j => by
    simp only [snW]
    by_cases e : j = i
    · subst e; rw [upN_s, snW_val aw j j, if_neg (by omega), if_pos (by omega)]
    · rw [upN_n _ _ _ e, snW_val aw i j]
      by_cases h : j < i
      · rw [if_pos h, if_pos (by omega)]
      · rw [if_neg h, if_neg (by omega)]
theorem aw_sn {aw : Nat → Nat} {b : Nat} (hb : b < 5) : awW aw b 5 = upN (snW aw 5) b 2 := by
  funext j
  rw [awW_val]
  by_cases e : j = b
  · subst e; rw [upN_s, if_pos hb, if_pos rfl]
  · rw [upN_n _ _ _ e, snW_val, if_neg e]
/-- the rows of a game: player, frame, pins, what stands, which of the frame -/
abbrev plR (E : EV) (n : Nat) (ra : Nat → Nat) (rv : Nat → Nat → Nat) : va_W := (List.range n).map (fun k => (ra k, aI E 5 (rv k)))
theorem plR_at {E : EV} {X : va_W} {L n k : Nat} {ra : Nat → Nat} {rv : Nat → Nat → Nat} (hX : X.length = L) (hk : k < n) : (X ++ plR E n ra rv)[L + k]? = some (ra k, aI E 5 (rv k)) := by
  subst hX
  rw [List.getElem?_append_right (by omega), Nat.add_sub_cancel_left]
  simp [hk]
def feF (rv : Nat → Nat → Nat) (p f : Nat) : Nat → Nat
  | 0 => 0
  | k + 1 => if rv k 0 = p ∧ rv k 1 = f then feF rv p f k + rv k 2 else feF rv p f k
def lsF (rv : Nat → Nat → Nat) (p f : Nat) : Nat → Nat
  | 0 => 0
  | k + 1 => if rv k 0 = p ∧ rv k 1 = f then k + 1 else lsF rv p f k
def lsI (l : Nat) : Int32 := if l = 0 then -1 else nI (l - 1)
theorem lsF_le (rv : Nat → Nat → Nat) (p f : Nat) : ∀ k, lsF rv p f k ≤ k
  | 0 => Nat.le_refl 0
  | k + 1 => by have := lsF_le rv p f k; simp only [lsF]; split <;> omega
theorem feF_le {rv : Nat → Nat → Nat} (h : ∀ k j, rv k j ≤ 10) (p f : Nat) : ∀ k, feF rv p f k ≤ 10 * k
  | 0 => Nat.le_refl 0
  | k + 1 => by have := feF_le h p f k; have := h k 2; simp only [feF]; split <;> omega
theorem feF_y {rv : Nat → Nat → Nat} {p f k : Nat} (h0 : rv k 0 = p) (h1 : rv k 1 = f) : feF rv p f (k + 1) = feF rv p f k + rv k 2 ∧ lsF rv p f (k + 1) = k + 1 := ⟨if_pos ⟨h0, h1⟩, if_pos ⟨h0, h1⟩⟩
theorem feF_n {rv : Nat → Nat → Nat} {p f k : Nat} (h : ¬ (rv k 0 = p ∧ rv k 1 = f)) : feF rv p f (k + 1) = feF rv p f k ∧ lsF rv p f (k + 1) = lsF rv p f k := ⟨if_neg h, if_neg h⟩
theorem lsI_s (k : Nat) : lsI (k + 1) = nI k := by rw [lsI, if_neg (by omega), Nat.add_sub_cancel]
/-- the throws behind a frame that count for it too: sum, and how many more -/
def boS (rv : Nat → Nat → Nat) (p s0 m0 a : Nat) : Nat → Nat × Nat
  | 0 => (s0, m0)
  | i + 1 => if 0 < (boS rv p s0 m0 a i).2 ∧ rv (a + i) 0 = p then ((boS rv p s0 m0 a i).1 + rv (a + i) 2, (boS rv p s0 m0 a i).2 - 1) else boS rv p s0 m0 a i
theorem boS_n {rv : Nat → Nat → Nat} {p s0 m0 a i : Nat} (h : ¬ (0 < (boS rv p s0 m0 a i).2 ∧ rv (a + i) 0 = p)) : boS rv p s0 m0 a (i + 1) = boS rv p s0 m0 a i := if_neg h
theorem boS_y {rv : Nat → Nat → Nat} {p s0 m0 a i : Nat} (h : 0 < (boS rv p s0 m0 a i).2) (h2 : rv (a + i) 0 = p) : boS rv p s0 m0 a (i + 1) = ((boS rv p s0 m0 a i).1 + rv (a + i) 2, (boS rv p s0 m0 a i).2 - 1) := if_pos ⟨h, h2⟩
theorem boS_stop {rv : Nat → Nat → Nat} {p s0 m0 a i : Nat} (h : (boS rv p s0 m0 a i).2 = 0) : ∀ j, boS rv p s0 m0 a (i + j) = boS rv p s0 m0 a i
  | 0 => rfl
  | j + 1 => by
    have e := boS_stop h j
    show boS rv p s0 m0 a ((i + j) + 1) = _
    rw [boS_n (by rw [e, h]; omega), e]
theorem boS_le {rv : Nat → Nat → Nat} (h : ∀ k j, rv k j ≤ 10) (p s0 m0 a : Nat) : ∀ i, (boS rv p s0 m0 a i).1 ≤ s0 + 10 * i ∧ (boS rv p s0 m0 a i).2 ≤ m0
  | 0 => ⟨Nat.le_refl _, Nat.le_refl _⟩
  | i + 1 => by
    have := boS_le h p s0 m0 a i
    have := h (a + i) 2
    simp only [boS]; split
    · constructor
      · show (boS rv p s0 m0 a i).1 + rv (a + i) 2 ≤ _; omega
      · show (boS rv p s0 m0 a i).2 - 1 ≤ _; omega
    · omega
/-- strike, spare, points of a frame -/
def oK (n : Nat) (rv : Nat → Nat → Nat) (p f : Nat) : Nat := if lsF rv p f n = 0 then 0 else if rv (lsF rv p f n - 1) 3 = 0 ∧ 0 < feF rv p f n ∧ rv (lsF rv p f n - 1) 4 = 1 then 1 else 0
def oP (n : Nat) (rv : Nat → Nat → Nat) (p f : Nat) : Nat := if lsF rv p f n = 0 then 0 else if rv (lsF rv p f n - 1) 3 = 0 ∧ 0 < feF rv p f n ∧ 1 < rv (lsF rv p f n - 1) 4 then 1 else 0
def oS (n : Nat) (rv : Nat → Nat → Nat) (p f : Nat) : Nat := if lsF rv p f n = 0 then 0 else (boS rv p (feF rv p f n) (2 * oK n rv p f + oP n rv p f) (lsF rv p f n) (n - lsF rv p f n)).1
def o3 (n : Nat) (rv : Nat → Nat → Nat) (p f : Nat) : Nat → Nat := upN (upN (upN (fun _ => 0) 0 (oS n rv p f)) 1 (oK n rv p f)) 2 (oP n rv p f)
theorem o3_0 (n : Nat) (rv : Nat → Nat → Nat) (p f : Nat) : o3 n rv p f 0 = oS n rv p f := by simp [o3, upN]
theorem o3_1 (n : Nat) (rv : Nat → Nat → Nat) (p f : Nat) : o3 n rv p f 1 = oK n rv p f := by simp [o3, upN]
theorem o3_2 (n : Nat) (rv : Nat → Nat → Nat) (p f : Nat) : o3 n rv p f 2 = oP n rv p f := by simp [o3, upN]
theorem oS_le {rv : Nat → Nat → Nat} (h : ∀ k j, rv k j ≤ 10) {n : Nat} (hn : n ≤ 120) (p f : Nat) : oS n rv p f ≤ 2400 := by
  unfold oS
  split
  · omega
  · have h1 := (boS_le h p (feF rv p f n) (2 * oK n rv p f + oP n rv p f) (lsF rv p f n) (n - lsF rv p f n)).1
    have h2 := feF_le h p f n
    have := lsF_le rv p f n
    omega
/-- scores -/
def scS (n : Nat) (rv : Nat → Nat → Nat) (p : Nat) : Nat → Nat
  | 0 => 0
  | f + 1 => scS n rv p f + oS n rv p f
theorem scS_le {rv : Nat → Nat → Nat} (h : ∀ k j, rv k j ≤ 10) {n : Nat} (hn : n ≤ 120) (p : Nat) : ∀ f, scS n rv p f ≤ 2400 * f
  | 0 => Nat.le_refl 0
  | f + 1 => by have := scS_le h hn p f; have := oS_le h hn p f; simp only [scS]; omega
def scL (n : Nat) (rv : Nat → Nat → Nat) (p : Nat) : Nat := scS n rv p 10
/-- the leader, from the last player to the first: behind the players i and on -/
def blB (sc : Nat → Nat) (pl : Nat) : Nat → Nat
  | 0 => 9
  | k + 1 => if blB sc pl k < 9 then (if sc (blB sc pl k) ≤ sc (pl - 1 - k) then pl - 1 - k else blB sc pl k) else pl - 1 - k
theorem blB_in (sc : Nat → Nat) (pl : Nat) (hp : pl ≤ 4) : ∀ k, k ≤ pl → (k = 0 → blB sc pl k = 9) ∧ (0 < k → pl - k ≤ blB sc pl k ∧ blB sc pl k < pl ∧ (∀ j, pl - k ≤ j → j < pl → sc j ≤ sc (blB sc pl k)) ∧ (∀ j, pl - k ≤ j → j < blB sc pl k → sc j < sc (blB sc pl k)))
  | 0, _ => ⟨fun _ => rfl, fun h => absurd h (by omega)⟩
  | k + 1, hk => by
    obtain ⟨i0, i1⟩ := blB_in sc pl hp k (by omega)
    refine ⟨fun h => absurd h (by omega), fun _ => ?_⟩
    by_cases z : k = 0
    · subst z
      have e : blB sc pl 1 = pl - 1 := by simp [blB]
      rw [e]
      exact ⟨by omega, by omega, fun j h1 h2 => by rw [show j = pl - 1 by omega]; exact Nat.le_refl _, fun j h1 h2 => absurd h2 (by omega)⟩
    · obtain ⟨a1, a2, a3, a4⟩ := i1 (by omega)
      simp only [blB]
      rw [if_pos (by omega)]
      by_cases c : sc (blB sc pl k) ≤ sc (pl - 1 - k)
      · rw [if_pos c]
        refine ⟨by omega, by omega, fun j h1 h2 => ?_, fun j h1 h2 => absurd h2 (by omega)⟩
        by_cases e : j = pl - 1 - k
        · subst e; exact Nat.le_refl _
        · exact Nat.le_trans (a3 j (by omega) h2) c
      · rw [if_neg c]
        refine ⟨by omega, a2, fun j h1 h2 => ?_, fun j h1 h2 => ?_⟩
        · by_cases e : j = pl - 1 - k
          · subst e; omega
          · exact a3 j (by omega) h2
        · by_cases e : j = pl - 1 - k
          · subst e; omega
          · exact a4 j (by omega) h2
theorem fiB_in2 (sc : Nat → Nat) : ∀ k, (k ≤ 9) → 0 < k → fiB sc k < k ∧ (∀ j, j < k → sc j ≤ sc (fiB sc k)) ∧ (∀ j, j < fiB sc k → sc j < sc (fiB sc k))
  | 0, _, h => absurd h (by omega)
  | k + 1, hk, _ => by
    by_cases z : k = 0
    · subst z
      have e : fiB sc 1 = 0 := by simp [fiB]
      rw [e]
      exact ⟨by omega, fun j h => by rw [show j = 0 by omega]; exact Nat.le_refl _, fun j h => absurd h (by omega)⟩
    · obtain ⟨a1, a2, a3⟩ := fiB_in2 sc k (by omega) (by omega)
      simp only [fiB]
      rw [if_pos (by omega)]
      by_cases c : sc (fiB sc k) < sc k
      · rw [if_pos c]
        refine ⟨by omega, fun j h => ?_, fun j h => ?_⟩
        · by_cases e : j = k
          · subst e; exact Nat.le_refl _
          · have := a2 j (by omega); omega
        · have := a2 j (by omega); omega
      · rw [if_neg c]
        refine ⟨by omega, fun j h => ?_, a3⟩
        by_cases e : j = k
        · subst e; omega
        · exact a2 j (by omega)
theorem bl_fi {sc : Nat → Nat} {pl : Nat} (h1 : 1 ≤ pl) (hp : pl ≤ 4) : blB sc pl pl = fiB sc pl := by
  obtain ⟨-, a2, a3, a4⟩ := (blB_in sc pl hp pl (Nat.le_refl _)).2 h1
  obtain ⟨b1, b2, b3⟩ := fiB_in2 sc pl (by omega) h1
  rcases Nat.lt_trichotomy (blB sc pl pl) (fiB sc pl) with h | h | h
  · have := b3 _ h; have := a3 (fiB sc pl) (by omega) b1; omega
  · exact h
  · have := a4 _ (by omega) h; have := b2 _ a2; omega
