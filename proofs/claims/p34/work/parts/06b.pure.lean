/-! WHAT THE REFERENCE WORKS OUT, on numbers -/
theorem pinV_m1 {k : Nat} : pinV k = -1 ↔ ¬ k < 9 := by
  unfold pinV
  by_cases h : k < 9
  · rw [if_pos h]; exact ⟨fun q => absurd q (z_nm1 h), fun q => absurd h q⟩
  · rw [if_neg h]; exact ⟨fun _ => h, fun _ => rfl⟩
theorem pinV_lt {k : Nat} (h : ¬ pinV k = -1) : k < 9 := Classical.byContradiction fun q => h (pinV_m1.mpr q)
theorem pinV_nI {k : Nat} (h : k < 9) : pinV k = nI k := if_pos h
theorem pinV_shr {g k : Nat} (h : k < 9) (hg : g < 2 ^ 31) : nI g >>> (pinV k &&& 31) = nI (g / 2 ^ k) := by rw [pinV_nI h]; exact z_shr (by omega) hg
theorem pinV_shl {k : Nat} (h : k < 9) : nI 1 <<< (pinV k &&& 31) = nI (2 ^ k) := by rw [pinV_nI h]; exact z_shl1 k (by omega)
theorem and1_ne {a : Nat} : a &&& 1 ≠ 0 ↔ a % 2 = 1 := by rw [Nat.and_one_is_mod]; omega
theorem and1_eq {a : Nat} : a &&& 1 = 0 ↔ ¬ a % 2 = 1 := by rw [Nat.and_one_is_mod]; omega
theorem hiF_go {n g k : Nat} {f : Int32} (hk : k < 9) (hs : g / 2 ^ k % 2 = 1) (hf : ¬ f < 1) : hiF n (hiF n (dropK g k) (pinQ (tRO k + 1) (tLA k - 1)) (f - 2)) (pinQ (tRO k + 1) (tLA k + 1)) (f - 2) = hiF (n + 1) g k f := by
  simp only [hiF]; rw [if_pos ⟨hk, hs, hf⟩]
theorem roM_no {s b z i : Nat} (h0 : ¬ (roS s b z i).2 ≤ 0) (h : ¬ (pinQ (nI i) (nI z) < 9 ∧ (roS s b z i).1 / 2 ^ (pinQ (nI i) (nI z)) % 2 = 1)) : roS s b z (i + 1) = roS s b z i := by
  simp only [roS]; rw [if_neg (by omega), if_neg h]
theorem roM_yes {s b z i : Nat} (h0 : ¬ (roS s b z i).2 ≤ 0) (h : pinQ (nI i) (nI z) < 9) (h2 : (roS s b z i).1 / 2 ^ (pinQ (nI i) (nI z)) % 2 = 1) : roS s b z (i + 1) = (hiF 3 (roS s b z i).1 (pinQ (nI i) (nI z)) (nI (roS s b z i).2), (roS s b z i).2 - 1) := by
  simp only [roS]; rw [if_neg (by omega), if_pos ⟨h, h2⟩]
def suM (my : Nat → Nat) : Nat → Nat
  | 0 => 0
  | k + 1 => suM my k + my k
theorem suM_le {my : Nat → Nat} (h : ∀ j, my j ≤ 30) : ∀ k, suM my k ≤ 30 * k
  | 0 => Nat.le_refl 0
  | k + 1 => by have := suM_le h k; have := h k; simp only [suM]; omega
/-- throws a to t of the player q -/
def smQ (my fe : Nat → Nat) (q a t : Nat) : Nat := smN (fun j => fe (30 * q + j)) a (min t (my q) - a)
theorem smQ_le {my fe : Nat → Nat} (h : ∀ j, fe j ≤ 9) (hm : ∀ j, my j ≤ 30) (q a t : Nat) : smQ my fe q a t ≤ 270 := by
  have := smN_le (pt := fun j => fe (30 * q + j)) (fun j => h _) a (min t (my q) - a)
  have := hm q
  unfold smQ; omega
/-- the points of a frame, of the reference -/
def poM (my fe be ex : Nat → Nat) (tu fr q f : Nat) : Nat :=
  if fr < f ∨ (f = fr ∧ tu < q) then 0 else if f = fr ∧ q = tu then smQ my fe q (be (11 * q + f)) (my q) else smQ my fe q (be (11 * q + f)) (be (11 * q + (f + 1)) + ex (10 * q + f))
theorem poM_le {my fe be ex : Nat → Nat} (h : ∀ j, fe j ≤ 9) (hm : ∀ j, my j ≤ 30) (tu fr q f : Nat) : poM my fe be ex tu fr q f ≤ 270 := by
  unfold poM
  split
  · omega
  · split
    · exact smQ_le h hm _ _ _
    · exact smQ_le h hm _ _ _
def scM (my fe be ex : Nat → Nat) (tu fr q : Nat) : Nat → Nat
  | 0 => 0
  | i + 1 => scM my fe be ex tu fr q i + poM my fe be ex tu fr q i
theorem scM_le {my fe be ex : Nat → Nat} (h : ∀ j, fe j ≤ 9) (hm : ∀ j, my j ≤ 30) (tu fr q : Nat) : ∀ i, scM my fe be ex tu fr q i ≤ 270 * i
  | 0 => Nat.le_refl 0
  | i + 1 => by
    have := scM_le (be := be) (ex := ex) h hm tu fr q i
    have := poM_le (be := be) (ex := ex) h hm tu fr q i
    simp only [scM]; omega
/-- the first of those with the greatest number; 9: none -/
def fiB (sc : Nat → Nat) : Nat → Nat
  | 0 => 9
  | i + 1 => if fiB sc i < 9 then (if sc (fiB sc i) < sc i then i else fiB sc i) else i
theorem fiB_lt (sc : Nat → Nat) : ∀ i, fiB sc i = 9 ∨ fiB sc i < i
  | 0 => Or.inl rfl
  | i + 1 => by
    have := fiB_lt sc i
    simp only [fiB]
    split
    · split <;> omega
    · omega
theorem fiB_in {sc : Nat → Nat} {i : Nat} (h : fiB sc i < 9) : fiB sc i < i := by
  have := fiB_lt sc i; omega
def fiM (sc : Nat → Nat) (i : Nat) : Int32 := if fiB sc i < 9 then nI (sc (fiB sc i)) else -1
theorem nI_gtm {a : Nat} (h : a < 2 ^ 31) : ¬ nI a ≤ -1 := by
  intro q
  have := Int32.le_iff_toInt_le.mp q
  rw [nI_toInt h] at this
  have e : (-1 : Int32).toInt = -1 := by decide
  omega
theorem fiM_le {sc : Nat → Nat} {i : Nat} (hs : ∀ j, sc j < 2 ^ 31) : nI (sc i) ≤ fiM sc i ↔ fiB sc i < 9 ∧ ¬ sc (fiB sc i) < sc i := by
  unfold fiM
  by_cases h : fiB sc i < 9
  · rw [if_pos h, nI_leI (hs _) (hs _)]; omega
  · rw [if_neg h]; exact ⟨fun q => absurd q (nI_gtm (hs _)), fun q => absurd q.1 h⟩
theorem z_in5b {x : Int32} (h0 : nI 0 ≤ x) (h5 : x ≤ nI 4) : ∃ a : Nat, a < 5 ∧ x = nI a := by
  obtain ⟨j, hj, e⟩ := nI_of2 (M := nI 4) (n := 4) (by decide) (Int32.not_lt.mpr h0) h5
  exact ⟨j, by omega, e⟩
theorem in5_iff (x : Int32) : (nI 0 ≤ x ∧ x ≤ nI 4) ↔ ¬ x < 0 ∧ ¬ 5 ≤ x := by
  constructor
  · rintro ⟨h1, h2⟩
    obtain ⟨a, ha, rfl⟩ := z_in5b h1 h2
    exact ⟨nI_pos (by omega), nI_ge (a := a) (b := 5) ha (by decide)⟩
  · rintro ⟨h1, h2⟩
    obtain ⟨a, ha, rfl⟩ := z_in5 h1 h2
    exact ⟨nI_le (a := 0) (by omega) (by omega), nI_le (by omega) (by decide)⟩
theorem pinQ_bad {r z : Int32} (h : ¬ (nI 0 ≤ r ∧ r ≤ nI 4) ∨ ¬ (nI 0 ≤ z ∧ z ≤ nI 4)) : ¬ pinQ r z < 9 := by
  rw [in5_iff, in5_iff] at h
  unfold pinQ
  by_cases h1 : r < 0
  · rw [if_pos h1]; omega
  · by_cases h2 : 5 ≤ r
    · rw [if_neg h1, if_pos h2]; omega
    · by_cases h3 : z < 0
      · rw [if_neg h1, if_neg h2, if_pos h3]; omega
      · by_cases h4 : 5 ≤ z
        · rw [if_neg h1, if_neg h2, if_neg h3, if_pos h4]; omega
        · rcases h with h | h
          · exact absurd ⟨h1, h2⟩ h
          · exact absurd ⟨h3, h4⟩ h
theorem z_inR {q hi : Nat} (h : q ≤ hi) (h2 : hi < 2 ^ 31) : nI 0 ≤ nI q ∧ nI q ≤ nI hi := ⟨nI_le (a := 0) (by omega) (by omega), nI_le h h2⟩
theorem z_inP {q pl : Nat} (h : q < pl) (h2 : pl < 2 ^ 31) : nI 0 ≤ nI q ∧ nI q ≤ nI pl - nI 1 := by
  rw [pk_sub (by omega : 1 ≤ pl)]
  exact z_inR (by omega) (by omega)
def scT (my fe be ex : Nat → Nat) (tu fr q : Nat) : Nat := scM my fe be ex tu fr q 10
theorem scT_le {my fe be ex : Nat → Nat} (h : ∀ j, fe j ≤ 9) (hm : ∀ j, my j ≤ 30) (tu fr q : Nat) : scT my fe be ex tu fr q ≤ 2700 := scM_le (be := be) (ex := ex) h hm tu fr q 10
theorem fiB_new {sc : Nat → Nat} {i : Nat} (h : ¬ fiB sc i < 9) : fiB sc (i + 1) = i := by simp only [fiB]; rw [if_neg h]
theorem fiB_up {sc : Nat → Nat} {i : Nat} (h : fiB sc i < 9) (h2 : sc (fiB sc i) < sc i) : fiB sc (i + 1) = i := by simp only [fiB]; rw [if_pos h, if_pos h2]
theorem fiB_keep {sc : Nat → Nat} {i : Nat} (h : fiB sc i < 9) (h2 : ¬ sc (fiB sc i) < sc i) : fiB sc (i + 1) = fiB sc i := by simp only [fiB]; rw [if_pos h, if_neg h2]
def zbW (be : Nat → Nat) : Nat → Nat → Nat
  | 0 => be
  | i + 1 => upN (zbW be i) (11 * i) 0
def bmN (w : Nat → Nat) : Nat → Nat
  | 0 => 0
  | i + 1 => bmN w i + if w i = 12 then 1 else 0
def mwB (w : Nat → Nat) : Nat → Nat
  | 0 => 9
  | i + 1 => if w i = 12 then mwB w i else if mwB w i < 9 then (if w (mwB w i) < w i then i else mwB w i) else i
theorem mwB_lt (w : Nat → Nat) : ∀ i, mwB w i = 9 ∨ mwB w i < i
  | 0 => Or.inl rfl
  | i + 1 => by
    have := mwB_lt w i
    simp only [mwB]
    split
    · omega
    · split
      · split <;> omega
      · omega
theorem mwB_in {w : Nat → Nat} {i : Nat} (h : mwB w i < 9) : mwB w i < i := by
  have := mwB_lt w i; omega
theorem mwB_br {w : Nat → Nat} {i : Nat} (h : w i = 12) : mwB w (i + 1) = mwB w i := by simp only [mwB]; rw [if_pos h]
theorem mwB_new {w : Nat → Nat} {i : Nat} (h0 : ¬ w i = 12) (h : ¬ mwB w i < 9) : mwB w (i + 1) = i := by simp only [mwB]; rw [if_neg h0, if_neg h]
theorem mwB_up {w : Nat → Nat} {i : Nat} (h0 : ¬ w i = 12) (h : mwB w i < 9) (h2 : w (mwB w i) < w i) : mwB w (i + 1) = i := by simp only [mwB]; rw [if_neg h0, if_pos h, if_pos h2]
theorem mwB_keep {w : Nat → Nat} {i : Nat} (h0 : ¬ w i = 12) (h : mwB w i < 9) (h2 : ¬ w (mwB w i) < w i) : mwB w (i + 1) = mwB w i := by simp only [mwB]; rw [if_neg h0, if_pos h, if_neg h2]
def tnI (pl fr tu : Nat) : Int32 := if pl = 0 then -1 else if fr = 10 then -1 else nI tu
/-- the best throw: ball and lane, and how many fall -/
def bzS (g b : Nat) (p : Int32 × Int32) : Nat → Int32 × Int32
  | 0 => p
  | z + 1 => if nI (pcN (feN g b z)) ≤ (bzS g b p z).2 then bzS g b p z else (nI (10 * b + z), nI (pcN (feN g b z)))
def beS (g : Nat) (aw : Nat → Nat) : Nat → Int32 × Int32
  | 0 => (-1, -1)
  | b + 1 => if aw b = 0 then bzS g b (beS g aw b) 5 else beS g aw b
theorem beS_y {g b : Nat} {aw : Nat → Nat} (h : aw b = 0) : beS g aw (b + 1) = bzS g b (beS g aw b) 5 := by simp only [beS]; rw [if_pos h]
theorem beS_n {g b : Nat} {aw : Nat → Nat} (h : ¬ aw b = 0) : beS g aw (b + 1) = beS g aw b := by simp only [beS]; rw [if_neg h]
theorem bzS_k {g b z : Nat} {p : Int32 × Int32} (h : nI (pcN (feN g b z)) ≤ (bzS g b p z).2) : bzS g b p (z + 1) = bzS g b p z := by simp only [bzS]; rw [if_pos h]
theorem bzS_u {g b z : Nat} {p : Int32 × Int32} (h : ¬ nI (pcN (feN g b z)) ≤ (bzS g b p z).2) : bzS g b p (z + 1) = (nI (10 * b + z), nI (pcN (feN g b z))) := by simp only [bzS]; rw [if_neg h]
/-- how few throws clear the alley -/
def tcF (g : Nat) : Int32 := if ccB 0 g 0 = true then nI 0 else if ccB 1 g 0 = true then nI 1 else if ccB 2 g 0 = true then nI 2 else if ccB 3 g 0 = true then nI 3 else -1
def wbM (g : Nat) (w : Nat → Nat) : Nat → Nat
  | 0 => 0
  | i + 1 => wbM g w i + if w i + g / 2 ^ i % 2 = 12 then 1 else 0
theorem ccB_0 {n u : Nat} : ccB n 0 u = true := by cases n <;> simp [ccB]
def pwW (f : Nat) (w : Nat → Nat) : Nat → Nat → Nat
  | 0 => w
  | i + 1 => upN (pwW f w i) i (pwW f w i i + f / 2 ^ i % 2)
theorem upN_self (w : Nat → Nat) (i : Nat) : upN w i (w i) = w := by
  funext j
  unfold upN
  split
  · subst_vars; rfl
  · rfl
theorem pw_rw (f : Nat) (w : Nat → Nat) : ∀ i, pwW f w i = rwW f w i
  | 0 => rfl
  | i + 1 => by
    have ih := pw_rw f w i
    simp only [pwW, rwW]
    rw [ih]
    by_cases h : f / 2 ^ i % 2 = 1
    · rw [if_pos h, h]
    · rw [if_neg h, show f / 2 ^ i % 2 = 0 by omega, Nat.add_zero, upN_self]
