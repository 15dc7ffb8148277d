/-! WHAT THE LAW ASKS OF THE CLASS, on numbers -/
def cpW (f : Nat → Nat) : Nat → Nat → Nat
  | 0 => fun _ => 0
  | i + 1 => upN (cpW f i) i (f i)
theorem cpW_val (f : Nat → Nat) : ∀ i j, cpW f i j = if j < i then f j else 0
  | 0, j => by simp [cpW]
  | i + 1, j => by
    simp only [cpW]
    by_cases e : j = i
    · subst e; rw [upN_s, if_pos (by omega)]
    · rw [upN_n _ _ _ e, cpW_val f i j]
      by_cases h : j < i
      · rw [if_pos h, if_pos (by omega)]
      · rw [if_neg h, if_neg (by omega)]
theorem cpW_s (f : Nat → Nat) (q : Nat) : cpW f (q + 1) q = f q := by rw [cpW_val, if_pos (by omega)]
theorem cpW_9 (f : Nat → Nat) {q : Nat} (h : q < 9) : cpW f 9 q = f q := by rw [cpW_val, if_pos h]
theorem bkN_s (w : Nat → Nat) (q : Nat) : bkN w (q + 1) = bkN w q + (if 12 ≤ w q then 1 else 0) := by
  simp only [bkN]; split <;> rfl
theorem bkN_le (w : Nat → Nat) : ∀ i, bkN w i ≤ i
  | 0 => Nat.le_refl 0
  | i + 1 => by have := bkN_le w i; rw [bkN_s]; split <;> omega
theorem bk_bi (g : Nat) (w : Nat → Nat) : ∀ i, bkN w i ≤ biN g w i ∧ biN g w i ≤ bkN w i + pcS g i
  | 0 => ⟨Nat.le_refl 0, Nat.zero_le _⟩
  | i + 1 => by
    obtain ⟨h1, h2⟩ := bk_bi g w i
    have h3 := mB_lt g i
    rw [bkN_s]
    simp only [biN, pcS]
    by_cases q : g / 2 ^ i % 2 = 1
    · have q2 : mB g i = 1 := q
      rw [if_pos q]
      split <;> split <;> omega
    · rw [if_neg q]
      split <;> split <;> omega
def acN (aw : Nat → Nat) : Nat → Nat
  | 0 => 0
  | i + 1 => acN aw i + (if 0 < aw i then 1 else 0)
theorem ac_le (aw : Nat → Nat) : ∀ i, acN aw i ≤ i
  | 0 => Nat.le_refl 0
  | i + 1 => by have := ac_le aw i; simp only [acN]; split <;> omega
theorem ac_2 {aw : Nat → Nat} (ha : ∀ i, aw i ≤ 2) (h : ∀ i j, i < 5 → j < 5 → i ≠ j → aw i = aw j → aw i = 0) : acN aw 5 ≤ 2 := by
  have a0 := ha 0; have a1 := ha 1; have a2 := ha 2; have a3 := ha 3; have a4 := ha 4
  have h01 := h 0 1 (by omega) (by omega) (by omega)
  have h02 := h 0 2 (by omega) (by omega) (by omega)
  have h03 := h 0 3 (by omega) (by omega) (by omega)
  have h04 := h 0 4 (by omega) (by omega) (by omega)
  have h12 := h 1 2 (by omega) (by omega) (by omega)
  have h13 := h 1 3 (by omega) (by omega) (by omega)
  have h14 := h 1 4 (by omega) (by omega) (by omega)
  have h23 := h 2 3 (by omega) (by omega) (by omega)
  have h24 := h 2 4 (by omega) (by omega) (by omega)
  have h34 := h 3 4 (by omega) (by omega) (by omega)
  clear h ha
  simp only [acN]
  generalize aw 0 = x0 at *
  generalize aw 1 = x1 at *
  generalize aw 2 = x2 at *
  generalize aw 3 = x3 at *
  generalize aw 4 = x4 at *
  (repeat' split) <;> omega
theorem bk_9 {w : Nat → Nat} (h : bkN w 9 = 9) : ∀ j, j < 9 → 12 ≤ w j := by
  have key : ∀ i, bkN w i = i → ∀ j, j < i → 12 ≤ w j := by
    intro i
    induction i with
    | zero => intro _ j hj; exact absurd hj (Nat.not_lt_zero j)
    | succ i ih =>
      intro e j hj
      rw [bkN_s] at e
      have := bkN_le w i
      by_cases q : 12 ≤ w i
      · rw [if_pos q] at e
        by_cases r : j = i
        · subst r; exact q
        · exact ih (by omega) j (by omega)
      · rw [if_neg q] at e; omega
  exact key 9 h
theorem bk_n9 {w : Nat → Nat} (h : ∀ j, j < 9 → 12 ≤ w j) : bkN w 9 = 9 := by
  have key : ∀ i, i ≤ 9 → bkN w i = i := by
    intro i
    induction i with
    | zero => intro _; rfl
    | succ i ih => intro hi; rw [bkN_s, if_pos (h i (by omega)), ih (by omega)]
  exact key 9 (Nat.le_refl 9)
theorem mw9 {w : Nat → Nat} (hw : ∀ i, w i ≤ 12) : mwF w 9 < 0 ↔ bkN w 9 = 9 := by
  rw [(mw_eq hw 9 (Nat.le_refl _)).1]
  rcases mwB_in2 hw 9 (Nat.le_refl _) with ⟨i1, i2⟩ | ⟨i1, i2, i3, i4⟩
  · refine ⟨fun _ => bk_n9 (fun j hj => by have := i2 j hj; omega), fun _ => ?_⟩
    rw [i1]; decide
  · refine ⟨fun q => absurd i1 (pinV_neg q), fun q => ?_⟩
    have := bk_9 q _ i1
    omega
section LF
variable {pl tu fr nf g n : Nat} {rv : Nat → Nat → Nat} {w aw : Nat → Nat} {pt ft ti bt : Nat → Nat → Nat} {th : Nat → Nat}
theorem smN_add (pt : Nat → Nat) (a k : Nat) : ∀ j, smN pt a (k + j) = smN pt a k + smN pt (a + k) j
  | 0 => rfl
  | j + 1 => by
    show smN pt a (k + j) + pt (a + (k + j)) = smN pt a k + (smN pt (a + k) j + pt (a + k + j))
    rw [smN_add pt a k j, Nat.add_assoc a k j, Nat.add_assoc]
theorem smN_mono (pt : Nat → Nat) (a : Nat) {k : Nat} : ∀ j, k ≤ j → smN pt a k ≤ smN pt a j := fun j h => by
  rw [show j = k + (j - k) by omega, smN_add]; omega
theorem Iv.po27 (h : Iv pl tu fr nf g n rv w aw pt ft ti bt th) {p f : Nat} (hp : p < 4) (hf : f < 10) : poN (pt p) (ft p) (ti p) (bt p) (th p) f ≤ 27 := by
  obtain ⟨-, -, -, -, -, -, -, h8, -, -, -⟩ := h.hP hp
  have h1 := h8 f hf
  have h2 := h.hbt p f
  have h3 := smN_mono (pt p) (ft p f) (k := min (th p) (ft p f + ti p f + bt p f) - ft p f) (ti p f + bt p f) (by omega)
  rw [smN_add] at h3
  have h4 := smN_le (h.hpt p) (ft p f + ti p f) (bt p f)
  unfold poN
  omega
theorem Iv.po0 (h : Iv pl tu fr nf g n rv w aw pt ft ti bt th) {p f : Nat} (hp : p < pl) (hf : f < 10) (hfr : fr < f) : poN (pt p) (ft p) (ti p) (bt p) (th p) f = 0 := by
  have e2 := h.hpl
  obtain ⟨-, -, -, -, -, -, h7, -, -, -, -⟩ := h.hP (p := p) (by omega)
  have h1 := h7 f hf (by unfold nxF; rw [if_pos hp]; split <;> omega)
  rw [if_neg (fun q => by omega)] at h1
  unfold poN
  rw [h1.1, h1.2, show min (th p) (ft p f + 0 + 0) - ft p f = 0 by omega]; rfl
theorem Iv.fb (h : Iv pl tu fr nf g n rv w aw pt ft ti bt th) {p : Nat} (hp : p < pl) : fbN (bt p) 2 10 + fbN (bt p) 1 10 ≤ min 10 (fr + 1) := by
  have e2 := h.hpl
  obtain ⟨-, -, -, -, -, -, h7, -, -, -, -⟩ := h.hP (p := p) (by omega)
  have hx : nxF pl tu fr p ≤ fr + 1 := by unfold nxF; rw [if_pos hp]; split <;> omega
  have key : ∀ k, k ≤ 10 → fbN (bt p) 2 k + fbN (bt p) 1 k ≤ min k (fr + 1) := by
    intro k
    induction k with
    | zero => intro _; simp [fbN]
    | succ k ih =>
      intro hk
      have i1 := ih (by omega)
      rw [fbN_s, fbN_s]
      by_cases q : fr + 1 ≤ k
      · have := (h7 k (by omega) (by omega)).1
        rw [this, if_neg (by omega), if_neg (by omega)]; omega
      · split <;> split <;> omega
  exact key 10 (Nat.le_refl _)
theorem Iv.th3 (h : Iv pl tu fr nf g n rv w aw pt ft ti bt th) {p : Nat} (hp : p < pl) : th p ≤ 3 * min 10 (fr + 1) ∧ fr ≤ th p := by
  have e2 := h.hpl; have e3 := h.hfr; have e4 := h.htp; have e5 := h.hnf; have e6 := h.hend
  obtain ⟨-, -, -, -, -, -, -, -, h9, h9b, -⟩ := h.hP (p := p) (by omega)
  unfold nxF at h9 h9b
  rw [if_pos hp] at h9 h9b
  by_cases a : p < tu
  · rw [if_pos a] at h9 h9b
    rw [if_neg (by omega)] at h9b
    have : fr ≠ 10 := fun q => by have := (e6 q).1; omega
    omega
  · rw [if_neg a] at h9 h9b
    by_cases b : p = tu
    · rw [if_pos b] at h9b
      by_cases c : fr = 10
      · have := (e6 c).2; omega
      · omega
    · rw [if_neg b] at h9b; omega
end LF
theorem fiM_max {sc : Nat → Nat} {q : Nat} (hs : ∀ j, sc j < 2 ^ 31) (hq : q < 9) : (if fiM sc q < nI (sc q) then nI (sc q) else fiM sc q) = fiM sc (q + 1) := by
  by_cases h : nI (sc q) ≤ fiM sc q
  · rw [if_neg (Int32.not_lt.mpr h), (fiM_keep hs h).2]
  · rw [if_pos (Int32.not_le.mp h), (fiM_new hs h).2, if_pos hq]
theorem fiM_0 (sc : Nat → Nat) : fiM sc 0 = -1 := by simp [fiM, fiB]
/-- the throw that fells all -/
def onZ (g b s : Nat) : Nat → Nat
  | 0 => s
  | z + 1 => onZ g b s z ||| (if pcN (feN g b z) = pcN g then 1 else 0)
def onB (g : Nat) : Nat → Nat
  | 0 => 0
  | b + 1 => onZ g b (onB g b) 5
theorem or01 {a b : Nat} (ha : a = 0 ∨ a = 1) (hb : b = 0 ∨ b = 1) : (a ||| b = 0 ∨ a ||| b = 1) ∧ (a ||| b = 1 ↔ a = 1 ∨ b = 1) := by
  rcases ha with rfl | rfl <;> rcases hb with rfl | rfl <;> decide
theorem onZ_in (g b s : Nat) (hs : s = 0 ∨ s = 1) : ∀ z, (onZ g b s z = 0 ∨ onZ g b s z = 1) ∧ (onZ g b s z = 1 ↔ s = 1 ∨ ∃ y, y < z ∧ pcN (feN g b y) = pcN g)
  | 0 => ⟨hs, ⟨Or.inl, fun h => h.elim id (fun ⟨y, hy, _⟩ => absurd hy (Nat.not_lt_zero y))⟩⟩
  | z + 1 => by
    obtain ⟨i1, i2⟩ := onZ_in g b s hs z
    have h01 : (if pcN (feN g b z) = pcN g then 1 else 0) = 0 ∨ (if pcN (feN g b z) = pcN g then 1 else 0) = 1 := by split <;> omega
    obtain ⟨o1, o2⟩ := or01 i1 h01
    refine ⟨o1, ?_⟩
    show onZ g b s z ||| (if pcN (feN g b z) = pcN g then 1 else 0) = 1 ↔ _
    rw [o2, i2]
    constructor
    · rintro ((h | ⟨y, hy, e⟩) | h)
      · exact Or.inl h
      · exact Or.inr ⟨y, by omega, e⟩
      · refine Or.inr ⟨z, by omega, ?_⟩
        by_cases q : pcN (feN g b z) = pcN g
        · exact q
        · rw [if_neg q] at h; omega
    · rintro (h | ⟨y, hy, e⟩)
      · exact Or.inl (Or.inl h)
      · by_cases q : y = z
        · subst q; exact Or.inr (if_pos e)
        · exact Or.inl (Or.inr ⟨y, by omega, e⟩)
theorem onB_in (g : Nat) : ∀ b, (onB g b = 0 ∨ onB g b = 1) ∧ (onB g b = 1 ↔ ∃ a, a < b ∧ ∃ y, y < 5 ∧ pcN (feN g a y) = pcN g)
  | 0 => ⟨Or.inl rfl, ⟨fun h => absurd h (by simp [onB]), fun ⟨a, ha, _⟩ => absurd ha (Nat.not_lt_zero a)⟩⟩
  | b + 1 => by
    obtain ⟨i1, i2⟩ := onB_in g b
    obtain ⟨z1, z2⟩ := onZ_in g b (onB g b) i1 5
    refine ⟨z1, ?_⟩
    show onZ g b (onB g b) 5 = 1 ↔ _
    rw [z2, i2]
    constructor
    · rintro (⟨a, ha, h⟩ | h)
      · exact ⟨a, by omega, h⟩
      · exact ⟨b, by omega, h⟩
    · rintro ⟨a, ha, h⟩
      by_cases q : a = b
      · subst q; exact Or.inr h
      · exact Or.inl ⟨a, by omega, h⟩
theorem tc_lo (g : Nat) : ¬ tcF g < -1 := by
  unfold tcF; (repeat' split) <;> decide
theorem tc_hi (g : Nat) : ¬ nI 3 < tcF g := by
  unfold tcF; (repeat' split) <;> decide
theorem tc_0 (g : Nat) : tcF g = 0 ↔ g = 0 := by
  unfold tcF
  by_cases h : g = 0
  · rw [if_pos (by simp [ccB, h])]; exact ⟨fun _ => h, fun _ => rfl⟩
  · rw [if_neg (by simp [ccB, h])]
    refine ⟨fun q => ?_, fun q => absurd q h⟩
    exfalso
    revert q
    (repeat' split) <;> decide
theorem cc1 {g : Nat} (hg : g < 512) (h0 : g ≠ 0) : ccB 1 g 0 = true ↔ ∃ a, a < 5 ∧ ∃ y, y < 5 ∧ pcN (feN g a y) = pcN g := by
  have e : ∀ b z, ccG (ccB 0) g 0 b z = true ↔ pcN (feN g b z) = pcN g := fun b z => by
    have h1 := pcN_fr (b := b) (z := z) hg
    have h2 := pcN_0 (ro_lt (b := b) (z := z) hg)
    simp only [ccG, ccB, Bool.and_eq_true, decide_eq_true_eq]
    constructor
    · rintro ⟨-, -, h⟩
      have := h2.mpr h
      omega
    · intro h
      have h3 := h2.mp (by omega)
      exact ⟨by simp, fun q => h0 (by rw [← q, h3]), h3⟩
  constructor
  · intro h
    simp only [ccB, Bool.or_eq_true, List.any_eq_true, List.mem_range, decide_eq_true_eq] at h
    rcases h with h | ⟨a, ha, y, hy, h⟩
    · exact absurd h h0
    · exact ⟨a, ha, y, hy, (e a y).mp h⟩
  · rintro ⟨a, ha, y, hy, h⟩
    exact ccB_t ha hy ((e a y).mpr h)
theorem tc_1 {g : Nat} (hg : g < 512) (h0 : g ≠ 0) : tcF g = 1 ↔ onB g 5 = 1 := by
  rw [(onB_in g 5).2, ← cc1 hg h0]
  unfold tcF
  rw [if_neg (by simp [ccB, h0])]
  by_cases h : ccB 1 g 0 = true
  · rw [if_pos h]; exact ⟨fun _ => h, fun _ => rfl⟩
  · rw [if_neg h]
    refine ⟨fun q => ?_, fun q => absurd q h⟩
    exfalso
    revert q
    (repeat' split) <;> decide
/-- the last that falls -/
theorem la_neg {s : Nat} (hs : s < 512) : laF s 9 < 0 ↔ s = 0 := by
  have key : ∀ i, i ≤ 9 → (laF s i < 0 ↔ ∀ j, j < i → ¬ s / 2 ^ j % 2 = 1) := by
    intro i
    induction i with
    | zero => intro _; exact ⟨fun _ j hj => absurd hj (Nat.not_lt_zero j), fun _ => show (-1 : Int32) < 0 by decide⟩
    | succ i ih =>
      intro hi
      simp only [laF]
      by_cases q : s / 2 ^ i % 2 = 1
      · rw [if_pos q]
        exact ⟨fun h => absurd h (nI_pos (by omega)), fun h => absurd q (h i (by omega))⟩
      · rw [if_neg q, ih (by omega)]
        refine ⟨fun h j hj => ?_, fun h j hj => h j (by omega)⟩
        by_cases r : j = i
        · subst r; exact q
        · exact h j (by omega)
  rw [key 9 (Nat.le_refl _)]
  constructor
  · intro h
    apply Nat.eq_of_testBit_eq
    intro j
    rw [Nat.zero_testBit]
    cases e : s.testBit j with
    | false => rfl
    | true => exact absurd ((bit_iff s j).mp e) (h j (lt512_bit hs e))
  · intro h j _; subst h; simp
theorem la_bit {s : Nat} (h : ¬ laF s 9 < 0) : laF s 9 = nI (laN s 9) ∧ laN s 9 < 9 ∧ s / 2 ^ (laN s 9) % 2 = 1 := by
  have key : ∀ i, i ≤ 9 → ¬ laF s i < 0 → laF s i = nI (laN s i) ∧ laN s i < i ∧ s / 2 ^ (laN s i) % 2 = 1 := by
    intro i
    induction i with
    | zero => intro _ q; exact absurd (show (-1 : Int32) < 0 by decide) q
    | succ i ih =>
      intro hi q
      simp only [laF, laN] at q ⊢
      by_cases c : s / 2 ^ i % 2 = 1
      · rw [if_pos c, if_pos c]; exact ⟨rfl, by omega, c⟩
      · rw [if_neg c] at q
        rw [if_neg c, if_neg c]
        obtain ⟨h1, h2, h3⟩ := ih (by omega) q
        exact ⟨h1, by omega, h3⟩
  exact key 9 (Nat.le_refl _) h
/-- the best throw -/
def cdR (aw : Nat → Nat) (b z b' z' : Nat) : Prop := aw b' = 0 ∧ b' < 5 ∧ z' < 5 ∧ (b' < b ∨ (b' = b ∧ z' < z))
def bsR (g : Nat) (aw : Nat → Nat) (b z : Nat) (P : Int32 × Int32) : Prop :=
  (P = (-1, -1) ∧ ∀ b' z', ¬ cdR aw b z b' z') ∨ ∃ B Z, cdR aw b z B Z ∧ P = (nI (10 * B + Z), nI (pcN (feN g B Z))) ∧ ∀ b' z', cdR aw b z b' z' → pcN (feN g b' z') < pcN (feN g B Z) ∨ (pcN (feN g b' z') = pcN (feN g B Z) ∧ 10 * B + Z ≤ 10 * b' + z')
theorem bsR_z {g b : Nat} {aw : Nat → Nat} (hb : b < 5) (h0 : aw b = 0) {P : Int32 × Int32} (h : bsR g aw b 0 P) : ∀ z, z ≤ 5 → bsR g aw b z (bzS g b P z)
  | 0, _ => h
  | z + 1, hz => by
    have ih := bsR_z hb h0 h z (by omega)
    have hx := pcN_le (feN g b z)
    have step : ∀ b' z', cdR aw b (z + 1) b' z' → cdR aw b z b' z' ∨ (b' = b ∧ z' = z) := by
      rintro b' z' ⟨c1, c2, c3, c4 | ⟨c4, c5⟩⟩
      · exact Or.inl ⟨c1, c2, c3, Or.inl c4⟩
      · by_cases q : z' = z
        · exact Or.inr ⟨c4, q⟩
        · exact Or.inl ⟨c1, c2, c3, Or.inr ⟨c4, by omega⟩⟩
    have up : ∀ b' z', cdR aw b z b' z' → cdR aw b (z + 1) b' z' := by
      rintro b' z' ⟨c1, c2, c3, c4 | ⟨c4, c5⟩⟩
      · exact ⟨c1, c2, c3, Or.inl c4⟩
      · exact ⟨c1, c2, c3, Or.inr ⟨c4, by omega⟩⟩
    have self : cdR aw b (z + 1) b z := ⟨h0, hb, by omega, Or.inr ⟨rfl, by omega⟩⟩
    rcases ih with ⟨i1, i2⟩ | ⟨B, Z, i1, i2, i3⟩
    · rw [bzS_u (by rw [i1]; exact nI_gtm (by omega))]
      refine Or.inr ⟨b, z, self, rfl, fun b' z' q => ?_⟩
      rcases step b' z' q with r | ⟨rfl, rfl⟩
      · exact absurd r (i2 b' z')
      · exact Or.inr ⟨rfl, Nat.le_refl _⟩
    · have hy := pcN_le (feN g B Z)
      by_cases c : pcN (feN g b z) ≤ pcN (feN g B Z)
      · rw [bzS_k (by rw [i2]; exact (nI_leI (by omega) (by omega)).mpr c)]
        refine Or.inr ⟨B, Z, up B Z i1, i2, fun b' z' q => ?_⟩
        rcases step b' z' q with r | ⟨rfl, rfl⟩
        · exact i3 b' z' r
        · rcases Nat.lt_or_ge (pcN (feN g b' z')) (pcN (feN g B Z)) with y | y
          · exact Or.inl y
          · refine Or.inr ⟨by omega, ?_⟩
            obtain ⟨-, -, d3, d4 | ⟨d4, d5⟩⟩ := i1
            · omega
            · omega
      · rw [bzS_u (by rw [i2]; exact fun y => c ((nI_leI (by omega) (by omega)).mp y))]
        refine Or.inr ⟨b, z, self, rfl, fun b' z' q => ?_⟩
        rcases step b' z' q with r | ⟨rfl, rfl⟩
        · rcases i3 b' z' r with y | y
          · exact Or.inl (by omega)
          · exact Or.inl (by omega)
        · exact Or.inr ⟨rfl, Nat.le_refl _⟩
theorem bsR_b (g : Nat) (aw : Nat → Nat) : ∀ b, b ≤ 5 → bsR g aw b 0 (beS g aw b)
  | 0, _ => Or.inl ⟨rfl, fun b' z' ⟨_, _, _, c⟩ => by omega⟩
  | b + 1, hb => by
    have ih := bsR_b g aw b (by omega)
    by_cases h0 : aw b = 0
    · rw [beS_y h0]
      have h5 := bsR_z (by omega) h0 ih 5 (Nat.le_refl _)
      have iff : ∀ b' z', cdR aw (b + 1) 0 b' z' ↔ cdR aw b 5 b' z' := fun b' z' => ⟨fun ⟨c1, c2, c3, c4⟩ => ⟨c1, c2, c3, by omega⟩, fun ⟨c1, c2, c3, c4⟩ => ⟨c1, c2, c3, by omega⟩⟩
      rcases h5 with ⟨i1, i2⟩ | ⟨B, Z, i1, i2, i3⟩
      · exact Or.inl ⟨i1, fun b' z' q => i2 b' z' ((iff b' z').mp q)⟩
      · exact Or.inr ⟨B, Z, (iff B Z).mpr i1, i2, fun b' z' q => i3 b' z' ((iff b' z').mp q)⟩
    · rw [beS_n h0]
      have iff : ∀ b' z', cdR aw (b + 1) 0 b' z' ↔ cdR aw b 0 b' z' := fun b' z' => ⟨fun ⟨c1, c2, c3, c4⟩ => ⟨c1, c2, c3, by
        by_cases q : b' = b
        · subst q; exact absurd c1 h0
        · omega⟩, fun ⟨c1, c2, c3, c4⟩ => ⟨c1, c2, c3, by omega⟩⟩
      rcases ih with ⟨i1, i2⟩ | ⟨B, Z, i1, i2, i3⟩
      · exact Or.inl ⟨i1, fun b' z' q => i2 b' z' ((iff b' z').mp q)⟩
      · exact Or.inr ⟨B, Z, (iff B Z).mpr i1, i2, fun b' z' q => i3 b' z' ((iff b' z').mp q)⟩
theorem bes_some {g : Nat} {aw : Nat → Nat} {b z : Nat} (hb : b < 5) (hz : z < 5) (h0 : aw b = 0) : ∃ B Z, B < 5 ∧ Z < 5 ∧ aw B = 0 ∧ (beS g aw 5).1 = nI (10 * B + Z) ∧ (pcN (feN g b z) < pcN (feN g B Z) ∨ (pcN (feN g b z) = pcN (feN g B Z) ∧ 10 * B + Z ≤ 10 * b + z)) := by
  rcases bsR_b g aw 5 (Nat.le_refl _) with ⟨i1, i2⟩ | ⟨B, Z, ⟨d1, d2, d3, d4⟩, i2, i3⟩
  · exact absurd ⟨h0, hb, hz, Or.inl hb⟩ (i2 b z)
  · exact ⟨B, Z, d2, d3, d1, by rw [i2], i3 b z ⟨h0, hb, hz, Or.inl hb⟩⟩
theorem bes_ge {g : Nat} {aw : Nat → Nat} (h : ¬ (beS g aw 5).1 < 0) : ∃ B Z, B < 5 ∧ Z < 5 ∧ aw B = 0 ∧ (beS g aw 5).1 = nI (10 * B + Z) := by
  rcases bsR_b g aw 5 (Nat.le_refl _) with ⟨i1, i2⟩ | ⟨B, Z, ⟨d1, d2, d3, d4⟩, i2, i3⟩
  · rw [i1] at h; exact absurd (by decide) h
  · exact ⟨B, Z, d2, d3, d1, by rw [i2]⟩
