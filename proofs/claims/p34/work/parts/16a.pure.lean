/-! WHAT HOLDS BETWEEN THE SHEETS AND THE ROWS OF THE LAW'S OWN ALLEY -/
def cnt (rv : Nat → Nat → Nat) (p : Nat) : Nat → Nat
  | 0 => 0
  | k + 1 => cnt rv p k + (if rv k 0 = p then 1 else 0)
theorem cnt_y {rv : Nat → Nat → Nat} {p k : Nat} (h : rv k 0 = p) : cnt rv p (k + 1) = cnt rv p k + 1 := by simp only [cnt]; rw [if_pos h]
theorem cnt_n {rv : Nat → Nat → Nat} {p k : Nat} (h : ¬ rv k 0 = p) : cnt rv p (k + 1) = cnt rv p k := by simp only [cnt]; rw [if_neg h]; rfl
theorem cnt_mono (rv : Nat → Nat → Nat) (p : Nat) {a : Nat} : ∀ b, a ≤ b → cnt rv p a ≤ cnt rv p b
  | 0, h => by rw [show a = 0 by omega]; exact Nat.le_refl _
  | b + 1, h => by
    by_cases e : a = b + 1
    · subst e; exact Nat.le_refl _
    · have := cnt_mono rv p (a := a) b (by omega)
      simp only [cnt]; omega
theorem cnt_lt {rv : Nat → Nat → Nat} {p k n : Nat} (hk : k < n) (h : rv k 0 = p) : cnt rv p k < cnt rv p n := by
  have h1 := cnt_mono rv p n (show k + 1 ≤ n by omega)
  rw [cnt_y h] at h1
  omega
theorem cnt_at {rv : Nat → Nat → Nat} {p l v : Nat} : ∀ n, cnt rv p l ≤ v → v < cnt rv p n → ∃ j, l ≤ j ∧ j < n ∧ rv j 0 = p ∧ cnt rv p j = v
  | 0, h1, h2 => absurd h2 (by simp [cnt])
  | n + 1, h1, h2 => by
    by_cases q : v < cnt rv p n
    · obtain ⟨j, a, b, c, d⟩ := cnt_at n h1 q
      exact ⟨j, a, by omega, c, d⟩
    · by_cases r : rv n 0 = p
      · rw [cnt_y r] at h2
        refine ⟨n, ?_, by omega, r, by omega⟩
        rcases Nat.lt_or_ge n l with y | y
        · have := cnt_mono rv p l (show n + 1 ≤ l by omega)
          rw [cnt_y r] at this
          omega
        · exact y
      · rw [cnt_n r] at h2; exact absurd h2 q
theorem cnt_up {rv : Nat → Nat → Nat} {r : Nat → Nat} {n p : Nat} : ∀ k, k ≤ n → cnt (upN rv n r) p k = cnt rv p k
  | 0, _ => rfl
  | k + 1, h => by
    simp only [cnt]
    rw [cnt_up k (by omega), upN_n rv n r (show k ≠ n by omega)]
theorem smN_congr {a b : Nat → Nat} (i : Nat) : ∀ k, (∀ j, i ≤ j → j < i + k → a j = b j) → smN a i k = smN b i k
  | 0, _ => rfl
  | k + 1, h => by
    simp only [smN]
    rw [smN_congr i k (fun j h1 h2 => h j h1 (by omega)), h (i + k) (by omega) (by omega)]
/-- how many frames this player has behind it -/
def nxF (pl tu fr p : Nat) : Nat := if p < pl then (if p < tu then fr + 1 else fr) else 0
def IvP (pl tu fr nf g n : Nat) (rv : Nat → Nat → Nat) (p : Nat) (pt ft ti bt : Nat → Nat) (th : Nat) : Prop :=
  th = cnt rv p n ∧
  (∀ k, k < n → rv k 0 = p → pt (cnt rv p k) = rv k 2) ∧
  (∀ k, k < n → rv k 0 = p → ∀ f, f < 10 → (rv k 1 = f ↔ ft f ≤ cnt rv p k ∧ cnt rv p k < ft f + ti f)) ∧
  (∀ f, f < 10 → 0 < ti f → ft f + ti f ≤ th) ∧
  (∀ k, k < n → rv k 0 = p → ∀ f, f < 10 → cnt rv p k + 1 = ft f + ti f → 0 < ti f → bt f = if rv k 3 = 0 ∧ 0 < smN pt (ft f) (ti f) then (if rv k 4 = 1 then 2 else 1) else 0) ∧
  (∀ f, f < 10 → ti f = 0 → bt f = 0) ∧
  (∀ f, f < 10 → nxF pl tu fr p ≤ f → bt f = 0 ∧ ti f = if p = tu ∧ f = fr then nf else 0) ∧
  (∀ f, f < 10 → smN pt (ft f) (ti f) ≤ 9) ∧
  nxF pl tu fr p ≤ th ∧ th ≤ 3 * nxF pl tu fr p + (if p = tu then nf else 0) ∧
  (p = tu → 0 < nf → fr < 10 → ft fr + nf = th ∧ smN pt (ft fr) nf + pcN g ≤ 9)
section PV
variable {pl tu fr nf g n p : Nat} {rv : Nat → Nat → Nat} {pt ft ti bt : Nat → Nat} {th : Nat}
theorem IvP.fe (h : IvP pl tu fr nf g n rv p pt ft ti bt th) {f : Nat} (hf : f < 10) : ∀ k, k ≤ n → feF rv p f k = smN pt (ft f) (min (ti f) (cnt rv p k - ft f))
  | 0, _ => by simp [feF, cnt, smN]
  | k + 1, hk => by
    have ih := IvP.fe h hf k (by omega)
    by_cases r : rv k 0 = p
    · have hm := h.2.2.1 k (by omega) r f hf
      have hp := h.2.1 k (by omega) r
      by_cases q : rv k 1 = f
      · obtain ⟨q1, q2⟩ := hm.mp q
        rw [(feF_y r q).1, ih, cnt_y r, show min (ti f) (cnt rv p k + 1 - ft f) = (cnt rv p k - ft f) + 1 by omega, show min (ti f) (cnt rv p k - ft f) = cnt rv p k - ft f by omega]
        simp only [smN]
        rw [show ft f + (cnt rv p k - ft f) = cnt rv p k by omega, hp]
      · rw [(feF_n (fun z => q z.2)).1, ih, cnt_y r]
        congr 1
        have : ¬ (ft f ≤ cnt rv p k ∧ cnt rv p k < ft f + ti f) := fun z => q (hm.mpr z)
        omega
    · rw [(feF_n (fun z => r z.1)).1, ih, cnt_n r]
theorem ls_spec (rv : Nat → Nat → Nat) (p f : Nat) : ∀ k, (lsF rv p f k = 0 → ∀ j, j < k → ¬ (rv j 0 = p ∧ rv j 1 = f)) ∧ (lsF rv p f k ≠ 0 → rv (lsF rv p f k - 1) 0 = p ∧ rv (lsF rv p f k - 1) 1 = f ∧ ∀ j, lsF rv p f k ≤ j → j < k → ¬ (rv j 0 = p ∧ rv j 1 = f))
  | 0 => ⟨fun _ j h => absurd h (Nat.not_lt_zero j), fun h => absurd rfl h⟩
  | k + 1 => by
    obtain ⟨i1, i2⟩ := ls_spec rv p f k
    by_cases q : rv k 0 = p ∧ rv k 1 = f
    · rw [(feF_y q.1 q.2).2]
      refine ⟨fun h => absurd h (by omega), fun _ => ?_⟩
      rw [Nat.add_sub_cancel]
      exact ⟨q.1, q.2, fun j h1 h2 => absurd h2 (by omega)⟩
    · rw [(feF_n q).2]
      refine ⟨fun h j hj => ?_, fun h => ⟨(i2 h).1, (i2 h).2.1, fun j h1 h2 => ?_⟩⟩
      · by_cases e : j = k
        · subst e; exact q
        · exact i1 h j (by omega)
      · by_cases e : j = k
        · subst e; exact q
        · exact (i2 h).2.2 j h1 (by omega)
theorem IvP.ls0 (h : IvP pl tu fr nf g n rv p pt ft ti bt th) {f : Nat} (hf : f < 10) (h0 : lsF rv p f n = 0) : ti f = 0 := by
  by_cases z : ti f = 0
  · exact z
  · have h4 := h.2.2.2.1 f hf (by omega)
    have h1 := h.1
    obtain ⟨j, -, j2, j3, j4⟩ := cnt_at (rv := rv) (p := p) (l := 0) (v := ft f + ti f - 1) n (by simp [cnt]) (by omega)
    exact absurd ⟨j3, (h.2.2.1 j j2 j3 f hf).mpr ⟨by omega, by omega⟩⟩ ((ls_spec rv p f n).1 h0 j j2)
theorem IvP.ls1 (h : IvP pl tu fr nf g n rv p pt ft ti bt th) {f : Nat} (hf : f < 10) (h0 : lsF rv p f n ≠ 0) : rv (lsF rv p f n - 1) 0 = p ∧ cnt rv p (lsF rv p f n - 1) + 1 = ft f + ti f ∧ cnt rv p (lsF rv p f n) = ft f + ti f ∧ 0 < ti f := by
  obtain ⟨s1, s2, s3⟩ := (ls_spec rv p f n).2 h0
  have hl := lsF_le rv p f n
  obtain ⟨m1, m2⟩ := (h.2.2.1 _ (by omega) s1 f hf).mp s2
  have e1 := cnt_y s1
  rw [show lsF rv p f n - 1 + 1 = lsF rv p f n by omega] at e1
  have key : cnt rv p (lsF rv p f n - 1) + 1 = ft f + ti f := by
    rcases Nat.lt_or_ge (cnt rv p (lsF rv p f n)) (ft f + ti f) with y | y
    · have h4 := h.2.2.2.1 f hf (by omega)
      have h1 := h.1
      obtain ⟨j, j1, j2, j3, j4⟩ := cnt_at (rv := rv) (p := p) (l := lsF rv p f n) (v := cnt rv p (lsF rv p f n)) n (Nat.le_refl _) (by omega)
      exact absurd ⟨j3, (h.2.2.1 j j2 j3 f hf).mpr ⟨by omega, by omega⟩⟩ (s3 j j1 j2)
    · omega
  exact ⟨s1, key, by omega, by omega⟩
theorem IvP.fen (h : IvP pl tu fr nf g n rv p pt ft ti bt th) {f : Nat} (hf : f < 10) : feF rv p f n = smN pt (ft f) (ti f) := by
  rw [h.fe hf n (Nat.le_refl _)]
  congr 1
  have h1 := h.1
  by_cases z : ti f = 0
  · omega
  · have h4 := h.2.2.2.1 f hf (by omega)
    omega
theorem IvP.kp (h : IvP pl tu fr nf g n rv p pt ft ti bt th) (h4 : ∀ k, k < n → 1 ≤ rv k 4) {f : Nat} (hf : f < 10) : oK n rv p f = (if bt f = 2 then 1 else 0) ∧ oP n rv p f = (if bt f = 1 then 1 else 0) := by
  unfold oK oP
  by_cases h0 : lsF rv p f n = 0
  · have hb := h.2.2.2.2.2.1 f hf (h.ls0 hf h0)
    rw [if_pos h0, if_pos h0, hb]
    exact ⟨rfl, rfl⟩
  · obtain ⟨s1, s2, s3, s4⟩ := h.ls1 hf h0
    have hl := lsF_le rv p f n
    have hb := h.2.2.2.2.1 _ (show lsF rv p f n - 1 < n by omega) s1 f hf s2 s4
    have h14 := h4 (lsF rv p f n - 1) (by omega)
    rw [if_neg h0, if_neg h0, h.fen hf, hb]
    generalize rv (lsF rv p f n - 1) 3 = x3 at *
    generalize rv (lsF rv p f n - 1) 4 = x4 at *
    generalize smN pt (ft f) (ti f) = sm at *
    constructor <;> (repeat' split) <;> omega
theorem IvP.bo (h : IvP pl tu fr nf g n rv p pt ft ti bt th) {f : Nat} (hf : f < 10) (h0 : lsF rv p f n ≠ 0) : ∀ i, i ≤ n - lsF rv p f n → boS rv p (smN pt (ft f) (ti f)) (bt f) (lsF rv p f n) i = (smN pt (ft f) (ti f + min (bt f) (cnt rv p (lsF rv p f n + i) - (ft f + ti f))), bt f - min (bt f) (cnt rv p (lsF rv p f n + i) - (ft f + ti f)))
  | 0, _ => by
    obtain ⟨s1, s2, s3, s4⟩ := h.ls1 hf h0
    rw [Nat.add_zero, s3, Nat.sub_self, Nat.min_zero]; rfl
  | i + 1, hi => by
    have ih := IvP.bo h hf h0 i (by omega)
    obtain ⟨s1, s2, s3, s4⟩ := h.ls1 hf h0
    have hl := lsF_le rv p f n
    have hmo := cnt_mono rv p (lsF rv p f n + i) (show lsF rv p f n ≤ lsF rv p f n + i by omega)
    rw [show lsF rv p f n + (i + 1) = (lsF rv p f n + i) + 1 by omega]
    by_cases r : rv (lsF rv p f n + i) 0 = p
    · have hp := h.2.1 _ (show lsF rv p f n + i < n by omega) r
      rw [cnt_y r]
      by_cases m : cnt rv p (lsF rv p f n + i) - (ft f + ti f) < bt f
      · rw [boS_y (by rw [ih]; show 0 < bt f - _; omega) r, ih]
        rw [show min (bt f) (cnt rv p (lsF rv p f n + i) + 1 - (ft f + ti f)) = (cnt rv p (lsF rv p f n + i) - (ft f + ti f)) + 1 by omega, show min (bt f) (cnt rv p (lsF rv p f n + i) - (ft f + ti f)) = cnt rv p (lsF rv p f n + i) - (ft f + ti f) by omega]
        show (smN pt (ft f) (ti f + (cnt rv p (lsF rv p f n + i) - (ft f + ti f))) + rv (lsF rv p f n + i) 2, bt f - (cnt rv p (lsF rv p f n + i) - (ft f + ti f)) - 1) = _
        rw [← hp, ← Nat.add_assoc (ti f)]
        simp only [smN]
        rw [show ft f + (ti f + (cnt rv p (lsF rv p f n + i) - (ft f + ti f))) = cnt rv p (lsF rv p f n + i) by omega]
        congr 1
      · rw [boS_n (fun z => by rw [ih] at z; have : 0 < bt f - min (bt f) (cnt rv p (lsF rv p f n + i) - (ft f + ti f)) := z.1; omega), ih]
        rw [show min (bt f) (cnt rv p (lsF rv p f n + i) + 1 - (ft f + ti f)) = bt f by omega, show min (bt f) (cnt rv p (lsF rv p f n + i) - (ft f + ti f)) = bt f by omega]
    · rw [cnt_n r, boS_n (fun z => r z.2), ih]
theorem IvP.os (h : IvP pl tu fr nf g n rv p pt ft ti bt th) (h4 : ∀ k, k < n → 1 ≤ rv k 4) (hb2 : ∀ j, bt j ≤ 2) {f : Nat} (hf : f < 10) : oS n rv p f = poN pt ft ti bt th f := by
  obtain ⟨hk, hp⟩ := h.kp h4 hf
  unfold oS poN
  by_cases h0 : lsF rv p f n = 0
  · have ht := h.ls0 hf h0
    have hb := h.2.2.2.2.2.1 f hf ht
    rw [if_pos h0, ht, hb, show min th (ft f + 0 + 0) - ft f = 0 by omega]; rfl
  · obtain ⟨s1, s2, s3, s4⟩ := h.ls1 hf h0
    have h5 := h.2.2.2.1 f hf s4
    have h1 := h.1
    have hl := lsF_le rv p f n
    have e : 2 * oK n rv p f + oP n rv p f = bt f := by
      rw [hk, hp]
      have := hb2 f
      split <;> split <;> omega
    rw [if_neg h0, h.fen hf, e, h.bo hf h0 _ (Nat.le_refl _), show lsF rv p f n + (n - lsF rv p f n) = n by omega]
    show smN pt (ft f) _ = _
    congr 1
    omega
theorem IvP.sc (h : IvP pl tu fr nf g n rv p pt ft ti bt th) (h4 : ∀ k, k < n → 1 ≤ rv k 4) (hb2 : ∀ j, bt j ≤ 2) : ∀ i, i ≤ 10 → scS n rv p i = scN pt ft ti bt th i
  | 0, _ => rfl
  | i + 1, hi => by
    simp only [scS, scN]
    rw [IvP.sc h h4 hb2 i (by omega), h.os h4 hb2 (by omega)]
end PV
