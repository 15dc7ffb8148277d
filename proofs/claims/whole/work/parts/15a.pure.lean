/-! WHAT HOLDS BETWEEN THE SHEETS AND THE ROWS OF THE REFERENCE -/
/-- how many frames this player has behind it -/
def nxF (pl tu fr p : Nat) : Nat := if p < pl then (if p < tu then fr + 1 else fr) else 0
/-- how many throws of the frame that isn't at its end -/
def nwF (tu nf p : Nat) : Nat := if p = tu then nf else 0
def InvP (pl tu fr nf : Nat) (p : Nat) (pt ft ti bt : Nat → Nat) (th : Nat) (my fe be sk cl ex : Nat → Nat) : Prop :=
  my p = th ∧ (∀ k, k < 30 → fe (30 * p + k) = pt k) ∧ be (11 * p) = 0 ∧
  (∀ f, f < nxF pl tu fr p → be (11 * p + f) = ft f ∧ be (11 * p + (f + 1)) = ft f + ti f ∧ 1 ≤ ti f) ∧
  be (11 * p + nxF pl tu fr p) + nwF tu nf p = th ∧
  (∀ f, nxF pl tu fr p ≤ f → f < 10 → bt f = 0 ∧ ti f = if f = fr then nwF tu nf p else 0) ∧
  (p = tu → 0 < nf → ft fr = be (11 * p + fr)) ∧
  (∀ f, f < 10 → ex (10 * p + f) = bt f) ∧ sk p = fbN bt 2 10 ∧ cl p = fbN bt 1 10
/-- the game -/
def InvG (pl tu fr nf g : Nat) (w : Nat → Nat) : Prop :=
  pl ≤ 4 ∧ fr ≤ 10 ∧ tu < 4 ∧ nf ≤ 2 ∧ g < 512 ∧ (tu < pl ∨ (pl = 0 ∧ tu = 0 ∧ fr = 0 ∧ nf = 0)) ∧ (fr = 10 → tu = 0 ∧ nf = 0) ∧ (0 < nf → g ≠ 0) ∧ (∀ i, i < 9 → g / 2 ^ i % 2 = 1 → w i < 12)
/-- bounds -/
def InvB (w aw : Nat → Nat) (pt ft ti bt : Nat → Nat → Nat) (th : Nat → Nat) (my fe be sk cl ex : Nat → Nat) : Prop :=
  (∀ i, w i ≤ 12) ∧ (∀ i, aw i ≤ 2) ∧ (∀ k j, pt k j ≤ 9) ∧ (∀ k j, ft k j ≤ 30) ∧ (∀ k j, ti k j ≤ 3) ∧ (∀ k j, bt k j ≤ 2) ∧ (∀ k, th k ≤ 30) ∧
  (∀ j, my j ≤ 30) ∧ (∀ j, fe j ≤ 9) ∧ (∀ j, be j ≤ 30) ∧ (∀ j, sk j ≤ 10) ∧ (∀ j, cl j ≤ 10) ∧ (∀ j, ex j ≤ 2)
def Inv (pl tu fr nf g : Nat) (w aw : Nat → Nat) (pt ft ti bt : Nat → Nat → Nat) (th : Nat → Nat) (my fe be sk cl ex : Nat → Nat) : Prop :=
  InvG pl tu fr nf g w ∧ InvB w aw pt ft ti bt th my fe be sk cl ex ∧ ∀ p, p < 4 → InvP pl tu fr nf p (pt p) (ft p) (ti p) (bt p) (th p) my fe be sk cl ex
theorem smN_congr {a b : Nat → Nat} (i : Nat) : ∀ k, (∀ j, i ≤ j → j < i + k → a j = b j) → smN a i k = smN b i k
  | 0, _ => rfl
  | k + 1, h => by
    simp only [smN]
    rw [smN_congr i k (fun j h1 h2 => h j h1 (by omega)), h (i + k) (by omega) (by omega)]
section IV
variable {pl tu fr nf g p : Nat} {w aw : Nat → Nat} {pt ft ti bt : Nat → Nat} {th : Nat} {my fe be sk cl ex : Nat → Nat}
theorem InvP.be_bd (h : InvP pl tu fr nf p pt ft ti bt th my fe be sk cl ex) (h3 : ∀ j, ti j ≤ 3) : ∀ f, f ≤ nxF pl tu fr p → f ≤ be (11 * p + f) ∧ be (11 * p + f) ≤ 3 * f
  | 0, _ => by have := h.2.2.1; rw [Nat.add_zero]; omega
  | f + 1, hf => by
    have ih := InvP.be_bd h h3 f (by omega)
    obtain ⟨e1, e2, e3⟩ := h.2.2.2.1 f (by omega)
    have := h3 f
    omega
theorem InvP.po (h : InvP pl tu fr nf p pt ft ti bt th my fe be sk cl ex) (hp : p < pl) (htu : tu < pl) (hth : th ≤ 30) (f : Nat) (hf : f < 10) : poM my fe be ex tu fr p f = poN pt ft ti bt th f := by
  obtain ⟨h1, h2, h3, h4, h5, h6, h7, h8, h9, h10⟩ := h
  have e8 := h8 f hf
  unfold poM poN
  by_cases c1 : fr < f ∨ (f = fr ∧ tu < p)
  · rw [if_pos c1]
    have hn : nxF pl tu fr p ≤ f := by unfold nxF; rw [if_pos hp]; split <;> omega
    obtain ⟨b1, b2⟩ := h6 f hn hf
    have b3 : ti f = 0 := by
      rw [b2]
      by_cases q : f = fr
      · rw [if_pos q]; unfold nwF; rw [if_neg (by omega)]
      · rw [if_neg q]
    rw [b1, b3, show min th (ft f + 0 + 0) - ft f = 0 by omega]
    rfl
  · rw [if_neg c1]
    by_cases c2 : f = fr ∧ p = tu
    · rw [if_pos c2]
      obtain ⟨rfl, rfl⟩ := c2
      have hn : nxF pl p f p = f := by unfold nxF; rw [if_pos hp, if_neg (by omega)]
      rw [hn] at h5 h6
      obtain ⟨b1, b2⟩ := h6 f (Nat.le_refl _) hf
      rw [if_pos rfl] at b2
      have hw : nwF p nf p = nf := by unfold nwF; rw [if_pos rfl]
      rw [hw] at h5 b2
      unfold smQ
      rw [b1, b2, h1]
      by_cases z : nf = 0
      · rw [show min th th - be (11 * p + f) = 0 by omega, show min th (ft f + nf + 0) - ft f = 0 by omega]
        rfl
      · have b4 := h7 rfl (by omega)
        rw [b4, show min th (be (11 * p + f) + nf + 0) - be (11 * p + f) = min th th - be (11 * p + f) by omega]
        exact smN_congr _ _ (fun j j1 j2 => h2 j (by omega))
    · rw [if_neg c2]
      have hn : f < nxF pl tu fr p := by unfold nxF; rw [if_pos hp]; split <;> omega
      obtain ⟨b1, b2, b3⟩ := h4 f hn
      unfold smQ
      rw [b1, b2, e8, h1, show min (ft f + ti f + bt f) th = min th (ft f + ti f + bt f) from Nat.min_comm _ _]
      exact smN_congr _ _ (fun j j1 j2 => h2 j (by omega))
theorem InvP.sc (h : InvP pl tu fr nf p pt ft ti bt th my fe be sk cl ex) (hp : p < pl) (htu : tu < pl) (hth : th ≤ 30) : ∀ i, i ≤ 10 → scM my fe be ex tu fr p i = scN pt ft ti bt th i
  | 0, _ => rfl
  | i + 1, hi => by
    simp only [scM, scN]
    rw [InvP.sc h hp htu hth i (by omega), h.po hp htu hth i (by omega)]
theorem dgP_congr {d : Int64} {a b : Nat → Nat} : ∀ i, (∀ j, j < i → a j = b j) → dgP d a i = dgP d b i
  | 0, _ => rfl
  | i + 1, h => by
    simp only [dgP]
    rw [dgP_congr i (fun j hj => h j (by omega)), h i (by omega)]
end IV
section IW
variable {pl tu fr nf g : Nat} {w aw : Nat → Nat} {pt ft ti bt : Nat → Nat → Nat} {th : Nat → Nat} {my fe be sk cl ex : Nat → Nat}
theorem Inv.hpl (h : Inv pl tu fr nf g w aw pt ft ti bt th my fe be sk cl ex) : pl ≤ 4 := h.1.1
theorem Inv.hfr (h : Inv pl tu fr nf g w aw pt ft ti bt th my fe be sk cl ex) : fr ≤ 10 := h.1.2.1
theorem Inv.htu (h : Inv pl tu fr nf g w aw pt ft ti bt th my fe be sk cl ex) : tu < 4 := h.1.2.2.1
theorem Inv.hnf (h : Inv pl tu fr nf g w aw pt ft ti bt th my fe be sk cl ex) : nf ≤ 2 := h.1.2.2.2.1
theorem Inv.hg (h : Inv pl tu fr nf g w aw pt ft ti bt th my fe be sk cl ex) : g < 512 := h.1.2.2.2.2.1
theorem Inv.htp (h : Inv pl tu fr nf g w aw pt ft ti bt th my fe be sk cl ex) : tu < pl ∨ (pl = 0 ∧ tu = 0 ∧ fr = 0 ∧ nf = 0) := h.1.2.2.2.2.2.1
theorem Inv.hend (h : Inv pl tu fr nf g w aw pt ft ti bt th my fe be sk cl ex) : fr = 10 → tu = 0 ∧ nf = 0 := h.1.2.2.2.2.2.2.1
theorem Inv.hgo (h : Inv pl tu fr nf g w aw pt ft ti bt th my fe be sk cl ex) : 0 < nf → g ≠ 0 := h.1.2.2.2.2.2.2.2.1
theorem Inv.hst (h : Inv pl tu fr nf g w aw pt ft ti bt th my fe be sk cl ex) : ∀ i, i < 9 → g / 2 ^ i % 2 = 1 → w i < 12 := h.1.2.2.2.2.2.2.2.2
theorem Inv.hw (h : Inv pl tu fr nf g w aw pt ft ti bt th my fe be sk cl ex) : ∀ i, w i ≤ 12 := h.2.1.1
theorem Inv.ha (h : Inv pl tu fr nf g w aw pt ft ti bt th my fe be sk cl ex) : ∀ i, aw i ≤ 2 := h.2.1.2.1
theorem Inv.hpt (h : Inv pl tu fr nf g w aw pt ft ti bt th my fe be sk cl ex) : ∀ k j, pt k j ≤ 9 := h.2.1.2.2.1
theorem Inv.hft (h : Inv pl tu fr nf g w aw pt ft ti bt th my fe be sk cl ex) : ∀ k j, ft k j ≤ 30 := h.2.1.2.2.2.1
theorem Inv.hti (h : Inv pl tu fr nf g w aw pt ft ti bt th my fe be sk cl ex) : ∀ k j, ti k j ≤ 3 := h.2.1.2.2.2.2.1
theorem Inv.hbt (h : Inv pl tu fr nf g w aw pt ft ti bt th my fe be sk cl ex) : ∀ k j, bt k j ≤ 2 := h.2.1.2.2.2.2.2.1
theorem Inv.hth (h : Inv pl tu fr nf g w aw pt ft ti bt th my fe be sk cl ex) : ∀ k, th k ≤ 30 := h.2.1.2.2.2.2.2.2.1
theorem Inv.hmy (h : Inv pl tu fr nf g w aw pt ft ti bt th my fe be sk cl ex) : ∀ j, my j ≤ 30 := h.2.1.2.2.2.2.2.2.2.1
theorem Inv.hfe (h : Inv pl tu fr nf g w aw pt ft ti bt th my fe be sk cl ex) : ∀ j, fe j ≤ 9 := h.2.1.2.2.2.2.2.2.2.2.1
theorem Inv.hbe (h : Inv pl tu fr nf g w aw pt ft ti bt th my fe be sk cl ex) : ∀ j, be j ≤ 30 := h.2.1.2.2.2.2.2.2.2.2.2.1
theorem Inv.hsk (h : Inv pl tu fr nf g w aw pt ft ti bt th my fe be sk cl ex) : ∀ j, sk j ≤ 10 := h.2.1.2.2.2.2.2.2.2.2.2.2.1
theorem Inv.hcl (h : Inv pl tu fr nf g w aw pt ft ti bt th my fe be sk cl ex) : ∀ j, cl j ≤ 10 := h.2.1.2.2.2.2.2.2.2.2.2.2.2.1
theorem Inv.hex (h : Inv pl tu fr nf g w aw pt ft ti bt th my fe be sk cl ex) : ∀ j, ex j ≤ 2 := h.2.1.2.2.2.2.2.2.2.2.2.2.2.2
theorem Inv.P (h : Inv pl tu fr nf g w aw pt ft ti bt th my fe be sk cl ex) : ∀ p, p < 4 → InvP pl tu fr nf p (pt p) (ft p) (ti p) (bt p) (th p) my fe be sk cl ex := h.2.2
theorem Inv.tup (h : Inv pl tu fr nf g w aw pt ft ti bt th my fe be sk cl ex) {p : Nat} (hp : p < pl) : tu < pl := by have := h.htp; omega
/-! answers -/
theorem Inv.po (h : Inv pl tu fr nf g w aw pt ft ti bt th my fe be sk cl ex) {p f : Nat} (hp : p < pl) (hf : f < 10) : poN (pt p) (ft p) (ti p) (bt p) (th p) f = poM my fe be ex tu fr p f := ((h.P p (by have := h.hpl; omega)).po hp (h.tup hp) (h.hth p) f hf).symm
theorem Inv.sc (h : Inv pl tu fr nf g w aw pt ft ti bt th my fe be sk cl ex) {p : Nat} (hp : p < pl) : scC pt ft ti bt th p = scT my fe be ex tu fr p := ((h.P p (by have := h.hpl; omega)).sc hp (h.tup hp) (h.hth p) 10 (Nat.le_refl _)).symm
theorem Inv.eth (h : Inv pl tu fr nf g w aw pt ft ti bt th my fe be sk cl ex) {p : Nat} (hp : p < 4) : th p = my p := (h.P p hp).1.symm
theorem Inv.esk (h : Inv pl tu fr nf g w aw pt ft ti bt th my fe be sk cl ex) {p : Nat} (hp : p < 4) : fbN (bt p) 2 10 = sk p := (h.P p hp).2.2.2.2.2.2.2.2.1.symm
theorem Inv.ecl (h : Inv pl tu fr nf g w aw pt ft ti bt th my fe be sk cl ex) {p : Nat} (hp : p < 4) : fbN (bt p) 1 10 = cl p := (h.P p hp).2.2.2.2.2.2.2.2.2.symm
theorem fiB_congr {a b : Nat → Nat} : ∀ i, (∀ j, j < i → a j = b j) → fiB a i = fiB b i
  | 0, _ => rfl
  | i + 1, h => by
    have ih := fiB_congr i (fun j hj => h j (by omega))
    simp only [fiB]
    rw [ih]
    by_cases q : fiB b i < 9
    · rw [if_pos q, if_pos q, h (fiB b i) (by have := fiB_in q; omega), h i (by omega)]
    · rw [if_neg q, if_neg q]
theorem suC_congr {a b : Nat → Nat} : ∀ i, (∀ j, j < i → a j = b j) → suC a i = suC b i
  | 0, _ => rfl
  | i + 1, h => by
    simp only [suC]
    rw [suC_congr i (fun j hj => h j (by omega)), h i (by omega)]
theorem Inv.fi (h : Inv pl tu fr nf g w aw pt ft ti bt th my fe be sk cl ex) : fiB (scC pt ft ti bt th) pl = fiB (scT my fe be ex tu fr) pl := fiB_congr pl (fun _ hj => h.sc hj)
theorem Inv.su (h : Inv pl tu fr nf g w aw pt ft ti bt th my fe be sk cl ex) : suC (scC pt ft ti bt th) pl = suC (scT my fe be ex tu fr) pl := suC_congr pl (fun _ hj => h.sc hj)
theorem Inv.dgk (h : Inv pl tu fr nf g w aw pt ft ti bt th my fe be sk cl ex) (d : Int64) : ∀ k, k ≤ pl → dgT d pt ft ti bt th k = dgN d my (scT my fe be ex tu fr) sk cl (poM my fe be ex tu fr) k
  | 0, _ => rfl
  | k + 1, hk => by
    have h4 : k < 4 := by have := h.hpl; omega
    simp only [dgT, dgN, dgS]
    rw [Inv.dgk h d k (by omega), show scN (pt k) (ft k) (ti k) (bt k) (th k) 10 = scT my fe be ex tu fr k from h.sc (by omega), h.eth h4, h.esk h4, h.ecl h4]
    rw [← h.eth h4]
    exact dgP_congr 10 (fun j hj => h.po (by omega) hj)
theorem Inv.dg (h : Inv pl tu fr nf g w aw pt ft ti bt th my fe be sk cl ex) (d : Int64) : dgT (dgR (dgA d g w 9) aw 5) pt ft ti bt th pl = dgN (dgR (dgB d g w 9) aw 5) my (scT my fe be ex tu fr) sk cl (poM my fe be ex tu fr) pl := by
  rw [dgA_B]; exact h.dgk _ pl (Nat.le_refl _)
theorem Inv.bi (h : Inv pl tu fr nf g w aw pt ft ti bt th my fe be sk cl ex) : biN g w 9 = wbM g w 9 := bi_wb (fun i hi => by
  have h1 := h.hw i
  have h2 := h.hst i hi
  rcases (show g / 2 ^ i % 2 = 0 ∨ g / 2 ^ i % 2 = 1 by omega) with q | q
  · omega
  · have := h2 q; omega) 9 (Nat.le_refl _)
/-! nothing is thrown -/
theorem Inv.fresh (h : Inv pl tu fr nf g w aw pt ft ti bt th my fe be sk cl ex) (h0 : th 0 = 0) : tu = 0 ∧ fr = 0 ∧ nf = 0 := by
  rcases h.htp with q | q
  · have h5 := (h.P 0 (by omega)).2.2.2.2.1
    have hb := (h.P 0 (by omega)).be_bd (h.hti 0) _ (Nat.le_refl _)
    have e1 : nxF pl tu fr 0 = if 0 < tu then fr + 1 else fr := by unfold nxF; rw [if_pos (by omega)]
    rw [e1] at h5 hb
    by_cases z : 0 < tu
    · rw [if_pos z] at h5 hb; omega
    · rw [if_neg z] at h5 hb
      have e2 : nwF tu nf 0 = nf := by unfold nwF; rw [if_pos (by omega)]
      rw [e2] at h5
      omega
  · omega
theorem Inv.fresh_th (h : Inv pl tu fr nf g w aw pt ft ti bt th my fe be sk cl ex) (h0 : th 0 = 0) {p : Nat} (hp : p < 4) : th p = 0 := by
  obtain ⟨rfl, rfl, rfl⟩ := h.fresh h0
  have h5 := (h.P p hp).2.2.2.2.1
  have h3 := (h.P p hp).2.2.1
  have e1 : nxF pl 0 0 p = 0 := by unfold nxF; split <;> rfl
  have e2 : nwF 0 0 p = 0 := by unfold nwF; split <;> rfl
  rw [e1, e2, Nat.add_zero, Nat.add_zero, h3] at h5
  omega
theorem suM_0 {my : Nat → Nat} : ∀ k, (∀ j, j < k → my j = 0) → suM my k = 0
  | 0, _ => rfl
  | k + 1, h => by simp only [suM]; rw [suM_0 k (fun j hj => h j (by omega)), h k (by omega)]
theorem suM_ge {my : Nat → Nat} : ∀ k, 0 < k → my 0 ≤ suM my k
  | 0, h => absurd h (by omega)
  | k + 1, _ => by
    simp only [suM]
    by_cases q : k = 0
    · subst q; omega
    · have := suM_ge (my := my) k (by omega); omega
theorem Inv.th0 (h : Inv pl tu fr nf g w aw pt ft ti bt th my fe be sk cl ex) : th 0 = 0 ↔ suM my pl = 0 := by
  constructor
  · intro h0
    exact suM_0 pl (fun j hj => by rw [← h.eth (by have := h.hpl; omega)]; exact h.fresh_th h0 (by have := h.hpl; omega))
  · intro hs
    by_cases q : pl = 0
    · obtain ⟨-, rfl, rfl, rfl⟩ : pl = 0 ∧ tu = 0 ∧ fr = 0 ∧ nf = 0 := by have := h.htp; omega
      have h5 := (h.P 0 (by omega)).2.2.2.2.1
      have h3 := (h.P 0 (by omega)).2.2.1
      have e1 : nxF pl 0 0 0 = 0 := by unfold nxF; split <;> rfl
      have e2 : nwF 0 0 0 = 0 := rfl
      rw [e1, e2, Nat.add_zero, Nat.add_zero, h3] at h5
      omega
    · have := suM_ge (my := my) pl (by omega)
      rw [h.eth (by omega)]; omega
/-! kept by a new player -/
theorem Inv.add (h : Inv pl tu fr nf g w aw pt ft ti bt th my fe be sk cl ex) (h4 : pl < 4) (h0 : th 0 = 0) : Inv (pl + 1) tu fr nf g w aw pt ft ti bt th my fe be sk cl ex := by
  obtain ⟨rfl, rfl, rfl⟩ := h.fresh h0
  refine ⟨⟨by omega, by omega, by omega, by omega, h.hg, Or.inl (by omega), fun q => by omega, h.hgo, h.hst⟩, h.2.1, fun p hp => ?_⟩
  have e1 : nxF (pl + 1) 0 0 p = 0 := by unfold nxF; split <;> rfl
  have e2 : nxF pl 0 0 p = 0 := by unfold nxF; split <;> rfl
  have h1 := h.P p hp
  unfold InvP at h1 ⊢
  rw [e1]
  rw [e2] at h1
  exact h1
/-! kept by a new game -/
theorem zeW_in {f : Nat → Nat} : ∀ {i j : Nat}, j < i → zeW f i j = 0
  | 0, _, h => absurd h (by omega)
  | i + 1, j, h => by
    simp only [zeW, upN]
    by_cases q : j = i
    · rw [if_pos q]
    · rw [if_neg q]; exact zeW_in (by omega)
theorem zeW_le {f : Nat → Nat} {k : Nat} (h : ∀ j, f j ≤ k) : ∀ i j, zeW f i j ≤ k
  | 0, j => h j
  | i + 1, j => by
    simp only [zeW, upN]
    split
    · omega
    · exact zeW_le h i j
theorem zbW_le {f : Nat → Nat} {k : Nat} (h : ∀ j, f j ≤ k) : ∀ i j, zbW f i j ≤ k
  | 0, j => h j
  | i + 1, j => by
    simp only [zbW, upN]
    split
    · omega
    · exact zbW_le h i j
theorem zbW_in {f : Nat → Nat} : ∀ {i p : Nat}, p < i → zbW f i (11 * p) = 0
  | 0, _, h => absurd h (by omega)
  | i + 1, p, h => by
    simp only [zbW, upN]
    by_cases q : 11 * p = 11 * i
    · rw [if_pos q]
    · rw [if_neg q]; exact zbW_in (by omega)
theorem fbN_0 {bt : Nat → Nat} {v : Nat} (hv : 0 < v) : ∀ i, (∀ j, j < i → bt j = 0) → fbN bt v i = 0
  | 0, _ => rfl
  | i + 1, h => by
    simp only [fbN]
    rw [if_neg (by rw [h i (by omega)]; omega), fbN_0 hv i (fun j hj => h j (by omega))]
theorem su_bit (w : Nat → Nat) : ∀ i j, i ≤ 9 → (suN w i).testBit j = true → j < i ∧ w j < 12
  | 0, j, _, h => by simp [suN] at h
  | i + 1, j, hi, h => by
    simp only [suN] at h
    by_cases q : 12 ≤ w i
    · rw [if_pos q] at h
      have := su_bit w i j (by omega) h
      omega
    · rw [if_neg q, Nat.testBit_or, Bool.or_eq_true] at h
      rcases h with h | h
      · have := su_bit w i j (by omega) h
        omega
      · rw [Nat.testBit_two_pow] at h
        have : i = j := by simpa using h
        subst this
        omega
theorem su_st (w : Nat → Nat) (i : Nat) (h : suN w 9 / 2 ^ i % 2 = 1) : w i < 12 := (su_bit w 9 i (Nat.le_refl _) ((bit_iff _ _).mpr h)).2
theorem Inv.new (h : Inv pl tu fr nf g w aw pt ft ti bt th my fe be sk cl ex) {ft' ti' bt' : Nat → Nat → Nat} {th' : Nat → Nat}
    (e1 : ∀ k, k < 4 → ft' k = zeW (ft k) 10) (e2 : ∀ k, k < 4 → ti' k = zeW (ti k) 10) (e3 : ∀ k, k < 4 → bt' k = zeW (bt k) 10) (e4 : ∀ k, k < 4 → th' k = 0) (b1 : ∀ k j, ft' k j ≤ 30) (b2 : ∀ k j, ti' k j ≤ 3) (b3 : ∀ k j, bt' k j ≤ 2) (b4 : ∀ k, th' k ≤ 30) :
    Inv pl 0 0 0 (suN w 9) w (zeW aw 5) pt ft' ti' bt' th' (zeW my 4) fe (zbW be 4) (zeW sk 4) (zeW cl 4) (zeW ex 40) := by
  refine ⟨⟨h.hpl, by omega, by omega, by omega, suN_lt w 9 (Nat.le_refl _), by omega, fun _ => ⟨rfl, rfl⟩, fun q => absurd q (by omega), fun i _ q => su_st w i q⟩,
    ⟨h.hw, zeW_le h.ha 5, h.hpt, b1, b2, b3, b4, zeW_le h.hmy 4, h.hfe, zbW_le h.hbe 4, zeW_le h.hsk 4, zeW_le h.hcl 4, zeW_le h.hex 40⟩, fun p hp => ?_⟩
  have n1 : nxF pl 0 0 p = 0 := by unfold nxF; split <;> rfl
  have n2 : nwF 0 0 p = 0 := by unfold nwF; split <;> rfl
  have hb : ∀ j, j < 10 → bt' p j = 0 := fun j hj => by rw [e3 p hp]; exact zeW_in hj
  have ht : ∀ j, j < 10 → ti' p j = 0 := fun j hj => by rw [e2 p hp]; exact zeW_in hj
  unfold InvP
  rw [n1, n2, e4 p hp]
  refine ⟨zeW_in hp, (h.P p hp).2.1, zbW_in hp, fun f hf => absurd hf (by omega), zbW_in hp, fun f _ hf => ⟨hb f hf, by rw [ht f hf]; split <;> rfl⟩, fun _ q => absurd q (by omega), fun f hf => ?_, ?_, ?_⟩
  · rw [hb f hf]; exact zeW_in (by omega)
  · rw [fbN_0 (by omega) 10 hb]; exact zeW_in hp
  · rw [fbN_0 (by omega) 10 hb]; exact zeW_in hp
end IW
