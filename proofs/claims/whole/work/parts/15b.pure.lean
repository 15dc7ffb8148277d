/-! KEPT BY A THROW -/
theorem rw_val (f : Nat) (w : Nat → Nat) : ∀ k i, rwW f w k i = if i < k ∧ f / 2 ^ i % 2 = 1 then w i + 1 else w i
  | 0, i => by rw [if_neg (by omega)]; rfl
  | k + 1, i => by
    simp only [rwW]
    by_cases q : f / 2 ^ k % 2 = 1
    · rw [if_pos q]
      by_cases e : i = k
      · subst e
        rw [upN_s, rw_val f w i i, if_neg (by omega), if_pos ⟨by omega, q⟩]
      · rw [upN_n _ _ _ e, rw_val f w k i]
        by_cases z : i < k ∧ f / 2 ^ i % 2 = 1
        · rw [if_pos z, if_pos ⟨by omega, z.2⟩]
        · rw [if_neg z, if_neg (fun y => z ⟨by omega, y.2⟩)]
    · rw [if_neg q, rw_val f w k i]
      by_cases z : i < k ∧ f / 2 ^ i % 2 = 1
      · rw [if_pos z, if_pos ⟨by omega, z.2⟩]
      · rw [if_neg z, if_neg (fun y => z ⟨by
          rcases Nat.lt_or_ge i k with u | u
          · exact u
          · have : i = k := by omega
            subst this; exact absurd y.2 q, y.2⟩)]
theorem fe_in {g b z i : Nat} (hg : g < 512) (h : feN g b z / 2 ^ i % 2 = 1) : g / 2 ^ i % 2 = 1 ∧ ¬ roN g b z / 2 ^ i % 2 = 1 := by
  have h1 := (bit_iff _ _).mpr h
  rw [fe_bit hg, Bool.and_eq_true] at h1
  refine ⟨(bit_iff _ _).mp h1.1, fun q => ?_⟩
  rw [(bit_iff _ _).mpr q] at h1
  simp at h1
theorem ro_in {g b z i : Nat} (hg : g < 512) (h : roN g b z / 2 ^ i % 2 = 1) : g / 2 ^ i % 2 = 1 ∧ ¬ feN g b z / 2 ^ i % 2 = 1 := by
  have h1 := (bit_iff _ _).mpr h
  have h2 := ro_sbs g b z 5 i h1
  refine ⟨(bit_iff _ _).mp h2, fun q => ?_⟩
  exact (fe_in hg q).2 h
theorem rw_le {g b z : Nat} {w : Nat → Nat} (hg : g < 512) (hw : ∀ i, w i ≤ 12) (hs : ∀ i, i < 9 → g / 2 ^ i % 2 = 1 → w i < 12) : ∀ i, rwW (feN g b z) w 9 i ≤ 12 := fun i => by
  rw [rw_val]
  split
  · rename_i q
    have := hs i q.1 (fe_in hg q.2).1
    omega
  · exact hw i
theorem rw_st {g b z : Nat} {w : Nat → Nat} (hg : g < 512) (hs : ∀ i, i < 9 → g / 2 ^ i % 2 = 1 → w i < 12) : ∀ i, i < 9 → roN g b z / 2 ^ i % 2 = 1 → rwW (feN g b z) w 9 i < 12 := fun i hi q => by
  have h1 := ro_in hg q
  rw [rw_val, if_neg (fun y => h1.2 y.2)]
  exact hs i hi h1.1
theorem up_le {w : Nat → Nat} {k v n : Nat} (h : ∀ j, w j ≤ n) (hv : v ≤ n) : ∀ j, upN w k v j ≤ n := fun j => by
  unfold upN; split
  · exact hv
  · exact h j
theorem up2_le {w : Nat → Nat → Nat} {k n : Nat} {v : Nat → Nat} (h : ∀ k j, w k j ≤ n) (hv : ∀ j, v j ≤ n) : ∀ i j, upN w k v i j ≤ n := fun i j => by
  unfold upN; split
  · exact hv j
  · exact h i j
theorem fbN_up {bt : Nat → Nat} {f v u : Nat} (h0 : bt f ≠ u) : ∀ i, fbN (upN bt f v) u i = fbN bt u i + (if f < i ∧ v = u then 1 else 0)
  | 0 => by rw [if_neg (by omega)]; rfl
  | i + 1 => by
    have ih := fbN_up (v := v) h0 i
    simp only [fbN]
    rw [ih]
    by_cases e : i = f
    · subst e
      have e3 : (if i < i ∧ v = u then 1 else 0) = 0 := if_neg (by omega)
      rw [upN_s, if_neg h0, e3]
      by_cases q : v = u
      · rw [if_pos q, if_pos ⟨by omega, q⟩]
      · rw [if_neg q, if_neg (by omega)]
    · rw [upN_n _ _ _ e]
      have e2 : (f < i ∧ v = u) ↔ (f < i + 1 ∧ v = u) := by
        constructor
        · rintro ⟨a, b⟩; exact ⟨by omega, b⟩
        · rintro ⟨a, b⟩; exact ⟨by omega, b⟩
      by_cases q : f < i ∧ v = u
      · rw [if_pos q, if_pos (e2.mp q)]; split <;> omega
      · rw [if_neg q, if_neg (fun y => q (e2.mpr y))]; split <;> omega
theorem z_ifb {P : Prop} [Decidable P] {a b k : Nat} (ha : a < k) (hb : b < k) : (if P then a else b) < k := by split <;> assumption
section IX
variable {pl tu fr nf g : Nat} {w aw : Nat → Nat} {pt ft ti bt : Nat → Nat → Nat} {th : Nat → Nat} {my fe be sk cl ex : Nat → Nat}
theorem nx_tu {pl tu fr : Nat} (h : tu < pl) : nxF pl tu fr tu = fr := by unfold nxF; rw [if_pos h, if_neg (by omega)]
theorem Inv.t1 (h : Inv pl tu fr nf g w aw pt ft ti bt th my fe be sk cl ex) (ht : tu < pl) (hf : fr < 10) : be (11 * tu + fr) + nf = th tu ∧ be (11 * tu + fr) ≤ 3 * fr ∧ bt tu fr = 0 ∧ ti tu fr = nf := by
  have h4 : tu < 4 := h.htu
  have hp := h.P tu h4
  have h5 := hp.2.2.2.2.1
  have h6 := hp.2.2.2.2.2.1 fr
  have hb := (hp.be_bd (h.hti tu) fr)
  rw [nx_tu ht] at h5 h6 hb
  have e2 : nwF tu nf tu = nf := by unfold nwF; rw [if_pos rfl]
  rw [e2] at h5 h6
  obtain ⟨b1, b2⟩ := h6 (Nat.le_refl _) hf
  rw [if_pos rfl] at b2
  exact ⟨h5, (hb (Nat.le_refl _)).2, b1, b2⟩
theorem Inv.th30 (h : Inv pl tu fr nf g w aw pt ft ti bt th my fe be sk cl ex) (ht : tu < pl) (hf : fr < 10) : th tu < 30 := by
  have := h.t1 ht hf
  have := h.hnf
  omega
/-- what is the same after the throw of one player -/
theorem InvP.row {pl tu fr nf p n : Nat} {pt' : Nat → Nat} {th' : Nat} {pt : Nat → Nat} {my fe : Nat → Nat} {tp : Nat} (h1 : my p = tp) (h2 : ∀ k, k < 30 → fe (30 * p + k) = pt k) (h3 : pt' = upN pt tp n) (ht : tp < 30) : ∀ k, k < 30 → upN fe (30 * p + my p) n (30 * p + k) = pt' k := fun k hk => by
  rw [h3, h1]
  unfold upN
  by_cases q : k = tp
  · rw [if_pos (by omega), if_pos q]
  · rw [if_neg (by omega), if_neg q]; exact h2 k hk
theorem Inv.ft1 (h : Inv pl tu fr nf g w aw pt ft ti bt th my fe be sk cl ex) (ht : tu < pl) (hf : fr < 10) : (if ti tu fr = 0 then upN (ft tu) fr (th tu) else ft tu) fr = be (11 * tu + fr) := by
  obtain ⟨a1, a2, a3, a4⟩ := h.t1 ht hf
  by_cases q : ti tu fr = 0
  · rw [if_pos q, upN_s]; omega
  · rw [if_neg q]; exact (h.P tu h.htu).2.2.2.2.2.2.1 rfl (by omega)
theorem Inv.ft2 {ft : Nat → Nat} {P : Prop} [Decidable P] {f fr v : Nat} (h : f ≠ fr) : (if P then upN ft fr v else ft) f = ft f := by
  split
  · exact upN_n _ _ _ h
  · rfl
/-- the frame goes on -/
theorem Inv.go (h : Inv pl tu fr nf g w aw pt ft ti bt th my fe be sk cl ex) (ht : tu < pl) (hf : fr < 10) {b z n : Nat} (hn : n ≤ 9) (h0 : ¬ roN g b z = 0) (h3 : ¬ nf + 1 = 3) :
    Inv pl tu fr (nf + 1) (roN g b z) (rwW (feN g b z) w 9) (upN (snW aw 5) b 2) (upN pt tu (upN (pt tu) (th tu) n)) (upN ft tu (if ti tu fr = 0 then upN (ft tu) fr (th tu) else ft tu)) (upN ti tu (upN (ti tu) fr (ti tu fr + 1))) bt (upN th tu (th tu + 1)) (upN my tu (my tu + 1)) (upN fe (30 * tu + my tu) n) be sk cl ex := by
  have ht4 := h.htu
  have hnf := h.hnf
  have h30 := h.th30 ht hf
  obtain ⟨a1, a2, a3, a4⟩ := h.t1 ht hf
  have hmt : my tu = th tu := (h.eth ht4).symm
  refine ⟨⟨h.hpl, h.hfr, ht4, by omega, ro_lt h.hg, Or.inl ht, fun q => by omega, fun _ => h0, rw_st h.hg h.hst⟩,
    ⟨rw_le h.hg h.hw h.hst, up_le (snW_le h.ha 5) (Nat.le_refl _), up2_le h.hpt (up_le (h.hpt tu) hn), up2_le h.hft (fun j => by split; exact up_le (h.hft tu) (h.hth tu) j; exact h.hft tu j), up2_le h.hti (up_le (h.hti tu) (by omega)), h.hbt, up_le h.hth (by omega), up_le h.hmy (by omega), up_le h.hfe hn, h.hbe, h.hsk, h.hcl, h.hex⟩, fun p hp => ?_⟩
  obtain ⟨i1, i2, i3, i4, i5, i6, i7, i8, i9, i10⟩ := h.P p hp
  by_cases e : p = tu
  · subst e
    rw [upN_s, upN_s, upN_s, upN_s]
    rw [nx_tu ht] at i4 i5 i6
    have e2 : nwF p nf p = nf := by unfold nwF; rw [if_pos rfl]
    have e3 : nwF p (nf + 1) p = nf + 1 := by unfold nwF; rw [if_pos rfl]
    rw [e2] at i5 i6
    unfold InvP
    rw [nx_tu ht, e3]
    refine ⟨by rw [upN_s]; omega, InvP.row (pl := 0) (tu := 0) (fr := 0) (nf := 0) (th' := 0) i1 i2 rfl h30, i3, fun f hq => ?_, by omega, fun f hq hq2 => ?_, fun _ _ => h.ft1 ht hf, i8, i9, i10⟩
    · obtain ⟨j1, j2, j3⟩ := i4 f hq
      rw [Inv.ft2 (by omega), upN_n _ _ _ (by omega)]
      exact ⟨j1, j2, j3⟩
    · obtain ⟨j1, j2⟩ := i6 f hq hq2
      refine ⟨j1, ?_⟩
      by_cases y : f = fr
      · subst y; rw [upN_s, if_pos rfl]; omega
      · rw [upN_n _ _ _ y, if_neg y]; rw [if_neg y] at j2; exact j2
  · rw [upN_n _ _ _ e, upN_n _ _ _ e, upN_n _ _ _ e, upN_n _ _ _ e]
    have e2 : nwF tu nf p = 0 := by unfold nwF; rw [if_neg e]
    have e3 : nwF tu (nf + 1) p = 0 := by unfold nwF; rw [if_neg e]
    rw [e2] at i5 i6
    unfold InvP
    rw [e3]
    exact ⟨by rw [upN_n _ _ _ e]; exact i1, fun k hk => by rw [upN_n _ _ _ (by omega)]; exact i2 k hk, i3, i4, i5, i6, fun q => absurd q e, i8, i9, i10⟩
theorem nx_ne {pl tu fr p : Nat} (ht : tu < pl) (e : p ≠ tu) : nxF pl (if tu + 1 = pl then 0 else tu + 1) (if tu + 1 = pl then fr + 1 else fr) p = nxF pl tu fr p := by
  unfold nxF
  by_cases hp : p < pl
  · rw [if_pos hp, if_pos hp]
    by_cases q : tu + 1 = pl
    · rw [if_pos q, if_pos q, if_neg (by omega), if_pos (by omega)]
    · rw [if_neg q, if_neg q]
      by_cases y : p < tu
      · rw [if_pos (by omega), if_pos y]
      · rw [if_neg (by omega), if_neg y]
  · rw [if_neg hp, if_neg hp]
theorem nx_eq {pl tu fr : Nat} (ht : tu < pl) : nxF pl (if tu + 1 = pl then 0 else tu + 1) (if tu + 1 = pl then fr + 1 else fr) tu = fr + 1 := by
  unfold nxF
  rw [if_pos ht]
  by_cases q : tu + 1 = pl
  · rw [if_pos q, if_pos q, if_neg (by omega)]
  · rw [if_neg q, if_neg q, if_pos (by omega)]
/-- the frame is at its end -/
theorem Inv.fin (h : Inv pl tu fr nf g w aw pt ft ti bt th my fe be sk cl ex) (ht : tu < pl) (hf : fr < 10) {b z n : Nat} (hn : n ≤ 9) {bt' : Nat → Nat → Nat} {sk' cl' ex' : Nat → Nat}
    (hb1 : ∀ p, p ≠ tu → bt' p = bt p) (hb2 : ∀ f, f ≠ fr → bt' tu f = bt tu f) (hb3 : ∀ k j, bt' k j ≤ 2) (hx1 : ∀ p f, p < 4 → p ≠ tu → f < 10 → ex' (10 * p + f) = ex (10 * p + f)) (hx2 : ∀ f, f < 10 → ex' (10 * tu + f) = bt' tu f) (hx3 : ∀ j, ex' j ≤ 2)
    (hs1 : ∀ p, p ≠ tu → sk' p = sk p) (hs2 : sk' tu = fbN (bt' tu) 2 10) (hc1 : ∀ p, p ≠ tu → cl' p = cl p) (hc2 : cl' tu = fbN (bt' tu) 1 10) :
    Inv pl (if tu + 1 = pl then 0 else tu + 1) (if tu + 1 = pl then fr + 1 else fr) 0 (if (if tu + 1 = pl then fr + 1 else fr) = 10 then roN g b z else suN (rwW (feN g b z) w 9) 9) (rwW (feN g b z) w 9) (upN (snW aw 5) b 2) (upN pt tu (upN (pt tu) (th tu) n)) (upN ft tu (if ti tu fr = 0 then upN (ft tu) fr (th tu) else ft tu)) (upN ti tu (upN (ti tu) fr (ti tu fr + 1))) bt' (upN th tu (th tu + 1)) (upN my tu (my tu + 1)) (upN fe (30 * tu + my tu) n) (upN be (11 * tu + fr + 1) (upN my tu (my tu + 1) tu)) sk' cl' ex' := by
  have ht4 := h.htu
  have hnf := h.hnf
  have hpl := h.hpl
  have h30 := h.th30 ht hf
  obtain ⟨a1, a2, a3, a4⟩ := h.t1 ht hf
  have hmt : my tu = th tu := (h.eth ht4).symm
  have hw0 : ∀ q p, nwF q 0 p = 0 := fun q p => by unfold nwF; split <;> rfl
  have hsk : ∀ j, sk' j ≤ 10 := fun j => by
    by_cases e : j = tu
    · rw [e, hs2]; exact fbN_le _ _ _
    · rw [hs1 j e]; exact h.hsk j
  have hcl : ∀ j, cl' j ≤ 10 := fun j => by
    by_cases e : j = tu
    · rw [e, hc2]; exact fbN_le _ _ _
    · rw [hc1 j e]; exact h.hcl j
  have hq0 : (if tu + 1 = pl then fr + 1 else fr) = 10 → (if tu + 1 = pl then 0 else tu + 1) = 0 := fun q => by
    by_cases y : tu + 1 = pl
    · rw [if_pos y]
    · rw [if_neg y] at q; omega
  rw [show upN my tu (my tu + 1) tu = th tu + 1 by rw [upN_s]; omega]
  refine ⟨⟨hpl, by split <;> omega, by split <;> omega, by omega, z_ifb (ro_lt h.hg) (suN_lt _ 9 (Nat.le_refl _)), Or.inl (by split <;> omega), fun q => ⟨hq0 q, rfl⟩, fun q => absurd q (by omega), fun i hi q => ?_⟩,
    ⟨rw_le h.hg h.hw h.hst, up_le (snW_le h.ha 5) (Nat.le_refl _), up2_le h.hpt (up_le (h.hpt tu) hn), up2_le h.hft (fun j => by split; exact up_le (h.hft tu) (h.hth tu) j; exact h.hft tu j), up2_le h.hti (up_le (h.hti tu) (by omega)), hb3, up_le h.hth (by omega), up_le h.hmy (by omega), up_le h.hfe hn, up_le h.hbe (by omega), hsk, hcl, hx3⟩, fun p hp => ?_⟩
  · by_cases y : (if tu + 1 = pl then fr + 1 else fr) = 10
    · rw [if_pos y] at q; exact rw_st h.hg h.hst i hi q
    · rw [if_neg y] at q; exact su_st _ i q
  obtain ⟨i1, i2, i3, i4, i5, i6, i7, i8, i9, i10⟩ := h.P p hp
  by_cases e : p = tu
  · subst e
    rw [upN_s, upN_s, upN_s, upN_s]
    rw [nx_tu ht] at i4 i5 i6
    have e2 : nwF p nf p = nf := by unfold nwF; rw [if_pos rfl]
    rw [e2] at i5 i6
    unfold InvP
    rw [nx_eq ht, hw0]
    refine ⟨by rw [upN_s]; omega, InvP.row (pl := 0) (tu := 0) (fr := 0) (nf := 0) (th' := 0) i1 i2 rfl h30, by rw [upN_n _ _ _ (by omega)]; exact i3, fun f hq => ?_, by rw [show 11 * p + (fr + 1) = 11 * p + fr + 1 by omega, upN_s], fun f hq hq2 => ?_, fun _ q => absurd q (by omega), hx2, hs2, hc2⟩
    · by_cases y : f = fr
      · subst y
        rw [h.ft1 ht hf, upN_s, upN_n _ _ _ (by omega : 11 * p + f ≠ 11 * p + f + 1), show 11 * p + (f + 1) = 11 * p + f + 1 by omega, upN_s]
        omega
      · obtain ⟨j1, j2, j3⟩ := i4 f (by omega)
        rw [Inv.ft2 y, upN_n _ _ _ y, upN_n _ _ _ (by omega), upN_n _ _ _ (by omega)]
        exact ⟨j1, j2, j3⟩
    · obtain ⟨j1, j2⟩ := i6 f (by omega) hq2
      rw [hb2 f (by omega), upN_n _ _ _ (by omega : f ≠ fr)]
      rw [if_neg (by omega)] at j2
      exact ⟨j1, by rw [j2, ite_self]⟩
  · rw [upN_n _ _ _ e, upN_n _ _ _ e, upN_n _ _ _ e, upN_n _ _ _ e, hb1 p e]
    have e2 : nwF tu nf p = 0 := by unfold nwF; rw [if_neg e]
    rw [e2] at i5 i6
    have hnx : nxF pl tu fr p ≤ 10 := by unfold nxF; split <;> (try split) <;> omega
    unfold InvP
    rw [nx_ne ht e, hw0]
    refine ⟨by rw [upN_n _ _ _ e]; exact i1, fun k hk => by rw [upN_n _ _ _ (by omega)]; exact i2 k hk, by rw [upN_n _ _ _ (by omega)]; exact i3, fun f hq => ?_, by rw [upN_n _ _ _ (by omega)]; exact i5, fun f hq hq2 => ?_, fun _ q => absurd q (by omega), fun f hq => by rw [hx1 p f hp e hq]; exact i8 f hq, by rw [hs1 p e]; exact i9, by rw [hc1 p e]; exact i10⟩
    · rw [upN_n _ _ _ (by omega), upN_n _ _ _ (by omega)]
      exact i4 f hq
    · obtain ⟨j1, j2⟩ := i6 f hq hq2
      refine ⟨j1, ?_⟩
      rw [j2, ite_self, ite_self]
/-- all the pins of this frame -/
theorem Inv.tot (h : Inv pl tu fr nf g w aw pt ft ti bt th my fe be sk cl ex) (ht : tu < pl) (hf : fr < 10) {b z : Nat} (hr : roN g b z = 0) : 0 < smQ (upN my tu (my tu + 1)) (upN fe (30 * tu + my tu) (pcN (feN g b z))) tu (be (11 * tu + fr)) (upN my tu (my tu + 1) tu) ↔ 0 < pcN (feN g b z) := by
  obtain ⟨a1, a2, a3, a4⟩ := h.t1 ht hf
  have hmt : my tu = th tu := (h.eth h.htu).symm
  unfold smQ
  rw [upN_s, show min (my tu + 1) (my tu + 1) - be (11 * tu + fr) = nf + 1 by omega]
  simp only [smN]
  rw [show be (11 * tu + fr) + nf = my tu by omega, upN_s]
  by_cases q : nf = 0
  · subst q
    simp only [smN]
    omega
  · have hg0 := h.hgo (by omega)
    have h1 : feN g b z ≠ 0 := fun y => by
      have := (fe_0 h.hg).mp y
      omega
    have h2 : pcN (feN g b z) ≠ 0 := fun y => h1 ((pcN_0 (fe_lt h.hg)).mp y)
    constructor
    · intro _; omega
    · intro _; omega
theorem Inv.fin1 (h : Inv pl tu fr nf g w aw pt ft ti bt th my fe be sk cl ex) (ht : tu < pl) (hf : fr < 10) {b z : Nat} (_ : roN g b z = 0) :
    Inv pl (if tu + 1 = pl then 0 else tu + 1) (if tu + 1 = pl then fr + 1 else fr) 0 (if (if tu + 1 = pl then fr + 1 else fr) = 10 then roN g b z else suN (rwW (feN g b z) w 9) 9) (rwW (feN g b z) w 9) (upN (snW aw 5) b 2) (upN pt tu (upN (pt tu) (th tu) (pcN (feN g b z)))) (upN ft tu (if ti tu fr = 0 then upN (ft tu) fr (th tu) else ft tu)) (upN ti tu (upN (ti tu) fr (ti tu fr + 1)))
      (upN bt tu (if 0 < pcN (feN g b z) then upN (bt tu) fr (if ti tu fr + 1 = 1 then 2 else 1) else bt tu)) (upN th tu (th tu + 1)) (upN my tu (my tu + 1)) (upN fe (30 * tu + my tu) (pcN (feN g b z))) (upN be (11 * tu + fr + 1) (upN my tu (my tu + 1) tu))
      (if 0 < pcN (feN g b z) ∧ nf + 1 = 1 then upN sk tu (sk tu + 1) else sk) (if 0 < pcN (feN g b z) ∧ ¬ nf + 1 = 1 then upN cl tu (cl tu + 1) else cl) (if 0 < pcN (feN g b z) then upN ex (10 * tu + fr) (if nf + 1 = 1 then 2 else 1) else ex) := by
  obtain ⟨a1, a2, a3, a4⟩ := h.t1 ht hf
  have hx := (h.P tu h.htu).2.2.2.2.2.2.2.1
  have hs2 := h.esk h.htu
  have hc2 := h.ecl h.htu
  have hv : (if ti tu fr + 1 = 1 then 2 else 1) = (if nf + 1 = 1 then 2 else 1) := by rw [a4]
  have hv2 : (if ti tu fr + 1 = 1 then 2 else 1) ≤ 2 := by split <;> omega
  have hv3 : (if nf + 1 = 1 then 2 else 1) ≤ 2 := by split <;> omega
  refine h.fin ht hf (pcN_le _) (fun p e => upN_n _ _ _ e) (fun f e => ?_) (fun k j => ?_) (fun p f hp e hq => ?_) (fun f hq => ?_) (fun j => ?_) (fun p e => ?_) ?_ (fun p e => ?_) ?_
  · rw [upN_s]
    split
    · exact upN_n _ _ _ e
    · rfl
  · refine up2_le h.hbt (fun j => ?_) k j
    split
    · exact up_le (h.hbt tu) hv2 j
    · exact h.hbt tu j
  · split
    · exact upN_n _ _ _ (by omega)
    · rfl
  · rw [upN_s]
    by_cases q : 0 < pcN (feN g b z)
    · rw [if_pos q, if_pos q]
      by_cases y : f = fr
      · subst y; rw [upN_s, upN_s, hv]
      · rw [upN_n _ _ _ (by omega), upN_n _ _ _ y]; exact hx f hq
    · rw [if_neg q, if_neg q]; exact hx f hq
  · split
    · exact up_le h.hex hv3 j
    · exact h.hex j
  · split
    · exact upN_n _ _ _ e
    · rfl
  · rw [upN_s]
    by_cases q : 0 < pcN (feN g b z)
    · rw [if_pos q, hv, fbN_up (by omega)]
      by_cases y : nf + 1 = 1
      · rw [if_pos ⟨q, y⟩, upN_s, if_pos y, if_pos ⟨by omega, rfl⟩]; omega
      · rw [if_neg (fun z => y z.2), if_neg y, if_neg (by omega)]; omega
    · rw [if_neg q, if_neg (fun z => q z.1)]; omega
  · split
    · exact upN_n _ _ _ e
    · rfl
  · rw [upN_s]
    by_cases q : 0 < pcN (feN g b z)
    · rw [if_pos q, hv, fbN_up (by omega)]
      by_cases y : nf + 1 = 1
      · rw [if_neg (fun z => z.2 y), if_pos y, if_neg (by omega)]; omega
      · rw [if_pos ⟨q, y⟩, upN_s, if_neg y, if_pos ⟨by omega, rfl⟩]; omega
    · rw [if_neg q, if_neg (fun z => q z.1)]; omega
end IX
