/-! A THROW, A NEW GAME, A PLAYER: what holds goes on -/
theorem pk5_0 (a b c d e : Nat) : pk5 a b c d e 0 = a := by simp [pk5, upN]
theorem pk5_1 (a b c d e : Nat) : pk5 a b c d e 1 = b := by simp [pk5, upN]
theorem pk5_2 (a b c d e : Nat) : pk5 a b c d e 2 = c := by simp [pk5, upN]
theorem pk5_3 (a b c d e : Nat) : pk5 a b c d e 3 = d := by simp [pk5, upN]
theorem pk5_4 (a b c d e : Nat) : pk5 a b c d e 4 = e := by simp [pk5, upN]
theorem pk5_le {a b c d e m : Nat} (ha : a ≤ m) (hb : b ≤ m) (hc : c ≤ m) (hd : d ≤ m) (he : e ≤ m) (j : Nat) : pk5 a b c d e j ≤ m := by
  unfold pk5 upN
  (repeat' split) <;> first | omega | exact Nat.zero_le _
theorem nx_tu {pl tu fr : Nat} (h : tu < pl) : nxF pl tu fr tu = fr := by unfold nxF; rw [if_pos h, if_neg (by omega)]
theorem nx_ne {pl tu fr p : Nat} (ht : tu < pl) (e : p ≠ tu) : nxF pl (if pl ≤ tu + 1 then 0 else tu + 1) (if pl ≤ tu + 1 then fr + 1 else fr) p = nxF pl tu fr p := by
  unfold nxF
  by_cases q : pl ≤ tu + 1
  · rw [if_pos q, if_pos q]
    by_cases r : p < pl
    · rw [if_pos r, if_pos r, if_neg (Nat.not_lt_zero p), if_pos (by omega)]
    · rw [if_neg r, if_neg r]
  · rw [if_neg q, if_neg q]
    by_cases r : p < pl
    · rw [if_pos r, if_pos r]
      by_cases y : p < tu
      · rw [if_pos y, if_pos (by omega)]
      · rw [if_neg y, if_neg (by omega)]
    · rw [if_neg r, if_neg r]
theorem nx_eq {pl tu fr : Nat} (ht : tu < pl) : nxF pl (if pl ≤ tu + 1 then 0 else tu + 1) (if pl ≤ tu + 1 then fr + 1 else fr) tu = fr + 1 := by
  unfold nxF
  by_cases q : pl ≤ tu + 1
  · rw [if_pos q, if_pos q, if_pos ht, if_neg (Nat.not_lt_zero tu)]
  · rw [if_neg q, if_neg q, if_pos ht, if_pos (by omega)]
section PT
variable {pl tu fr nf g n : Nat} {rv : Nat → Nat → Nat} {pt ft ti bt : Nat → Nat} {th : Nat}
theorem IvP.own (h : IvP pl tu fr nf g n rv tu pt ft ti bt th) (hpl : tu < pl) (hf : fr < 10) (hnf : nf ≤ 2) (hg : g < 512) (hgn : 0 < nf → g ≠ 0) {N R : Nat} (hN : pcN g = N + R)
    {tu' fr' nf' g' : Nat} {bt' : Nat → Nat} (hc : (tu' = tu ∧ fr' = fr ∧ nf' = nf + 1 ∧ pcN g' = R ∧ 0 < R) ∨ (nf' = 0 ∧ nxF pl tu' fr' tu = fr + 1))
    (hbt : bt' = if R = 0 ∧ 0 < N then upN bt fr (if ti fr + 1 = 1 then 2 else 1) else bt) :
    IvP pl tu' fr' nf' g' (n + 1) (upN rv n (pk5 tu fr N R (nf + 1))) tu (upN pt th N) (if ti fr = 0 then upN ft fr th else ft) (upN ti fr (ti fr + 1)) bt' (th + 1) := by
  obtain ⟨h1, h2, h3, h4, h5, h6, h7, h8, h9, h9b, h10⟩ := h
  have hx : nxF pl tu fr tu = fr := nx_tu hpl
  obtain ⟨hb0, ht0⟩ := h7 fr hf (by omega)
  rw [if_pos ⟨rfl, rfl⟩] at ht0
  rw [if_pos rfl] at h9b
  generalize ha : (if ti fr = 0 then upN ft fr th else ft) = ft'
  have hane : ∀ f, f ≠ fr → ft' f = ft f := fun f q => by
    rw [← ha]; split
    · exact upN_n _ _ _ q
    · rfl
  have hafr : ft' fr + nf = th ∧ (0 < nf → ft' fr = ft fr) := by
    rw [← ha]
    by_cases q : ti fr = 0
    · rw [if_pos q, upN_s]; exact ⟨by omega, fun y => by omega⟩
    · rw [if_neg q]; exact ⟨(h10 rfl (by omega) hf).1, fun _ => rfl⟩
  have htne : ∀ f, f ≠ fr → upN ti fr (ti fr + 1) f = ti f := fun f q => upN_n _ _ _ q
  have htfr : upN ti fr (ti fr + 1) fr = nf + 1 := by rw [upN_s, ht0]
  have hsm : ∀ a k, a + k ≤ th → smN (upN pt th N) a k = smN pt a k := fun a k q => smN_congr a k (fun j _ y => upN_n _ _ _ (by omega))
  have hS : smN pt (ft' fr) nf + pcN g ≤ 9 := by
    by_cases q : nf = 0
    · rw [q]; have := pcN_le g; simp only [smN]; omega
    · rw [hafr.2 (by omega)]; exact (h10 rfl (by omega) hf).2
  have hS0 : N = 0 → R = 0 → smN pt (ft' fr) nf = 0 := fun q r => by
    by_cases y : nf = 0
    · rw [y]; rfl
    · exact absurd ((pcN_0 hg).mp (by omega)) (hgn (by omega))
  have hSn : smN (upN pt th N) (ft' fr) (nf + 1) = smN pt (ft' fr) nf + N := by
    simp only [smN]
    rw [hsm _ _ (by omega), hafr.1, upN_s]
  have hck : ∀ k, k ≤ n → cnt (upN rv n (pk5 tu fr N R (nf + 1))) tu k = cnt rv tu k := fun k q => cnt_up k q
  have hlt : ∀ k, k < n → rv k 0 = tu → cnt rv tu k < th := fun k q y => by rw [h1]; exact cnt_lt q y
  have hbne : ∀ f, f ≠ fr → bt' f = bt f := fun f q => by
    rw [hbt]; split
    · exact upN_n _ _ _ q
    · rfl
  refine ⟨?_, ?_, ?_, ?_, ?_, ?_, ?_, ?_, ?_, ?_, ?_⟩
  · rw [cnt_y (by rw [upN_s, pk5_0]), hck n (Nat.le_refl _), h1]
  · intro k hk hr
    by_cases e : k = n
    · subst e; rw [hck k (Nat.le_refl _), ← h1, upN_s, upN_s, pk5_2]
    · rw [upN_n _ _ _ e] at hr ⊢
      rw [hck k (by omega), upN_n _ _ _ (by have := hlt k (by omega) hr; omega)]
      exact h2 k (by omega) hr
  · intro k hk hr f hf9
    rw [hck k (by omega)]
    by_cases e : k = n
    · subst e
      rw [upN_s, pk5_1, ← h1]
      by_cases q : f = fr
      · subst q; rw [htfr]; exact ⟨fun _ => by omega, fun _ => rfl⟩
      · rw [hane f q, htne f q]
        refine ⟨fun y => absurd y.symm q, fun y => ?_⟩
        have := h4 f hf9 (by omega)
        omega
    · rw [upN_n _ _ _ e] at hr ⊢
      have hl := hlt k (by omega) hr
      have hm := h3 k (by omega) hr f hf9
      by_cases q : f = fr
      · subst q
        rw [htfr, hm, ht0]
        by_cases y : nf = 0
        · have := hafr.1; omega
        · rw [hafr.2 (by omega)]; have := (h10 rfl (by omega) hf).1; omega
      · rw [hane f q, htne f q]; exact hm
  · intro f hf9 hp
    by_cases q : f = fr
    · subst q; rw [htfr]; have := hafr.1; omega
    · rw [hane f q, htne f q] at *
      have := h4 f hf9 hp
      omega
  · intro k hk hr f hf9 hcn htp
    rw [hck k (by omega)] at hcn
    by_cases e : k = n
    · subst e
      rw [← h1] at hcn
      by_cases q : f = fr
      · subst q
        rw [upN_s, pk5_3, pk5_4, htfr, hSn, hbt]
        by_cases c : R = 0
        · by_cases d : 0 < N
          · rw [if_pos (show R = 0 ∧ 0 < N from ⟨c, d⟩), upN_s, ht0, if_pos (show R = 0 ∧ 0 < smN pt (ft' f) nf + N from ⟨c, by omega⟩)]
          · rw [if_neg (fun y => d y.2), if_neg (fun y => by have := hS0 (by omega) c; omega), hb0]
        · rw [if_neg (fun y => c y.1), if_neg (fun y => c y.1), hb0]
      · rw [hane f q, htne f q] at hcn
        rw [htne f q] at htp
        have := h4 f hf9 htp
        omega
    · rw [upN_n _ _ _ e] at hr ⊢
      have hl := hlt k (by omega) hr
      by_cases q : f = fr
      · subst q; rw [htfr] at hcn; have := hafr.1; omega
      · rw [hane f q, htne f q] at hcn ⊢
        rw [htne f q] at htp
        rw [hbne f q, hsm _ _ (h4 f hf9 htp)]
        exact h5 k (by omega) hr f hf9 hcn htp
  · intro f hf9 h0
    by_cases q : f = fr
    · subst q; rw [htfr] at h0; omega
    · rw [htne f q] at h0; rw [hbne f q]; exact h6 f hf9 h0
  · intro f hf9 hle
    rcases hc with ⟨e1, e2, e3, e4, e5⟩ | ⟨e1, e2⟩
    · subst e1; subst e2
      rw [hx] at hle
      by_cases q : f = fr'
      · subst q
        rw [htfr, if_pos ⟨rfl, rfl⟩, e3, hbt, if_neg (fun y => by omega)]
        exact ⟨hb0, rfl⟩
      · rw [hbne f q, htne f q, if_neg (fun y => q y.2)]
        have := h7 f hf9 (by omega)
        rw [if_neg (fun y => q y.2)] at this
        exact this
    · rw [e2] at hle
      have q : f ≠ fr := by omega
      rw [hbne f q, htne f q]
      have := h7 f hf9 (by omega)
      rw [if_neg (fun y => q y.2)] at this
      refine ⟨this.1, ?_⟩
      rw [this.2, e1, ite_self]
  · intro f hf9
    by_cases q : f = fr
    · subst q; rw [htfr, hSn]; omega
    · rw [hane f q, htne f q]
      by_cases y : ti f = 0
      · rw [y]; simp only [smN]; omega
      · rw [hsm _ _ (h4 f hf9 (by omega))]; exact h8 f hf9
  · rcases hc with ⟨e1, e2, e3, e4, e5⟩ | ⟨e1, e2⟩
    · subst e1; subst e2; omega
    · omega
  · rcases hc with ⟨e1, e2, e3, e4, e5⟩ | ⟨e1, e2⟩
    · subst e1; subst e2; rw [if_pos rfl]; omega
    · rw [e2]; omega
  · intro e hp hf2
    rcases hc with ⟨e1, e2, e3, e4, e5⟩ | ⟨e1, e2⟩
    · subst e1; subst e2; subst e3
      rw [hSn, e4]
      have := hafr.1
      exact ⟨by omega, by omega⟩
    · omega
/-- the others -/
theorem IvP.oth {p : Nat} (h : IvP pl tu fr nf g n rv p pt ft ti bt th) (hp : p ≠ tu) {tu' fr' nf' g' : Nat} {r : Nat → Nat} (hr : r 0 = tu) (hx : nxF pl tu' fr' p = nxF pl tu fr p) (hc : p = tu' → nf' = 0) :
    IvP pl tu' fr' nf' g' (n + 1) (upN rv n r) p pt ft ti bt th := by
  obtain ⟨h1, h2, h3, h4, h5, h6, h7, h8, h9, h9b, h10⟩ := h
  rw [if_neg hp] at h9b
  have hrn : ¬ (upN rv n r) n 0 = p := by rw [upN_s, hr]; exact Ne.symm hp
  have key : ∀ k, k < n + 1 → (upN rv n r) k 0 = p → k < n := fun k q y => by
    rcases Nat.lt_or_ge k n with z | z
    · exact z
    · rw [show k = n by omega] at y; exact absurd y hrn
  have hv : ∀ k, k < n → (upN rv n r) k = rv k := fun k q => upN_n _ _ _ (by omega)
  refine ⟨?_, fun k hk y => ?_, fun k hk y f hf => ?_, h4, fun k hk y f hf => ?_, h6, fun f hf y => ?_, h8, by omega, ?_, fun e y => ?_⟩
  · rw [cnt_n hrn, cnt_up n (Nat.le_refl _), h1]
  · have z := key k hk y
    rw [hv k z] at y ⊢
    rw [cnt_up k (by omega)]; exact h2 k z y
  · have z := key k hk y
    rw [hv k z] at y ⊢
    rw [cnt_up k (by omega)]; exact h3 k z y f hf
  · have z := key k hk y
    rw [hv k z] at y ⊢
    rw [cnt_up k (by omega)]; exact h5 k z y f hf
  · rw [hx] at y
    have z := h7 f hf y
    rw [if_neg (fun q => hp q.1)] at z
    refine ⟨z.1, ?_⟩
    rw [z.2]
    by_cases q : p = tu' ∧ f = fr'
    · rw [if_pos q, hc q.1]
    · rw [if_neg q]
  · rw [hx]; split <;> omega
  · have := hc e; omega
end PT
/-- the game -/
def IvG (pl tu fr nf g n : Nat) (rv : Nat → Nat → Nat) (w aw th : Nat → Nat) : Prop :=
  1 ≤ pl ∧ pl ≤ 4 ∧ fr ≤ 10 ∧ tu < pl ∧ nf ≤ 2 ∧ g < 512 ∧ (fr = 10 → tu = 0 ∧ nf = 0) ∧ (0 < nf → g ≠ 0) ∧ (∀ i, i < 9 → g / 2 ^ i % 2 = 1 → w i < 12) ∧
  (∀ i j, i < 5 → j < 5 → i ≠ j → aw i = aw j → aw i = 0) ∧ (∀ k, k < n → 1 ≤ rv k 4) ∧ (0 < n → 0 < th 0)
/-- bounds -/
def IvB (w aw : Nat → Nat) (pt ft ti bt : Nat → Nat → Nat) (th : Nat → Nat) (rv : Nat → Nat → Nat) : Prop :=
  (∀ i, w i ≤ 12) ∧ (∀ i, aw i ≤ 2) ∧ (∀ k j, pt k j ≤ 9) ∧ (∀ k j, ft k j ≤ 30) ∧ (∀ k j, ti k j ≤ 3) ∧ (∀ k j, bt k j ≤ 2) ∧ (∀ k, th k ≤ 30) ∧ (∀ k j, rv k j ≤ 10)
def Iv (pl tu fr nf g n : Nat) (rv : Nat → Nat → Nat) (w aw : Nat → Nat) (pt ft ti bt : Nat → Nat → Nat) (th : Nat → Nat) : Prop :=
  IvG pl tu fr nf g n rv w aw th ∧ IvB w aw pt ft ti bt th rv ∧ ∀ p, p < 4 → IvP pl tu fr nf g n rv p (pt p) (ft p) (ti p) (bt p) (th p)
section IV
variable {pl tu fr nf g n : Nat} {rv : Nat → Nat → Nat} {w aw : Nat → Nat} {pt ft ti bt : Nat → Nat → Nat} {th : Nat → Nat}
theorem Iv.hp1 (h : Iv pl tu fr nf g n rv w aw pt ft ti bt th) : 1 ≤ pl := h.1.1
theorem Iv.hpl (h : Iv pl tu fr nf g n rv w aw pt ft ti bt th) : pl ≤ 4 := h.1.2.1
theorem Iv.hfr (h : Iv pl tu fr nf g n rv w aw pt ft ti bt th) : fr ≤ 10 := h.1.2.2.1
theorem Iv.htp (h : Iv pl tu fr nf g n rv w aw pt ft ti bt th) : tu < pl := h.1.2.2.2.1
theorem Iv.hnf (h : Iv pl tu fr nf g n rv w aw pt ft ti bt th) : nf ≤ 2 := h.1.2.2.2.2.1
theorem Iv.hg (h : Iv pl tu fr nf g n rv w aw pt ft ti bt th) : g < 512 := h.1.2.2.2.2.2.1
theorem Iv.hend (h : Iv pl tu fr nf g n rv w aw pt ft ti bt th) : fr = 10 → tu = 0 ∧ nf = 0 := h.1.2.2.2.2.2.2.1
theorem Iv.hgn (h : Iv pl tu fr nf g n rv w aw pt ft ti bt th) : 0 < nf → g ≠ 0 := h.1.2.2.2.2.2.2.2.1
theorem Iv.hst (h : Iv pl tu fr nf g n rv w aw pt ft ti bt th) : ∀ i, i < 9 → g / 2 ^ i % 2 = 1 → w i < 12 := h.1.2.2.2.2.2.2.2.2.1
theorem Iv.haw (h : Iv pl tu fr nf g n rv w aw pt ft ti bt th) : ∀ i j, i < 5 → j < 5 → i ≠ j → aw i = aw j → aw i = 0 := h.1.2.2.2.2.2.2.2.2.2.1
theorem Iv.h4 (h : Iv pl tu fr nf g n rv w aw pt ft ti bt th) : ∀ k, k < n → 1 ≤ rv k 4 := h.1.2.2.2.2.2.2.2.2.2.2.1
theorem Iv.hn0 (h : Iv pl tu fr nf g n rv w aw pt ft ti bt th) : 0 < n → 0 < th 0 := h.1.2.2.2.2.2.2.2.2.2.2.2
theorem Iv.hw (h : Iv pl tu fr nf g n rv w aw pt ft ti bt th) : ∀ i, w i ≤ 12 := h.2.1.1
theorem Iv.ha (h : Iv pl tu fr nf g n rv w aw pt ft ti bt th) : ∀ i, aw i ≤ 2 := h.2.1.2.1
theorem Iv.hpt (h : Iv pl tu fr nf g n rv w aw pt ft ti bt th) : ∀ k j, pt k j ≤ 9 := h.2.1.2.2.1
theorem Iv.hft (h : Iv pl tu fr nf g n rv w aw pt ft ti bt th) : ∀ k j, ft k j ≤ 30 := h.2.1.2.2.2.1
theorem Iv.hti (h : Iv pl tu fr nf g n rv w aw pt ft ti bt th) : ∀ k j, ti k j ≤ 3 := h.2.1.2.2.2.2.1
theorem Iv.hbt (h : Iv pl tu fr nf g n rv w aw pt ft ti bt th) : ∀ k j, bt k j ≤ 2 := h.2.1.2.2.2.2.2.1
theorem Iv.hth (h : Iv pl tu fr nf g n rv w aw pt ft ti bt th) : ∀ k, th k ≤ 30 := h.2.1.2.2.2.2.2.2.1
theorem Iv.hrv (h : Iv pl tu fr nf g n rv w aw pt ft ti bt th) : ∀ k j, rv k j ≤ 10 := h.2.1.2.2.2.2.2.2.2
theorem Iv.hP (h : Iv pl tu fr nf g n rv w aw pt ft ti bt th) {p : Nat} (hp : p < 4) : IvP pl tu fr nf g n rv p (pt p) (ft p) (ti p) (bt p) (th p) := h.2.2 p hp
theorem Iv.th29 (h : Iv pl tu fr nf g n rv w aw pt ft ti bt th) (hf : fr < 10) : th tu < 30 := by
  obtain ⟨-, -, -, -, -, -, -, -, -, h9b, -⟩ := h.hP (p := tu) (by have := h.htp; have := h.hpl; omega)
  rw [nx_tu h.htp, if_pos rfl] at h9b
  have := h.hnf
  omega
theorem Iv.ti_tu (h : Iv pl tu fr nf g n rv w aw pt ft ti bt th) (hf : fr < 10) : ti tu fr = nf ∧ bt tu fr = 0 := by
  obtain ⟨-, -, -, -, -, -, h7, -, -, -, -⟩ := h.hP (p := tu) (by have := h.htp; have := h.hpl; omega)
  have := h7 fr hf (by rw [nx_tu h.htp]; exact Nat.le_refl _)
  rw [if_pos ⟨rfl, rfl⟩] at this
  exact ⟨this.2, this.1⟩
theorem up_le {w : Nat → Nat} {k v m : Nat} (h : ∀ j, w j ≤ m) (hv : v ≤ m) : ∀ j, upN w k v j ≤ m := fun j => by
  unfold upN; split
  · exact hv
  · exact h j
theorem up2_le {w : Nat → Nat → Nat} {k m : Nat} {v : Nat → Nat} (h : ∀ k j, w k j ≤ m) (hv : ∀ j, v j ≤ m) : ∀ i j, upN w k v i j ≤ m := fun i j => by
  unfold upN; split
  · exact hv j
  · exact h i j
theorem rw_val (f : Nat) (w : Nat → Nat) : ∀ k i, rwW f w k i = if i < k ∧ mB f i = 1 then w i + 1 else w i
  | 0, i => by simp [rwW]
  | k + 1, i => by
    by_cases q : mB f k = 1
    · rw [rw_yes q]
      by_cases e : i = k
      · subst e; rw [upN_s, rw_val f w i i, if_neg (fun y => by omega), if_pos ⟨by omega, q⟩]
      · rw [upN_n _ _ _ e, rw_val f w k i]
        by_cases r : i < k ∧ mB f i = 1
        · rw [if_pos r, if_pos ⟨by omega, r.2⟩]
        · rw [if_neg r, if_neg (fun y => r ⟨by omega, y.2⟩)]
    · rw [rw_no q, rw_val f w k i]
      by_cases r : i < k ∧ mB f i = 1
      · rw [if_pos r, if_pos ⟨by omega, r.2⟩]
      · rw [if_neg r, if_neg (fun y => r ⟨by
          rcases Nat.lt_or_ge i k with z | z
          · exact z
          · rw [show i = k by omega] at y; exact absurd y.2 q, y.2⟩)]
theorem Iv.rw12 (h : Iv pl tu fr nf g n rv w aw pt ft ti bt th) (b z : Nat) : ∀ i, rwW (feN g b z) w 9 i ≤ 12 := fun i => by
  rw [rw_val]
  have h1 := h.hw i
  split
  · rename_i q
    have h2 := mB_fr (b := b) (z := z) h.hg i
    have h3 := mB_lt g i
    have h4 := h.hst i q.1 (mB_1.mp (by omega))
    omega
  · exact h1
theorem Iv.rwst (h : Iv pl tu fr nf g n rv w aw pt ft ti bt th) (b z : Nat) : ∀ i, i < 9 → roN g b z / 2 ^ i % 2 = 1 → rwW (feN g b z) w 9 i < 12 := fun i hi q => by
  have h2 := mB_fr (b := b) (z := z) h.hg i
  have h3 := mB_lt g i
  have h5 : mB (roN g b z) i = 1 := q
  have h4 := h.hst i hi (mB_1.mp (by omega))
  rw [rw_val, if_neg (fun y => by omega)]
  exact h4
theorem Iv.thr (h : Iv pl tu fr nf g n rv w aw pt ft ti bt th) (hf : fr < 10) {b z : Nat} (hb : b < 5) {tu' fr' nf' g' : Nat} {bt1 : Nat → Nat}
    (hc : (tu' = tu ∧ fr' = fr ∧ nf' = nf + 1 ∧ g' = roN g b z ∧ ¬ roN g b z = 0 ∧ ¬ nf + 1 = 3) ∨ (tu' = (if pl ≤ tu + 1 then 0 else tu + 1) ∧ fr' = (if pl ≤ tu + 1 then fr + 1 else fr) ∧ nf' = 0 ∧ g' = if 10 ≤ fr' then roN g b z else suN (rwW (feN g b z) w 9) 9))
    (hbt : bt1 = if roN g b z = 0 ∧ 0 < pcN (feN g b z) then upN (bt tu) fr (if ti tu fr + 1 = 1 then 2 else 1) else bt tu) :
    Iv pl tu' fr' nf' g' (n + 1) (upN rv n (pk5 tu fr (pcN (feN g b z)) (pcN (roN g b z)) (nf + 1))) (rwW (feN g b z) w 9) (upN (snW aw 5) b 2) (upN pt tu (upN (pt tu) (th tu) (pcN (feN g b z)))) (upN ft tu (if ti tu fr = 0 then upN (ft tu) fr (th tu) else ft tu)) (upN ti tu (upN (ti tu) fr (ti tu fr + 1))) (upN bt tu bt1) (upN th tu (th tu + 1)) := by
  have e1 := h.hp1; have e2 := h.hpl; have e3 := h.hfr; have e4 := h.htp; have e5 := h.hnf; have e6 := h.hg
  have e7 := h.th29 hf
  obtain ⟨e8, e9⟩ := h.ti_tu hf
  have r0 := pcN_0 (ro_lt (b := b) (z := z) e6)
  have f0 := pcN_le (feN g b z)
  have f1 := pcN_le (roN g b z)
  have f2 := pcN_fr (b := b) (z := z) e6
  refine ⟨⟨e1, e2, ?_, ?_, ?_, ?_, ?_, ?_, ?_, ?_, ?_, ?_⟩, ⟨h.rw12 b z, up_le (snW_le h.ha 5) (by omega), up2_le h.hpt (up_le (h.hpt tu) f0), up2_le h.hft ?_, up2_le h.hti (up_le (h.hti tu) (by omega)), up2_le h.hbt ?_, ?_, up2_le h.hrv (pk5_le (by omega) (by omega) (by omega) (by omega) (by omega))⟩, fun p hp => ?_⟩
  · rcases hc with ⟨c1, c2, c3, c4, c5, c6⟩ | ⟨c1, c2, c3, c4⟩
    · omega
    · rw [c2]; split <;> omega
  · rcases hc with ⟨c1, c2, c3, c4, c5, c6⟩ | ⟨c1, c2, c3, c4⟩
    · omega
    · rw [c1]; split <;> omega
  · rcases hc with ⟨c1, c2, c3, c4, c5, c6⟩ | ⟨c1, c2, c3, c4⟩ <;> omega
  · rcases hc with ⟨c1, c2, c3, c4, c5, c6⟩ | ⟨c1, c2, c3, c4⟩
    · rw [c4]; exact ro_lt e6
    · rw [c4]; split
      · exact ro_lt e6
      · exact suN_lt _ 9 (Nat.le_refl _)
  · rcases hc with ⟨c1, c2, c3, c4, c5, c6⟩ | ⟨c1, c2, c3, c4⟩
    · intro q; omega
    · intro q
      rw [c2] at q
      refine ⟨?_, c3⟩
      rw [c1]
      split
      · rfl
      · rename_i y
        rw [if_neg y] at q; omega
  · rcases hc with ⟨c1, c2, c3, c4, c5, c6⟩ | ⟨c1, c2, c3, c4⟩
    · intro _; rw [c4]; exact c5
    · intro q; omega
  · rcases hc with ⟨c1, c2, c3, c4, c5, c6⟩ | ⟨c1, c2, c3, c4⟩
    · rw [c4]; exact h.rwst b z
    · rw [c4]; split
      · exact h.rwst b z
      · intro i hi q
        have q2 : mB (suN (rwW (feN g b z) w 9) 9) i = 1 := q
        rw [mB_su] at q2
        by_cases y : i < 9 ∧ rwW (feN g b z) w 9 i < 12
        · exact y.2
        · rw [if_neg y] at q2; omega
  · intro i j hi hj hij q
    have a1 := h.ha i; have a2 := h.ha j
    by_cases y : i = b
    · subst y
      rw [upN_s, upN_n _ _ _ (Ne.symm hij), snW_val, if_pos hj] at q
      omega
    · rw [upN_n _ _ _ y, snW_val, if_pos hi] at q ⊢
      by_cases x : j = b
      · subst x; rw [upN_s] at q; omega
      · rw [upN_n _ _ _ x, snW_val, if_pos hj] at q
        by_cases v : aw i = aw j
        · have := h.haw i j hi hj hij v; omega
        · omega
  · intro k hk
    by_cases y : k = n
    · subst y; rw [upN_s, pk5_4]; omega
    · rw [upN_n _ _ _ y]; exact h.h4 k (by omega)
  · intro _
    by_cases y : tu = 0
    · subst y; rw [upN_s]; omega
    · rw [upN_n _ _ _ (Ne.symm y)]
      obtain ⟨-, -, -, -, -, -, -, -, h9, -, -⟩ := h.hP (p := 0) (by omega)
      unfold nxF at h9
      rw [if_pos (by omega), if_pos (by omega)] at h9
      omega
  · intro j
    split
    · exact up_le (h.hft tu) (by omega) j
    · exact h.hft tu j
  · intro j
    rw [hbt]
    split
    · exact up_le (h.hbt tu) (by split <;> omega) j
    · exact h.hbt tu j
  · exact up_le h.hth (by omega)
  · by_cases y : p = tu
    · subst y
      rw [upN_s, upN_s, upN_s, upN_s, upN_s]
      refine (h.hP hp).own e4 hf e5 e6 h.hgn f2 ?_ (by rw [hbt]; simp only [r0])
      rcases hc with ⟨c1, c2, c3, c4, c5, c6⟩ | ⟨c1, c2, c3, c4⟩
      · exact Or.inl ⟨c1, c2, c3, by rw [c4], Nat.pos_of_ne_zero (fun q => c5 (r0.mp q))⟩
      · exact Or.inr ⟨c3, by rw [c1, c2]; exact nx_eq e4⟩
    · rw [upN_n _ _ _ y, upN_n _ _ _ y, upN_n _ _ _ y, upN_n _ _ _ y, upN_n _ _ _ y]
      refine (h.hP hp).oth y (pk5_0 _ _ _ _ _) ?_ ?_
      · rcases hc with ⟨c1, c2, c3, c4, c5, c6⟩ | ⟨c1, c2, c3, c4⟩
        · rw [c1, c2]
        · rw [c1, c2]; exact nx_ne e4 y
      · intro q
        rcases hc with ⟨c1, c2, c3, c4, c5, c6⟩ | ⟨c1, c2, c3, c4⟩
        · exact absurd (q.trans c1) y
        · exact c3
theorem Iv.n0 (h : Iv pl tu fr nf g 0 rv w aw pt ft ti bt th) : tu = 0 ∧ fr = 0 ∧ nf = 0 ∧ ∀ p, p < 4 → th p = 0 := by
  have e2 := h.hpl; have e4 := h.htp
  have ht : ∀ p, p < 4 → th p = 0 := fun p hp => (h.hP hp).1
  obtain ⟨-, -, -, -, -, -, -, -, h9, -, h10⟩ := h.hP (p := tu) (by omega)
  have hx := nx_tu (fr := fr) e4
  have t0 := ht tu (by omega)
  have f0 : fr = 0 := by omega
  have u0 : tu = 0 := by
    rcases Nat.eq_zero_or_pos tu with q | q
    · exact q
    · obtain ⟨-, -, -, -, -, -, -, -, k9, -, -⟩ := h.hP (p := 0) (by omega)
      have := ht 0 (by omega)
      unfold nxF at k9
      rw [if_pos (by omega), if_pos q] at k9
      omega
  refine ⟨u0, f0, ?_, ht⟩
  rcases Nat.eq_zero_or_pos nf with q | q
  · exact q
  · have := (h10 rfl q (by omega)).1; omega
theorem Iv.nz (h : Iv pl tu fr nf g n rv w aw pt ft ti bt th) : n = 0 ↔ th 0 = 0 := by
  constructor
  · intro q; subst q; exact h.n0.2.2.2 0 (by omega)
  · intro q
    rcases Nat.eq_zero_or_pos n with y | y
    · exact y
    · have := h.hn0 y; omega
theorem IvP.zero {pl g : Nat} {rv : Nat → Nat → Nat} {p : Nat} {pt ft ti bt : Nat → Nat} (hti : ∀ f, f < 10 → ti f = 0) (hbt : ∀ f, f < 10 → bt f = 0) : IvP pl 0 0 0 g 0 rv p pt ft ti bt 0 := by
  have hx : nxF pl 0 0 p = 0 := by unfold nxF; split <;> simp
  refine ⟨rfl, fun k hk => absurd hk (Nat.not_lt_zero k), fun k hk => absurd hk (Nat.not_lt_zero k), fun f hf q => ?_, fun k hk => absurd hk (Nat.not_lt_zero k), fun f hf _ => hbt f hf, fun f hf _ => ⟨hbt f hf, by rw [hti f hf, ite_self]⟩, fun f hf => ?_, by rw [hx]; exact Nat.le_refl _, Nat.zero_le _, fun _ q => absurd q (Nat.not_lt_zero 0)⟩
  · rw [hti f hf] at q; omega
  · rw [hti f hf]; exact Nat.zero_le _
theorem zeW_val (f : Nat → Nat) : ∀ i j, zeW f i j = if j < i then 0 else f j
  | 0, j => by simp [zeW]
  | i + 1, j => by
    simp only [zeW]
    by_cases e : j = i
    · subst e; rw [upN_s, if_pos (by omega)]
    · rw [upN_n _ _ _ e, zeW_val f i j]
      by_cases h : j < i
      · rw [if_pos h, if_pos (by omega)]
      · rw [if_neg h, if_neg (by omega)]
theorem zeW_le {f : Nat → Nat} {m : Nat} (h : ∀ j, f j ≤ m) (i : Nat) : ∀ j, zeW f i j ≤ m := fun j => by
  rw [zeW_val]; split
  · exact Nat.zero_le _
  · exact h j
theorem Iv.new (h : Iv pl tu fr nf g n rv w aw pt ft ti bt th) : Iv pl 0 0 0 (suN w 9) 0 rv w (zeW aw 5) pt (fun k => zeW (ft k) 10) (fun k => zeW (ti k) 10) (fun k => zeW (bt k) 10) (fun _ => 0) := by
  refine ⟨⟨h.hp1, h.hpl, by omega, h.hp1, by omega, suN_lt _ 9 (Nat.le_refl _), fun q => absurd q (by omega), fun q => absurd q (by omega), fun i hi q => ?_, fun i j hi hj _ _ => by rw [zeW_val, if_pos hi], fun k hk => absurd hk (Nat.not_lt_zero k), fun q => absurd q (by omega)⟩,
    ⟨h.hw, zeW_le h.ha 5, h.hpt, fun k => zeW_le (h.hft k) 10, fun k => zeW_le (h.hti k) 10, fun k => zeW_le (h.hbt k) 10, fun _ => Nat.zero_le _, h.hrv⟩, fun p hp => ?_⟩
  · have q2 : mB (suN w 9) i = 1 := q
    rw [mB_su] at q2
    by_cases y : i < 9 ∧ w i < 12
    · exact y.2
    · rw [if_neg y] at q2; omega
  · exact IvP.zero (fun f hf => by show zeW (ti p) 10 f = 0; rw [zeW_val, if_pos hf]) (fun f hf => by show zeW (bt p) 10 f = 0; rw [zeW_val, if_pos hf])
theorem Iv.add (h : Iv pl tu fr nf g 0 rv w aw pt ft ti bt th) (hp : pl < 4) : Iv (pl + 1) tu fr nf g 0 rv w aw pt ft ti bt th := by
  obtain ⟨z1, z2, z3, z4⟩ := h.n0
  subst z1; subst z2; subst z3
  refine ⟨⟨by omega, hp, by omega, by omega, by omega, h.hg, fun q => absurd q (by omega), fun q => absurd q (by omega), h.hst, h.haw, fun k hk => absurd hk (Nat.not_lt_zero k), fun q => absurd q (by omega)⟩, h.2.1, fun p hp4 => ?_⟩
  obtain ⟨h1, h2, h3, h4, h5, h6, h7, h8, h9, h9b, h10⟩ := h.hP hp4
  have hx : ∀ q, nxF q 0 0 p = 0 := fun q => by unfold nxF; split <;> simp
  rw [z4 p hp4]
  refine IvP.zero (fun f hf => ?_) (fun f hf => ?_)
  · have := (h7 f hf (by rw [hx]; exact Nat.zero_le _)).2; rw [this, ite_self]
  · exact (h7 f hf (by rw [hx]; exact Nat.zero_le _)).1
theorem Iv.rep (h : Iv pl tu fr nf g n rv w aw pt ft ti bt th) (q : Nat) : Iv pl tu fr nf g n rv (upN w q 0) aw pt ft ti bt th := by
  refine ⟨⟨h.hp1, h.hpl, h.hfr, h.htp, h.hnf, h.hg, h.hend, h.hgn, fun i hi y => ?_, h.haw, h.h4, h.hn0⟩, ⟨up_le h.hw (by omega), h.2.1.2⟩, h.2.2⟩
  unfold upN
  split
  · omega
  · exact h.hst i hi y
theorem Iv.init (hp1 : 1 ≤ pl) (hpl : pl ≤ 4) : Iv pl 0 0 0 511 0 (fun _ _ => 0) (fun _ => 0) (fun _ => 0) (fun _ _ => 0) (fun _ _ => 0) (fun _ _ => 0) (fun _ _ => 0) (fun _ => 0) :=
  ⟨⟨hp1, hpl, by omega, hp1, by omega, by omega, fun q => absurd q (by omega), fun q => absurd q (by omega), fun i _ _ => by show (0 : Nat) < 12; omega, fun i j _ _ _ _ => rfl, fun k hk => absurd hk (Nat.not_lt_zero k), fun q => absurd q (by omega)⟩,
    ⟨fun _ => Nat.zero_le _, fun _ => Nat.zero_le _, fun _ _ => Nat.zero_le _, fun _ _ => Nat.zero_le _, fun _ _ => Nat.zero_le _, fun _ _ => Nat.zero_le _, fun _ => Nat.zero_le _, fun _ _ => Nat.zero_le _⟩, fun p hp => IvP.zero (fun _ _ => rfl) (fun _ _ => rfl)⟩
/-- points and scores, told by both sides -/
theorem Iv.os (h : Iv pl tu fr nf g n rv w aw pt ft ti bt th) {p f : Nat} (hp : p < 4) (hf : f < 10) : oS n rv p f = poN (pt p) (ft p) (ti p) (bt p) (th p) f := (h.hP hp).os h.h4 (h.hbt p) hf
theorem Iv.scl (h : Iv pl tu fr nf g n rv w aw pt ft ti bt th) {p : Nat} (hp : p < 4) : scL n rv p = scC pt ft ti bt th p := (h.hP hp).sc h.h4 (h.hbt p) 10 (Nat.le_refl _)
end IV
