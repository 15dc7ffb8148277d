/-! WHAT A THROW CHANGES -/
section TF
variable {pl tu fr nf g n : Nat} {rv : Nat → Nat → Nat}
theorem IvP.grow {pt ft ti bt : Nat → Nat} {th : Nat} (h : IvP pl tu fr nf g n rv tu pt ft ti bt th) (hpl : tu < pl) (hf : fr < 10) {N : Nat} {bt' : Nat → Nat} (hbt : ∀ f, f ≠ fr → bt' f = bt f) : scN pt ft ti bt th 10 + N ≤ scN (upN pt th N) (if ti fr = 0 then upN ft fr th else ft) (upN ti fr (ti fr + 1)) bt' (th + 1) 10 := by
  obtain ⟨h1, h2, h3, h4, h5, h6, h7, h8, h9, h9b, h10⟩ := h
  have hx : nxF pl tu fr tu = fr := nx_tu hpl
  obtain ⟨hb0, ht0⟩ := h7 fr hf (by omega)
  rw [if_pos ⟨rfl, rfl⟩] at ht0
  generalize ha : (if ti fr = 0 then upN ft fr th else ft) = ft'
  have hane : ∀ f, f ≠ fr → ft' f = ft f := fun f q => by
    rw [← ha]; split
    · exact upN_n _ _ _ q
    · rfl
  have hafr : ft' fr + nf = th ∧ (0 < nf → ft' fr = ft fr) := by
    rw [← ha]
    by_cases q : ti fr = 0
    · rw [if_pos q, upN_s]; exact ⟨by omega, fun y => by omega⟩
    · rw [if_neg q]; exact ⟨(h10 rfl (by omega) hf).1, fun _ => rfl⟩
  have hcg : ∀ a k, (k = 0 ∨ a + k ≤ th) → smN (upN pt th N) a k = smN pt a k := fun a k q => smN_congr a k (fun j y1 y2 => upN_n _ _ _ (by omega))
  have one : ∀ f, f < 10 → poN pt ft ti bt th f + (if f = fr then N else 0) ≤ poN (upN pt th N) ft' (upN ti fr (ti fr + 1)) bt' (th + 1) f := by
    intro f hf9
    unfold poN
    by_cases q : f = fr
    · subst q
      rw [if_pos rfl, upN_s, ht0, hb0]
      rw [show min (th + 1) (ft' f + (nf + 1) + bt' f) - ft' f = nf + 1 by have := hafr.1; omega]
      simp only [smN]
      rw [hcg _ _ (Or.inr (by have := hafr.1; omega)), hafr.1, upN_s]
      by_cases y : nf = 0
      · rw [y, show min th (ft f + 0 + 0) - ft f = 0 by omega]; simp only [smN]; omega
      · have z := (h10 rfl (by omega) hf).1
        rw [show min th (ft f + nf + 0) - ft f = nf by omega, hafr.2 (by omega)]; omega
    · rw [if_neg q, hane f q, upN_n _ _ _ q, hbt f q]
      have z := smN_mono (upN pt th N) (ft f) (k := min th (ft f + ti f + bt f) - ft f) (min (th + 1) (ft f + ti f + bt f) - ft f) (by omega)
      rw [hcg _ _ (by omega)] at z
      exact z
  have key : ∀ i, i ≤ 10 → scN pt ft ti bt th i + (if fr < i then N else 0) ≤ scN (upN pt th N) ft' (upN ti fr (ti fr + 1)) bt' (th + 1) i := by
    intro i
    induction i with
    | zero => intro _; simp [scN]
    | succ i ih =>
      intro hi
      have i1 := ih (by omega)
      have i2 := one i (by omega)
      simp only [scN]
      by_cases q : i = fr
      · subst q; rw [if_pos rfl] at i2; rw [if_neg (by omega)] at i1; rw [if_pos (by omega)]; omega
      · rw [if_neg q] at i2
        by_cases y : fr < i
        · rw [if_pos y] at i1; rw [if_pos (by omega)]; omega
        · rw [if_neg y] at i1; rw [if_neg (by omega)]; omega
  have e := key 10 (Nat.le_refl _)
  rw [if_pos (by omega)] at e
  exact e
theorem Iv.grow {w aw : Nat → Nat} {pt ft ti bt : Nat → Nat → Nat} {th : Nat → Nat} (h : Iv pl tu fr nf g n rv w aw pt ft ti bt th) (hf : fr < 10) (N R : Nat) : scC pt ft ti bt th tu + N ≤ scC (upN pt tu (upN (pt tu) (th tu) N)) (upN ft tu (if ti tu fr = 0 then upN (ft tu) fr (th tu) else ft tu)) (upN ti tu (upN (ti tu) fr (ti tu fr + 1))) (upN bt tu (fB (bt tu) (ti tu) fr N R)) (upN th tu (th tu + 1)) tu := by
  unfold scC
  rw [upN_s, upN_s, upN_s, upN_s, upN_s]
  refine (h.hP (p := tu) (by have := h.htp; have := h.hpl; omega)).grow h.htp hf (fun f q => ?_)
  unfold fB
  split
  · exact upN_n _ _ _ q
  · rfl
theorem thr_sm {R : Nat} {w9 : Nat → Nat} (hp1 : 1 ≤ pl) (hpl : pl ≤ 4) (htp : tu < pl) (hf : fr < 10) : (tnI pl (fF pl tu fr nf R) (fT pl tu nf R) = nI tu ∧ fF pl tu fr nf R = fr → fN nf R = nf + 1 ∧ fG pl tu fr nf R w9 = R ∧ R ≠ 0 ∧ nf + 1 ≠ 3) ∧ (¬ (tnI pl (fF pl tu fr nf R) (fT pl tu nf R) = nI tu ∧ fF pl tu fr nf R = fr) → fN nf R = 0 ∧ (R = 0 ∨ nf + 1 = 3)) := by
  unfold fF fT fN fG
  by_cases c : R = 0 ∨ nf + 1 = 3
  · rw [if_pos c, if_pos c, if_pos c, if_pos c]
    refine ⟨fun q => ?_, fun _ => ⟨rfl, c⟩⟩
    exfalso
    obtain ⟨q1, q2⟩ := q
    by_cases y : pl ≤ tu + 1
    · rw [if_pos y] at q2; omega
    · rw [if_neg y, if_neg y, tnI, if_neg (by omega), if_neg (by omega)] at q1
      have := (nI_eq (by omega) (by omega)).mp q1
      omega
  · rw [if_neg c, if_neg c, if_neg c, if_neg c]
    refine ⟨fun _ => ⟨rfl, rfl, fun q => c (Or.inl q), fun q => c (Or.inr q)⟩, fun q => ?_⟩
    exact absurd ⟨by rw [tnI, if_neg (by omega), if_neg (by omega)], rfl⟩ q
theorem rw_9 {g b z : Nat} {w : Nat → Nat} {q : Nat} (h : q < 9) : rwW (feN g b z) w 9 q = w q + mB (feN g b z) q := by
  rw [rw_val]
  have := mB_01 (feN g b z) q
  by_cases y : mB (feN g b z) q = 1
  · rw [if_pos ⟨h, y⟩, y]
  · rw [if_neg (fun x => y x.2), show mB (feN g b z) q = 0 by omega]; rfl
end TF
