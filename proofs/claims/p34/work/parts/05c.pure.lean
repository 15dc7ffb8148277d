/-! WHAT THE METHODS OF ALLEY, RACK AND SHEET WORK OUT, on numbers -/
def suN (w : Nat → Nat) : Nat → Nat
  | 0 => 0
  | i + 1 => if 12 ≤ w i then suN w i else suN w i ||| 2 ^ i
theorem suN_lt (w : Nat → Nat) : ∀ i, i ≤ 9 → suN w i < 512
  | 0, _ => Nat.lt_of_le_of_lt (Nat.le_refl 0) (by decide)
  | i + 1, h => by
    have ih := suN_lt w i (by omega)
    simp only [suN]
    split
    · exact ih
    · exact Nat.or_lt_two_pow (n := 9) ih (Nat.pow_lt_pow_right (by decide) (by omega))
def rwW (f : Nat) (w : Nat → Nat) : Nat → Nat → Nat
  | 0 => w
  | i + 1 => if f / 2 ^ i % 2 = 1 then upN (rwW f w i) i (rwW f w i i + 1) else rwW f w i
def bkN (w : Nat → Nat) : Nat → Nat
  | 0 => 0
  | i + 1 => if 12 ≤ w i then bkN w i + 1 else bkN w i
def biN (g : Nat) (w : Nat → Nat) : Nat → Nat
  | 0 => 0
  | i + 1 => if 12 ≤ w i + (if g / 2 ^ i % 2 = 1 then 1 else 0) then biN g w i + 1 else biN g w i
def mwM (w : Nat → Nat) : Nat → Int32
  | 0 => -1
  | i + 1 => if 12 ≤ w i then mwM w i else if nI (w i) ≤ mwM w i then mwM w i else nI (w i)
def mwF (w : Nat → Nat) : Nat → Int32
  | 0 => -1
  | i + 1 => if 12 ≤ w i then mwF w i else if nI (w i) ≤ mwM w i then mwF w i else nI i
def dgA (d : Int64) (g : Nat) (w : Nat → Nat) : Nat → Int64
  | 0 => d
  | i + 1 => (dgA d g w i * (31 : Int64) + lN (if g / 2 ^ i % 2 = 1 then 1 else 0)) * (31 : Int64) + lN (w i)
def snW (aw : Nat → Nat) : Nat → Nat → Nat
  | 0 => aw
  | i + 1 => upN (snW aw i) i (snW aw i i - 1)
theorem snW_le {aw : Nat → Nat} {k : Nat} (h : ∀ j, aw j ≤ k) : ∀ i j, snW aw i j ≤ k
  | 0, j => h j
  | i + 1, j => by
    have ih := snW_le h i
    simp only [snW, upN]
    split
    · have := ih i; omega
    · exact ih j
theorem z_max0 {a : Nat} (h : a < 2 ^ 31) : (if nI 0 < nI a - nI 1 then nI a - nI 1 else nI 0) = nI (a - 1) := by
  by_cases q : a = 0
  · subst q; decide
  · rw [pk_sub (by omega : 1 ≤ a)]
    by_cases r : a = 1
    · subst r; decide
    · rw [if_pos ((nI_ltI (by decide) (by omega)).mpr (by omega))]
def zeW (f : Nat → Nat) : Nat → Nat → Nat
  | 0 => f
  | i + 1 => upN (zeW f i) i 0
def dgR (d : Int64) (aw : Nat → Nat) : Nat → Int64
  | 0 => d
  | i + 1 => dgR d aw i * (31 : Int64) + lN (aw i)
def smN (pt : Nat → Nat) (a : Nat) : Nat → Nat
  | 0 => 0
  | k + 1 => smN pt a k + pt (a + k)
theorem smN_le {pt : Nat → Nat} (h : ∀ j, pt j ≤ 9) (a : Nat) : ∀ k, smN pt a k ≤ 9 * k
  | 0 => Nat.le_refl 0
  | k + 1 => by
    have := smN_le h a k
    have := h (a + k)
    simp only [smN]; omega
/-- the points of a frame, of the class -/
def poN (pt ft ti bt : Nat → Nat) (th f : Nat) : Nat := smN pt (ft f) (min th (ft f + ti f + bt f) - ft f)
theorem poN_le {pt ft ti bt : Nat → Nat} {th : Nat} (h : ∀ j, pt j ≤ 9) (ht : th ≤ 30) (f : Nat) : poN pt ft ti bt th f ≤ 270 := by
  have := smN_le h (ft f) (min th (ft f + ti f + bt f) - ft f)
  unfold poN; omega
def scN (pt ft ti bt : Nat → Nat) (th : Nat) : Nat → Nat
  | 0 => 0
  | i + 1 => scN pt ft ti bt th i + poN pt ft ti bt th i
theorem scN_le {pt ft ti bt : Nat → Nat} {th : Nat} (h : ∀ j, pt j ≤ 9) (ht : th ≤ 30) : ∀ i, scN pt ft ti bt th i ≤ 270 * i
  | 0 => Nat.le_refl 0
  | i + 1 => by
    have := scN_le (ft := ft) (ti := ti) (bt := bt) h ht i
    have := poN_le (ft := ft) (ti := ti) (bt := bt) h ht i
    simp only [scN]; omega
def fbN (bt : Nat → Nat) (v : Nat) : Nat → Nat
  | 0 => 0
  | i + 1 => if bt i = v then fbN bt v i + 1 else fbN bt v i
theorem fbN_le (bt : Nat → Nat) (v : Nat) : ∀ i, fbN bt v i ≤ i
  | 0 => Nat.le_refl 0
  | i + 1 => by
    have := fbN_le bt v i
    simp only [fbN]; split <;> omega
def dgP (d : Int64) (f : Nat → Nat) : Nat → Int64
  | 0 => d
  | i + 1 => dgP d f i * (31 : Int64) + lN (f i)
def dgS (d : Int64) (pt ft ti bt : Nat → Nat) (th : Nat) : Int64 := dgP ((((d * (31 : Int64) + lN th) * (31 : Int64) + lN (scN pt ft ti bt th 10)) * (31 : Int64) + lN (fbN bt 2 10)) * (31 : Int64) + lN (fbN bt 1 10)) (poN pt ft ti bt th) 10
