/-! THE CLASS ITSELF, on numbers -/
theorem z_nm {a : Nat} (h : a < 2 ^ 31) : ¬ nI a = -1 := fun q => by
  have := congrArg Int32.toInt q
  rw [nI_toInt h] at this
  have e : (-1 : Int32).toInt = -1 := by decide
  omega
theorem z4 {k : Nat} (h : k < 4) : k = 0 ∨ k = 1 ∨ k = 2 ∨ k = 3 := by omega
def scC (pt ft ti bt : Nat → Nat → Nat) (th : Nat → Nat) (k : Nat) : Nat := scN (pt k) (ft k) (ti k) (bt k) (th k) 10
theorem scC_le {pt ft ti bt : Nat → Nat → Nat} {th : Nat → Nat} (h : ∀ k j, pt k j ≤ 9) (ht : ∀ k, th k ≤ 30) (k : Nat) : scC pt ft ti bt th k ≤ 2700 := scN_le (h k) (ht k) 10
def suC (sc : Nat → Nat) : Nat → Nat
  | 0 => 0
  | i + 1 => suC sc i + sc i
def dgT (d : Int64) (pt ft ti bt : Nat → Nat → Nat) (th : Nat → Nat) : Nat → Int64
  | 0 => d
  | k + 1 => dgS (dgT d pt ft ti bt th k) (pt k) (ft k) (ti k) (bt k) (th k)
theorem fiM_new {sc : Nat → Nat} {i : Nat} (hs : ∀ j, sc j < 2 ^ 31) (h : ¬ nI (sc i) ≤ fiM sc i) : fiB sc (i + 1) = i ∧ fiM sc (i + 1) = (if i < 9 then nI (sc i) else -1) := by
  have h2 : fiB sc (i + 1) = i := by
    rw [fiM_le hs] at h
    by_cases q : fiB sc i < 9
    · exact fiB_up q (Classical.byContradiction fun z => h ⟨q, z⟩)
    · exact fiB_new q
  refine ⟨h2, ?_⟩
  unfold fiM
  rw [h2]
theorem fiM_keep {sc : Nat → Nat} {i : Nat} (hs : ∀ j, sc j < 2 ^ 31) (h : nI (sc i) ≤ fiM sc i) : fiB sc (i + 1) = fiB sc i ∧ fiM sc (i + 1) = fiM sc i := by
  rw [fiM_le hs] at h
  have h2 := fiB_keep h.1 h.2
  refine ⟨h2, ?_⟩
  unfold fiM
  rw [h2]
