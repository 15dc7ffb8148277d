/-! FRAMES, SCORES, THROWS OF THE LAW'S OWN ALLEY -/
theorem oK_le (n : Nat) (rv : Nat → Nat → Nat) (p f : Nat) : oK n rv p f ≤ 1 := by
  unfold oK; split
  · omega
  · split <;> omega
theorem oP_le (n : Nat) (rv : Nat → Nat → Nat) (p f : Nat) : oP n rv p f ≤ 1 := by
  unfold oP; split
  · omega
  · split <;> omega
theorem scL_le {rv : Nat → Nat → Nat} (h : ∀ k j, rv k j ≤ 10) {n : Nat} (hn : n ≤ 120) (p : Nat) : scL n rv p ≤ 24000 := scS_le h hn p 10
def dnI (pl k : Nat) : Int32 := if k < pl then nI (pl - 1 - k) else -1
theorem dn_step {pl k : Nat} (h : k < pl) : nI (pl - 1 - k) + Int32.ofInt (-1) = dnI pl (k + 1) := by
  unfold dnI
  by_cases q : k + 1 < pl
  · rw [if_pos q, z_dec1 (by omega)]
    congr 1 <;> omega
  · rw [if_neg q, show pl - 1 - k = 0 by omega]; decide
theorem bl_a {sc : Nat → Nat} {pl k : Nat} (h : ¬ blB sc pl k < 9) : blB sc pl (k + 1) = pl - 1 - k := by simp only [blB]; rw [if_neg h]
theorem bl_b {sc : Nat → Nat} {pl k : Nat} (h : blB sc pl k < 9) (h2 : sc (blB sc pl k) ≤ sc (pl - 1 - k)) : blB sc pl (k + 1) = pl - 1 - k := by simp only [blB]; rw [if_pos h, if_pos h2]
theorem bl_c {sc : Nat → Nat} {pl k : Nat} (h : blB sc pl k < 9) (h2 : ¬ sc (blB sc pl k) ≤ sc (pl - 1 - k)) : blB sc pl (k + 1) = blB sc pl k := by simp only [blB]; rw [if_pos h, if_neg h2]
theorem bl_lt (sc : Nat → Nat) (pl : Nat) : ∀ k, blB sc pl k < 9 → blB sc pl k ≤ pl - 1
  | 0, h => absurd h (by simp [blB])
  | k + 1, h => by
    by_cases q : blB sc pl k < 9
    · by_cases r : sc (blB sc pl k) ≤ sc (pl - 1 - k)
      · rw [bl_b q r]; omega
      · rw [bl_c q r]; exact bl_lt sc pl k q
    · rw [bl_a q]; omega
theorem pc_sub {g b z : Nat} (hg : g < 512) : nI (pcN g) - nI (pcN (roN g b z)) = nI (pcN (feN g b z)) := by
  have h := pcN_fr (b := b) (z := z) hg
  rw [pk_sub (by omega)]
  congr 1
  omega
def pk5 (a b c d e : Nat) : Nat → Nat := upN (upN (upN (upN (upN (fun _ => 0) 0 a) 1 b) 2 c) 3 d) 4 e
def prO (ra : Nat → Nat) (i : Nat) : Nat → Option Nat := fun k => if k < i then some (ra k) else none
theorem prO_0 (ra : Nat → Nat) : prO ra 0 = fun _ => none := funext fun k => if_neg (Nat.not_lt_zero k)
theorem prO_s (ra : Nat → Nat) (i : Nat) : va_up (prO ra i) i (some (ra i)) = prO ra (i + 1) := by
  funext k
  unfold va_up prO
  by_cases h : k = i
  · subst h; rw [if_pos rfl, if_pos (by omega)]
  · rw [if_neg h]
    by_cases q : k < i
    · rw [if_pos q, if_pos (by omega)]
    · rw [if_neg q, if_neg (by omega)]
theorem prO_n {ra : Nat → Nat} {n q j : Nat} (h : j < n + 1) : va_up (prO ra n) n (some q) j = some (upN ra n q j) := by
  unfold va_up prO upN
  by_cases e : j = n
  · rw [if_pos e, if_pos e]
  · rw [if_neg e, if_neg e, if_pos (by omega)]
theorem WD.cutT {E : EV} {A : Nat → Prop} {s : State} {X pl : va_W} {H : Heap} {locs : List Loc} (h : WD E A s (X ++ pl) H locs) : WD E A s X H locs :=
  have key : ∀ (k : Nat) (q : Nat × va_E), X[k]? = some q → (X ++ pl)[id k]? = some q := fun k q hk => (List.getElem?_append_left (List.getElem?_eq_some_iff.mp hk).1).trans hk
  ⟨h.1.by id key, h.2.1.by id key (fun i j _ _ e => e), h.2.2⟩
/-- the row that was made goes to the rows of the game -/
theorem WD.pushT {E : EV} {A : Nat → Prop} {s : State} {X : va_W} {q n : Nat} {r : Nat → Nat} {ra : Nat → Nat} {rv : Nat → Nat → Nat} {H : Heap} {locs : List Loc} (h : WD E A s ((X ++ [(q, aI E 5 r)]) ++ plR E n ra rv) H locs) : WD E A s (X ++ plR E (n + 1) (upN ra n q) (upN rv n r)) H locs := by
  have h2 : WD E A s ((X ++ plR E n ra rv) ++ [(q, aI E 5 r)]) H locs := ⟨h.1.swap, h.2.1.swap, h.2.2⟩
  have e : (X ++ plR E n ra rv) ++ [(q, aI E 5 r)] = X ++ plR E (n + 1) (upN ra n q) (upN rv n r) := by
    rw [List.append_assoc]
    congr 1
    show _ = (List.range (n + 1)).map _
    rw [List.range_succ, List.map_append, List.map_cons, List.map_nil, upN_s, upN_s]
    congr 1
    apply List.map_congr_left
    intro k hk
    have hk2 : k < n := List.mem_range.mp hk
    rw [upN_n _ _ _ (by omega), upN_n _ _ _ (by omega)]
  exact e ▸ h2
