/-! THE LAW: what holds at its entry -/
theorem law_gS {args : Array Value} {s : State} {C n : String} {N : Nat} {f : Nat → Int32} {A : Nat → Prop} (hN : N < 2 ^ 31) (h1 : (Cond.laysStatic C n "[I").before args s = true) (h2 : (Cond.initialized C).before args s = true) (h3 : (Cond.arrayOf (.static C n "[I") .int).before args s = true) (h4 : (Cond.eq (.length (.static C n "[I")) (.int (Int32.ofNat N))).before args s = true) (h5 : ∀ j, j < N → (Cond.eq (.elem (.static C n "[I") (.int (Int32.ofNat j))) (.int (f j))).before args s = true) (hA : ∀ a : Nat, a < s.heap.size → ¬ A a) : gS C n N f A s s.heap := by
  obtain ⟨t, e1, e2⟩ := va_Tof (f := fun j => .int (f j)) hN h3 (va_eqt h4) (fun j hj => va_eqt (h5 j hj)) hA
  exact ⟨t, va_Zref h1 h2 e1 hA, e2⟩
theorem law_str {args : Array Value} {s : State} {k : Nat} {tx : String} (h1 : (Cond.stringRef RX4 k tx).before args s = true) (h2 : (Cond.exactly (.string RX4 k) "java/lang/String").before args s = true) : ∃ a, vk_R RX4 k tx a s := by
  obtain ⟨a, c, cA, kA, q1, -⟩ := Cond.exactly_spec (args := args) (first := s) (o := none) (s := s) (idx := []) (t := .string RX4 k) (cls := "java/lang/String") h2
  exact ⟨a, vk_R.of h1 q1⟩

set_option maxHeartbeats 4000000 in
set_option maxRecDepth 100000 in
theorem law_K {p : Program} {s : State} {m : MethodId} {meth : Method} {c : Code} {b L : Nat} {xs : Nat → Int32} (C0 : lw_At p s m meth c b L xs) : ∃ (g : va_G) (cI cZ cQ cR : ClassId), va_K g vwCl (eT (g, cI, cZ, cQ, cR, (b, L, xs))) s ∧ gAA (g, cI, cZ, cQ, cR, (b, L, xs)) s := by
  obtain ⟨hx, hb, hr, hml, hown, hts, hX, hbl, hlocks, hgv⟩ := id C0
  obtain ⟨c0, iS0, hKn0⟩ := u_known (C := RX0) (T := TX0) (N := 3) (n := 3) hts (fun w h => wsL_law_in w (inlX0 w ((by decide +kernel : ∀ w ∈ u_ws RX0 TX0 3, w ∈ wsX00) w h))) (hts (.instantiable RX0 3) (by decide +kernel))
  obtain ⟨c1, iS1, hKn1⟩ := u_known (C := RX2) (T := TX2) (N := 1) (n := 1) hts (fun w h => wsL_law_in w (inlX2 w ((by decide +kernel : ∀ w ∈ u_ws RX2 TX2 1, w ∈ wsX20) w h))) (hts (.instantiable RX2 1) (by decide +kernel))
  obtain ⟨c2, iS2, hKn2⟩ := u_known (C := RX3) (T := TX3) (N := 5) (n := 5) hts (fun w h => wsL_law_in w (inlX3 w ((by decide +kernel : ∀ w ∈ u_ws RX3 TX3 5, w ∈ wsX30) w h))) (hts (.instantiable RX3 5) (by decide +kernel))
  obtain ⟨c3, iS3, hKn3⟩ := u_known (C := RX4) (T := TX4) (N := 7) (n := 7) hts (fun w h => wsL_law_in w (inlX4 w ((by decide +kernel : ∀ w ∈ u_ws RX4 TX4 7, w ∈ wsX40) w h))) (hts (.instantiable RX4 7) (by decide +kernel))
  obtain ⟨c4, iS4, hKn4⟩ := u_known (C := RX5) (T := TX5) (N := 9) (n := 9) hts (fun w h => wsL_law_in w (inlX5 w ((by decide +kernel : ∀ w ∈ u_ws RX5 TX5 9, w ∈ wsX50) w h))) (hts (.instantiable RX5 9) (by decide +kernel))
  obtain ⟨cI, kI, comI, hI1, hI2, hI3⟩ := Cond.arrayClass_spec (hts (.arrayClass .int) (by decide +kernel))
  obtain ⟨cZ, kZ, comZ, hZ1, hZ2, hZ3⟩ := Cond.arrayClass_spec (hts (.arrayClass .boolean) (by decide +kernel))
  obtain ⟨comQ, cQ, kQ, hQ1, hQ2, hQ3, hQ4, hQ5⟩ := Cond.arrayOver_spec (hts (.arrayOver (.object "SkittleStrings$Sheet")) (by decide +kernel))
  obtain ⟨comR, cR, kR, hR1, hR2, hR3, hR4, hR5⟩ := arrayOverA_spec (hts (.arrayOver (.array .int)) (by decide +kernel))
  have hcom : comR = cI := Option.some.inj (hR1.symm.trans hI1)
  refine ⟨(fun k => if k = 0 then c0 else if k = 1 then c1 else if k = 2 then c2 else if k = 3 then c3 else c4, fun k => if k = 0 then iS0 else if k = 1 then iS1 else if k = 2 then iS2 else if k = 3 then iS3 else iS4), cI, cZ, cQ, cR, ⟨?_, ?_⟩, kR, hR3, by rw [hR4, hcom]⟩
  · intro k q hq
    match k, hq with
    | 0, hq => cases hq; exact hKn0
    | 1, hq => cases hq; exact hKn1
    | 2, hq => cases hq; exact hKn2
    | 3, hq => cases hq; exact hKn3
    | 4, hq => cases hq; exact hKn4
    | k + 5, hq => simp [vwCl] at hq
  · intro k q hq
    match k, hq with
    | 0, hq => cases hq; exact ⟨fun n z => ⟨(fun k h => by cases h), kI, hI2, comI, hI3⟩, hI1⟩
    | 1, hq => cases hq; exact ⟨fun n z => ⟨(fun k h => by cases h), kZ, hZ2, comZ, hZ3⟩, hZ1⟩
    | 2, hq => cases hq; exact ⟨fun n z => ⟨(fun k h => by cases h), kQ, hQ3, comQ, hQ4⟩, kQ, comQ, hQ3, hQ4, hQ1, hQ5⟩
    | 3, hq => cases hq; exact ⟨fun n z => ⟨(fun k h => by cases h), kR, hR3, comR, hR4⟩, hR5⟩
    | k + 4, hq => simp [eT] at hq

set_option maxHeartbeats 4000000 in
set_option maxRecDepth 100000 in
theorem law_G1 {p : Program} {s : State} {m : MethodId} {meth : Method} {c : Code} {b L : Nat} {xs : Nat → Int32} (C0 : lw_At p s m meth c b L xs) : gS RX1 "PLACES" 25 tPL (fun q => s.heap.size ≤ q) s s.heap ∧ gS RL "ROWS" 9 tRO (fun q => s.heap.size ≤ q) s s.heap ∧ gS RL "LANES" 9 tLA (fun q => s.heap.size ≤ q) s s.heap ∧ vx_Zq Bundle.tN "UNASSIGNED_STACK" Bundle.steD (fun q => s.heap.size ≤ q) s s.heap ∧ vx_Zq Bundle.tN "SUPPRESSED_SENTINEL" Bundle.listD (fun q => s.heap.size ≤ q) s s.heap := by
  obtain ⟨hx, hb, hr, hml, hown, hts, hX, hbl, hlocks, hgv⟩ := id C0
  have hs := flat_of_before _ hgv
  have hA : ∀ a : Nat, a < s.heap.size → ¬ (fun q : Nat => s.heap.size ≤ q) a := fun a h1 h2 => absurd h1 (Nat.not_lt.mpr h2)
  exact ⟨(law_gS (N := 25) (by decide) (hts _ (by decide +kernel)) (hts _ (by decide +kernel)) (hs _ (by decide +kernel)) (hs _ (by decide +kernel)) (fun j hj => hs _ ((by decide +kernel : ∀ j, j < 25 → Cond.eq (.elem (.static RX1 "PLACES" "[I") (.int (Int32.ofNat j))) (.int (tPL j)) ∈ flatC (Cond.and given_1 narrow_1)) j hj)) (fun a h1 h2 => absurd h1 (Nat.not_lt.mpr h2))), (law_gS (N := 9) (by decide) (hts _ (by decide +kernel)) (hts _ (by decide +kernel)) (hs _ (by decide +kernel)) (hs _ (by decide +kernel)) (fun j hj => hs _ ((by decide +kernel : ∀ j, j < 9 → Cond.eq (.elem (.static RL "ROWS" "[I") (.int (Int32.ofNat j))) (.int (tRO j)) ∈ flatC (Cond.and given_1 narrow_1)) j hj)) (fun a h1 h2 => absurd h1 (Nat.not_lt.mpr h2))), (law_gS (N := 9) (by decide) (hts _ (by decide +kernel)) (hts _ (by decide +kernel)) (hs _ (by decide +kernel)) (hs _ (by decide +kernel)) (fun j hj => hs _ ((by decide +kernel : ∀ j, j < 9 → Cond.eq (.elem (.static RL "LANES" "[I") (.int (Int32.ofNat j))) (.int (tLA j)) ∈ flatC (Cond.and given_1 narrow_1)) j hj)) (fun a h1 h2 => absurd h1 (Nat.not_lt.mpr h2))), vx_Zqof (hts _ (by decide +kernel)) (hts _ (by decide +kernel)) (hs _ (by decide +kernel)) hA, vx_Zqof (hts _ (by decide +kernel)) (hts _ (by decide +kernel)) (hs _ (by decide +kernel)) hA⟩

set_option maxHeartbeats 4000000 in
set_option maxRecDepth 100000 in
theorem law_w0 {p : Program} {s : State} {m : MethodId} {meth : Method} {c : Code} {b L : Nat} {xs : Nat → Int32} (C0 : lw_At p s m meth c b L xs) : gN s := by
  obtain ⟨hx, hb, hr, hml, hown, hts, hX, hbl, hlocks, hgv⟩ := id C0
  have hs := flat_of_before _ hgv
  have hA : ∀ a : Nat, a < s.heap.size → ¬ (fun q : Nat => s.heap.size ≤ q) a := fun a h1 h2 => absurd h1 (Nat.not_lt.mpr h2)
  exact ⟨va_Nw.of rfl (hts _ (by decide +kernel)), va_Nw.of rfl (hts _ (by decide +kernel)), va_Nw.of rfl (hts _ (by decide +kernel)), va_Nw.of rfl (hts _ (by decide +kernel))⟩

set_option maxHeartbeats 4000000 in
set_option maxRecDepth 100000 in
theorem law_w1 {p : Program} {s : State} {m : MethodId} {meth : Method} {c : Code} {b L : Nat} {xs : Nat → Int32} (C0 : lw_At p s m meth c b L xs) : gR s := by
  obtain ⟨hx, hb, hr, hml, hown, hts, hX, hbl, hlocks, hgv⟩ := id C0
  have hs := flat_of_before _ hgv
  have hA : ∀ a : Nat, a < s.heap.size → ¬ (fun q : Nat => s.heap.size ≤ q) a := fun a h1 h2 => absurd h1 (Nat.not_lt.mpr h2)
  exact ⟨law_str (hts _ (by decide +kernel)) (hs _ (by decide +kernel)), law_str (hts _ (by decide +kernel)) (hs _ (by decide +kernel)), law_str (hts _ (by decide +kernel)) (hs _ (by decide +kernel)), law_str (hts _ (by decide +kernel)) (hs _ (by decide +kernel)), law_str (hts _ (by decide +kernel)) (hs _ (by decide +kernel))⟩

set_option maxHeartbeats 4000000 in
set_option maxRecDepth 100000 in
theorem law_w2 {p : Program} {s : State} {m : MethodId} {meth : Method} {c : Code} {b L : Nat} {xs : Nat → Int32} (C0 : lw_At p s m meth c b L xs) : gN2 s := by
  obtain ⟨hx, hb, hr, hml, hown, hts, hX, hbl, hlocks, hgv⟩ := id C0
  have hs := flat_of_before _ hgv
  have hA : ∀ a : Nat, a < s.heap.size → ¬ (fun q : Nat => s.heap.size ≤ q) a := fun a h1 h2 => absurd h1 (Nat.not_lt.mpr h2)
  exact ⟨va_Nw.of rfl (hts _ (by decide +kernel)), va_Nw.of rfl (hts _ (by decide +kernel)), va_Nw.of rfl (hts _ (by decide +kernel)), va_Nw.of rfl (hts _ (by decide +kernel))⟩

set_option maxHeartbeats 4000000 in
set_option maxRecDepth 100000 in
theorem law_w3 {p : Program} {s : State} {m : MethodId} {meth : Method} {c : Code} {b L : Nat} {xs : Nat → Int32} (C0 : lw_At p s m meth c b L xs) : gAO s := by
  obtain ⟨hx, hb, hr, hml, hown, hts, hX, hbl, hlocks, hgv⟩ := id C0
  have hs := flat_of_before _ hgv
  have hA : ∀ a : Nat, a < s.heap.size → ¬ (fun q : Nat => s.heap.size ≤ q) a := fun a h1 h2 => absurd h1 (Nat.not_lt.mpr h2)
  exact hts (.arrayOver (.array .int)) (by decide +kernel)

set_option maxHeartbeats 4000000 in
set_option maxRecDepth 100000 in
theorem law_w4 {p : Program} {s : State} {m : MethodId} {meth : Method} {c : Code} {b L : Nat} {xs : Nat → Int32} (C0 : lw_At p s m meth c b L xs) : gC s := by
  obtain ⟨hx, hb, hr, hml, hown, hts, hX, hbl, hlocks, hgv⟩ := id C0
  have hs := flat_of_before _ hgv
  have hA : ∀ a : Nat, a < s.heap.size → ¬ (fun q : Nat => s.heap.size ≤ q) a := fun a h1 h2 => absurd h1 (Nat.not_lt.mpr h2)
  exact ⟨va_Nw.of rfl (hts _ (by decide +kernel)), va_Nw.of rfl (hts _ (by decide +kernel)), va_Nw.of rfl (hts _ (by decide +kernel)), va_Nw.of rfl (hts _ (by decide +kernel)), va_Nw.of rfl (hts _ (by decide +kernel)), va_Nw.of rfl (hts _ (by decide +kernel))⟩

set_option maxHeartbeats 4000000 in
set_option maxRecDepth 100000 in
theorem law_w5 {p : Program} {s : State} {m : MethodId} {meth : Method} {c : Code} {b L : Nat} {xs : Nat → Int32} (C0 : lw_At p s m meth c b L xs) : va_AO "SkittleStrings$Sheet" s := by
  obtain ⟨hx, hb, hr, hml, hown, hts, hX, hbl, hlocks, hgv⟩ := id C0
  have hs := flat_of_before _ hgv
  have hA : ∀ a : Nat, a < s.heap.size → ¬ (fun q : Nat => s.heap.size ≤ q) a := fun a h1 h2 => absurd h1 (Nat.not_lt.mpr h2)
  exact va_AO.of (hts _ (by decide +kernel))

theorem law_C {p : Program} {s : State} {m : MethodId} {meth : Method} {c : Code} {b L : Nat} {xs : Nat → Int32} (C0 : lw_At p s m meth c b L xs) (hL : L ≤ 260) : ∃ E : EV, E.2.2.2.2.2.1 = b ∧ CX p s m #[Value.ref b] meth c cL_law 28 RL wsL_law (some .boolean) E (fun q => s.heap.size ≤ q) := by
  obtain ⟨g, cI, cZ, cQ, cR, hK, hAA⟩ := law_K C0
  obtain ⟨g1, g2, g3, g4, g5⟩ := law_G1 C0
  obtain ⟨hx, hb, hr, hml, hown, hts, hX, hbl, hlocks, hgv⟩ := id C0
  obtain ⟨scr, x1, x2, x3, x4, x5⟩ := hX
  have hT : va_T .int b L (fun j => .int (xs j)) (fun q => s.heap.size ≤ q) s s.heap := ⟨scr, x1, x2, x3, Nat.le_of_eq x4.symm, by rw [x4], x5, Nat.not_le.mpr hbl⟩
  exact ⟨(g, cI, cZ, cQ, cR, (b, L, xs)), rfl, ⟨hx, hb, hml, hown, fun w h => hts w (wsL_law_in w h), hr, hlocks, hK, ⟨g1, ⟨hT, hL⟩, g2, g3, g4, g5, law_w0 C0, law_w1 C0, law_w2 C0, law_w3 C0, hAA, law_w4 C0, law_w5 C0⟩, fun q h => h⟩⟩
