/-! THE CLAIM OUT OF ONE WALK OF THE LAW: the frame, as given -/
/-! THE CLAIM OUT OF ONE WALK OF THE LAW'S BODY. Your part is whole_start (and what it stands on); all else here is the same for every law, but numbers. -/
def R_law : String := "SkittleStringsLaw"
def lw_P (b : Addr) (xs : List Int32) (args : Array Value) (s : State) : Prop := args = #[.ref b] ∧ s.IntsAt b xs ∧ xs.length ≤ 1536 ∧ (Jvm.Cond.and given_1 narrow_1).before args s = true
/-- what a walk over the start with the record d0 says of its end, said of the start itself -/
theorem lw_closed {s t : State} {o : Outcome} {d0 : Drawn} {L : List Loc} {k n : Nat} (hd0 : s.drawn.sameBut d0 lw_cs) (hv : ∃ v, o = .returned v) (hW : (s.setDrawn d0).WarmedH t.vm) (hs : (s.setDrawn d0).sameButNew ({ t with vm := s.vm } : State) L k n) : State.butDraws s t lw_cs (fun t1 => Framed s o t1 L k n) := by
  have h2 : t.drawn = d0 := congrArg State.drawn hs.1
  refine ⟨⟨hv, hW, State.sameButNew.setDrawn hs s.drawn⟩, ?_, by decide⟩
  rw [h2]
  exact hd0
def lw_Q (_ : Array Value) (s : State) (o : Outcome) (t : State) : Prop := o = .returned (some (.int 1)) ∧ State.butDraws s t lw_cs (fun t1 => Framed s o t1 [] 601024 7293033)
def lw_Z (below : List Frame) (a : Array Value) (s : State) : State → Prop := fun t => ∃ o, t.status = .running ∧ Ended t below o ∧ lw_Q a s o t
/-- the law's own end, with 1 on the stack, nothing written that was there before, its room as the claim has it; d0: the record of draws at this point (at the entry s.drawn: begin with 'refine W.base ?_' and 'have hd0 := Drawn.sameBut.refl s.drawn lw_cs') -/
theorem lw_ret {p : Program} {l : Launch} {e : Env} {s : State} {m : MethodId} {below : List Frame} {meth : Method} {c : Code} {b : Nat} {d0 : Drawn} (hd0 : s.drawn.sameBut d0 lw_cs) (hx : p.tables.exec = Jvm.exec) (hb : c.code = code) (hr : meth.sig.returnType = ret) (hlocks : meth.locks = false) {pc : Nat} {H : Heap} {ls : Array Slot} (hdg : decode code pc = .ok (.ireturn, 1)) : W p l e room_1 (s.setDrawn d0) m #[Value.ref b] below meth c H [] 601024 7293033 (lw_Z below #[Value.ref b] s) (F0 m pc ls [.int 1]) := by
  intro T hT X
  obtain ⟨fs, hret, hrun, hended, hW, hframe⟩ := X.leave (v := some (.int 1)) (hlocks := hlocks) (fun h => by rw [hr] at h; cases h)
  have hmeth' : T.vm.method? m = some meth := X.method'
  refine ⟨T.setFrames fs, ?_, .returned (some (.int 1)), hrun, hended, rfl, lw_closed hd0 ⟨_, rfl⟩ hW hframe⟩
  jvm_step X.here [X.here.top, hx, hb, hdg, hmeth', hr, ret, narrow_b1]
  (try refine ⟨rfl, ?_⟩); (try refine ⟨rfl, ?_⟩)
  first | (intro acts; rw [hret _ acts rfl rfl rfl]) | rw [hret _ _ rfl rfl rfl]
  exact Steps.refl _
/-- what holds at the law's entry: the machine, the code, the tables' words (any of lw_tbl by 'hts w (by decide +kernel)'), the script of L ints xs at the cell b, what the Statement gives of the start (any of its parts by flat_of_before) -/
def lw_At (p : Program) (s : State) (m : MethodId) (meth : Method) (c : Code) (b L : Nat) (xs : Nat → Int32) : Prop :=
  p.tables.exec = Jvm.exec ∧ c.code = code ∧ meth.sig.returnType = ret ∧ c.maxLocals = 9 ∧ s.vm.findClass R_law = some m.cls ∧ (∀ w ∈ lw_tbl, w.before #[Value.ref b] s = true) ∧ va_X b L xs s s.heap ∧ b < s.heap.size ∧ meth.locks = false ∧ (Jvm.Cond.and given_1 narrow_1).before #[Value.ref b] s = true
/-! THE LAW: its own rows -/
section LR
variable {p : Program} {l : Launch} {e : Env} {R : Room} {s : State} {m : MethodId} {args : Array Value} {below : List Frame} {meth : Method} {c : Code} {H : Heap} {locs : List Loc} {cells slots : Nat} {Q : State → Prop}
variable {cc : ByteArray} {pc nL : Nat} {ls : Array Slot} {rest st0 : List Value} {own : String} {Ts : List Cond} {ret : Option FieldType} {E : EV} {A : Nat → Prop} {w : va_W}
theorem x_sld (C : CX p s m args meth c cc nL own Ts ret E A) {b0 L : Nat} {xs : Nat → Int32} (hX : va_X b0 L xs s s.heap) (hbl : b0 < s.heap.size) (hbA : ¬ A b0) (hW : WD E A s w H locs) {i : Int32} (j : Nat) (hi : i = nI j) (hj : j < L) (hL : L ≤ 1536) (hdg : decode cc pc = .ok (.iaload, 1))
    (kk : W p l e R s m args below meth c H locs cells slots Q (F0 m (pc + 1) ls (.int (xs j) :: rest))) : W p l e R s m args below meth c H locs cells slots Q (F0 m pc ls (.int i :: .ref b0 :: rest)) := by
  subst hi
  refine va_sld C.x C.b hX hbl hbA hW.2.2 (vp_in_nI hj (by omega)) hdg ?_
  rw [nI_clamp (by omega)]
  exact kk
theorem x_slen (C : CX p s m args meth c cc nL own Ts ret E A) {b0 L : Nat} {xs : Nat → Int32} (hX : va_X b0 L xs s s.heap) (hbl : b0 < s.heap.size) (hbA : ¬ A b0) (hW : WD E A s w H locs) (hdg : decode cc pc = .ok (.arraylength, 1))
    (kk : W p l e R s m args below meth c H locs cells slots Q (F0 m (pc + 1) ls (.int (nI L) :: rest))) : W p l e R s m args below meth c H locs cells slots Q (F0 m pc ls (.ref b0 :: rest)) :=
  va_slen C.x C.b hX hbl hbA hW.2.2 hdg kk
theorem x_tod {x y : UInt64} (h : x = y) (k : W p l e R s m args below meth c H locs cells slots Q (F0 m pc ls (.double y :: rest))) : W p l e R s m args below meth c H locs cells slots Q (F0 m pc ls (.double x :: rest)) := h ▸ k
theorem x_same (C : CX p s m args meth c cc nL own Ts ret E A) {a b : Int32} (hab : a = b) {off : Int} {tgt : Nat} (hdg : decode cc pc = .ok (.if_icmp .eq off, 3)) (ht : (pc : Int) + off = (tgt : Int))
    (kt : W p l e R s m args below meth c H locs cells slots Q (F0 m tgt ls rest)) : W p l e R s m args below meth c H locs cells slots Q (F0 m pc ls (.int b :: .int a :: rest)) :=
  lv_icmp_eq C.x C.b hdg ht (fun _ => kt) (fun q => absurd hab q)
end LR
theorem z_of (x : Int32) : nI x.toBitVec.toNat = x := Int32.toBitVec_inj.mp (by simp [nI])
theorem z_and31 (x : Int32) : ∃ j : Nat, j < 32 ∧ x &&& nI 31 = nI j := by
  refine ⟨x.toBitVec.toNat &&& 31, ?_, ?_⟩
  · rw [show (31 : Nat) = 2 ^ 5 - 1 from rfl, Nat.and_two_pow_sub_one_eq_mod]; omega
  · conv => lhs; rw [← z_of x]
    rw [z_and]
theorem z_end {L i : Nat} (hL : L ≤ 1536) (hi : i ≤ 1536) (h : L < i + 3) : nI L - nI 3 < nI i := by
  by_cases q : 3 ≤ L
  · rw [pk_sub q, nI_ltI (by omega) (by omega)]; omega
  · have e : L = 0 ∨ L = 1 ∨ L = 2 := by omega
    rw [Int32.lt_iff_toInt_lt, nI_toInt (by omega)]
    rcases e with rfl | rfl | rfl
    · rw [show (nI 0 - nI 3).toInt = -3 by decide]; omega
    · rw [show (nI 1 - nI 3).toInt = -2 by decide]; omega
    · rw [show (nI 2 - nI 3).toInt = -1 by decide]; omega
theorem z_goon {L i : Nat} (hL : L ≤ 1536) (hi : i ≤ 1536) (h : ¬ L < i + 3) : ¬ nI L - nI 3 < nI i := by
  rw [pk_sub (by omega : 3 ≤ L), nI_ltI (by omega) (by omega)]; omega
/-- an int of the script: in a range, or not -/
theorem z_rng (v : Int32) (k : Nat) (hk : 0 < k) (hk2 : k < 2 ^ 31) : (∃ q : Nat, q < k ∧ v = nI q) ∨ ((v < 0 ∨ nI k ≤ v) ∧ ¬ (nI 0 ≤ v ∧ v ≤ nI (k - 1))) := by
  by_cases h : v < 0
  · refine Or.inr ⟨Or.inl h, fun q => ?_⟩
    exact absurd h (Int32.not_lt.mpr q.1)
  · obtain ⟨j, hj, rfl⟩ := nI_of h
    by_cases h2 : j < k
    · exact Or.inl ⟨j, h2, rfl⟩
    · refine Or.inr ⟨Or.inr ((nI_leI hk2 hj).mpr (by omega)), fun q => ?_⟩
      have := (nI_leI hj (by omega)).mp q.2
      omega
theorem z_rngP (v : Int32) (pl : Nat) (hp : pl ≤ 4) : (∃ q : Nat, q < pl ∧ v = nI q) ∨ ((v < 0 ∨ nI pl ≤ v) ∧ ¬ (nI 0 ≤ v ∧ v ≤ nI pl - nI 1)) := by
  by_cases h : pl = 0
  · subst h
    refine Or.inr ⟨?_, fun q => ?_⟩
    · by_cases y : v < 0
      · exact Or.inl y
      · exact Or.inr (Int32.not_lt.mp y)
    · have e : nI 0 - nI 1 = -1 := by decide
      rw [e] at q
      have h1 := Int32.le_iff_toInt_le.mp q.1
      have h2 := Int32.le_iff_toInt_le.mp q.2
      have e1 : (nI 0).toInt = 0 := by decide
      have e2 : (-1 : Int32).toInt = -1 := by decide
      omega
  · rw [pk_sub (by omega : 1 ≤ pl)]
    exact z_rng v pl (by omega) (by omega)
theorem z_r20 (v : Int32) : (∃ k : Nat, 1 ≤ k ∧ k ≤ 20 ∧ v = nI k) ∨ ¬ (nI 1 ≤ v ∧ v ≤ nI 20) := by
  by_cases h : nI 1 ≤ v ∧ v ≤ nI 20
  · obtain ⟨j, hj, rfl⟩ := nI_of (x := v) (fun q => by
      have h1 := Int32.le_iff_toInt_le.mp h.1
      have h2 := Int32.lt_iff_toInt_lt.mp q
      have e1 : (nI 1).toInt = 1 := by decide
      have e2 : (0 : Int32).toInt = 0 := by decide
      omega)
    refine Or.inl ⟨j, ?_, ?_, rfl⟩
    · exact (nI_leI (by omega) hj).mp h.1
    · exact (nI_leI hj (by omega)).mp h.2
  · exact Or.inr h
theorem z_if {P Q : Prop} [Decidable P] [Decidable Q] {α : Type} {a b : α} (h : P ↔ Q) : (if P then a else b) = (if Q then a else b) := by
  by_cases q : P
  · rw [if_pos q, if_pos (h.mp q)]
  · rw [if_neg q, if_neg (fun y => q (h.mpr y))]
section IZ
variable {pl tu fr nf g : Nat} {w aw : Nat → Nat} {pt ft ti bt : Nat → Nat → Nat} {th : Nat → Nat} {my fe be sk cl ex : Nat → Nat}
theorem Inv.rep (h : Inv pl tu fr nf g w aw pt ft ti bt th my fe be sk cl ex) (q : Nat) : Inv pl tu fr nf g (upN w q 0) aw pt ft ti bt th my fe be sk cl ex :=
  ⟨⟨h.hpl, h.hfr, h.htu, h.hnf, h.hg, h.htp, h.hend, h.hgo, fun i hi y => by
    unfold upN; split
    · omega
    · exact h.hst i hi y⟩, ⟨up_le h.hw (by omega), h.2.1.2⟩, h.2.2⟩
end IZ
/-- the cells all through the law -/
abbrev LW (E : EV) (h0 a1 a2 a3 a4 a5 : Nat) (qs qa qb qc qd : Nat → Nat) (o m0 k1 k2 k3 k4 k5 k6 k7 k8 : Nat) (pl tu fr nf g sp : Nat) (w aw : Nat → Nat) (pt ft ti bt : Nat → Nat → Nat) (th : Nat → Nat) (x : Int32) (my fe be sk cl ex : Nat → Nat) (ov : Nat → Int64) : va_W := [(h0, .inr (3, [.ref a1, .ref a3, .ref a5, .int (nI pl), .int (nI tu), .int (nI fr), .int (nI nf)])), (a1, .inr (0, [.ref a2, .int (nI g), .int (nI sp)])), (a2, aI E 9 w), (a3, .inr (1, [.ref a4])), (a4, aI E 5 aw), (a5, .inl (E.2.2.2, 4, .inr (.inr (.inr (.inr (fun k => some (qs k))))))), (qs 0, .inr (2, [.ref (qa 0), .ref (qb 0), .ref (qc 0), .ref (qd 0), .int (nI (th 0))])), (qa 0, aI E 30 (pt 0)), (qb 0, aI E 10 (ft 0)), (qc 0, aI E 10 (ti 0)), (qd 0, aI E 10 (bt 0)), (qs 1, .inr (2, [.ref (qa 1), .ref (qb 1), .ref (qc 1), .ref (qd 1), .int (nI (th 1))])), (qa 1, aI E 30 (pt 1)), (qb 1, aI E 10 (ft 1)), (qc 1, aI E 10 (ti 1)), (qd 1, aI E 10 (bt 1)), (qs 2, .inr (2, [.ref (qa 2), .ref (qb 2), .ref (qc 2), .ref (qd 2), .int (nI (th 2))])), (qa 2, aI E 30 (pt 2)), (qb 2, aI E 10 (ft 2)), (qc 2, aI E 10 (ti 2)), (qd 2, aI E 10 (bt 2)), (qs 3, .inr (2, [.ref (qa 3), .ref (qb 3), .ref (qc 3), .ref (qd 3), .int (nI (th 3))])), (qa 3, aI E 30 (pt 3)), (qb 3, aI E 10 (ft 3)), (qc 3, aI E 10 (ti 3)), (qd 3, aI E 10 (bt 3)), (o, .inl (E.2.2.1, 1, .inr (.inl ov))), (m0, .inr (4, [.int x, .int (nI g), .ref k1, .ref k2, .int (nI sp), .int (nI pl), .int (nI tu), .int (nI fr), .int (nI nf), .ref k3, .ref k4, .ref k5, .ref k6, .ref k7, .ref k8])), (k1, aI E 9 w), (k2, aI E 5 aw), (k3, aI E 4 my), (k4, aI E 120 fe), (k5, aI E 44 be), (k6, aI E 4 sk), (k7, aI E 4 cl), (k8, aI E 40 ex)]
/-- what goes on behind each case -/
def LK (p : Program) (l : Launch) (e : Env) (s : State) (m : MethodId) (below : List Frame) (meth : Method) (c : Code) (E : EV) (b0 h0 a1 a2 a3 a4 a5 : Nat) (qs qa qb qc qd : Nat → Nat) (o m0 k1 k2 k3 k4 k5 k6 k7 k8 : Nat) (i cells slots sp0 pc : Nat) : Prop := ∀ (pl tu fr nf g sp : Nat) (w aw : Nat → Nat) (pt ft ti bt : Nat → Nat → Nat) (th : Nat → Nat) (x : Int32) (my fe be sk cl ex : Nat → Nat) (ov : Nat → Int64) (H : Heap) (locs : List Loc) (ls : Array Slot),
  Inv pl tu fr nf g w aw pt ft ti bt th my fe be sk cl ex → sp ≤ sp0 + 20 → WD E (fun q => s.heap.size ≤ q) s (LW E h0 a1 a2 a3 a4 a5 qs qa qb qc qd o m0 k1 k2 k3 k4 k5 k6 k7 k8 pl tu fr nf g sp w aw pt ft ti bt th x my fe be sk cl ex ov) H locs → lv_has ls 9 [(0, .ref b0), (1, .ref h0), (2, .ref m0), (3, .ref o), (4, .int (nI i))] →
  W p l e room_1 s m #[Value.ref b0] below meth c H locs cells slots (lw_Z below #[Value.ref b0] s) (F0 m pc ls [])
