/-! THE LAW: its loop and its start -/

theorem Inv.init : Inv 0 0 0 0 511 (fun _ => 0) (fun _ => 0) (fun _ _ => 0) (fun _ _ => 0) (fun _ _ => 0) (fun _ _ => 0) (fun _ => 0) (fun _ => 0) (fun _ => 0) (fun _ => 0) (fun _ => 0) (fun _ => 0) (fun _ => 0) := by
  refine ⟨⟨by omega, by omega, by omega, by omega, by omega, Or.inr ⟨rfl, rfl, rfl, rfl⟩, fun q => absurd q (by omega), fun q => absurd q (by omega), fun _ _ _ => by show 0 < 12; omega⟩,
    ⟨fun _ => Nat.zero_le _, fun _ => Nat.zero_le _, fun _ _ => Nat.zero_le _, fun _ _ => Nat.zero_le _, fun _ _ => Nat.zero_le _, fun _ _ => Nat.zero_le _, fun _ => Nat.zero_le _, fun _ => Nat.zero_le _, fun _ => Nat.zero_le _, fun _ => Nat.zero_le _, fun _ => Nat.zero_le _, fun _ => Nat.zero_le _, fun _ => Nat.zero_le _⟩, fun p hp => ?_⟩
  have e1 : nxF 0 0 0 p = 0 := by unfold nxF; rw [if_neg (by omega)]
  have e2 : nwF 0 0 p = 0 := by unfold nwF; split <;> rfl
  unfold InvP
  rw [e1, e2]
  exact ⟨rfl, fun _ _ => rfl, rfl, fun f hf => absurd hf (by omega), rfl, fun f _ _ => ⟨rfl, by rw [ite_self]⟩, fun _ q => absurd q (by omega), fun _ _ => rfl, (fbN_0 (by omega) 10 (fun _ _ => rfl)).symm, (fbN_0 (by omega) 10 (fun _ _ => rfl)).symm⟩

set_option maxHeartbeats 4000000 in
set_option maxRecDepth 100000 in
theorem law_exit {p : Program} {l : Launch} {e : Env} {s : State} {m : MethodId} {below : List Frame} {meth : Method} {c : Code} {E : EV} {b0 L : Nat} {xs : Nat → Int32} {h0 a1 a2 a3 a4 a5 : Nat} {qs qa qb qc qd : Nat → Nat} {o m0 k1 k2 k3 k4 k5 k6 k7 k8 : Nat} (hst : l.stackTraces = false) (C : CX p s m #[Value.ref b0] meth c cL_law 9 RL wsL_law (some .boolean) E (fun q => s.heap.size ≤ q)) (hgc : gC s) (hX : va_X b0 L xs s s.heap) (hbl : b0 < s.heap.size) (hL : L ≤ 1536) {i : Nat} (hi : i ≤ L) (hend : L < i + 3) {pl tu fr nf g sp : Nat} {w aw : Nat → Nat} {pt ft ti bt : Nat → Nat → Nat} {th : Nat → Nat} {x : Int32} {my fe be sk cl ex : Nat → Nat} {ov : Nat → Int64} {H : Heap} {locs : List Loc} {ls : Array Slot} (hW : WD E (fun q => s.heap.size ≤ q) s (LW E h0 a1 a2 a3 a4 a5 qs qa qb qc qd o m0 k1 k2 k3 k4 k5 k6 k7 k8 pl tu fr nf g sp w aw pt ft ti bt th x my fe be sk cl ex ov) H locs) (hl : lv_has ls 9 [(0, .ref b0), (1, .ref h0), (2, .ref m0), (3, .ref o), (4, .int (nI i))]) {cells slots : Nat} (hc : cells ≤ 601024) (hs : slots ≤ 7293033) : W p l e room_1 s m #[Value.ref b0] below meth c H locs cells slots (lw_Z below #[Value.ref b0] s) (F0 m 23 ls []) := by
  have hbA : ¬ (fun q : Nat => s.heap.size ≤ q) b0 := Nat.not_le.mpr hbl
  refine lv_iload C.x C.b dL_law_23 (lv_at hl 4 rfl) ?_
  refine lv_aload_n C.x C.b dL_law_25 rfl (lv_at hl 0 rfl) ?_
  refine x_slen C hX hbl hbA hW dL_law_26 ?_
  refine lv_iconst (v := nI 3) C.x C.b dL_law_27 (by decide) ?_
  refine lv_isub C.x C.b dL_law_28 ?_
  refine lv_icmp_gt C.x C.b (tgt := 1309) dL_law_29 (by decide) (fun _ => ?_) (fun q => absurd (z_end hL (by omega) hend) q)
  refine lv_iconst (v := 1) C.x C.b dL_law_1309 (by decide) ?_
  refine W.widen hc hs ?_
  refine va_forget (fun q hq => hW.2.2.2.2 q hq) ?_
  have h9 := lw_ret (p := p) (l := l) (e := e) (s := s) (m := m) (below := below) (meth := meth) (c := c) (b := b0) (d0 := s.drawn) (Drawn.sameBut.refl s.drawn lw_cs) C.x C.b C.r C.lk (H := H) (ls := ls) dL_law_1310
  exact h9
set_option maxHeartbeats 4000000 in
set_option maxRecDepth 100000 in
theorem law_loop {p : Program} {l : Launch} {e : Env} {s : State} {m : MethodId} {below : List Frame} {meth : Method} {c : Code} {E : EV} {b0 L : Nat} {xs : Nat → Int32} {h0 a1 a2 a3 a4 a5 : Nat} {qs qa qb qc qd : Nat → Nat} {o m0 k1 k2 k3 k4 k5 k6 k7 k8 : Nat} (hst : l.stackTraces = false) (C : CX p s m #[Value.ref b0] meth c cL_law 9 RL wsL_law (some .boolean) E (fun q => s.heap.size ≤ q)) (hgc : gC s) (hX : va_X b0 L xs s s.heap) (hbl : b0 < s.heap.size) (hL : L ≤ 1536) : ∀ (n i : Nat), L ≤ i + n → i ≤ L → ∀ (pl tu fr nf g sp : Nat) (w aw : Nat → Nat) (pt ft ti bt : Nat → Nat → Nat) (th : Nat → Nat) (x : Int32) (my fe be sk cl ex : Nat → Nat) (ov : Nat → Int64) (H : Heap) (locs : List Loc) (ls : Array Slot), Inv pl tu fr nf g w aw pt ft ti bt th my fe be sk cl ex → 3 * sp ≤ 9 + 20 * i → WD E (fun q => s.heap.size ≤ q) s (LW E h0 a1 a2 a3 a4 a5 qs qa qb qc qd o m0 k1 k2 k3 k4 k5 k6 k7 k8 pl tu fr nf g sp w aw pt ft ti bt th x my fe be sk cl ex ov) H locs → lv_has ls 9 [(0, .ref b0), (1, .ref h0), (2, .ref m0), (3, .ref o), (4, .int (nI i))] →
    W p l e room_1 s m #[Value.ref b0] below meth c H locs (36 + i) (535 + 3 * i) (lw_Z below #[Value.ref b0] s) (F0 m 23 ls []) := by
  intro n
  induction n with
  | zero =>
    intro i hn hi pl tu fr nf g sp w aw pt ft ti bt th x my fe be sk cl ex ov H locs ls hI hsp hW hl
    exact law_exit hst C hgc hX hbl hL hi (by omega) hW hl (by omega) (by omega)
  | succ n ih =>
    intro i hn hi pl tu fr nf g sp w aw pt ft ti bt th x my fe be sk cl ex ov H locs ls hI hsp hW hl
    by_cases hend : L < i + 3
    · exact law_exit hst C hgc hX hbl hL hi hend hW hl (by omega) (by omega)
    have hbA : ¬ (fun q : Nat => s.heap.size ≤ q) b0 := Nat.not_le.mpr hbl
    have kk : LK p l e s m below meth c E b0 h0 a1 a2 a3 a4 a5 qs qa qb qc qd o m0 k1 k2 k3 k4 k5 k6 k7 k8 i (36 + i + 1) (535 + 3 * i + 7) sp 1303 := by
      intro pl1 tu1 fr1 nf1 g1 sp1 w1 aw1 pt1 ft1 ti1 bt1 th1 x1 my1 fe1 be1 sk1 cl1 ex1 ov1 H1 locs1 ls1 hI1 hs1 hW1 hl1
      refine lv_iinc (k := 4) (v := nI (i + 3)) (lv' := [(4, .int (nI (i + 3))), (0, .ref b0), (1, .ref h0), (2, .ref m0), (3, .ref o)]) C.x C.b dL_law_1303 hl1 rfl (z_inc i 3) (by decide) rfl (fun ls hl => ?_)
      refine lv_goto (tgt := 23) C.x C.b dL_law_1306 (by decide) ?_
      refine W.widen (k := 36 + (i + 3)) (n := 535 + 3 * (i + 3)) (by omega) (by omega) ?_
      exact ih (i + 3) (by omega) (by omega) _ _ _ _ _ _ _ _ _ _ _ _ _ _ _ _ _ _ _ _ _ _ _ _ hI1 (by omega) hW1 (lv_sub hl [1, 2, 3, 4, 0] rfl)
    refine lv_iload C.x C.b dL_law_23 (lv_at hl 4 rfl) ?_
    refine lv_aload_n C.x C.b dL_law_25 rfl (lv_at hl 0 rfl) ?_
    refine x_slen C hX hbl hbA hW dL_law_26 ?_
    refine lv_iconst (v := nI 3) C.x C.b dL_law_27 (by decide) ?_
    refine lv_isub C.x C.b dL_law_28 ?_
    refine lv_icmp_gt C.x C.b (tgt := 1309) dL_law_29 (by decide) (fun q => absurd q (z_goon hL (by omega) hend)) (fun _ => ?_)
    refine lv_aload_n C.x C.b dL_law_32 rfl (lv_at hl 0 rfl) ?_
    refine lv_iload C.x C.b dL_law_33 (lv_at hl 4 rfl) ?_
    refine x_sld C hX hbl hbA hW i rfl (by omega) hL dL_law_35 ?_
    refine lv_bipush (v := nI 31) C.x C.b dL_law_36 (by decide) ?_
    refine lv_iand C.x C.b dL_law_38 ?_
    obtain ⟨j, hj, ej⟩ := z_and31 (xs i)
    refine x_toi (y := nI j) ej ?_
    rcases (show j = 0 ∨ j = 1 ∨ j = 2 ∨ j = 3 ∨ j = 4 ∨ j = 5 ∨ j = 6 ∨ j = 7 ∨ j = 8 ∨ j = 9 ∨ j = 10 ∨ j = 11 ∨ j = 12 ∨ j = 13 ∨ j = 14 ∨ j = 15 ∨ j = 16 ∨ j = 17 ∨ j = 18 ∨ j = 19 ∨ j = 20 ∨ j = 21 ∨ j = 22 ∨ j = 23 ∨ j = 24 ∨ j = 25 ∨ j = 26 ∨ j = 27 ∨ j = 28 ∨ j = 29 ∨ j = 30 ∨ j = 31 by omega) with rfl | rfl | rfl | rfl | rfl | rfl | rfl | rfl | rfl | rfl | rfl | rfl | rfl | rfl | rfl | rfl | rfl | rfl | rfl | rfl | rfl | rfl | rfl | rfl | rfl | rfl | rfl | rfl | rfl | rfl | rfl | rfl
    · refine lv_tableIn C.x C.b (off := 137) (tgt := 176) dL_law_39 (by decide +kernel) (by decide +kernel) (by decide +kernel) (by decide) ?_
      exact law_0 hst C hgc hX hbl hL (by omega) (by omega) (by omega) hI (by omega) hW hl kk
    · refine lv_tableIn C.x C.b (off := 181) (tgt := 220) dL_law_39 (by decide +kernel) (by decide +kernel) (by decide +kernel) (by decide) ?_
      exact law_1 hst C hgc hX hbl hL (by omega) (by omega) (by omega) hI (by omega) hW hl kk
    · refine lv_tableIn C.x C.b (off := 249) (tgt := 288) dL_law_39 (by decide +kernel) (by decide +kernel) (by decide +kernel) (by decide) ?_
      exact law_2 hst C hgc hX hbl hL (by omega) (by omega) (by omega) hI (by omega) hW hl kk
    · refine lv_tableIn C.x C.b (off := 305) (tgt := 344) dL_law_39 (by decide +kernel) (by decide +kernel) (by decide +kernel) (by decide) ?_
      exact law_3 hst C hgc hX hbl hL (by omega) (by omega) (by omega) hI (by omega) hW hl kk
    · refine lv_tableIn C.x C.b (off := 361) (tgt := 400) dL_law_39 (by decide +kernel) (by decide +kernel) (by decide +kernel) (by decide) ?_
      exact law_4 hst C hgc hX hbl hL (by omega) (by omega) (by omega) hI (by omega) hW hl kk
    · refine lv_tableIn C.x C.b (off := 374) (tgt := 413) dL_law_39 (by decide +kernel) (by decide +kernel) (by decide +kernel) (by decide) ?_
      exact law_5 hst C hgc hX hbl hL (by omega) (by omega) (by omega) hI (by omega) hW hl kk
    · refine lv_tableIn C.x C.b (off := 437) (tgt := 476) dL_law_39 (by decide +kernel) (by decide +kernel) (by decide +kernel) (by decide) ?_
      exact law_6 hst C hgc hX hbl hL (by omega) (by omega) (by omega) hI (by omega) hW hl kk
    · refine lv_tableIn C.x C.b (off := 450) (tgt := 489) dL_law_39 (by decide +kernel) (by decide +kernel) (by decide +kernel) (by decide) ?_
      exact law_7 hst C hgc hX hbl hL (by omega) (by omega) (by omega) hI (by omega) hW hl kk
    · refine lv_tableIn C.x C.b (off := 506) (tgt := 545) dL_law_39 (by decide +kernel) (by decide +kernel) (by decide +kernel) (by decide) ?_
      exact law_8 hst C hgc hX hbl hL (by omega) (by omega) (by omega) hI (by omega) hW hl kk
    · refine lv_tableIn C.x C.b (off := 569) (tgt := 608) dL_law_39 (by decide +kernel) (by decide +kernel) (by decide +kernel) (by decide) ?_
      exact law_9 hst C hgc hX hbl hL (by omega) (by omega) (by omega) hI (by omega) hW hl kk
    · refine lv_tableIn C.x C.b (off := 582) (tgt := 621) dL_law_39 (by decide +kernel) (by decide +kernel) (by decide +kernel) (by decide) ?_
      exact law_10 hst C hgc hX hbl hL (by omega) (by omega) (by omega) hI (by omega) hW hl kk
    · refine lv_tableIn C.x C.b (off := 595) (tgt := 634) dL_law_39 (by decide +kernel) (by decide +kernel) (by decide +kernel) (by decide) ?_
      exact law_11 hst C hgc hX hbl hL (by omega) (by omega) (by omega) hI (by omega) hW hl kk
    · refine lv_tableIn C.x C.b (off := 608) (tgt := 647) dL_law_39 (by decide +kernel) (by decide +kernel) (by decide +kernel) (by decide) ?_
      exact law_12 hst C hgc hX hbl hL (by omega) (by omega) (by omega) hI (by omega) hW hl kk
    · refine lv_tableIn C.x C.b (off := 664) (tgt := 703) dL_law_39 (by decide +kernel) (by decide +kernel) (by decide +kernel) (by decide) ?_
      exact law_13 hst C hgc hX hbl hL (by omega) (by omega) (by omega) hI (by omega) hW hl kk
    · refine lv_tableIn C.x C.b (off := 677) (tgt := 716) dL_law_39 (by decide +kernel) (by decide +kernel) (by decide +kernel) (by decide) ?_
      exact law_14 hst C hgc hX hbl hL (by omega) (by omega) (by omega) hI (by omega) hW hl kk
    · refine lv_tableIn C.x C.b (off := 690) (tgt := 729) dL_law_39 (by decide +kernel) (by decide +kernel) (by decide +kernel) (by decide) ?_
      exact law_15 hst C hgc hX hbl hL (by omega) (by omega) (by omega) hI (by omega) hW hl kk
    · refine lv_tableIn C.x C.b (off := 703) (tgt := 742) dL_law_39 (by decide +kernel) (by decide +kernel) (by decide +kernel) (by decide) ?_
      exact law_16 hst C hgc hX hbl hL (by omega) (by omega) (by omega) hI (by omega) hW hl kk
    · refine lv_tableIn C.x C.b (off := 716) (tgt := 755) dL_law_39 (by decide +kernel) (by decide +kernel) (by decide +kernel) (by decide) ?_
      exact law_17 hst C hgc hX hbl hL (by omega) (by omega) (by omega) hI (by omega) hW hl kk
    · refine lv_tableIn C.x C.b (off := 729) (tgt := 768) dL_law_39 (by decide +kernel) (by decide +kernel) (by decide +kernel) (by decide) ?_
      exact law_18 hst C hgc hX hbl hL (by omega) (by omega) (by omega) hI (by omega) hW hl kk
    · refine lv_tableIn C.x C.b (off := 785) (tgt := 824) dL_law_39 (by decide +kernel) (by decide +kernel) (by decide +kernel) (by decide) ?_
      exact law_19 hst C hgc hX hbl hL (by omega) (by omega) (by omega) hI (by omega) hW hl kk
    · refine lv_tableIn C.x C.b (off := 841) (tgt := 880) dL_law_39 (by decide +kernel) (by decide +kernel) (by decide +kernel) (by decide) ?_
      exact law_20 hst C hgc hX hbl hL (by omega) (by omega) (by omega) hI (by omega) hW hl kk
    · refine lv_tableIn C.x C.b (off := 909) (tgt := 948) dL_law_39 (by decide +kernel) (by decide +kernel) (by decide +kernel) (by decide) ?_
      exact law_21 hst C hgc hX hbl hL (by omega) (by omega) (by omega) hI (by omega) hW hl kk
    · refine lv_tableIn C.x C.b (off := 965) (tgt := 1004) dL_law_39 (by decide +kernel) (by decide +kernel) (by decide +kernel) (by decide) ?_
      exact law_22 hst C hgc hX hbl hL (by omega) (by omega) (by omega) hI (by omega) hW hl kk
    · refine lv_tableIn C.x C.b (off := 1021) (tgt := 1060) dL_law_39 (by decide +kernel) (by decide +kernel) (by decide +kernel) (by decide) ?_
      exact law_23 hst C hgc hX hbl hL (by omega) (by omega) (by omega) hI (by omega) hW hl kk
    · refine lv_tableIn C.x C.b (off := 1034) (tgt := 1073) dL_law_39 (by decide +kernel) (by decide +kernel) (by decide +kernel) (by decide) ?_
      exact law_24 hst C hgc hX hbl hL (by omega) (by omega) (by omega) hI (by omega) hW hl kk
    · refine lv_tableIn C.x C.b (off := 1102) (tgt := 1141) dL_law_39 (by decide +kernel) (by decide +kernel) (by decide +kernel) (by decide) ?_
      exact law_25 hst C hgc hX hbl hL (by omega) (by omega) (by omega) hI (by omega) hW hl kk
    · refine lv_tableIn C.x C.b (off := 1170) (tgt := 1209) dL_law_39 (by decide +kernel) (by decide +kernel) (by decide +kernel) (by decide) ?_
      exact law_26 hst C hgc hX hbl hL (by omega) (by omega) (by omega) hI (by omega) hW hl kk
    · refine lv_tableIn C.x C.b (off := 1183) (tgt := 1222) dL_law_39 (by decide +kernel) (by decide +kernel) (by decide +kernel) (by decide) ?_
      exact law_27 hst C hgc hX hbl hL (by omega) (by omega) (by omega) hI (by omega) hW hl kk
    · refine lv_tableIn C.x C.b (off := 1196) (tgt := 1235) dL_law_39 (by decide +kernel) (by decide +kernel) (by decide +kernel) (by decide) ?_
      exact law_28 hst C hgc hX hbl hL (by omega) (by omega) (by omega) hI (by omega) hW hl kk
    · refine lv_tableIn C.x C.b (off := 1209) (tgt := 1248) dL_law_39 (by decide +kernel) (by decide +kernel) (by decide +kernel) (by decide) ?_
      exact law_29 hst C hgc hX hbl hL (by omega) (by omega) (by omega) hI (by omega) hW hl kk
    · refine lv_tableIn C.x C.b (off := 1250) (tgt := 1289) dL_law_39 (by decide +kernel) (by decide +kernel) (by decide +kernel) (by decide) ?_
      exact law_30 hst C hgc hX hbl hL (by omega) (by omega) (by omega) hI (by omega) hW hl kk
    · refine lv_tableOut C.x C.b (tgt := 1303) dL_law_39 (Or.inr (by decide +kernel)) (by decide) ?_
      refine W.widen (k := 36 + i + 1) (n := 535 + 3 * i + 7) (by omega) (by omega) ?_
      exact kk pl tu fr nf g sp w aw pt ft ti bt th x my fe be sk cl ex ov H locs ls hI (by omega) hW hl
