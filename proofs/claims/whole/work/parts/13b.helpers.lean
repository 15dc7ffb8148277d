/-! THE LAW'S HELPERS, calls that throw -/
set_option maxHeartbeats 4000000 in
set_option maxRecDepth 100000 in
theorem bad_L_addPlayer_no (l : Launch) (hst : l.stackTraces = false) (E : EV) (h0 a1 a3 a5 : Nat) (pl tu fr nf : Nat) (qs qa qb qc qd : Nat → Nat) (pt ft ti bt : Nat → Nat → Nat) (th : Nat → Nat) (o : Nat) (hb : pl = 4 ∨ 0 < th 0) (hpl : pl ≤ 4) (ht : th 0 ≤ 30) : MIh l yL_addPlayer wsL_addPlayer { frames := 7, cells := 1, slots := 6, locals := 103 } E [.ref h0, .ref o] [(h0, .inr (3, [.ref a1, .ref a3, .ref a5, .int (nI pl), .int (nI tu), .int (nI fr), .int (nI nf)])), (a5, .inl (E.2.2.2, 4, .inr (.inr (.inr (.inr (fun k => some (qs k))))))), (qs 0, .inr (2, [.ref (qa 0), .ref (qb 0), .ref (qc 0), .ref (qd 0), .int (nI (th 0))])), (qa 0, aI E 30 (pt 0)), (qb 0, aI E 10 (ft 0)), (qc 0, aI E 10 (ti 0)), (qd 0, aI E 10 (bt 0))] 1 6 (nI 1) [(h0, .inr (3, [.ref a1, .ref a3, .ref a5, .int (nI pl), .int (nI tu), .int (nI fr), .int (nI nf)])), (a5, .inl (E.2.2.2, 4, .inr (.inr (.inr (.inr (fun k => some (qs k))))))), (qs 0, .inr (2, [.ref (qa 0), .ref (qb 0), .ref (qc 0), .ref (qd 0), .int (nI (th 0))])), (qa 0, aI E 30 (pt 0)), (qb 0, aI E 10 (ft 0)), (qc 0, aI E 10 (ti 0)), (qd 0, aI E 10 (bt 0))] := by
  refine sH (own := RL) (cc := cL_addPlayer) (maxL := 3) rfl (by decide) rfl (Nat.le_of_ble_eq_true rfl) ?_
  intro p e s m below meth c C hgc htab ls hl hW
  have hl : lv_has ls 3 [(0, .ref h0), (1, .ref o)] := hl
  have hW : WD E _ s [(h0, .inr (3, [.ref a1, .ref a3, .ref a5, .int (nI pl), .int (nI tu), .int (nI fr), .int (nI nf)])), (a5, .inl (E.2.2.2, 4, .inr (.inr (.inr (.inr (fun k => some (qs k))))))), (qs 0, .inr (2, [.ref (qa 0), .ref (qb 0), .ref (qc 0), .ref (qd 0), .int (nI (th 0))])), (qa 0, aI E 30 (pt 0)), (qb 0, aI E 10 (ft 0)), (qc 0, aI E 10 (ti 0)), (qd 0, aI E 10 (bt 0))] s.heap [] := hW
  refine lv_aload_n C.x C.b dL_addPlayer_0 rfl (lv_at hl 1 rfl) ?_
  refine lv_iconst (v := nI 0) C.x C.b dL_addPlayer_1 (by decide) ?_
  refine lv_aload_n C.x C.b dL_addPlayer_2 rfl (lv_at hl 0 rfl) ?_
  refine x_catchV (X := "java/lang/IllegalStateException") C hgc [] ⟨0, 8, 11, 13⟩ [] (htab.trans rfl) (fun z hz => absurd hz List.not_mem_nil) (by decide) (by decide) (name := "java/lang/IllegalStateException") (by decide +kernel) hgc.st hW (As := []) (rest := [.int (nI 0), .ref o]) (wr := []) (wn := [(h0, .inr (3, [.ref a1, .ref a3, .ref a5, .int (nI pl), .int (nI tu), .int (nI fr), .int (nI nf)])), (a5, .inl (E.2.2.2, 4, .inr (.inr (.inr (.inr (fun k => some (qs k))))))), (qs 0, .inr (2, [.ref (qa 0), .ref (qb 0), .ref (qc 0), .ref (qd 0), .int (nI (th 0))])), (qa 0, aI E 30 (pt 0)), (qb 0, aI E 10 (ft 0)), (qc 0, aI E 10 (ti 0)), (qd 0, aI E 10 (bt 0))]) (Cn := RX4) (bad_X4_addPlayer_no l hst E h0 a1 a3 a5 pl tu fr nf qs qa qb qc qd pt ft ti bt th hb hpl ht) gL_addPlayer_X4_addPlayer rfl 0 rfl ⟨rfl, rfl⟩ ⟨rfl, by decide +kernel, by decide +kernel, by decide +kernel⟩ ⟨Nat.le_of_ble_eq_true rfl, Nat.le_of_ble_eq_true rfl⟩ [0, 1, 2, 3, 4, 5, 6] [] [0, 1, 2, 3, 4, 5, 6] rfl (by decide) rfl (by decide) (by decide) rfl (by decide) 0 3 rfl rfl hl.1 rfl (Nat.le_of_ble_eq_true rfl) dL_addPlayer_3 ⟨Nat.le_of_ble_eq_true rfl, Nat.le_of_ble_eq_true rfl⟩ (fun q_1 H locs hW => ?_)
  refine lv_astore_n (lv' := [(2, .ref q_1), (0, .ref h0), (1, .ref o)]) C.x C.b dL_addPlayer_11 rfl hl (by decide) rfl (fun ls hl => ?_)
  refine lv_iconst (v := nI 1) C.x C.b dL_addPlayer_12 (by decide) ?_
  exact x_iretH C hW rfl rfl rfl rfl dL_addPlayer_13

set_option maxHeartbeats 4000000 in
set_option maxRecDepth 100000 in
theorem bad_L_throwBall_no (l : Launch) (hst : l.stackTraces = false) (E : EV) (h0 a1 a3 a5 : Nat) (pl tu fr nf : Nat) (a4 : Nat) (aw : Nat → Nat) (b z : Nat) (o : Nat) (hb : b < 5) (hz : z < 5) (hpl : pl ≤ 4) (hfr : fr ≤ 10) (ha : ∀ i, aw i ≤ 2) (hno : pl = 0 ∨ fr = 10 ∨ 0 < aw b) : MIh l yL_throwBall wsL_throwBall { frames := 7, cells := 1, slots := 6, locals := 107 } E [.ref h0, .int (nI b), .int (nI z), .ref o] [(h0, .inr (3, [.ref a1, .ref a3, .ref a5, .int (nI pl), .int (nI tu), .int (nI fr), .int (nI nf)])), (a3, .inr (1, [.ref a4])), (a4, aI E 5 aw)] 1 6 (nI 2) [(h0, .inr (3, [.ref a1, .ref a3, .ref a5, .int (nI pl), .int (nI tu), .int (nI fr), .int (nI nf)])), (a3, .inr (1, [.ref a4])), (a4, aI E 5 aw)] := by
  refine sH (own := RL) (cc := cL_throwBall) (maxL := 5) rfl (by decide) rfl (Nat.le_of_ble_eq_true rfl) ?_
  intro p e s m below meth c C hgc htab ls hl hW
  have hl : lv_has ls 5 [(0, .ref h0), (1, .int (nI b)), (2, .int (nI z)), (3, .ref o)] := hl
  have hW : WD E _ s [(h0, .inr (3, [.ref a1, .ref a3, .ref a5, .int (nI pl), .int (nI tu), .int (nI fr), .int (nI nf)])), (a3, .inr (1, [.ref a4])), (a4, aI E 5 aw)] s.heap [] := hW
  refine lv_aload_n C.x C.b dL_throwBall_0 rfl (lv_at hl 3 rfl) ?_
  refine lv_iconst (v := nI 0) C.x C.b dL_throwBall_1 (by decide) ?_
  refine lv_aload_n C.x C.b dL_throwBall_2 rfl (lv_at hl 0 rfl) ?_
  refine lv_iload_n C.x C.b dL_throwBall_3 rfl (lv_at hl 1 rfl) ?_
  refine lv_iload_n C.x C.b dL_throwBall_4 rfl (lv_at hl 2 rfl) ?_
  refine x_catchV (X := "java/lang/IllegalStateException") C hgc [⟨0, 10, 13, 19⟩] ⟨0, 10, 17, 13⟩ [] (htab.trans rfl) (fun z hz => by rw [List.mem_singleton] at hz; subst hz; exact Or.inr ⟨by decide, _, C.ts (.classLink RL 19 "java/lang/IndexOutOfBoundsException") (by decide +kernel), hgc.nc⟩) (by decide) (by decide) (name := "java/lang/IllegalStateException") (by decide +kernel) hgc.st hW (As := [.int (nI b), .int (nI z)]) (rest := [.int (nI 0), .ref o]) (wr := []) (wn := [(h0, .inr (3, [.ref a1, .ref a3, .ref a5, .int (nI pl), .int (nI tu), .int (nI fr), .int (nI nf)])), (a3, .inr (1, [.ref a4])), (a4, aI E 5 aw)]) (Cn := RX4) (bad_X4_throwBall_no l hst E h0 a1 a3 a5 pl tu fr nf a4 aw b z hb hz hpl hfr ha hno) gL_throwBall_X4_throwBall rfl 2 rfl ⟨rfl, rfl⟩ ⟨rfl, by decide +kernel, by decide +kernel, by decide +kernel⟩ ⟨Nat.le_of_ble_eq_true rfl, Nat.le_of_ble_eq_true rfl⟩ [0, 1, 2] [] [0, 1, 2] rfl (by decide) rfl (by decide) (by decide) rfl (by decide) 0 3 rfl rfl hl.1 rfl (Nat.le_of_ble_eq_true rfl) dL_throwBall_5 ⟨Nat.le_of_ble_eq_true rfl, Nat.le_of_ble_eq_true rfl⟩ (fun q_1 H locs hW => ?_)
  refine lv_astore (lv' := [(4, .ref q_1), (0, .ref h0), (1, .int (nI b)), (2, .int (nI z)), (3, .ref o)]) C.x C.b dL_throwBall_17 hl (by decide) rfl (fun ls hl => ?_)
  refine lv_iconst (v := nI 2) C.x C.b dL_throwBall_19 (by decide) ?_
  exact x_iretH C hW rfl rfl rfl rfl dL_throwBall_20

set_option maxHeartbeats 4000000 in
set_option maxRecDepth 100000 in
theorem bad_L_throwBall_b (l : Launch) (hst : l.stackTraces = false) (E : EV) (h0 a1 a3 a5 : Nat) (pl tu fr nf : Nat) (b z : Int32) (o : Nat) (hb : b < 0 ∨ nI 5 ≤ b) : MIh l yL_throwBall wsL_throwBall { frames := 12, cells := 1, slots := 6, locals := 315 } E [.ref h0, .int b, .int z, .ref o] [(h0, .inr (3, [.ref a1, .ref a3, .ref a5, .int (nI pl), .int (nI tu), .int (nI fr), .int (nI nf)]))] 1 6 (nI 1) [(h0, .inr (3, [.ref a1, .ref a3, .ref a5, .int (nI pl), .int (nI tu), .int (nI fr), .int (nI nf)]))] := by
  refine sH (own := RL) (cc := cL_throwBall) (maxL := 5) rfl (by decide) rfl (Nat.le_of_ble_eq_true rfl) ?_
  intro p e s m below meth c C hgc htab ls hl hW
  have hl : lv_has ls 5 [(0, .ref h0), (1, .int b), (2, .int z), (3, .ref o)] := hl
  have hW : WD E _ s [(h0, .inr (3, [.ref a1, .ref a3, .ref a5, .int (nI pl), .int (nI tu), .int (nI fr), .int (nI nf)]))] s.heap [] := hW
  refine lv_aload_n C.x C.b dL_throwBall_0 rfl (lv_at hl 3 rfl) ?_
  refine lv_iconst (v := nI 0) C.x C.b dL_throwBall_1 (by decide) ?_
  refine lv_aload_n C.x C.b dL_throwBall_2 rfl (lv_at hl 0 rfl) ?_
  refine lv_iload_n C.x C.b dL_throwBall_3 rfl (lv_at hl 1 rfl) ?_
  refine lv_iload_n C.x C.b dL_throwBall_4 rfl (lv_at hl 2 rfl) ?_
  refine x_catchV (X := "java/lang/IndexOutOfBoundsException") C hgc [] ⟨0, 10, 13, 19⟩ [⟨0, 10, 17, 13⟩] (htab.trans rfl) (fun z hz => absurd hz List.not_mem_nil) (by decide) (by decide) (name := "java/lang/IndexOutOfBoundsException") (by decide +kernel) hgc.io hW (As := [.int b, .int z]) (rest := [.int (nI 0), .ref o]) (wr := [(h0, .inr (3, [.ref a1, .ref a3, .ref a5, .int (nI pl), .int (nI tu), .int (nI fr), .int (nI nf)]))]) (wn := [(h0, .inr (3, [.ref a1, .ref a3, .ref a5, .int (nI pl), .int (nI tu), .int (nI fr), .int (nI nf)]))]) (Cn := RX4) (bad_X4_throwBall_b l hst E h0 b z hb) gL_throwBall_X4_throwBall rfl 2 rfl ⟨rfl, rfl⟩ ⟨rfl, by decide +kernel, by decide +kernel, by decide +kernel⟩ ⟨Nat.le_of_ble_eq_true rfl, Nat.le_of_ble_eq_true rfl⟩ [] [0] [0] rfl (by decide) rfl (by decide) (by decide) rfl (by decide) 0 3 rfl rfl hl.1 rfl (Nat.le_of_ble_eq_true rfl) dL_throwBall_5 ⟨Nat.le_of_ble_eq_true rfl, Nat.le_of_ble_eq_true rfl⟩ (fun q_1 H locs hW => ?_)
  refine lv_astore (lv' := [(4, .ref q_1), (0, .ref h0), (1, .int b), (2, .int z), (3, .ref o)]) C.x C.b dL_throwBall_13 hl (by decide) rfl (fun ls hl => ?_)
  refine lv_iconst (v := nI 1) C.x C.b dL_throwBall_15 (by decide) ?_
  exact x_iretH C hW rfl rfl rfl rfl dL_throwBall_16

set_option maxHeartbeats 4000000 in
set_option maxRecDepth 100000 in
theorem bad_L_throwBall_z (l : Launch) (hst : l.stackTraces = false) (E : EV) (h0 a1 a3 a5 : Nat) (pl tu fr nf : Nat) (b : Nat) (z : Int32) (o : Nat) (hb : b < 5) (hz : z < 0 ∨ nI 5 ≤ z) : MIh l yL_throwBall wsL_throwBall { frames := 12, cells := 1, slots := 6, locals := 315 } E [.ref h0, .int (nI b), .int z, .ref o] [(h0, .inr (3, [.ref a1, .ref a3, .ref a5, .int (nI pl), .int (nI tu), .int (nI fr), .int (nI nf)]))] 1 6 (nI 1) [(h0, .inr (3, [.ref a1, .ref a3, .ref a5, .int (nI pl), .int (nI tu), .int (nI fr), .int (nI nf)]))] := by
  refine sH (own := RL) (cc := cL_throwBall) (maxL := 5) rfl (by decide) rfl (Nat.le_of_ble_eq_true rfl) ?_
  intro p e s m below meth c C hgc htab ls hl hW
  have hl : lv_has ls 5 [(0, .ref h0), (1, .int (nI b)), (2, .int z), (3, .ref o)] := hl
  have hW : WD E _ s [(h0, .inr (3, [.ref a1, .ref a3, .ref a5, .int (nI pl), .int (nI tu), .int (nI fr), .int (nI nf)]))] s.heap [] := hW
  refine lv_aload_n C.x C.b dL_throwBall_0 rfl (lv_at hl 3 rfl) ?_
  refine lv_iconst (v := nI 0) C.x C.b dL_throwBall_1 (by decide) ?_
  refine lv_aload_n C.x C.b dL_throwBall_2 rfl (lv_at hl 0 rfl) ?_
  refine lv_iload_n C.x C.b dL_throwBall_3 rfl (lv_at hl 1 rfl) ?_
  refine lv_iload_n C.x C.b dL_throwBall_4 rfl (lv_at hl 2 rfl) ?_
  refine x_catchV (X := "java/lang/IndexOutOfBoundsException") C hgc [] ⟨0, 10, 13, 19⟩ [⟨0, 10, 17, 13⟩] (htab.trans rfl) (fun z hz => absurd hz List.not_mem_nil) (by decide) (by decide) (name := "java/lang/IndexOutOfBoundsException") (by decide +kernel) hgc.io hW (As := [.int (nI b), .int z]) (rest := [.int (nI 0), .ref o]) (wr := [(h0, .inr (3, [.ref a1, .ref a3, .ref a5, .int (nI pl), .int (nI tu), .int (nI fr), .int (nI nf)]))]) (wn := [(h0, .inr (3, [.ref a1, .ref a3, .ref a5, .int (nI pl), .int (nI tu), .int (nI fr), .int (nI nf)]))]) (Cn := RX4) (bad_X4_throwBall_z l hst E h0 b z hb hz) gL_throwBall_X4_throwBall rfl 2 rfl ⟨rfl, rfl⟩ ⟨rfl, by decide +kernel, by decide +kernel, by decide +kernel⟩ ⟨Nat.le_of_ble_eq_true rfl, Nat.le_of_ble_eq_true rfl⟩ [] [0] [0] rfl (by decide) rfl (by decide) (by decide) rfl (by decide) 0 3 rfl rfl hl.1 rfl (Nat.le_of_ble_eq_true rfl) dL_throwBall_5 ⟨Nat.le_of_ble_eq_true rfl, Nat.le_of_ble_eq_true rfl⟩ (fun q_1 H locs hW => ?_)
  refine lv_astore (lv' := [(4, .ref q_1), (0, .ref h0), (1, .int (nI b)), (2, .int z), (3, .ref o)]) C.x C.b dL_throwBall_13 hl (by decide) rfl (fun ls hl => ?_)
  refine lv_iconst (v := nI 1) C.x C.b dL_throwBall_15 (by decide) ?_
  exact x_iretH C hW rfl rfl rfl rfl dL_throwBall_16

set_option maxHeartbeats 4000000 in
set_option maxRecDepth 100000 in
theorem bad_L_replaceString_no (l : Launch) (hst : l.stackTraces = false) (E : EV) (h0 a1 a3 a5 : Nat) (pl tu fr nf : Nat) (a2 : Nat) (g sp : Nat) (w : Nat → Nat) (q : Nat) (o : Nat) (hq : q < 9) (hs : sp = 0) : MIh l yL_replaceString wsL_replaceString { frames := 7, cells := 1, slots := 6, locals := 103 } E [.ref h0, .int (nI q), .ref o] [(h0, .inr (3, [.ref a1, .ref a3, .ref a5, .int (nI pl), .int (nI tu), .int (nI fr), .int (nI nf)])), (a1, .inr (0, [.ref a2, .int (nI g), .int (nI sp)])), (a2, aI E 9 w)] 1 6 (nI 2) [(h0, .inr (3, [.ref a1, .ref a3, .ref a5, .int (nI pl), .int (nI tu), .int (nI fr), .int (nI nf)])), (a1, .inr (0, [.ref a2, .int (nI g), .int (nI sp)])), (a2, aI E 9 w)] := by
  refine sH (own := RL) (cc := cL_replaceString) (maxL := 4) rfl (by decide) rfl (Nat.le_of_ble_eq_true rfl) ?_
  intro p e s m below meth c C hgc htab ls hl hW
  have hl : lv_has ls 4 [(0, .ref h0), (1, .int (nI q)), (2, .ref o)] := hl
  have hW : WD E _ s [(h0, .inr (3, [.ref a1, .ref a3, .ref a5, .int (nI pl), .int (nI tu), .int (nI fr), .int (nI nf)])), (a1, .inr (0, [.ref a2, .int (nI g), .int (nI sp)])), (a2, aI E 9 w)] s.heap [] := hW
  refine lv_aload_n C.x C.b dL_replaceString_0 rfl (lv_at hl 2 rfl) ?_
  refine lv_iconst (v := nI 0) C.x C.b dL_replaceString_1 (by decide) ?_
  refine lv_aload_n C.x C.b dL_replaceString_2 rfl (lv_at hl 0 rfl) ?_
  refine lv_iload_n C.x C.b dL_replaceString_3 rfl (lv_at hl 1 rfl) ?_
  refine x_catchV (X := "java/lang/IllegalStateException") C hgc [⟨0, 9, 12, 19⟩] ⟨0, 9, 15, 13⟩ [] (htab.trans rfl) (fun z hz => by rw [List.mem_singleton] at hz; subst hz; exact Or.inr ⟨by decide, _, C.ts (.classLink RL 19 "java/lang/IndexOutOfBoundsException") (by decide +kernel), hgc.nc⟩) (by decide) (by decide) (name := "java/lang/IllegalStateException") (by decide +kernel) hgc.st hW (As := [.int (nI q)]) (rest := [.int (nI 0), .ref o]) (wr := []) (wn := [(h0, .inr (3, [.ref a1, .ref a3, .ref a5, .int (nI pl), .int (nI tu), .int (nI fr), .int (nI nf)])), (a1, .inr (0, [.ref a2, .int (nI g), .int (nI sp)])), (a2, aI E 9 w)]) (Cn := RX4) (bad_X4_replaceString_no l hst E h0 a1 a3 a5 pl tu fr nf a2 g sp w q hq hs) gL_replaceString_X4_replaceString rfl 1 rfl ⟨rfl, rfl⟩ ⟨rfl, by decide +kernel, by decide +kernel, by decide +kernel⟩ ⟨Nat.le_of_ble_eq_true rfl, Nat.le_of_ble_eq_true rfl⟩ [0, 1, 2] [] [0, 1, 2] rfl (by decide) rfl (by decide) (by decide) rfl (by decide) 0 3 rfl rfl hl.1 rfl (Nat.le_of_ble_eq_true rfl) dL_replaceString_4 ⟨Nat.le_of_ble_eq_true rfl, Nat.le_of_ble_eq_true rfl⟩ (fun q_1 H locs hW => ?_)
  refine lv_astore_n (lv' := [(3, .ref q_1), (0, .ref h0), (1, .int (nI q)), (2, .ref o)]) C.x C.b dL_replaceString_15 rfl hl (by decide) rfl (fun ls hl => ?_)
  refine lv_iconst (v := nI 2) C.x C.b dL_replaceString_16 (by decide) ?_
  exact x_iretH C hW rfl rfl rfl rfl dL_replaceString_17

set_option maxHeartbeats 4000000 in
set_option maxRecDepth 100000 in
theorem bad_L_replaceString (l : Launch) (hst : l.stackTraces = false) (E : EV) (h0 a1 a3 a5 : Nat) (pl tu fr nf : Nat) (q : Int32) (o : Nat) (hb : q < 0 ∨ nI 9 ≤ q) : MIh l yL_replaceString wsL_replaceString { frames := 11, cells := 1, slots := 6, locals := 281 } E [.ref h0, .int q, .ref o] [(h0, .inr (3, [.ref a1, .ref a3, .ref a5, .int (nI pl), .int (nI tu), .int (nI fr), .int (nI nf)]))] 1 6 (nI 1) [(h0, .inr (3, [.ref a1, .ref a3, .ref a5, .int (nI pl), .int (nI tu), .int (nI fr), .int (nI nf)]))] := by
  refine sH (own := RL) (cc := cL_replaceString) (maxL := 4) rfl (by decide) rfl (Nat.le_of_ble_eq_true rfl) ?_
  intro p e s m below meth c C hgc htab ls hl hW
  have hl : lv_has ls 4 [(0, .ref h0), (1, .int q), (2, .ref o)] := hl
  have hW : WD E _ s [(h0, .inr (3, [.ref a1, .ref a3, .ref a5, .int (nI pl), .int (nI tu), .int (nI fr), .int (nI nf)]))] s.heap [] := hW
  refine lv_aload_n C.x C.b dL_replaceString_0 rfl (lv_at hl 2 rfl) ?_
  refine lv_iconst (v := nI 0) C.x C.b dL_replaceString_1 (by decide) ?_
  refine lv_aload_n C.x C.b dL_replaceString_2 rfl (lv_at hl 0 rfl) ?_
  refine lv_iload_n C.x C.b dL_replaceString_3 rfl (lv_at hl 1 rfl) ?_
  refine x_catchV (X := "java/lang/IndexOutOfBoundsException") C hgc [] ⟨0, 9, 12, 19⟩ [⟨0, 9, 15, 13⟩] (htab.trans rfl) (fun z hz => absurd hz List.not_mem_nil) (by decide) (by decide) (name := "java/lang/IndexOutOfBoundsException") (by decide +kernel) hgc.io hW (As := [.int q]) (rest := [.int (nI 0), .ref o]) (wr := [(h0, .inr (3, [.ref a1, .ref a3, .ref a5, .int (nI pl), .int (nI tu), .int (nI fr), .int (nI nf)]))]) (wn := [(h0, .inr (3, [.ref a1, .ref a3, .ref a5, .int (nI pl), .int (nI tu), .int (nI fr), .int (nI nf)]))]) (Cn := RX4) (bad_X4_replaceString l hst E h0 q hb) gL_replaceString_X4_replaceString rfl 1 rfl ⟨rfl, rfl⟩ ⟨rfl, by decide +kernel, by decide +kernel, by decide +kernel⟩ ⟨Nat.le_of_ble_eq_true rfl, Nat.le_of_ble_eq_true rfl⟩ [] [0] [0] rfl (by decide) rfl (by decide) (by decide) rfl (by decide) 0 3 rfl rfl hl.1 rfl (Nat.le_of_ble_eq_true rfl) dL_replaceString_4 ⟨Nat.le_of_ble_eq_true rfl, Nat.le_of_ble_eq_true rfl⟩ (fun q_1 H locs hW => ?_)
  refine lv_astore_n (lv' := [(3, .ref q_1), (0, .ref h0), (1, .int q), (2, .ref o)]) C.x C.b dL_replaceString_12 rfl hl (by decide) rfl (fun ls hl => ?_)
  refine lv_iconst (v := nI 1) C.x C.b dL_replaceString_13 (by decide) ?_
  exact x_iretH C hW rfl rfl rfl rfl dL_replaceString_14

set_option maxHeartbeats 4000000 in
set_option maxRecDepth 100000 in
theorem bad_L_buyStrings_no (l : Launch) (hst : l.stackTraces = false) (E : EV) (h0 a1 a3 a5 : Nat) (pl tu fr nf : Nat) (v : Int32) (o : Nat) (hb : ¬ (nI 1 ≤ v ∧ v ≤ nI 20)) : MIh l yL_buyStrings wsL_buyStrings { frames := 7, cells := 1, slots := 6, locals := 103 } E [.ref h0, .int v, .ref o] [(h0, .inr (3, [.ref a1, .ref a3, .ref a5, .int (nI pl), .int (nI tu), .int (nI fr), .int (nI nf)]))] 1 6 (nI 1) [(h0, .inr (3, [.ref a1, .ref a3, .ref a5, .int (nI pl), .int (nI tu), .int (nI fr), .int (nI nf)]))] := by
  refine sH (own := RL) (cc := cL_buyStrings) (maxL := 4) rfl (by decide) rfl (Nat.le_of_ble_eq_true rfl) ?_
  intro p e s m below meth c C hgc htab ls hl hW
  have hl : lv_has ls 4 [(0, .ref h0), (1, .int v), (2, .ref o)] := hl
  have hW : WD E _ s [(h0, .inr (3, [.ref a1, .ref a3, .ref a5, .int (nI pl), .int (nI tu), .int (nI fr), .int (nI nf)]))] s.heap [] := hW
  refine lv_aload_n C.x C.b dL_buyStrings_0 rfl (lv_at hl 2 rfl) ?_
  refine lv_iconst (v := nI 0) C.x C.b dL_buyStrings_1 (by decide) ?_
  refine lv_aload_n C.x C.b dL_buyStrings_2 rfl (lv_at hl 0 rfl) ?_
  refine lv_iload_n C.x C.b dL_buyStrings_3 rfl (lv_at hl 1 rfl) ?_
  refine x_catchV (X := "java/lang/IllegalArgumentException") C hgc [] ⟨0, 9, 12, 28⟩ [] (htab.trans rfl) (fun z hz => absurd hz List.not_mem_nil) (by decide) (by decide) (name := "java/lang/IllegalArgumentException") (by decide +kernel) hgc.ia hW (As := [.int v]) (rest := [.int (nI 0), .ref o]) (wr := [(h0, .inr (3, [.ref a1, .ref a3, .ref a5, .int (nI pl), .int (nI tu), .int (nI fr), .int (nI nf)]))]) (wn := [(h0, .inr (3, [.ref a1, .ref a3, .ref a5, .int (nI pl), .int (nI tu), .int (nI fr), .int (nI nf)]))]) (Cn := RX4) (bad_X4_buyStrings_no l hst E h0 v hb) gL_buyStrings_X4_buyStrings rfl 1 rfl ⟨rfl, rfl⟩ ⟨rfl, by decide +kernel, by decide +kernel, by decide +kernel⟩ ⟨Nat.le_of_ble_eq_true rfl, Nat.le_of_ble_eq_true rfl⟩ [] [0] [0] rfl (by decide) rfl (by decide) (by decide) rfl (by decide) 0 3 rfl rfl hl.1 rfl (Nat.le_of_ble_eq_true rfl) dL_buyStrings_4 ⟨Nat.le_of_ble_eq_true rfl, Nat.le_of_ble_eq_true rfl⟩ (fun q_1 H locs hW => ?_)
  refine lv_astore_n (lv' := [(3, .ref q_1), (0, .ref h0), (1, .int v), (2, .ref o)]) C.x C.b dL_buyStrings_12 rfl hl (by decide) rfl (fun ls hl => ?_)
  refine lv_iconst (v := nI 1) C.x C.b dL_buyStrings_13 (by decide) ?_
  exact x_iretH C hW rfl rfl rfl rfl dL_buyStrings_14

set_option maxHeartbeats 4000000 in
set_option maxRecDepth 100000 in
theorem bad_L_isStanding (l : Launch) (hst : l.stackTraces = false) (E : EV) (h0 a1 a3 a5 : Nat) (pl tu fr nf : Nat) (q : Int32) (o : Nat) (hb : q < 0 ∨ nI 9 ≤ q) : MIh l yL_isStanding wsL_isStanding { frames := 11, cells := 1, slots := 6, locals := 281 } E [.ref h0, .int q, .ref o] [(h0, .inr (3, [.ref a1, .ref a3, .ref a5, .int (nI pl), .int (nI tu), .int (nI fr), .int (nI nf)]))] 1 6 (nI 1) [(h0, .inr (3, [.ref a1, .ref a3, .ref a5, .int (nI pl), .int (nI tu), .int (nI fr), .int (nI nf)]))] := by
  refine sH (own := RL) (cc := cL_isStanding) (maxL := 4) rfl (by decide) rfl (Nat.le_of_ble_eq_true rfl) ?_
  intro p e s m below meth c C hgc htab ls hl hW
  have hl : lv_has ls 4 [(0, .ref h0), (1, .int q), (2, .ref o)] := hl
  have hW : WD E _ s [(h0, .inr (3, [.ref a1, .ref a3, .ref a5, .int (nI pl), .int (nI tu), .int (nI fr), .int (nI nf)]))] s.heap [] := hW
  refine lv_aload_n C.x C.b dL_isStanding_0 rfl (lv_at hl 2 rfl) ?_
  refine lv_iconst (v := nI 0) C.x C.b dL_isStanding_1 (by decide) ?_
  refine lv_aload_n C.x C.b dL_isStanding_2 rfl (lv_at hl 0 rfl) ?_
  refine lv_iload_n C.x C.b dL_isStanding_3 rfl (lv_at hl 1 rfl) ?_
  refine x_catchV (X := "java/lang/IndexOutOfBoundsException") C hgc [] ⟨0, 16, 19, 19⟩ [] (htab.trans rfl) (fun z hz => absurd hz List.not_mem_nil) (by decide) (by decide) (name := "java/lang/IndexOutOfBoundsException") (by decide +kernel) hgc.io hW (As := [.int q]) (rest := [.int (nI 0), .ref o]) (wr := [(h0, .inr (3, [.ref a1, .ref a3, .ref a5, .int (nI pl), .int (nI tu), .int (nI fr), .int (nI nf)]))]) (wn := [(h0, .inr (3, [.ref a1, .ref a3, .ref a5, .int (nI pl), .int (nI tu), .int (nI fr), .int (nI nf)]))]) (Cn := RX4) (bad_X4_isStanding l hst E h0 q hb) gL_isStanding_X4_isStanding rfl 1 rfl ⟨rfl, rfl⟩ ⟨rfl, by decide +kernel, by decide +kernel, by decide +kernel⟩ ⟨Nat.le_of_ble_eq_true rfl, Nat.le_of_ble_eq_true rfl⟩ [] [0] [0] rfl (by decide) rfl (by decide) (by decide) rfl (by decide) 0 3 rfl rfl hl.1 rfl (Nat.le_of_ble_eq_true rfl) dL_isStanding_4 ⟨Nat.le_of_ble_eq_true rfl, Nat.le_of_ble_eq_true rfl⟩ (fun q_1 H locs hW => ?_)
  refine lv_astore_n (lv' := [(3, .ref q_1), (0, .ref h0), (1, .int q), (2, .ref o)]) C.x C.b dL_isStanding_19 rfl hl (by decide) rfl (fun ls hl => ?_)
  refine lv_iconst (v := nI 1) C.x C.b dL_isStanding_20 (by decide) ?_
  exact x_iretH C hW rfl rfl rfl rfl dL_isStanding_21

set_option maxHeartbeats 4000000 in
set_option maxRecDepth 100000 in
theorem bad_L_wearOf (l : Launch) (hst : l.stackTraces = false) (E : EV) (h0 a1 a3 a5 : Nat) (pl tu fr nf : Nat) (q : Int32) (o : Nat) (hb : q < 0 ∨ nI 9 ≤ q) : MIh l yL_wearOf wsL_wearOf { frames := 11, cells := 1, slots := 6, locals := 281 } E [.ref h0, .int q, .ref o] [(h0, .inr (3, [.ref a1, .ref a3, .ref a5, .int (nI pl), .int (nI tu), .int (nI fr), .int (nI nf)]))] 1 6 (nI 1) [(h0, .inr (3, [.ref a1, .ref a3, .ref a5, .int (nI pl), .int (nI tu), .int (nI fr), .int (nI nf)]))] := by
  refine sH (own := RL) (cc := cL_wearOf) (maxL := 4) rfl (by decide) rfl (Nat.le_of_ble_eq_true rfl) ?_
  intro p e s m below meth c C hgc htab ls hl hW
  have hl : lv_has ls 4 [(0, .ref h0), (1, .int q), (2, .ref o)] := hl
  have hW : WD E _ s [(h0, .inr (3, [.ref a1, .ref a3, .ref a5, .int (nI pl), .int (nI tu), .int (nI fr), .int (nI nf)]))] s.heap [] := hW
  refine lv_aload_n C.x C.b dL_wearOf_0 rfl (lv_at hl 2 rfl) ?_
  refine lv_iconst (v := nI 0) C.x C.b dL_wearOf_1 (by decide) ?_
  refine lv_aload_n C.x C.b dL_wearOf_2 rfl (lv_at hl 0 rfl) ?_
  refine lv_iload_n C.x C.b dL_wearOf_3 rfl (lv_at hl 1 rfl) ?_
  refine x_catchV (X := "java/lang/IndexOutOfBoundsException") C hgc [] ⟨0, 9, 12, 19⟩ [] (htab.trans rfl) (fun z hz => absurd hz List.not_mem_nil) (by decide) (by decide) (name := "java/lang/IndexOutOfBoundsException") (by decide +kernel) hgc.io hW (As := [.int q]) (rest := [.int (nI 0), .ref o]) (wr := [(h0, .inr (3, [.ref a1, .ref a3, .ref a5, .int (nI pl), .int (nI tu), .int (nI fr), .int (nI nf)]))]) (wn := [(h0, .inr (3, [.ref a1, .ref a3, .ref a5, .int (nI pl), .int (nI tu), .int (nI fr), .int (nI nf)]))]) (Cn := RX4) (bad_X4_wearOf l hst E h0 q hb) gL_wearOf_X4_wearOf rfl 1 rfl ⟨rfl, rfl⟩ ⟨rfl, by decide +kernel, by decide +kernel, by decide +kernel⟩ ⟨Nat.le_of_ble_eq_true rfl, Nat.le_of_ble_eq_true rfl⟩ [] [0] [0] rfl (by decide) rfl (by decide) (by decide) rfl (by decide) 0 3 rfl rfl hl.1 rfl (Nat.le_of_ble_eq_true rfl) dL_wearOf_4 ⟨Nat.le_of_ble_eq_true rfl, Nat.le_of_ble_eq_true rfl⟩ (fun q_1 H locs hW => ?_)
  refine lv_astore_n (lv' := [(3, .ref q_1), (0, .ref h0), (1, .int q), (2, .ref o)]) C.x C.b dL_wearOf_12 rfl hl (by decide) rfl (fun ls hl => ?_)
  refine lv_iconst (v := nI 1) C.x C.b dL_wearOf_13 (by decide) ?_
  exact x_iretH C hW rfl rfl rfl rfl dL_wearOf_14

set_option maxHeartbeats 4000000 in
set_option maxRecDepth 100000 in
theorem bad_L_isBroken (l : Launch) (hst : l.stackTraces = false) (E : EV) (h0 a1 a3 a5 : Nat) (pl tu fr nf : Nat) (q : Int32) (o : Nat) (hb : q < 0 ∨ nI 9 ≤ q) : MIh l yL_isBroken wsL_isBroken { frames := 11, cells := 1, slots := 6, locals := 281 } E [.ref h0, .int q, .ref o] [(h0, .inr (3, [.ref a1, .ref a3, .ref a5, .int (nI pl), .int (nI tu), .int (nI fr), .int (nI nf)]))] 1 6 (nI 1) [(h0, .inr (3, [.ref a1, .ref a3, .ref a5, .int (nI pl), .int (nI tu), .int (nI fr), .int (nI nf)]))] := by
  refine sH (own := RL) (cc := cL_isBroken) (maxL := 4) rfl (by decide) rfl (Nat.le_of_ble_eq_true rfl) ?_
  intro p e s m below meth c C hgc htab ls hl hW
  have hl : lv_has ls 4 [(0, .ref h0), (1, .int q), (2, .ref o)] := hl
  have hW : WD E _ s [(h0, .inr (3, [.ref a1, .ref a3, .ref a5, .int (nI pl), .int (nI tu), .int (nI fr), .int (nI nf)]))] s.heap [] := hW
  refine lv_aload_n C.x C.b dL_isBroken_0 rfl (lv_at hl 2 rfl) ?_
  refine lv_iconst (v := nI 0) C.x C.b dL_isBroken_1 (by decide) ?_
  refine lv_aload_n C.x C.b dL_isBroken_2 rfl (lv_at hl 0 rfl) ?_
  refine lv_iload_n C.x C.b dL_isBroken_3 rfl (lv_at hl 1 rfl) ?_
  refine x_catchV (X := "java/lang/IndexOutOfBoundsException") C hgc [] ⟨0, 16, 19, 19⟩ [] (htab.trans rfl) (fun z hz => absurd hz List.not_mem_nil) (by decide) (by decide) (name := "java/lang/IndexOutOfBoundsException") (by decide +kernel) hgc.io hW (As := [.int q]) (rest := [.int (nI 0), .ref o]) (wr := [(h0, .inr (3, [.ref a1, .ref a3, .ref a5, .int (nI pl), .int (nI tu), .int (nI fr), .int (nI nf)]))]) (wn := [(h0, .inr (3, [.ref a1, .ref a3, .ref a5, .int (nI pl), .int (nI tu), .int (nI fr), .int (nI nf)]))]) (Cn := RX4) (bad_X4_isBroken l hst E h0 q hb) gL_isBroken_X4_isBroken rfl 1 rfl ⟨rfl, rfl⟩ ⟨rfl, by decide +kernel, by decide +kernel, by decide +kernel⟩ ⟨Nat.le_of_ble_eq_true rfl, Nat.le_of_ble_eq_true rfl⟩ [] [0] [0] rfl (by decide) rfl (by decide) (by decide) rfl (by decide) 0 3 rfl rfl hl.1 rfl (Nat.le_of_ble_eq_true rfl) dL_isBroken_4 ⟨Nat.le_of_ble_eq_true rfl, Nat.le_of_ble_eq_true rfl⟩ (fun q_1 H locs hW => ?_)
  refine lv_astore_n (lv' := [(3, .ref q_1), (0, .ref h0), (1, .int q), (2, .ref o)]) C.x C.b dL_isBroken_19 rfl hl (by decide) rfl (fun ls hl => ?_)
  refine lv_iconst (v := nI 1) C.x C.b dL_isBroken_20 (by decide) ?_
  exact x_iretH C hW rfl rfl rfl rfl dL_isBroken_21

set_option maxHeartbeats 4000000 in
set_option maxRecDepth 100000 in
theorem bad_L_awayFor (l : Launch) (hst : l.stackTraces = false) (E : EV) (h0 a1 a3 a5 : Nat) (pl tu fr nf : Nat) (q : Int32) (o : Nat) (hb : q < 0 ∨ nI 5 ≤ q) : MIh l yL_awayFor wsL_awayFor { frames := 11, cells := 1, slots := 6, locals := 281 } E [.ref h0, .int q, .ref o] [(h0, .inr (3, [.ref a1, .ref a3, .ref a5, .int (nI pl), .int (nI tu), .int (nI fr), .int (nI nf)]))] 1 6 (nI 1) [(h0, .inr (3, [.ref a1, .ref a3, .ref a5, .int (nI pl), .int (nI tu), .int (nI fr), .int (nI nf)]))] := by
  refine sH (own := RL) (cc := cL_awayFor) (maxL := 4) rfl (by decide) rfl (Nat.le_of_ble_eq_true rfl) ?_
  intro p e s m below meth c C hgc htab ls hl hW
  have hl : lv_has ls 4 [(0, .ref h0), (1, .int q), (2, .ref o)] := hl
  have hW : WD E _ s [(h0, .inr (3, [.ref a1, .ref a3, .ref a5, .int (nI pl), .int (nI tu), .int (nI fr), .int (nI nf)]))] s.heap [] := hW
  refine lv_aload_n C.x C.b dL_awayFor_0 rfl (lv_at hl 2 rfl) ?_
  refine lv_iconst (v := nI 0) C.x C.b dL_awayFor_1 (by decide) ?_
  refine lv_aload_n C.x C.b dL_awayFor_2 rfl (lv_at hl 0 rfl) ?_
  refine lv_iload_n C.x C.b dL_awayFor_3 rfl (lv_at hl 1 rfl) ?_
  refine x_catchV (X := "java/lang/IndexOutOfBoundsException") C hgc [] ⟨0, 9, 12, 19⟩ [] (htab.trans rfl) (fun z hz => absurd hz List.not_mem_nil) (by decide) (by decide) (name := "java/lang/IndexOutOfBoundsException") (by decide +kernel) hgc.io hW (As := [.int q]) (rest := [.int (nI 0), .ref o]) (wr := [(h0, .inr (3, [.ref a1, .ref a3, .ref a5, .int (nI pl), .int (nI tu), .int (nI fr), .int (nI nf)]))]) (wn := [(h0, .inr (3, [.ref a1, .ref a3, .ref a5, .int (nI pl), .int (nI tu), .int (nI fr), .int (nI nf)]))]) (Cn := RX4) (bad_X4_awayFor l hst E h0 q hb) gL_awayFor_X4_awayFor rfl 1 rfl ⟨rfl, rfl⟩ ⟨rfl, by decide +kernel, by decide +kernel, by decide +kernel⟩ ⟨Nat.le_of_ble_eq_true rfl, Nat.le_of_ble_eq_true rfl⟩ [] [0] [0] rfl (by decide) rfl (by decide) (by decide) rfl (by decide) 0 3 rfl rfl hl.1 rfl (Nat.le_of_ble_eq_true rfl) dL_awayFor_4 ⟨Nat.le_of_ble_eq_true rfl, Nat.le_of_ble_eq_true rfl⟩ (fun q_1 H locs hW => ?_)
  refine lv_astore_n (lv' := [(3, .ref q_1), (0, .ref h0), (1, .int q), (2, .ref o)]) C.x C.b dL_awayFor_12 rfl hl (by decide) rfl (fun ls hl => ?_)
  refine lv_iconst (v := nI 1) C.x C.b dL_awayFor_13 (by decide) ?_
  exact x_iretH C hW rfl rfl rfl rfl dL_awayFor_14

set_option maxHeartbeats 4000000 in
set_option maxRecDepth 100000 in
theorem bad_L_throwsOf (l : Launch) (hst : l.stackTraces = false) (E : EV) (h0 a1 a3 a5 : Nat) (pl tu fr nf : Nat) (q : Int32) (o : Nat) (hq : q < 0 ∨ nI pl ≤ q) : MIh l yL_throwsOf wsL_throwsOf { frames := 11, cells := 1, slots := 6, locals := 281 } E [.ref h0, .int q, .ref o] [(h0, .inr (3, [.ref a1, .ref a3, .ref a5, .int (nI pl), .int (nI tu), .int (nI fr), .int (nI nf)]))] 1 6 (nI 1) [(h0, .inr (3, [.ref a1, .ref a3, .ref a5, .int (nI pl), .int (nI tu), .int (nI fr), .int (nI nf)]))] := by
  refine sH (own := RL) (cc := cL_throwsOf) (maxL := 4) rfl (by decide) rfl (Nat.le_of_ble_eq_true rfl) ?_
  intro p e s m below meth c C hgc htab ls hl hW
  have hl : lv_has ls 4 [(0, .ref h0), (1, .int q), (2, .ref o)] := hl
  have hW : WD E _ s [(h0, .inr (3, [.ref a1, .ref a3, .ref a5, .int (nI pl), .int (nI tu), .int (nI fr), .int (nI nf)]))] s.heap [] := hW
  refine lv_aload_n C.x C.b dL_throwsOf_0 rfl (lv_at hl 2 rfl) ?_
  refine lv_iconst (v := nI 0) C.x C.b dL_throwsOf_1 (by decide) ?_
  refine lv_aload_n C.x C.b dL_throwsOf_2 rfl (lv_at hl 0 rfl) ?_
  refine lv_iload_n C.x C.b dL_throwsOf_3 rfl (lv_at hl 1 rfl) ?_
  refine x_catchV (X := "java/lang/IndexOutOfBoundsException") C hgc [] ⟨0, 9, 12, 19⟩ [] (htab.trans rfl) (fun z hz => absurd hz List.not_mem_nil) (by decide) (by decide) (name := "java/lang/IndexOutOfBoundsException") (by decide +kernel) hgc.io hW (As := [.int q]) (rest := [.int (nI 0), .ref o]) (wr := []) (wn := [(h0, .inr (3, [.ref a1, .ref a3, .ref a5, .int (nI pl), .int (nI tu), .int (nI fr), .int (nI nf)]))]) (Cn := RX4) (bad_X4_throwsOf l hst E h0 a1 a3 a5 pl tu fr nf q hq) gL_throwsOf_X4_throwsOf rfl 1 rfl ⟨rfl, rfl⟩ ⟨rfl, by decide +kernel, by decide +kernel, by decide +kernel⟩ ⟨Nat.le_of_ble_eq_true rfl, Nat.le_of_ble_eq_true rfl⟩ [0] [] [0] rfl (by decide) rfl (by decide) (by decide) rfl (by decide) 0 3 rfl rfl hl.1 rfl (Nat.le_of_ble_eq_true rfl) dL_throwsOf_4 ⟨Nat.le_of_ble_eq_true rfl, Nat.le_of_ble_eq_true rfl⟩ (fun q_1 H locs hW => ?_)
  refine lv_astore_n (lv' := [(3, .ref q_1), (0, .ref h0), (1, .int q), (2, .ref o)]) C.x C.b dL_throwsOf_12 rfl hl (by decide) rfl (fun ls hl => ?_)
  refine lv_iconst (v := nI 1) C.x C.b dL_throwsOf_13 (by decide) ?_
  exact x_iretH C hW rfl rfl rfl rfl dL_throwsOf_14

set_option maxHeartbeats 4000000 in
set_option maxRecDepth 100000 in
theorem bad_L_scoreOf (l : Launch) (hst : l.stackTraces = false) (E : EV) (h0 a1 a3 a5 : Nat) (pl tu fr nf : Nat) (q : Int32) (o : Nat) (hq : q < 0 ∨ nI pl ≤ q) : MIh l yL_scoreOf wsL_scoreOf { frames := 11, cells := 1, slots := 6, locals := 281 } E [.ref h0, .int q, .ref o] [(h0, .inr (3, [.ref a1, .ref a3, .ref a5, .int (nI pl), .int (nI tu), .int (nI fr), .int (nI nf)]))] 1 6 (nI 1) [(h0, .inr (3, [.ref a1, .ref a3, .ref a5, .int (nI pl), .int (nI tu), .int (nI fr), .int (nI nf)]))] := by
  refine sH (own := RL) (cc := cL_scoreOf) (maxL := 4) rfl (by decide) rfl (Nat.le_of_ble_eq_true rfl) ?_
  intro p e s m below meth c C hgc htab ls hl hW
  have hl : lv_has ls 4 [(0, .ref h0), (1, .int q), (2, .ref o)] := hl
  have hW : WD E _ s [(h0, .inr (3, [.ref a1, .ref a3, .ref a5, .int (nI pl), .int (nI tu), .int (nI fr), .int (nI nf)]))] s.heap [] := hW
  refine lv_aload_n C.x C.b dL_scoreOf_0 rfl (lv_at hl 2 rfl) ?_
  refine lv_iconst (v := nI 0) C.x C.b dL_scoreOf_1 (by decide) ?_
  refine lv_aload_n C.x C.b dL_scoreOf_2 rfl (lv_at hl 0 rfl) ?_
  refine lv_iload_n C.x C.b dL_scoreOf_3 rfl (lv_at hl 1 rfl) ?_
  refine x_catchV (X := "java/lang/IndexOutOfBoundsException") C hgc [] ⟨0, 9, 12, 19⟩ [] (htab.trans rfl) (fun z hz => absurd hz List.not_mem_nil) (by decide) (by decide) (name := "java/lang/IndexOutOfBoundsException") (by decide +kernel) hgc.io hW (As := [.int q]) (rest := [.int (nI 0), .ref o]) (wr := []) (wn := [(h0, .inr (3, [.ref a1, .ref a3, .ref a5, .int (nI pl), .int (nI tu), .int (nI fr), .int (nI nf)]))]) (Cn := RX4) (bad_X4_scoreOf l hst E h0 a1 a3 a5 pl tu fr nf q hq) gL_scoreOf_X4_scoreOf rfl 1 rfl ⟨rfl, rfl⟩ ⟨rfl, by decide +kernel, by decide +kernel, by decide +kernel⟩ ⟨Nat.le_of_ble_eq_true rfl, Nat.le_of_ble_eq_true rfl⟩ [0] [] [0] rfl (by decide) rfl (by decide) (by decide) rfl (by decide) 0 3 rfl rfl hl.1 rfl (Nat.le_of_ble_eq_true rfl) dL_scoreOf_4 ⟨Nat.le_of_ble_eq_true rfl, Nat.le_of_ble_eq_true rfl⟩ (fun q_1 H locs hW => ?_)
  refine lv_astore_n (lv' := [(3, .ref q_1), (0, .ref h0), (1, .int q), (2, .ref o)]) C.x C.b dL_scoreOf_12 rfl hl (by decide) rfl (fun ls hl => ?_)
  refine lv_iconst (v := nI 1) C.x C.b dL_scoreOf_13 (by decide) ?_
  exact x_iretH C hW rfl rfl rfl rfl dL_scoreOf_14

set_option maxHeartbeats 4000000 in
set_option maxRecDepth 100000 in
theorem bad_L_pointsOf_p (l : Launch) (hst : l.stackTraces = false) (E : EV) (h0 a1 a3 a5 : Nat) (pl tu fr nf : Nat) (q f : Int32) (o : Nat) (hq : q < 0 ∨ nI pl ≤ q) : MIh l yL_pointsOf wsL_pointsOf { frames := 11, cells := 1, slots := 6, locals := 282 } E [.ref h0, .int q, .int f, .ref o] [(h0, .inr (3, [.ref a1, .ref a3, .ref a5, .int (nI pl), .int (nI tu), .int (nI fr), .int (nI nf)]))] 1 6 (nI 1) [(h0, .inr (3, [.ref a1, .ref a3, .ref a5, .int (nI pl), .int (nI tu), .int (nI fr), .int (nI nf)]))] := by
  refine sH (own := RL) (cc := cL_pointsOf) (maxL := 5) rfl (by decide) rfl (Nat.le_of_ble_eq_true rfl) ?_
  intro p e s m below meth c C hgc htab ls hl hW
  have hl : lv_has ls 5 [(0, .ref h0), (1, .int q), (2, .int f), (3, .ref o)] := hl
  have hW : WD E _ s [(h0, .inr (3, [.ref a1, .ref a3, .ref a5, .int (nI pl), .int (nI tu), .int (nI fr), .int (nI nf)]))] s.heap [] := hW
  refine lv_aload_n C.x C.b dL_pointsOf_0 rfl (lv_at hl 3 rfl) ?_
  refine lv_iconst (v := nI 0) C.x C.b dL_pointsOf_1 (by decide) ?_
  refine lv_aload_n C.x C.b dL_pointsOf_2 rfl (lv_at hl 0 rfl) ?_
  refine lv_iload_n C.x C.b dL_pointsOf_3 rfl (lv_at hl 1 rfl) ?_
  refine lv_iload_n C.x C.b dL_pointsOf_4 rfl (lv_at hl 2 rfl) ?_
  refine x_catchV (X := "java/lang/IndexOutOfBoundsException") C hgc [] ⟨0, 10, 13, 19⟩ [] (htab.trans rfl) (fun z hz => absurd hz List.not_mem_nil) (by decide) (by decide) (name := "java/lang/IndexOutOfBoundsException") (by decide +kernel) hgc.io hW (As := [.int q, .int f]) (rest := [.int (nI 0), .ref o]) (wr := []) (wn := [(h0, .inr (3, [.ref a1, .ref a3, .ref a5, .int (nI pl), .int (nI tu), .int (nI fr), .int (nI nf)]))]) (Cn := RX4) (bad_X4_pointsOf_p l hst E h0 a1 a3 a5 pl tu fr nf q f hq) gL_pointsOf_X4_pointsOf rfl 2 rfl ⟨rfl, rfl⟩ ⟨rfl, by decide +kernel, by decide +kernel, by decide +kernel⟩ ⟨Nat.le_of_ble_eq_true rfl, Nat.le_of_ble_eq_true rfl⟩ [0] [] [0] rfl (by decide) rfl (by decide) (by decide) rfl (by decide) 0 3 rfl rfl hl.1 rfl (Nat.le_of_ble_eq_true rfl) dL_pointsOf_5 ⟨Nat.le_of_ble_eq_true rfl, Nat.le_of_ble_eq_true rfl⟩ (fun q_1 H locs hW => ?_)
  refine lv_astore (lv' := [(4, .ref q_1), (0, .ref h0), (1, .int q), (2, .int f), (3, .ref o)]) C.x C.b dL_pointsOf_13 hl (by decide) rfl (fun ls hl => ?_)
  refine lv_iconst (v := nI 1) C.x C.b dL_pointsOf_15 (by decide) ?_
  exact x_iretH C hW rfl rfl rfl rfl dL_pointsOf_16

set_option maxHeartbeats 4000000 in
set_option maxRecDepth 100000 in
theorem bad_L_pointsOf_f (l : Launch) (hst : l.stackTraces = false) (E : EV) (h0 a1 a3 a5 : Nat) (pl tu fr nf : Nat) (q : Nat) (f : Int32) (o : Nat) (hq : q < pl) (hpl : pl ≤ 4) (hf : f < 0 ∨ nI 10 ≤ f) : MIh l yL_pointsOf wsL_pointsOf { frames := 11, cells := 1, slots := 6, locals := 282 } E [.ref h0, .int (nI q), .int f, .ref o] [(h0, .inr (3, [.ref a1, .ref a3, .ref a5, .int (nI pl), .int (nI tu), .int (nI fr), .int (nI nf)]))] 1 6 (nI 1) [(h0, .inr (3, [.ref a1, .ref a3, .ref a5, .int (nI pl), .int (nI tu), .int (nI fr), .int (nI nf)]))] := by
  refine sH (own := RL) (cc := cL_pointsOf) (maxL := 5) rfl (by decide) rfl (Nat.le_of_ble_eq_true rfl) ?_
  intro p e s m below meth c C hgc htab ls hl hW
  have hl : lv_has ls 5 [(0, .ref h0), (1, .int (nI q)), (2, .int f), (3, .ref o)] := hl
  have hW : WD E _ s [(h0, .inr (3, [.ref a1, .ref a3, .ref a5, .int (nI pl), .int (nI tu), .int (nI fr), .int (nI nf)]))] s.heap [] := hW
  refine lv_aload_n C.x C.b dL_pointsOf_0 rfl (lv_at hl 3 rfl) ?_
  refine lv_iconst (v := nI 0) C.x C.b dL_pointsOf_1 (by decide) ?_
  refine lv_aload_n C.x C.b dL_pointsOf_2 rfl (lv_at hl 0 rfl) ?_
  refine lv_iload_n C.x C.b dL_pointsOf_3 rfl (lv_at hl 1 rfl) ?_
  refine lv_iload_n C.x C.b dL_pointsOf_4 rfl (lv_at hl 2 rfl) ?_
  refine x_catchV (X := "java/lang/IndexOutOfBoundsException") C hgc [] ⟨0, 10, 13, 19⟩ [] (htab.trans rfl) (fun z hz => absurd hz List.not_mem_nil) (by decide) (by decide) (name := "java/lang/IndexOutOfBoundsException") (by decide +kernel) hgc.io hW (As := [.int (nI q), .int f]) (rest := [.int (nI 0), .ref o]) (wr := []) (wn := [(h0, .inr (3, [.ref a1, .ref a3, .ref a5, .int (nI pl), .int (nI tu), .int (nI fr), .int (nI nf)]))]) (Cn := RX4) (bad_X4_pointsOf_f l hst E h0 a1 a3 a5 pl tu fr nf q f hq hpl hf) gL_pointsOf_X4_pointsOf rfl 2 rfl ⟨rfl, rfl⟩ ⟨rfl, by decide +kernel, by decide +kernel, by decide +kernel⟩ ⟨Nat.le_of_ble_eq_true rfl, Nat.le_of_ble_eq_true rfl⟩ [0] [] [0] rfl (by decide) rfl (by decide) (by decide) rfl (by decide) 0 3 rfl rfl hl.1 rfl (Nat.le_of_ble_eq_true rfl) dL_pointsOf_5 ⟨Nat.le_of_ble_eq_true rfl, Nat.le_of_ble_eq_true rfl⟩ (fun q_1 H locs hW => ?_)
  refine lv_astore (lv' := [(4, .ref q_1), (0, .ref h0), (1, .int (nI q)), (2, .int f), (3, .ref o)]) C.x C.b dL_pointsOf_13 hl (by decide) rfl (fun ls hl => ?_)
  refine lv_iconst (v := nI 1) C.x C.b dL_pointsOf_15 (by decide) ?_
  exact x_iretH C hW rfl rfl rfl rfl dL_pointsOf_16

set_option maxHeartbeats 4000000 in
set_option maxRecDepth 100000 in
theorem bad_L_strikesOf (l : Launch) (hst : l.stackTraces = false) (E : EV) (h0 a1 a3 a5 : Nat) (pl tu fr nf : Nat) (q : Int32) (o : Nat) (hq : q < 0 ∨ nI pl ≤ q) : MIh l yL_strikesOf wsL_strikesOf { frames := 11, cells := 1, slots := 6, locals := 281 } E [.ref h0, .int q, .ref o] [(h0, .inr (3, [.ref a1, .ref a3, .ref a5, .int (nI pl), .int (nI tu), .int (nI fr), .int (nI nf)]))] 1 6 (nI 1) [(h0, .inr (3, [.ref a1, .ref a3, .ref a5, .int (nI pl), .int (nI tu), .int (nI fr), .int (nI nf)]))] := by
  refine sH (own := RL) (cc := cL_strikesOf) (maxL := 4) rfl (by decide) rfl (Nat.le_of_ble_eq_true rfl) ?_
  intro p e s m below meth c C hgc htab ls hl hW
  have hl : lv_has ls 4 [(0, .ref h0), (1, .int q), (2, .ref o)] := hl
  have hW : WD E _ s [(h0, .inr (3, [.ref a1, .ref a3, .ref a5, .int (nI pl), .int (nI tu), .int (nI fr), .int (nI nf)]))] s.heap [] := hW
  refine lv_aload_n C.x C.b dL_strikesOf_0 rfl (lv_at hl 2 rfl) ?_
  refine lv_iconst (v := nI 0) C.x C.b dL_strikesOf_1 (by decide) ?_
  refine lv_aload_n C.x C.b dL_strikesOf_2 rfl (lv_at hl 0 rfl) ?_
  refine lv_iload_n C.x C.b dL_strikesOf_3 rfl (lv_at hl 1 rfl) ?_
  refine x_catchV (X := "java/lang/IndexOutOfBoundsException") C hgc [] ⟨0, 9, 12, 19⟩ [] (htab.trans rfl) (fun z hz => absurd hz List.not_mem_nil) (by decide) (by decide) (name := "java/lang/IndexOutOfBoundsException") (by decide +kernel) hgc.io hW (As := [.int q]) (rest := [.int (nI 0), .ref o]) (wr := []) (wn := [(h0, .inr (3, [.ref a1, .ref a3, .ref a5, .int (nI pl), .int (nI tu), .int (nI fr), .int (nI nf)]))]) (Cn := RX4) (bad_X4_strikesOf l hst E h0 a1 a3 a5 pl tu fr nf q hq) gL_strikesOf_X4_strikesOf rfl 1 rfl ⟨rfl, rfl⟩ ⟨rfl, by decide +kernel, by decide +kernel, by decide +kernel⟩ ⟨Nat.le_of_ble_eq_true rfl, Nat.le_of_ble_eq_true rfl⟩ [0] [] [0] rfl (by decide) rfl (by decide) (by decide) rfl (by decide) 0 3 rfl rfl hl.1 rfl (Nat.le_of_ble_eq_true rfl) dL_strikesOf_4 ⟨Nat.le_of_ble_eq_true rfl, Nat.le_of_ble_eq_true rfl⟩ (fun q_1 H locs hW => ?_)
  refine lv_astore_n (lv' := [(3, .ref q_1), (0, .ref h0), (1, .int q), (2, .ref o)]) C.x C.b dL_strikesOf_12 rfl hl (by decide) rfl (fun ls hl => ?_)
  refine lv_iconst (v := nI 1) C.x C.b dL_strikesOf_13 (by decide) ?_
  exact x_iretH C hW rfl rfl rfl rfl dL_strikesOf_14

set_option maxHeartbeats 4000000 in
set_option maxRecDepth 100000 in
theorem bad_L_sparesOf (l : Launch) (hst : l.stackTraces = false) (E : EV) (h0 a1 a3 a5 : Nat) (pl tu fr nf : Nat) (q : Int32) (o : Nat) (hq : q < 0 ∨ nI pl ≤ q) : MIh l yL_sparesOf wsL_sparesOf { frames := 11, cells := 1, slots := 6, locals := 281 } E [.ref h0, .int q, .ref o] [(h0, .inr (3, [.ref a1, .ref a3, .ref a5, .int (nI pl), .int (nI tu), .int (nI fr), .int (nI nf)]))] 1 6 (nI 1) [(h0, .inr (3, [.ref a1, .ref a3, .ref a5, .int (nI pl), .int (nI tu), .int (nI fr), .int (nI nf)]))] := by
  refine sH (own := RL) (cc := cL_sparesOf) (maxL := 4) rfl (by decide) rfl (Nat.le_of_ble_eq_true rfl) ?_
  intro p e s m below meth c C hgc htab ls hl hW
  have hl : lv_has ls 4 [(0, .ref h0), (1, .int q), (2, .ref o)] := hl
  have hW : WD E _ s [(h0, .inr (3, [.ref a1, .ref a3, .ref a5, .int (nI pl), .int (nI tu), .int (nI fr), .int (nI nf)]))] s.heap [] := hW
  refine lv_aload_n C.x C.b dL_sparesOf_0 rfl (lv_at hl 2 rfl) ?_
  refine lv_iconst (v := nI 0) C.x C.b dL_sparesOf_1 (by decide) ?_
  refine lv_aload_n C.x C.b dL_sparesOf_2 rfl (lv_at hl 0 rfl) ?_
  refine lv_iload_n C.x C.b dL_sparesOf_3 rfl (lv_at hl 1 rfl) ?_
  refine x_catchV (X := "java/lang/IndexOutOfBoundsException") C hgc [] ⟨0, 9, 12, 19⟩ [] (htab.trans rfl) (fun z hz => absurd hz List.not_mem_nil) (by decide) (by decide) (name := "java/lang/IndexOutOfBoundsException") (by decide +kernel) hgc.io hW (As := [.int q]) (rest := [.int (nI 0), .ref o]) (wr := []) (wn := [(h0, .inr (3, [.ref a1, .ref a3, .ref a5, .int (nI pl), .int (nI tu), .int (nI fr), .int (nI nf)]))]) (Cn := RX4) (bad_X4_sparesOf l hst E h0 a1 a3 a5 pl tu fr nf q hq) gL_sparesOf_X4_sparesOf rfl 1 rfl ⟨rfl, rfl⟩ ⟨rfl, by decide +kernel, by decide +kernel, by decide +kernel⟩ ⟨Nat.le_of_ble_eq_true rfl, Nat.le_of_ble_eq_true rfl⟩ [0] [] [0] rfl (by decide) rfl (by decide) (by decide) rfl (by decide) 0 3 rfl rfl hl.1 rfl (Nat.le_of_ble_eq_true rfl) dL_sparesOf_4 ⟨Nat.le_of_ble_eq_true rfl, Nat.le_of_ble_eq_true rfl⟩ (fun q_1 H locs hW => ?_)
  refine lv_astore_n (lv' := [(3, .ref q_1), (0, .ref h0), (1, .int q), (2, .ref o)]) C.x C.b dL_sparesOf_12 rfl hl (by decide) rfl (fun ls hl => ?_)
  refine lv_iconst (v := nI 1) C.x C.b dL_sparesOf_13 (by decide) ?_
  exact x_iretH C hW rfl rfl rfl rfl dL_sparesOf_14

set_option maxHeartbeats 4000000 in
set_option maxRecDepth 100000 in
theorem bad_L_wouldFall_b (l : Launch) (hst : l.stackTraces = false) (E : EV) (h0 a1 a3 a5 : Nat) (pl tu fr nf : Nat) (b z : Int32) (o : Nat) (hb : b < 0 ∨ nI 5 ≤ b) : MIh l yL_wouldFall wsL_wouldFall { frames := 12, cells := 1, slots := 6, locals := 312 } E [.ref h0, .int b, .int z, .ref o] [(h0, .inr (3, [.ref a1, .ref a3, .ref a5, .int (nI pl), .int (nI tu), .int (nI fr), .int (nI nf)]))] 1 6 (nI 1) [(h0, .inr (3, [.ref a1, .ref a3, .ref a5, .int (nI pl), .int (nI tu), .int (nI fr), .int (nI nf)]))] := by
  refine sH (own := RL) (cc := cL_wouldFall) (maxL := 5) rfl (by decide) rfl (Nat.le_of_ble_eq_true rfl) ?_
  intro p e s m below meth c C hgc htab ls hl hW
  have hl : lv_has ls 5 [(0, .ref h0), (1, .int b), (2, .int z), (3, .ref o)] := hl
  have hW : WD E _ s [(h0, .inr (3, [.ref a1, .ref a3, .ref a5, .int (nI pl), .int (nI tu), .int (nI fr), .int (nI nf)]))] s.heap [] := hW
  refine lv_aload_n C.x C.b dL_wouldFall_0 rfl (lv_at hl 3 rfl) ?_
  refine lv_iconst (v := nI 0) C.x C.b dL_wouldFall_1 (by decide) ?_
  refine lv_aload_n C.x C.b dL_wouldFall_2 rfl (lv_at hl 0 rfl) ?_
  refine lv_iload_n C.x C.b dL_wouldFall_3 rfl (lv_at hl 1 rfl) ?_
  refine lv_iload_n C.x C.b dL_wouldFall_4 rfl (lv_at hl 2 rfl) ?_
  refine x_catchV (X := "java/lang/IndexOutOfBoundsException") C hgc [] ⟨0, 10, 13, 19⟩ [] (htab.trans rfl) (fun z hz => absurd hz List.not_mem_nil) (by decide) (by decide) (name := "java/lang/IndexOutOfBoundsException") (by decide +kernel) hgc.io hW (As := [.int b, .int z]) (rest := [.int (nI 0), .ref o]) (wr := [(h0, .inr (3, [.ref a1, .ref a3, .ref a5, .int (nI pl), .int (nI tu), .int (nI fr), .int (nI nf)]))]) (wn := [(h0, .inr (3, [.ref a1, .ref a3, .ref a5, .int (nI pl), .int (nI tu), .int (nI fr), .int (nI nf)]))]) (Cn := RX4) (bad_X4_wouldFall_b l hst E h0 b z hb) gL_wouldFall_X4_wouldFall rfl 2 rfl ⟨rfl, rfl⟩ ⟨rfl, by decide +kernel, by decide +kernel, by decide +kernel⟩ ⟨Nat.le_of_ble_eq_true rfl, Nat.le_of_ble_eq_true rfl⟩ [] [0] [0] rfl (by decide) rfl (by decide) (by decide) rfl (by decide) 0 3 rfl rfl hl.1 rfl (Nat.le_of_ble_eq_true rfl) dL_wouldFall_5 ⟨Nat.le_of_ble_eq_true rfl, Nat.le_of_ble_eq_true rfl⟩ (fun q_1 H locs hW => ?_)
  refine lv_astore (lv' := [(4, .ref q_1), (0, .ref h0), (1, .int b), (2, .int z), (3, .ref o)]) C.x C.b dL_wouldFall_13 hl (by decide) rfl (fun ls hl => ?_)
  refine lv_iconst (v := nI 1) C.x C.b dL_wouldFall_15 (by decide) ?_
  exact x_iretH C hW rfl rfl rfl rfl dL_wouldFall_16

set_option maxHeartbeats 4000000 in
set_option maxRecDepth 100000 in
theorem bad_L_wouldFall_z (l : Launch) (hst : l.stackTraces = false) (E : EV) (h0 a1 a3 a5 : Nat) (pl tu fr nf : Nat) (b : Nat) (z : Int32) (o : Nat) (hb : b < 5) (hz : z < 0 ∨ nI 5 ≤ z) : MIh l yL_wouldFall wsL_wouldFall { frames := 12, cells := 1, slots := 6, locals := 312 } E [.ref h0, .int (nI b), .int z, .ref o] [(h0, .inr (3, [.ref a1, .ref a3, .ref a5, .int (nI pl), .int (nI tu), .int (nI fr), .int (nI nf)]))] 1 6 (nI 1) [(h0, .inr (3, [.ref a1, .ref a3, .ref a5, .int (nI pl), .int (nI tu), .int (nI fr), .int (nI nf)]))] := by
  refine sH (own := RL) (cc := cL_wouldFall) (maxL := 5) rfl (by decide) rfl (Nat.le_of_ble_eq_true rfl) ?_
  intro p e s m below meth c C hgc htab ls hl hW
  have hl : lv_has ls 5 [(0, .ref h0), (1, .int (nI b)), (2, .int z), (3, .ref o)] := hl
  have hW : WD E _ s [(h0, .inr (3, [.ref a1, .ref a3, .ref a5, .int (nI pl), .int (nI tu), .int (nI fr), .int (nI nf)]))] s.heap [] := hW
  refine lv_aload_n C.x C.b dL_wouldFall_0 rfl (lv_at hl 3 rfl) ?_
  refine lv_iconst (v := nI 0) C.x C.b dL_wouldFall_1 (by decide) ?_
  refine lv_aload_n C.x C.b dL_wouldFall_2 rfl (lv_at hl 0 rfl) ?_
  refine lv_iload_n C.x C.b dL_wouldFall_3 rfl (lv_at hl 1 rfl) ?_
  refine lv_iload_n C.x C.b dL_wouldFall_4 rfl (lv_at hl 2 rfl) ?_
  refine x_catchV (X := "java/lang/IndexOutOfBoundsException") C hgc [] ⟨0, 10, 13, 19⟩ [] (htab.trans rfl) (fun z hz => absurd hz List.not_mem_nil) (by decide) (by decide) (name := "java/lang/IndexOutOfBoundsException") (by decide +kernel) hgc.io hW (As := [.int (nI b), .int z]) (rest := [.int (nI 0), .ref o]) (wr := [(h0, .inr (3, [.ref a1, .ref a3, .ref a5, .int (nI pl), .int (nI tu), .int (nI fr), .int (nI nf)]))]) (wn := [(h0, .inr (3, [.ref a1, .ref a3, .ref a5, .int (nI pl), .int (nI tu), .int (nI fr), .int (nI nf)]))]) (Cn := RX4) (bad_X4_wouldFall_z l hst E h0 b z hb hz) gL_wouldFall_X4_wouldFall rfl 2 rfl ⟨rfl, rfl⟩ ⟨rfl, by decide +kernel, by decide +kernel, by decide +kernel⟩ ⟨Nat.le_of_ble_eq_true rfl, Nat.le_of_ble_eq_true rfl⟩ [] [0] [0] rfl (by decide) rfl (by decide) (by decide) rfl (by decide) 0 3 rfl rfl hl.1 rfl (Nat.le_of_ble_eq_true rfl) dL_wouldFall_5 ⟨Nat.le_of_ble_eq_true rfl, Nat.le_of_ble_eq_true rfl⟩ (fun q_1 H locs hW => ?_)
  refine lv_astore (lv' := [(4, .ref q_1), (0, .ref h0), (1, .int (nI b)), (2, .int z), (3, .ref o)]) C.x C.b dL_wouldFall_13 hl (by decide) rfl (fun ls hl => ?_)
  refine lv_iconst (v := nI 1) C.x C.b dL_wouldFall_15 (by decide) ?_
  exact x_iretH C hW rfl rfl rfl rfl dL_wouldFall_16

set_option maxHeartbeats 4000000 in
set_option maxRecDepth 100000 in
theorem bad_L_lastToFall_b (l : Launch) (hst : l.stackTraces = false) (E : EV) (h0 a1 a3 a5 : Nat) (pl tu fr nf : Nat) (b z : Int32) (o : Nat) (hb : b < 0 ∨ nI 5 ≤ b) : MIh l yL_lastToFall wsL_lastToFall { frames := 12, cells := 1, slots := 6, locals := 312 } E [.ref h0, .int b, .int z, .ref o] [(h0, .inr (3, [.ref a1, .ref a3, .ref a5, .int (nI pl), .int (nI tu), .int (nI fr), .int (nI nf)]))] 1 6 (nI 1) [(h0, .inr (3, [.ref a1, .ref a3, .ref a5, .int (nI pl), .int (nI tu), .int (nI fr), .int (nI nf)]))] := by
  refine sH (own := RL) (cc := cL_lastToFall) (maxL := 5) rfl (by decide) rfl (Nat.le_of_ble_eq_true rfl) ?_
  intro p e s m below meth c C hgc htab ls hl hW
  have hl : lv_has ls 5 [(0, .ref h0), (1, .int b), (2, .int z), (3, .ref o)] := hl
  have hW : WD E _ s [(h0, .inr (3, [.ref a1, .ref a3, .ref a5, .int (nI pl), .int (nI tu), .int (nI fr), .int (nI nf)]))] s.heap [] := hW
  refine lv_aload_n C.x C.b dL_lastToFall_0 rfl (lv_at hl 3 rfl) ?_
  refine lv_iconst (v := nI 0) C.x C.b dL_lastToFall_1 (by decide) ?_
  refine lv_aload_n C.x C.b dL_lastToFall_2 rfl (lv_at hl 0 rfl) ?_
  refine lv_iload_n C.x C.b dL_lastToFall_3 rfl (lv_at hl 1 rfl) ?_
  refine lv_iload_n C.x C.b dL_lastToFall_4 rfl (lv_at hl 2 rfl) ?_
  refine x_catchV (X := "java/lang/IndexOutOfBoundsException") C hgc [] ⟨0, 10, 13, 19⟩ [] (htab.trans rfl) (fun z hz => absurd hz List.not_mem_nil) (by decide) (by decide) (name := "java/lang/IndexOutOfBoundsException") (by decide +kernel) hgc.io hW (As := [.int b, .int z]) (rest := [.int (nI 0), .ref o]) (wr := [(h0, .inr (3, [.ref a1, .ref a3, .ref a5, .int (nI pl), .int (nI tu), .int (nI fr), .int (nI nf)]))]) (wn := [(h0, .inr (3, [.ref a1, .ref a3, .ref a5, .int (nI pl), .int (nI tu), .int (nI fr), .int (nI nf)]))]) (Cn := RX4) (bad_X4_lastToFall_b l hst E h0 b z hb) gL_lastToFall_X4_lastToFall rfl 2 rfl ⟨rfl, rfl⟩ ⟨rfl, by decide +kernel, by decide +kernel, by decide +kernel⟩ ⟨Nat.le_of_ble_eq_true rfl, Nat.le_of_ble_eq_true rfl⟩ [] [0] [0] rfl (by decide) rfl (by decide) (by decide) rfl (by decide) 0 3 rfl rfl hl.1 rfl (Nat.le_of_ble_eq_true rfl) dL_lastToFall_5 ⟨Nat.le_of_ble_eq_true rfl, Nat.le_of_ble_eq_true rfl⟩ (fun q_1 H locs hW => ?_)
  refine lv_astore (lv' := [(4, .ref q_1), (0, .ref h0), (1, .int b), (2, .int z), (3, .ref o)]) C.x C.b dL_lastToFall_13 hl (by decide) rfl (fun ls hl => ?_)
  refine lv_iconst (v := nI 1) C.x C.b dL_lastToFall_15 (by decide) ?_
  exact x_iretH C hW rfl rfl rfl rfl dL_lastToFall_16

set_option maxHeartbeats 4000000 in
set_option maxRecDepth 100000 in
theorem bad_L_lastToFall_z (l : Launch) (hst : l.stackTraces = false) (E : EV) (h0 a1 a3 a5 : Nat) (pl tu fr nf : Nat) (b : Nat) (z : Int32) (o : Nat) (hb : b < 5) (hz : z < 0 ∨ nI 5 ≤ z) : MIh l yL_lastToFall wsL_lastToFall { frames := 12, cells := 1, slots := 6, locals := 312 } E [.ref h0, .int (nI b), .int z, .ref o] [(h0, .inr (3, [.ref a1, .ref a3, .ref a5, .int (nI pl), .int (nI tu), .int (nI fr), .int (nI nf)]))] 1 6 (nI 1) [(h0, .inr (3, [.ref a1, .ref a3, .ref a5, .int (nI pl), .int (nI tu), .int (nI fr), .int (nI nf)]))] := by
  refine sH (own := RL) (cc := cL_lastToFall) (maxL := 5) rfl (by decide) rfl (Nat.le_of_ble_eq_true rfl) ?_
  intro p e s m below meth c C hgc htab ls hl hW
  have hl : lv_has ls 5 [(0, .ref h0), (1, .int (nI b)), (2, .int z), (3, .ref o)] := hl
  have hW : WD E _ s [(h0, .inr (3, [.ref a1, .ref a3, .ref a5, .int (nI pl), .int (nI tu), .int (nI fr), .int (nI nf)]))] s.heap [] := hW
  refine lv_aload_n C.x C.b dL_lastToFall_0 rfl (lv_at hl 3 rfl) ?_
  refine lv_iconst (v := nI 0) C.x C.b dL_lastToFall_1 (by decide) ?_
  refine lv_aload_n C.x C.b dL_lastToFall_2 rfl (lv_at hl 0 rfl) ?_
  refine lv_iload_n C.x C.b dL_lastToFall_3 rfl (lv_at hl 1 rfl) ?_
  refine lv_iload_n C.x C.b dL_lastToFall_4 rfl (lv_at hl 2 rfl) ?_
  refine x_catchV (X := "java/lang/IndexOutOfBoundsException") C hgc [] ⟨0, 10, 13, 19⟩ [] (htab.trans rfl) (fun z hz => absurd hz List.not_mem_nil) (by decide) (by decide) (name := "java/lang/IndexOutOfBoundsException") (by decide +kernel) hgc.io hW (As := [.int (nI b), .int z]) (rest := [.int (nI 0), .ref o]) (wr := [(h0, .inr (3, [.ref a1, .ref a3, .ref a5, .int (nI pl), .int (nI tu), .int (nI fr), .int (nI nf)]))]) (wn := [(h0, .inr (3, [.ref a1, .ref a3, .ref a5, .int (nI pl), .int (nI tu), .int (nI fr), .int (nI nf)]))]) (Cn := RX4) (bad_X4_lastToFall_z l hst E h0 b z hb hz) gL_lastToFall_X4_lastToFall rfl 2 rfl ⟨rfl, rfl⟩ ⟨rfl, by decide +kernel, by decide +kernel, by decide +kernel⟩ ⟨Nat.le_of_ble_eq_true rfl, Nat.le_of_ble_eq_true rfl⟩ [] [0] [0] rfl (by decide) rfl (by decide) (by decide) rfl (by decide) 0 3 rfl rfl hl.1 rfl (Nat.le_of_ble_eq_true rfl) dL_lastToFall_5 ⟨Nat.le_of_ble_eq_true rfl, Nat.le_of_ble_eq_true rfl⟩ (fun q_1 H locs hW => ?_)
  refine lv_astore (lv' := [(4, .ref q_1), (0, .ref h0), (1, .int (nI b)), (2, .int z), (3, .ref o)]) C.x C.b dL_lastToFall_13 hl (by decide) rfl (fun ls hl => ?_)
  refine lv_iconst (v := nI 1) C.x C.b dL_lastToFall_15 (by decide) ?_
  exact x_iretH C hW rfl rfl rfl rfl dL_lastToFall_16
