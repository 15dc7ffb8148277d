/-! CHECKSUM OF THE REFERENCE; CONSTRUCTORS -/
set_option maxHeartbeats 4000000 in
set_option maxRecDepth 100000 in
theorem met_X0_init (l : Launch) (E : EV) (h0 : Nat)  : MC l yX0_init wsX0_init { frames := 1, cells := 1, slots := 9, locals := 12 } E [.ref h0] [(h0, .inr (0, [.null, .int ((0 : Int32)), .int ((0 : Int32))]))] 1 9 (fun u => ∃ q1 : Nat, u = [(h0, .inr (0, [.ref q1, .int (nI 511), .int (nI 3)])), (q1, aI E 9 (fun _ => 0))]) := by
  refine sC (own := RX0) (cc := cX0_init) (maxL := 1) rfl (by decide) rfl (Nat.le_of_ble_eq_true rfl) ?_
  intro p e s m below meth c C hnm ls hl hW
  have hl : lv_has ls 1 [(0, .ref h0)] := hl
  have hW : WD E _ s [(h0, .inr (0, [.null, .int ((0 : Int32)), .int ((0 : Int32))]))] s.heap [] := hW
  have hinX0 : ∀ w ∈ u_ws RX0 TX0 3, w ∈ wsX0_init := by decide +kernel
  have hf9 : Cond.fieldLink RX0 9 (TX0 0).1 (TX0 0).2.1 (TX0 0).2.2.1 ∈ wsX0_init := by decide +kernel
  have hf17 : Cond.fieldLink RX0 17 (TX0 1).1 (TX0 1).2.1 (TX0 1).2.2.1 ∈ wsX0_init := by decide +kernel
  have hf21 : Cond.fieldLink RX0 21 (TX0 2).1 (TX0 2).2.1 (TX0 2).2.2.1 ∈ wsX0_init := by decide +kernel
  refine lv_aload_n C.x C.b dX0_init_0 rfl (lv_at hl 0 rfl) ?_
  refine x_obj C (idx := 3) (by decide +kernel) (by decide +kernel) (by decide +kernel) hl.1 rfl (Nat.le_of_ble_eq_true rfl) (Nat.le_of_ble_eq_true rfl) dX0_init_1 ?_
  refine lv_aload_n C.x C.b dX0_init_4 rfl (lv_at hl 0 rfl) ?_
  refine lv_bipush (v := nI 9) C.x C.b dX0_init_5 (by decide) ?_
  refine x_newa C hW (N' := 9) (by decide +kernel) rfl (by decide) (Nat.le_of_ble_eq_true rfl) (Nat.le_of_ble_eq_true rfl) dX0_init_7 (fun na_1 H hW => ?_)
  have hW : WD E _ s [(h0, .inr (0, [.null, .int ((0 : Int32)), .int ((0 : Int32))])), (na_1, aI E 9 (fun _ => 0))] H _ := hW
  refine x_putr C hW 0 0 0 (ty := .array .int) (Cn := RX0) (T := TX0) (N := 3) (w' := [(h0, .inr (0, [.ref na_1, .int ((0 : Int32)), .int ((0 : Int32))])), (na_1, aI E 9 (fun _ => 0))]) tyX0 tyX0_ok nmX0 rfl rfl (by decide) hinX0 hf9 rfl hnm rfl (by decide +kernel) rfl rfl (Nat.le_of_ble_eq_true rfl) dX0_init_9 rfl (fun H locs hW => ?_)
  refine lv_aload_n C.x C.b dX0_init_12 rfl (lv_at hl 0 rfl) ?_
  refine lv_sipush (v := nI 511) C.x C.b dX0_init_13 (by decide) ?_
  refine x_put C hW 0 0 1 (Cn := RX0) (T := TX0) (N := 3) (w' := [(h0, .inr (0, [.ref na_1, .int (nI 511), .int ((0 : Int32))])), (na_1, aI E 9 (fun _ => 0))]) tyX0 tyX0_ok nmX0 rfl rfl (by decide) hinX0 hf17 rfl (by decide +kernel) (Nat.le_of_ble_eq_true rfl) dX0_init_16 rfl (fun H locs hW => ?_)
  refine lv_aload_n C.x C.b dX0_init_19 rfl (lv_at hl 0 rfl) ?_
  refine lv_iconst (v := nI 3) C.x C.b dX0_init_20 (by decide) ?_
  refine x_put C hW 0 0 2 (Cn := RX0) (T := TX0) (N := 3) (w' := [(h0, .inr (0, [.ref na_1, .int (nI 511), .int (nI 3)])), (na_1, aI E 9 (fun _ => 0))]) tyX0 tyX0_ok nmX0 rfl rfl (by decide) hinX0 hf21 rfl (by decide +kernel) (Nat.le_of_ble_eq_true rfl) dX0_init_21 rfl (fun H locs hW => ?_)
  exact x_vretC C hW ⟨na_1, rfl⟩ rfl rfl dX0_init_24

set_option maxHeartbeats 4000000 in
set_option maxRecDepth 100000 in
theorem met_X2_init (l : Launch) (E : EV) (h0 : Nat)  : MC l yX2_init wsX2_init { frames := 1, cells := 1, slots := 5, locals := 12 } E [.ref h0] [(h0, .inr (1, [.null]))] 1 5 (fun u => ∃ q1 : Nat, u = [(h0, .inr (1, [.ref q1])), (q1, aI E 5 (fun _ => 0))]) := by
  refine sC (own := RX2) (cc := cX2_init) (maxL := 1) rfl (by decide) rfl (Nat.le_of_ble_eq_true rfl) ?_
  intro p e s m below meth c C hnm ls hl hW
  have hl : lv_has ls 1 [(0, .ref h0)] := hl
  have hW : WD E _ s [(h0, .inr (1, [.null]))] s.heap [] := hW
  have hinX2 : ∀ w ∈ u_ws RX2 TX2 1, w ∈ wsX2_init := by decide +kernel
  have hf9 : Cond.fieldLink RX2 9 (TX2 0).1 (TX2 0).2.1 (TX2 0).2.2.1 ∈ wsX2_init := by decide +kernel
  refine lv_aload_n C.x C.b dX2_init_0 rfl (lv_at hl 0 rfl) ?_
  refine x_obj C (idx := 3) (by decide +kernel) (by decide +kernel) (by decide +kernel) hl.1 rfl (Nat.le_of_ble_eq_true rfl) (Nat.le_of_ble_eq_true rfl) dX2_init_1 ?_
  refine lv_aload_n C.x C.b dX2_init_4 rfl (lv_at hl 0 rfl) ?_
  refine lv_iconst (v := nI 5) C.x C.b dX2_init_5 (by decide) ?_
  refine x_newa C hW (N' := 5) (by decide +kernel) rfl (by decide) (Nat.le_of_ble_eq_true rfl) (Nat.le_of_ble_eq_true rfl) dX2_init_6 (fun na_1 H hW => ?_)
  have hW : WD E _ s [(h0, .inr (1, [.null])), (na_1, aI E 5 (fun _ => 0))] H _ := hW
  refine x_putr C hW 0 1 0 (ty := .array .int) (Cn := RX2) (T := TX2) (N := 1) (w' := [(h0, .inr (1, [.ref na_1])), (na_1, aI E 5 (fun _ => 0))]) tyX2 tyX2_ok nmX2 rfl rfl (by decide) hinX2 hf9 rfl hnm rfl (by decide +kernel) rfl rfl (Nat.le_of_ble_eq_true rfl) dX2_init_8 rfl (fun H locs hW => ?_)
  exact x_vretC C hW ⟨na_1, rfl⟩ rfl rfl dX2_init_11

set_option maxHeartbeats 4000000 in
set_option maxRecDepth 100000 in
theorem met_X3_init (l : Launch) (E : EV) (h0 : Nat)  : MC l yX3_init wsX3_init { frames := 1, cells := 4, slots := 60, locals := 12 } E [.ref h0] [(h0, .inr (2, [.null, .null, .null, .null, .int ((0 : Int32))]))] 4 60 (fun u => ∃ q1 q2 q3 q4 : Nat, u = [(h0, .inr (2, [.ref q1, .ref q2, .ref q3, .ref q4, .int (0 : Int32)])), (q1, aI E 30 (fun _ => 0)), (q2, aI E 10 (fun _ => 0)), (q3, aI E 10 (fun _ => 0)), (q4, aI E 10 (fun _ => 0))]) := by
  refine sC (own := RX3) (cc := cX3_init) (maxL := 1) rfl (by decide) rfl (Nat.le_of_ble_eq_true rfl) ?_
  intro p e s m below meth c C hnm ls hl hW
  have hl : lv_has ls 1 [(0, .ref h0)] := hl
  have hW : WD E _ s [(h0, .inr (2, [.null, .null, .null, .null, .int ((0 : Int32))]))] s.heap [] := hW
  have hinX3 : ∀ w ∈ u_ws RX3 TX3 5, w ∈ wsX3_init := by decide +kernel
  have hf9 : Cond.fieldLink RX3 9 (TX3 0).1 (TX3 0).2.1 (TX3 0).2.2.1 ∈ wsX3_init := by decide +kernel
  have hf15 : Cond.fieldLink RX3 15 (TX3 1).1 (TX3 1).2.1 (TX3 1).2.2.1 ∈ wsX3_init := by decide +kernel
  have hf18 : Cond.fieldLink RX3 18 (TX3 2).1 (TX3 2).2.1 (TX3 2).2.2.1 ∈ wsX3_init := by decide +kernel
  have hf21 : Cond.fieldLink RX3 21 (TX3 3).1 (TX3 3).2.1 (TX3 3).2.2.1 ∈ wsX3_init := by decide +kernel
  refine lv_aload_n C.x C.b dX3_init_0 rfl (lv_at hl 0 rfl) ?_
  refine x_obj C (idx := 3) (by decide +kernel) (by decide +kernel) (by decide +kernel) hl.1 rfl (Nat.le_of_ble_eq_true rfl) (Nat.le_of_ble_eq_true rfl) dX3_init_1 ?_
  refine lv_aload_n C.x C.b dX3_init_4 rfl (lv_at hl 0 rfl) ?_
  refine lv_bipush (v := nI 30) C.x C.b dX3_init_5 (by decide) ?_
  refine x_newa C hW (N' := 30) (by decide +kernel) rfl (by decide) (Nat.le_of_ble_eq_true rfl) (Nat.le_of_ble_eq_true rfl) dX3_init_7 (fun na_1 H hW => ?_)
  have hW : WD E _ s [(h0, .inr (2, [.null, .null, .null, .null, .int ((0 : Int32))])), (na_1, aI E 30 (fun _ => 0))] H _ := hW
  refine x_putr C hW 0 2 0 (ty := .array .int) (Cn := RX3) (T := TX3) (N := 5) (w' := [(h0, .inr (2, [.ref na_1, .null, .null, .null, .int ((0 : Int32))])), (na_1, aI E 30 (fun _ => 0))]) tyX3 tyX3_ok nmX3 rfl rfl (by decide) hinX3 hf9 rfl hnm rfl (by decide +kernel) rfl rfl (Nat.le_of_ble_eq_true rfl) dX3_init_9 rfl (fun H locs hW => ?_)
  refine lv_aload_n C.x C.b dX3_init_12 rfl (lv_at hl 0 rfl) ?_
  refine lv_bipush (v := nI 10) C.x C.b dX3_init_13 (by decide) ?_
  refine x_newa C hW (N' := 10) (by decide +kernel) rfl (by decide) (Nat.le_of_ble_eq_true rfl) (Nat.le_of_ble_eq_true rfl) dX3_init_15 (fun na_2 H hW => ?_)
  have hW : WD E _ s [(h0, .inr (2, [.ref na_1, .null, .null, .null, .int ((0 : Int32))])), (na_1, aI E 30 (fun _ => 0)), (na_2, aI E 10 (fun _ => 0))] H _ := hW
  refine x_putr C hW 0 2 1 (ty := .array .int) (Cn := RX3) (T := TX3) (N := 5) (w' := [(h0, .inr (2, [.ref na_1, .ref na_2, .null, .null, .int ((0 : Int32))])), (na_1, aI E 30 (fun _ => 0)), (na_2, aI E 10 (fun _ => 0))]) tyX3 tyX3_ok nmX3 rfl rfl (by decide) hinX3 hf15 rfl hnm rfl (by decide +kernel) rfl rfl (Nat.le_of_ble_eq_true rfl) dX3_init_17 rfl (fun H locs hW => ?_)
  refine lv_aload_n C.x C.b dX3_init_20 rfl (lv_at hl 0 rfl) ?_
  refine lv_bipush (v := nI 10) C.x C.b dX3_init_21 (by decide) ?_
  refine x_newa C hW (N' := 10) (by decide +kernel) rfl (by decide) (Nat.le_of_ble_eq_true rfl) (Nat.le_of_ble_eq_true rfl) dX3_init_23 (fun na_3 H hW => ?_)
  have hW : WD E _ s [(h0, .inr (2, [.ref na_1, .ref na_2, .null, .null, .int ((0 : Int32))])), (na_1, aI E 30 (fun _ => 0)), (na_2, aI E 10 (fun _ => 0)), (na_3, aI E 10 (fun _ => 0))] H _ := hW
  refine x_putr C hW 0 2 2 (ty := .array .int) (Cn := RX3) (T := TX3) (N := 5) (w' := [(h0, .inr (2, [.ref na_1, .ref na_2, .ref na_3, .null, .int ((0 : Int32))])), (na_1, aI E 30 (fun _ => 0)), (na_2, aI E 10 (fun _ => 0)), (na_3, aI E 10 (fun _ => 0))]) tyX3 tyX3_ok nmX3 rfl rfl (by decide) hinX3 hf18 rfl hnm rfl (by decide +kernel) rfl rfl (Nat.le_of_ble_eq_true rfl) dX3_init_25 rfl (fun H locs hW => ?_)
  refine lv_aload_n C.x C.b dX3_init_28 rfl (lv_at hl 0 rfl) ?_
  refine lv_bipush (v := nI 10) C.x C.b dX3_init_29 (by decide) ?_
  refine x_newa C hW (N' := 10) (by decide +kernel) rfl (by decide) (Nat.le_of_ble_eq_true rfl) (Nat.le_of_ble_eq_true rfl) dX3_init_31 (fun na_4 H hW => ?_)
  have hW : WD E _ s [(h0, .inr (2, [.ref na_1, .ref na_2, .ref na_3, .null, .int ((0 : Int32))])), (na_1, aI E 30 (fun _ => 0)), (na_2, aI E 10 (fun _ => 0)), (na_3, aI E 10 (fun _ => 0)), (na_4, aI E 10 (fun _ => 0))] H _ := hW
  refine x_putr C hW 0 2 3 (ty := .array .int) (Cn := RX3) (T := TX3) (N := 5) (w' := [(h0, .inr (2, [.ref na_1, .ref na_2, .ref na_3, .ref na_4, .int ((0 : Int32))])), (na_1, aI E 30 (fun _ => 0)), (na_2, aI E 10 (fun _ => 0)), (na_3, aI E 10 (fun _ => 0)), (na_4, aI E 10 (fun _ => 0))]) tyX3 tyX3_ok nmX3 rfl rfl (by decide) hinX3 hf21 rfl hnm rfl (by decide +kernel) rfl rfl (Nat.le_of_ble_eq_true rfl) dX3_init_33 rfl (fun H locs hW => ?_)
  exact x_vretC C hW ⟨na_1, na_2, na_3, na_4, rfl⟩ rfl rfl dX3_init_36
