/-! SOMETHING THAT A NUMBER CHOOSES, DONE TO BOTH -/
set_option maxHeartbeats 4000000 in
set_option maxRecDepth 100000 in
theorem met_X5_init (l : Launch) (E : EV) (h0 : Nat)  : MC l yX5_init wsX5_init { frames := 1, cells := 4, slots := 23, locals := 12 } E [.ref h0] [(h0, .inr (4, [.null, .null, .null, .int ((0 : Int32)), .int ((0 : Int32)), .int ((0 : Int32)), .int ((0 : Int32)), .int ((0 : Int32)), .null]))] 4 23 (fun u => ∃ q1 q2 q3 q4 : Nat, u = [(h0, .inr (4, [.ref q1, .ref q2, .ref q3, .int (nI 3), .int ((0 : Int32)), .int ((0 : Int32)), .int ((0 : Int32)), .int ((0 : Int32)), .ref q4])), (q1, bI E 9 (mB 511)), (q2, aI E 9 (fun _ => 0)), (q3, aI E 5 (fun _ => 0)), (q4, qI E 0 (fun _ => none))]) := by
  refine sC (own := RX5) (cc := cX5_init) (maxL := 1) rfl (by decide) rfl (Nat.le_of_ble_eq_true rfl) ?_
  intro p e s m below meth c C hnm ls hl hW
  have hl : lv_has ls 1 [(0, .ref h0)] := hl
  have hW : WD E _ s [(h0, .inr (4, [.null, .null, .null, .int ((0 : Int32)), .int ((0 : Int32)), .int ((0 : Int32)), .int ((0 : Int32)), .int ((0 : Int32)), .null]))] s.heap [] := hW
  have hinX5 : ∀ w ∈ u_ws RX5 TX5 9, w ∈ wsX5_init := by decide +kernel
  have hf7 : Cond.fieldLink RX5 7 (TX5 0).1 (TX5 0).2.1 (TX5 0).2.2.1 ∈ wsX5_init := by decide +kernel
  have hf13 : Cond.fieldLink RX5 13 (TX5 1).1 (TX5 1).2.1 (TX5 1).2.2.1 ∈ wsX5_init := by decide +kernel
  have hf17 : Cond.fieldLink RX5 17 (TX5 2).1 (TX5 2).2.1 (TX5 2).2.2.1 ∈ wsX5_init := by decide +kernel
  have hf20 : Cond.fieldLink RX5 20 (TX5 3).1 (TX5 3).2.1 (TX5 3).2.2.1 ∈ wsX5_init := by decide +kernel
  have hf25 : Cond.fieldLink RX5 25 (TX5 8).1 (TX5 8).2.1 (TX5 8).2.2.1 ∈ wsX5_init := by decide +kernel
  refine lv_aload_n C.x C.b dX5_init_0 rfl (lv_at hl 0 rfl) ?_
  refine x_obj C (idx := 1) (by decide +kernel) (by decide +kernel) (by decide +kernel) hl.1 rfl (Nat.le_of_ble_eq_true rfl) (Nat.le_of_ble_eq_true rfl) dX5_init_1 ?_
  refine lv_aload_n C.x C.b dX5_init_4 rfl (lv_at hl 0 rfl) ?_
  refine lv_bipush (v := nI 9) C.x C.b dX5_init_5 (by decide) ?_
  refine x_newz C hW (N' := 9) (by decide +kernel) rfl (by decide) (by show _ ≤ 4; omega) (by show _ ≤ 23; omega) dX5_init_7 (fun nz_1 H hW => ?_)
  have hW : WD E _ s [(h0, .inr (4, [.null, .null, .null, .int ((0 : Int32)), .int ((0 : Int32)), .int ((0 : Int32)), .int ((0 : Int32)), .int ((0 : Int32)), .null])), (nz_1, bI E 9 (fun _ => 0))] H _ := hW
  refine lv_dup C.x C.b dX5_init_9 rfl ?_
  refine lv_iconst (v := nI 0) C.x C.b dX5_init_10 (by decide) ?_
  refine lv_iconst (v := nI 1) C.x C.b dX5_init_11 (by decide) ?_
  refine x_zst C hW 1 0 1 rfl rfl rfl (by decide) (by omega) (by decide) dX5_init_12 (w' := [(h0, .inr (4, [.null, .null, .null, .int ((0 : Int32)), .int ((0 : Int32)), .int ((0 : Int32)), .int ((0 : Int32)), .int ((0 : Int32)), .null])), (nz_1, bI E 9 (upN (fun _ => 0) 0 1))]) rfl (fun H locs hW => ?_)
  refine lv_dup C.x C.b dX5_init_13 rfl ?_
  refine lv_iconst (v := nI 1) C.x C.b dX5_init_14 (by decide) ?_
  refine lv_iconst (v := nI 1) C.x C.b dX5_init_15 (by decide) ?_
  refine x_zst C hW 1 1 1 rfl rfl rfl (by decide) (by omega) (by decide) dX5_init_16 (w' := [(h0, .inr (4, [.null, .null, .null, .int ((0 : Int32)), .int ((0 : Int32)), .int ((0 : Int32)), .int ((0 : Int32)), .int ((0 : Int32)), .null])), (nz_1, bI E 9 (upN (upN (fun _ => 0) 0 1) 1 1))]) rfl (fun H locs hW => ?_)
  refine lv_dup C.x C.b dX5_init_17 rfl ?_
  refine lv_iconst (v := nI 2) C.x C.b dX5_init_18 (by decide) ?_
  refine lv_iconst (v := nI 1) C.x C.b dX5_init_19 (by decide) ?_
  refine x_zst C hW 1 2 1 rfl rfl rfl (by decide) (by omega) (by decide) dX5_init_20 (w' := [(h0, .inr (4, [.null, .null, .null, .int ((0 : Int32)), .int ((0 : Int32)), .int ((0 : Int32)), .int ((0 : Int32)), .int ((0 : Int32)), .null])), (nz_1, bI E 9 (upN (upN (upN (fun _ => 0) 0 1) 1 1) 2 1))]) rfl (fun H locs hW => ?_)
  refine lv_dup C.x C.b dX5_init_21 rfl ?_
  refine lv_iconst (v := nI 3) C.x C.b dX5_init_22 (by decide) ?_
  refine lv_iconst (v := nI 1) C.x C.b dX5_init_23 (by decide) ?_
  refine x_zst C hW 1 3 1 rfl rfl rfl (by decide) (by omega) (by decide) dX5_init_24 (w' := [(h0, .inr (4, [.null, .null, .null, .int ((0 : Int32)), .int ((0 : Int32)), .int ((0 : Int32)), .int ((0 : Int32)), .int ((0 : Int32)), .null])), (nz_1, bI E 9 (upN (upN (upN (upN (fun _ => 0) 0 1) 1 1) 2 1) 3 1))]) rfl (fun H locs hW => ?_)
  refine lv_dup C.x C.b dX5_init_25 rfl ?_
  refine lv_iconst (v := nI 4) C.x C.b dX5_init_26 (by decide) ?_
  refine lv_iconst (v := nI 1) C.x C.b dX5_init_27 (by decide) ?_
  refine x_zst C hW 1 4 1 rfl rfl rfl (by decide) (by omega) (by decide) dX5_init_28 (w' := [(h0, .inr (4, [.null, .null, .null, .int ((0 : Int32)), .int ((0 : Int32)), .int ((0 : Int32)), .int ((0 : Int32)), .int ((0 : Int32)), .null])), (nz_1, bI E 9 (upN (upN (upN (upN (upN (fun _ => 0) 0 1) 1 1) 2 1) 3 1) 4 1))]) rfl (fun H locs hW => ?_)
  refine lv_dup C.x C.b dX5_init_29 rfl ?_
  refine lv_iconst (v := nI 5) C.x C.b dX5_init_30 (by decide) ?_
  refine lv_iconst (v := nI 1) C.x C.b dX5_init_31 (by decide) ?_
  refine x_zst C hW 1 5 1 rfl rfl rfl (by decide) (by omega) (by decide) dX5_init_32 (w' := [(h0, .inr (4, [.null, .null, .null, .int ((0 : Int32)), .int ((0 : Int32)), .int ((0 : Int32)), .int ((0 : Int32)), .int ((0 : Int32)), .null])), (nz_1, bI E 9 (upN (upN (upN (upN (upN (upN (fun _ => 0) 0 1) 1 1) 2 1) 3 1) 4 1) 5 1))]) rfl (fun H locs hW => ?_)
  refine lv_dup C.x C.b dX5_init_33 rfl ?_
  refine lv_bipush (v := nI 6) C.x C.b dX5_init_34 (by decide) ?_
  refine lv_iconst (v := nI 1) C.x C.b dX5_init_36 (by decide) ?_
  refine x_zst C hW 1 6 1 rfl rfl rfl (by decide) (by omega) (by decide) dX5_init_37 (w' := [(h0, .inr (4, [.null, .null, .null, .int ((0 : Int32)), .int ((0 : Int32)), .int ((0 : Int32)), .int ((0 : Int32)), .int ((0 : Int32)), .null])), (nz_1, bI E 9 (upN (upN (upN (upN (upN (upN (upN (fun _ => 0) 0 1) 1 1) 2 1) 3 1) 4 1) 5 1) 6 1))]) rfl (fun H locs hW => ?_)
  refine lv_dup C.x C.b dX5_init_38 rfl ?_
  refine lv_bipush (v := nI 7) C.x C.b dX5_init_39 (by decide) ?_
  refine lv_iconst (v := nI 1) C.x C.b dX5_init_41 (by decide) ?_
  refine x_zst C hW 1 7 1 rfl rfl rfl (by decide) (by omega) (by decide) dX5_init_42 (w' := [(h0, .inr (4, [.null, .null, .null, .int ((0 : Int32)), .int ((0 : Int32)), .int ((0 : Int32)), .int ((0 : Int32)), .int ((0 : Int32)), .null])), (nz_1, bI E 9 (upN (upN (upN (upN (upN (upN (upN (upN (fun _ => 0) 0 1) 1 1) 2 1) 3 1) 4 1) 5 1) 6 1) 7 1))]) rfl (fun H locs hW => ?_)
  refine lv_dup C.x C.b dX5_init_43 rfl ?_
  refine lv_bipush (v := nI 8) C.x C.b dX5_init_44 (by decide) ?_
  refine lv_iconst (v := nI 1) C.x C.b dX5_init_46 (by decide) ?_
  refine x_zst C hW 1 8 1 rfl rfl rfl (by decide) (by omega) (by decide) dX5_init_47 (w' := [(h0, .inr (4, [.null, .null, .null, .int ((0 : Int32)), .int ((0 : Int32)), .int ((0 : Int32)), .int ((0 : Int32)), .int ((0 : Int32)), .null])), (nz_1, bI E 9 (upN (upN (upN (upN (upN (upN (upN (upN (upN (fun _ => 0) 0 1) 1 1) 2 1) 3 1) 4 1) 5 1) 6 1) 7 1) 8 1))]) rfl (fun H locs hW => ?_)
  refine x_putR C hW 0 4 0 (ty := .array .boolean) (Cn := RX5) (T := TX5) (N := 9) (w' := [(h0, .inr (4, [.ref nz_1, .null, .null, .int ((0 : Int32)), .int ((0 : Int32)), .int ((0 : Int32)), .int ((0 : Int32)), .int ((0 : Int32)), .null])), (nz_1, bI E 9 (upN (upN (upN (upN (upN (upN (upN (upN (upN (fun _ => 0) 0 1) 1 1) 2 1) 3 1) 4 1) 5 1) 6 1) 7 1) 8 1))]) tyX5 tyX5_ok nmX5 rfl rfl (by decide) hinX5 hf7 rfl rfl rfl rfl (Nat.le_of_ble_eq_true rfl) dX5_init_48 rfl (fun H locs hW => ?_)
  refine lv_aload_n C.x C.b dX5_init_51 rfl (lv_at hl 0 rfl) ?_
  refine lv_bipush (v := nI 9) C.x C.b dX5_init_52 (by decide) ?_
  refine x_newa C hW (N' := 9) (by decide +kernel) rfl (by decide) (by show _ ≤ 4; omega) (by show _ ≤ 23; omega) dX5_init_54 (fun na_2 H hW => ?_)
  have hW : WD E _ s [(h0, .inr (4, [.ref nz_1, .null, .null, .int ((0 : Int32)), .int ((0 : Int32)), .int ((0 : Int32)), .int ((0 : Int32)), .int ((0 : Int32)), .null])), (nz_1, bI E 9 (upN (upN (upN (upN (upN (upN (upN (upN (upN (fun _ => 0) 0 1) 1 1) 2 1) 3 1) 4 1) 5 1) 6 1) 7 1) 8 1)), (na_2, aI E 9 (fun _ => 0))] H _ := hW
  refine x_putR C hW 0 4 1 (ty := .array .int) (Cn := RX5) (T := TX5) (N := 9) (w' := [(h0, .inr (4, [.ref nz_1, .ref na_2, .null, .int ((0 : Int32)), .int ((0 : Int32)), .int ((0 : Int32)), .int ((0 : Int32)), .int ((0 : Int32)), .null])), (nz_1, bI E 9 (upN (upN (upN (upN (upN (upN (upN (upN (upN (fun _ => 0) 0 1) 1 1) 2 1) 3 1) 4 1) 5 1) 6 1) 7 1) 8 1)), (na_2, aI E 9 (fun _ => 0))]) tyX5 tyX5_ok nmX5 rfl rfl (by decide) hinX5 hf13 rfl rfl rfl rfl (Nat.le_of_ble_eq_true rfl) dX5_init_56 rfl (fun H locs hW => ?_)
  refine lv_aload_n C.x C.b dX5_init_59 rfl (lv_at hl 0 rfl) ?_
  refine lv_iconst (v := nI 5) C.x C.b dX5_init_60 (by decide) ?_
  refine x_newa C hW (N' := 5) (by decide +kernel) rfl (by decide) (by show _ ≤ 4; omega) (by show _ ≤ 23; omega) dX5_init_61 (fun na_3 H hW => ?_)
  have hW : WD E _ s [(h0, .inr (4, [.ref nz_1, .ref na_2, .null, .int ((0 : Int32)), .int ((0 : Int32)), .int ((0 : Int32)), .int ((0 : Int32)), .int ((0 : Int32)), .null])), (nz_1, bI E 9 (upN (upN (upN (upN (upN (upN (upN (upN (upN (fun _ => 0) 0 1) 1 1) 2 1) 3 1) 4 1) 5 1) 6 1) 7 1) 8 1)), (na_2, aI E 9 (fun _ => 0)), (na_3, aI E 5 (fun _ => 0))] H _ := hW
  refine x_putR C hW 0 4 2 (ty := .array .int) (Cn := RX5) (T := TX5) (N := 9) (w' := [(h0, .inr (4, [.ref nz_1, .ref na_2, .ref na_3, .int ((0 : Int32)), .int ((0 : Int32)), .int ((0 : Int32)), .int ((0 : Int32)), .int ((0 : Int32)), .null])), (nz_1, bI E 9 (upN (upN (upN (upN (upN (upN (upN (upN (upN (fun _ => 0) 0 1) 1 1) 2 1) 3 1) 4 1) 5 1) 6 1) 7 1) 8 1)), (na_2, aI E 9 (fun _ => 0)), (na_3, aI E 5 (fun _ => 0))]) tyX5 tyX5_ok nmX5 rfl rfl (by decide) hinX5 hf17 rfl rfl rfl rfl (Nat.le_of_ble_eq_true rfl) dX5_init_63 rfl (fun H locs hW => ?_)
  refine lv_aload_n C.x C.b dX5_init_66 rfl (lv_at hl 0 rfl) ?_
  refine lv_iconst (v := nI 3) C.x C.b dX5_init_67 (by decide) ?_
  refine x_put C hW 0 4 3 (Cn := RX5) (T := TX5) (N := 9) (w' := [(h0, .inr (4, [.ref nz_1, .ref na_2, .ref na_3, .int (nI 3), .int ((0 : Int32)), .int ((0 : Int32)), .int ((0 : Int32)), .int ((0 : Int32)), .null])), (nz_1, bI E 9 (upN (upN (upN (upN (upN (upN (upN (upN (upN (fun _ => 0) 0 1) 1 1) 2 1) 3 1) 4 1) 5 1) 6 1) 7 1) 8 1)), (na_2, aI E 9 (fun _ => 0)), (na_3, aI E 5 (fun _ => 0))]) tyX5 tyX5_ok nmX5 rfl rfl (by decide) hinX5 hf20 rfl (by decide +kernel) (Nat.le_of_ble_eq_true rfl) dX5_init_68 rfl (fun H locs hW => ?_)
  refine lv_aload_n C.x C.b dX5_init_71 rfl (lv_at hl 0 rfl) ?_
  refine lv_iconst (v := nI 0) C.x C.b dX5_init_72 (by decide) ?_
  refine x_newqI C hW (N' := 0) (by decide +kernel) rfl (by omega) (by show _ ≤ 4; omega) (by show _ ≤ 23; omega) dX5_init_73 (fun o_4 H hW => ?_)
  have hW : WD E _ s [(h0, .inr (4, [.ref nz_1, .ref na_2, .ref na_3, .int (nI 3), .int ((0 : Int32)), .int ((0 : Int32)), .int ((0 : Int32)), .int ((0 : Int32)), .null])), (nz_1, bI E 9 (upN (upN (upN (upN (upN (upN (upN (upN (upN (fun _ => 0) 0 1) 1 1) 2 1) 3 1) 4 1) 5 1) 6 1) 7 1) 8 1)), (na_2, aI E 9 (fun _ => 0)), (na_3, aI E 5 (fun _ => 0)), (o_4, qI E 0 (fun _ => none))] H _ := hW
  refine x_putR C hW 0 4 8 (ty := .array (.array .int)) (Cn := RX5) (T := TX5) (N := 9) (w' := [(h0, .inr (4, [.ref nz_1, .ref na_2, .ref na_3, .int (nI 3), .int ((0 : Int32)), .int ((0 : Int32)), .int ((0 : Int32)), .int ((0 : Int32)), .ref o_4])), (nz_1, bI E 9 (upN (upN (upN (upN (upN (upN (upN (upN (upN (fun _ => 0) 0 1) 1 1) 2 1) 3 1) 4 1) 5 1) 6 1) 7 1) 8 1)), (na_2, aI E 9 (fun _ => 0)), (na_3, aI E 5 (fun _ => 0)), (o_4, qI E 0 (fun _ => none))]) tyX5 tyX5_ok nmX5 rfl rfl (by decide) hinX5 hf25 rfl rfl rfl rfl (Nat.le_of_ble_eq_true rfl) dX5_init_76 rfl (fun H locs hW => ?_)
  have hW := hW.to (w' := [(h0, .inr (4, [.ref nz_1, .ref na_2, .ref na_3, .int (nI 3), .int ((0 : Int32)), .int ((0 : Int32)), .int ((0 : Int32)), .int ((0 : Int32)), .ref o_4])), (nz_1, bI E 9 (mB 511)), (na_2, aI E 9 (fun _ => 0)), (na_3, aI E 5 (fun _ => 0)), (o_4, qI E 0 (fun _ => none))]) (by rw [← ones_mB])
  exact x_vretC C hW ⟨nz_1, na_2, na_3, o_4, rfl⟩ rfl rfl dX5_init_79

set_option maxHeartbeats 4000000 in
set_option maxRecDepth 100000 in
theorem met_L_act (l : Launch) (hst : l.stackTraces = false) (E : EV) (h0 k1 k2 k3 k4 : Nat) (sp pl tu fr nf : Nat) (g : Nat) (w aw : Nat → Nat) (n : Nat) (ra : Nat → Nat) (rv : Nat → Nat → Nat) (c0 a1 a2 a3 a4 a5 : Nat) (qs qa qb qc qd : Nat → Nat) (pt ft ti bt : Nat → Nat → Nat) (th : Nat → Nat) (v : Int32) (hn9a : n ≤ 119) (hs2 : sp < 20000) (hI : Iv pl tu fr nf g n rv w aw pt ft ti bt th) : MG l yL_act wsL_act { frames := 8, cells := 90, slots := 300, locals := 196 } E [.ref c0, .ref h0, .int v] (([(h0, .inr (4, [.ref k1, .ref k2, .ref k3, .int (nI sp), .int (nI pl), .int (nI tu), .int (nI fr), .int (nI nf), .ref k4])), (k1, bI E 9 (mB g)), (k2, aI E 9 w), (k3, aI E 5 aw), (k4, qI E n (fun k => some (ra k)))] ++ CW E c0 a1 a2 a3 a4 a5 qs qa qb qc qd pl tu fr nf g sp w aw pt ft ti bt th) ++ plR E n ra rv) 90 300 (fun r w1 => r = nI 1 ∧ JS E h0 k2 k3 c0 a1 a2 a3 a4 a5 qs qa qb qc qd (n + 1) (sp + 20) w1) := by
  refine sGh (own := RL) (cc := cL_act) (maxL := 8) (ret := (some .boolean)) rfl (by decide) rfl (Nat.le_of_ble_eq_true rfl) ?_
  intro p e s m below meth c C htab ls hl hW
  have hl : lv_has ls 8 [(0, .ref c0), (1, .ref h0), (2, .int v)] := hl
  have hW : WD E _ s (([(h0, .inr (4, [.ref k1, .ref k2, .ref k3, .int (nI sp), .int (nI pl), .int (nI tu), .int (nI fr), .int (nI nf), .ref k4])), (k1, bI E 9 (mB g)), (k2, aI E 9 w), (k3, aI E 5 aw), (k4, qI E n (fun k => some (ra k)))] ++ CW E c0 a1 a2 a3 a4 a5 qs qa qb qc qd pl tu fr nf g sp w aw pt ft ti bt th) ++ plR E n ra rv) s.heap [] := hW
  have hinX5 : ∀ w ∈ u_ws RX5 TX5 9, w ∈ wsL_act := by decide +kernel
  have hf34 : Cond.fieldLink RL 34 (TX5 1).1 (TX5 1).2.1 (TX5 1).2.2.1 ∈ wsL_act := by decide +kernel
  have hf31 : Cond.fieldLink RL 31 (TX5 3).1 (TX5 3).2.1 (TX5 3).2.2.1 ∈ wsL_act := by decide +kernel
  have hf15 : Cond.fieldLink RL 15 (TX5 4).1 (TX5 4).2.1 (TX5 4).2.2.1 ∈ wsL_act := by decide +kernel
  have hf21 : Cond.fieldLink RL 21 (TX5 8).1 (TX5 8).2.1 (TX5 8).2.2.1 ∈ wsL_act := by decide +kernel
  have hp1 := hI.hp1
  have hpl := hI.hpl
  have hfr := hI.hfr
  have htp := hI.htp
  have htu : tu < 4 := by omega
  have hnf := hI.hnf
  have hg := hI.hg
  have hw := hI.hw
  have ha := hI.ha
  have hpt := hI.hpt
  have hft := hI.hft
  have hti := hI.hti
  have hbt := hI.hbt
  have hth := hI.hth
  have hrv := hI.hrv
  have hsp : sp ≤ 20000 := by omega
  have hnn : n ≤ 120 := by omega
  refine lv_iload_n C.x C.b dL_act_0 rfl (lv_at hl 2 rfl) ?_
  refine lv_iconst (v := nI 3) C.x C.b dL_act_1 (by decide) ?_
  refine lv_ishr C.x C.b dL_act_2 ?_
  refine lv_iconst (v := nI 5) C.x C.b dL_act_3 (by decide) ?_
  refine x_rSI C hW (As := [.int (v >>> ((nI 3) &&& 31)), .int (nI 5)]) (rest := []) (met_L_below l E (v >>> ((nI 3) &&& 31)) 5 (by omega) (by omega)) gL_act_L_below rfl 2 rfl ⟨rfl, rfl⟩ ⟨by decide +kernel, by decide +kernel, by decide +kernel⟩ ⟨Nat.le_of_ble_eq_true rfl, Nat.le_of_ble_eq_true rfl⟩ [] rfl (by decide) hl.1 rfl (Nat.le_of_ble_eq_true rfl) dL_act_4 ⟨by show _ ≤ 90; omega, by show _ ≤ 300; omega⟩ (fun H locs hW => ?_)
  refine lv_istore_n (lv' := [(3, .int (nI (bwN (v >>> ((nI 3) &&& 31)) 5))), (0, .ref c0), (1, .ref h0), (2, .int v)]) C.x C.b dL_act_7 rfl hl (by decide) rfl (fun ls hl => ?_)
  obtain ⟨b, hbe⟩ : ∃ b, bwN (v >>> ((nI 3) &&& 31)) 5 = b := ⟨_, rfl⟩
  have hb : b < 5 := hbe ▸ bwN_lt _ (by decide)
  rw [hbe] at hl
  refine lv_iload_n C.x C.b dL_act_8 rfl (lv_at hl 3 rfl) ?_
  refine lv_iconst (v := nI 5) C.x C.b dL_act_9 (by decide) ?_
  refine lv_ishr C.x C.b dL_act_10 ?_
  refine lv_iconst (v := nI 5) C.x C.b dL_act_11 (by decide) ?_
  refine x_rSI C hW (As := [.int (v >>> ((nI 5) &&& 31)), .int (nI 5)]) (rest := []) (met_L_below l E (v >>> ((nI 5) &&& 31)) 5 (by omega) (by omega)) gL_act_L_below rfl 2 rfl ⟨rfl, rfl⟩ ⟨by decide +kernel, by decide +kernel, by decide +kernel⟩ ⟨Nat.le_of_ble_eq_true rfl, Nat.le_of_ble_eq_true rfl⟩ [] rfl (by decide) hl.1 rfl (Nat.le_of_ble_eq_true rfl) dL_act_12 ⟨by show _ ≤ 90; omega, by show _ ≤ 300; omega⟩ (fun H locs hW => ?_)
  refine lv_istore (lv' := [(4, .int (nI (bwN (v >>> ((nI 5) &&& 31)) 5))), (3, .int (nI b)), (0, .ref c0), (1, .ref h0), (2, .int v)]) C.x C.b dL_act_15 hl (by decide) rfl (fun ls hl => ?_)
  obtain ⟨z, hze⟩ : ∃ z, bwN (v >>> ((nI 5) &&& 31)) 5 = z := ⟨_, rfl⟩
  have hz : z < 5 := hze ▸ bwN_lt _ (by decide)
  rw [hze] at hl
  refine lv_iload_n C.x C.b dL_act_17 rfl (lv_at hl 4 rfl) ?_
  refine lv_iconst (v := nI 4) C.x C.b dL_act_18 (by decide) ?_
  refine lv_ishr C.x C.b dL_act_19 ?_
  refine lv_bipush (v := nI 9) C.x C.b dL_act_20 (by decide) ?_
  refine x_rSI C hW (As := [.int (v >>> ((nI 4) &&& 31)), .int (nI 9)]) (rest := []) (met_L_below l E (v >>> ((nI 4) &&& 31)) 9 (by omega) (by omega)) gL_act_L_below rfl 2 rfl ⟨rfl, rfl⟩ ⟨by decide +kernel, by decide +kernel, by decide +kernel⟩ ⟨Nat.le_of_ble_eq_true rfl, Nat.le_of_ble_eq_true rfl⟩ [] rfl (by decide) hl.1 rfl (Nat.le_of_ble_eq_true rfl) dL_act_22 ⟨by show _ ≤ 90; omega, by show _ ≤ 300; omega⟩ (fun H locs hW => ?_)
  refine lv_istore (lv' := [(5, .int (nI (bwN (v >>> ((nI 4) &&& 31)) 9))), (4, .int (nI z)), (3, .int (nI b)), (0, .ref c0), (1, .ref h0), (2, .int v)]) C.x C.b dL_act_25 hl (by decide) rfl (fun ls hl => ?_)
  obtain ⟨q, hqe⟩ : ∃ q, bwN (v >>> ((nI 4) &&& 31)) 9 = q := ⟨_, rfl⟩
  have hq : q < 9 := hqe ▸ bwN_lt _ (by decide)
  rw [hqe] at hl
  refine lv_iconst (v := nI 1) C.x C.b dL_act_27 (by decide) ?_
  refine lv_istore (lv' := [(6, .int (nI 1)), (5, .int (nI q)), (4, .int (nI z)), (3, .int (nI b)), (0, .ref c0), (1, .ref h0), (2, .int v)]) C.x C.b dL_act_28 hl (by decide) rfl (fun ls hl => ?_)
  have jn_1 : ∀ (H : Heap) (locs : List Loc) (ls : Array Slot), WD E (va_A (([(h0, .inr (4, [.ref k1, .ref k2, .ref k3, .int (nI sp), .int (nI pl), .int (nI tu), .int (nI fr), .int (nI nf), .ref k4])), (k1, bI E 9 (mB g)), (k2, aI E 9 w), (k3, aI E 5 aw), (k4, qI E n (fun k => some (ra k)))] ++ CW E c0 a1 a2 a3 a4 a5 qs qa qb qc qd pl tu fr nf g sp w aw pt ft ti bt th) ++ plR E n ra rv) s.heap.size) s (([(h0, .inr (4, [.ref k1, .ref k2, .ref k3, .int (nI sp), .int (nI pl), .int (nI tu), .int (nI fr), .int (nI nf), .ref k4])), (k1, bI E 9 (mB g)), (k2, aI E 9 w), (k3, aI E 5 aw), (k4, qI E n (fun k => some (ra k)))] ++ CW E c0 a1 a2 a3 a4 a5 qs qa qb qc qd pl tu fr nf g sp w aw pt ft ti bt th) ++ plR E n ra rv) H locs → lv_has ls 8 [(6, .int (nI 1)), (5, .int (nI q)), (4, .int (nI z)), (3, .int (nI b)), (0, .ref c0), (1, .ref h0), (2, .int v)] → W p l e ({ frames := 8, cells := 90, slots := 300, locals := 196 } : Room) s m ([.ref c0, .ref h0, .int v] : List Value).toArray below meth c H locs 0 0 (QG E (([(h0, .inr (4, [.ref k1, .ref k2, .ref k3, .int (nI sp), .int (nI pl), .int (nI tu), .int (nI fr), .int (nI nf), .ref k4])), (k1, bI E 9 (mB g)), (k2, aI E 9 w), (k3, aI E 5 aw), (k4, qI E n (fun k => some (ra k)))] ++ CW E c0 a1 a2 a3 a4 a5 qs qa qb qc qd pl tu fr nf g sp w aw pt ft ti bt th) ++ plR E n ra rv) 90 300 (fun r w1 => r = nI 1 ∧ JS E h0 k2 k3 c0 a1 a2 a3 a4 a5 qs qa qb qc qd (n + 1) (sp + 20) w1) below ([.ref c0, .ref h0, .int v] : List Value).toArray s) (F0 m 271 ls []) := by
    intro  H locs ls hW hl
    by_cases hcan : 0 < pl ∧ ¬ fr = 10 ∧ aw b = 0
    · have hf10 : fr < 10 := by omega
      refine lv_aload_n C.x C.b dL_act_271 rfl (lv_at hl 5 rfl) ?_
      refine lv_iload_n C.x C.b dL_act_272 rfl (lv_at hl 3 rfl) ?_
      refine x_rVI C hW (As := [.int (nI b)]) (rest := []) (Cn := RX5) (met_X5_canThrow l E h0 k1 k2 k3 k4 sp pl tu fr nf aw b hfr hpl (by omega) ha) gL_act_X5_canThrow rfl 1 rfl ⟨rfl, rfl⟩ ⟨rfl, by decide +kernel, by decide +kernel, by decide +kernel⟩ ⟨Nat.le_of_ble_eq_true rfl, Nat.le_of_ble_eq_true rfl⟩ [0, 3] rfl (by decide) 0 4 rfl rfl hl.1 rfl (Nat.le_of_ble_eq_true rfl) dL_act_273 ⟨by show _ ≤ 90; omega, by show _ ≤ 300; omega⟩ (fun H locs hW => ?_)
      refine x_toi (y := nI 1) (by rw [if_pos hcan]) ?_
      refine lv_istore (lv' := [(6, .int (nI 1)), (5, .int (nI q)), (4, .int (nI z)), (3, .int (nI b)), (0, .ref c0), (1, .ref h0), (2, .int v)]) C.x C.b dL_act_276 hl (by decide) rfl (fun ls hl => ?_)
      refine lv_aload_n C.x C.b dL_act_278 rfl (lv_at hl 4 rfl) ?_
      refine lv_iload_n C.x C.b dL_act_279 rfl (lv_at hl 3 rfl) ?_
      refine lv_iload C.x C.b dL_act_280 (lv_at hl 2 rfl) ?_
      refine x_wVI C hW (As := [.int (nI b), .int (nI z)]) (rest := []) (wr := [(h0, .inr (4, [.ref k1, .ref k2, .ref k3, .int (nI sp), .int (nI pl), .int (nI tu), .int (nI fr), .int (nI nf), .ref k4])), (k1, bI E 9 (mB g)), (k2, aI E 9 w), (k3, aI E 5 aw), (k4, qI E n (fun k => some (ra k)))]) (wn := ([(h0, .inr (4, [.ref k1, .ref k2, .ref k3, .int (nI sp), .int (nI pl), .int (nI tu), .int (nI fr), .int (nI nf), .ref k4])), (k1, bI E 9 (mB g)), (k2, aI E 9 w), (k3, aI E 5 aw), (k4, qI E n (fun k => some (ra k)))] ++ CW E c0 a1 a2 a3 a4 a5 qs qa qb qc qd pl (fT pl tu nf (roN g b z)) (fF pl tu fr nf (roN g b z)) (fN nf (roN g b z)) (fG pl tu fr nf (roN g b z) (rwW (feN g b z) w 9)) sp (rwW (feN g b z) w 9) (upN (snW aw 5) b 2) ((upN pt tu (upN (pt tu) (th tu) (pcN (feN g b z))))) ((upN ft tu (if ti tu fr = 0 then upN (ft tu) fr (th tu) else ft tu))) ((upN ti tu (upN (ti tu) fr (ti tu fr + 1)))) ((upN bt tu (fB (bt tu) (ti tu) fr (pcN (feN g b z)) (roN g b z)))) ((upN th tu (th tu + 1))))) (Cn := RX4) (met_tb l E c0 a1 a2 a3 a4 a5 qs qa qb qc qd pl tu fr nf g sp w aw pt ft ti bt th b z hg (by omega) (by omega) ha hp1 hpl htp hf10 hnf (hI.th29 hf10) hti (by omega) (hI.rw12 b z)) gL_act_X4_throwBall rfl 2 rfl ⟨rfl, rfl⟩ ⟨rfl, by decide +kernel, by decide +kernel, by decide +kernel⟩ ⟨Nat.le_of_ble_eq_true rfl, Nat.le_of_ble_eq_true rfl⟩ [5, 6, 7, 8, 9, 10, 11, 12, 13, 14, 15, 16, 17, 18, 19, 20, 21, 22, 23, 24, 25, 26, 27, 28, 29, 30] [0, 1, 2, 3, 4] [0, 1, 2, 3, 4, 5, 6, 7, 8, 9, 10, 11, 12, 13, 14, 15, 16, 17, 18, 19, 20, 21, 22, 23, 24, 25, 26, 27, 28, 29, 30] rfl (by decide) rfl (by decide) (by decide) rfl (by decide) 5 3 rfl rfl hl.1 rfl (Nat.le_of_ble_eq_true rfl) dL_act_282 ⟨by show _ ≤ 90; omega, by show _ ≤ 300; omega⟩ (fun H locs hW => ?_)
      have hW : WD E _ s (([(h0, .inr (4, [.ref k1, .ref k2, .ref k3, .int (nI sp), .int (nI pl), .int (nI tu), .int (nI fr), .int (nI nf), .ref k4])), (k1, bI E 9 (mB g)), (k2, aI E 9 w), (k3, aI E 5 aw), (k4, qI E n (fun k => some (ra k)))] ++ CW E c0 a1 a2 a3 a4 a5 qs qa qb qc qd pl (fT pl tu nf (roN g b z)) (fF pl tu fr nf (roN g b z)) (fN nf (roN g b z)) (fG pl tu fr nf (roN g b z) (rwW (feN g b z) w 9)) sp (rwW (feN g b z) w 9) (upN (snW aw 5) b 2) ((upN pt tu (upN (pt tu) (th tu) (pcN (feN g b z))))) ((upN ft tu (if ti tu fr = 0 then upN (ft tu) fr (th tu) else ft tu))) ((upN ti tu (upN (ti tu) fr (ti tu fr + 1)))) ((upN bt tu (fB (bt tu) (ti tu) fr (pcN (feN g b z)) (roN g b z)))) ((upN th tu (th tu + 1)))) ++ plR E n ra rv) H _ := hW
      refine lv_iload C.x C.b dL_act_285 (lv_at hl 0 rfl) ?_
      refine x_if_eq C (by omega) (tgt := 300) dL_act_287 (by decide) (fun c_2 => ?_) (fun c_2 => ?_)
      · exact absurd c_2 (by decide)
      · refine lv_aload_n C.x C.b dL_act_290 rfl (lv_at hl 5 rfl) ?_
        refine lv_iload_n C.x C.b dL_act_291 rfl (lv_at hl 3 rfl) ?_
        refine lv_iload C.x C.b dL_act_292 (lv_at hl 2 rfl) ?_
        refine x_gVG C hW (As := [.int (nI b), .int (nI z)]) (rest := [.int (nI (pcN (feN g b z)))]) (cx := [(h0, .inr (4, [.ref k1, .ref k2, .ref k3, .int (nI sp), .int (nI pl), .int (nI tu), .int (nI fr), .int (nI nf), .ref k4])), (k1, bI E 9 (mB g)), (k2, aI E 9 w), (k3, aI E 5 aw), (k4, qI E n (fun k => some (ra k)))]) (wr := (CW E c0 a1 a2 a3 a4 a5 qs qa qb qc qd pl (fT pl tu nf (roN g b z)) (fF pl tu fr nf (roN g b z)) (fN nf (roN g b z)) (fG pl tu fr nf (roN g b z) (rwW (feN g b z) w 9)) sp (rwW (feN g b z) w 9) (upN (snW aw 5) b 2) ((upN pt tu (upN (pt tu) (th tu) (pcN (feN g b z))))) ((upN ft tu (if ti tu fr = 0 then upN (ft tu) fr (th tu) else ft tu))) ((upN ti tu (upN (ti tu) fr (ti tu fr + 1)))) ((upN bt tu (fB (bt tu) (ti tu) fr (pcN (feN g b z)) (roN g b z)))) ((upN th tu (th tu + 1))))) (Cn := RX5) (met_pl l E h0 k1 k2 k3 k4 sp pl tu fr nf g w aw n ra rv b z hnn hrv hp1 hpl (by omega) hf10 hnf hg (by omega) hw ha (hI.rw12 b z)) gL_act_X5_play rfl 2 rfl ⟨rfl, rfl⟩ ⟨rfl, by decide +kernel, by decide +kernel, by decide +kernel⟩ ⟨Nat.le_of_ble_eq_true rfl, Nat.le_of_ble_eq_true rfl⟩ [0, 1, 2, 3, 4] [5, 6, 7, 8, 9, 10, 11, 12, 13, 14, 15, 16, 17, 18, 19, 20, 21, 22, 23, 24, 25, 26, 27, 28, 29, 30] rfl (by decide) rfl (by decide) (by decide) 0 4 rfl rfl hl.1 rfl (Nat.le_of_ble_eq_true rfl) dL_act_294 ⟨by show _ ≤ 90; omega, by show _ ≤ 300; omega⟩ (fun r_6 w_7 H locs hp_8 hW => ?_)
        obtain ⟨rfl, q_3, q_4, q_5, rfl⟩ := hp_8
        have hW : WD E _ s ([(c0, .inr (3, [.ref a1, .ref a3, .ref a5, .int (nI pl), .int (nI (fT pl tu nf (roN g b z))), .int (nI (fF pl tu fr nf (roN g b z))), .int (nI (fN nf (roN g b z)))])), (a1, .inr (0, [.ref a2, .int (nI (fG pl tu fr nf (roN g b z) (rwW (feN g b z) w 9))), .int (nI sp)])), (a2, aI E 9 (rwW (feN g b z) w 9)), (a3, .inr (1, [.ref a4])), (a4, aI E 5 (upN (snW aw 5) b 2)), (a5, .inl (E.2.2.2.1, 4, .inr (.inr (.inr (.inr (fun k => some (qs k))))))), (qs 0, .inr (2, [.ref (qa 0), .ref (qb 0), .ref (qc 0), .ref (qd 0), .int (nI ((upN th tu (th tu + 1)) 0))])), (qa 0, aI E 30 ((upN pt tu (upN (pt tu) (th tu) (pcN (feN g b z)))) 0)), (qb 0, aI E 10 ((upN ft tu (if ti tu fr = 0 then upN (ft tu) fr (th tu) else ft tu)) 0)), (qc 0, aI E 10 ((upN ti tu (upN (ti tu) fr (ti tu fr + 1))) 0)), (qd 0, aI E 10 ((upN bt tu (fB (bt tu) (ti tu) fr (pcN (feN g b z)) (roN g b z))) 0)), (qs 1, .inr (2, [.ref (qa 1), .ref (qb 1), .ref (qc 1), .ref (qd 1), .int (nI ((upN th tu (th tu + 1)) 1))])), (qa 1, aI E 30 ((upN pt tu (upN (pt tu) (th tu) (pcN (feN g b z)))) 1)), (qb 1, aI E 10 ((upN ft tu (if ti tu fr = 0 then upN (ft tu) fr (th tu) else ft tu)) 1)), (qc 1, aI E 10 ((upN ti tu (upN (ti tu) fr (ti tu fr + 1))) 1)), (qd 1, aI E 10 ((upN bt tu (fB (bt tu) (ti tu) fr (pcN (feN g b z)) (roN g b z))) 1)), (qs 2, .inr (2, [.ref (qa 2), .ref (qb 2), .ref (qc 2), .ref (qd 2), .int (nI ((upN th tu (th tu + 1)) 2))])), (qa 2, aI E 30 ((upN pt tu (upN (pt tu) (th tu) (pcN (feN g b z)))) 2)), (qb 2, aI E 10 ((upN ft tu (if ti tu fr = 0 then upN (ft tu) fr (th tu) else ft tu)) 2)), (qc 2, aI E 10 ((upN ti tu (upN (ti tu) fr (ti tu fr + 1))) 2)), (qd 2, aI E 10 ((upN bt tu (fB (bt tu) (ti tu) fr (pcN (feN g b z)) (roN g b z))) 2)), (qs 3, .inr (2, [.ref (qa 3), .ref (qb 3), .ref (qc 3), .ref (qd 3), .int (nI ((upN th tu (th tu + 1)) 3))])), (qa 3, aI E 30 ((upN pt tu (upN (pt tu) (th tu) (pcN (feN g b z)))) 3)), (qb 3, aI E 10 ((upN ft tu (if ti tu fr = 0 then upN (ft tu) fr (th tu) else ft tu)) 3)), (qc 3, aI E 10 ((upN ti tu (upN (ti tu) fr (ti tu fr + 1))) 3)), (qd 3, aI E 10 ((upN bt tu (fB (bt tu) (ti tu) fr (pcN (feN g b z)) (roN g b z))) 3)), (h0, .inr (4, [.ref q_3, .ref k2, .ref k3, .int (nI sp), .int (nI pl), .int (nI (fT pl tu nf (roN g b z))), .int (nI (fF pl tu fr nf (roN g b z))), .int (nI (fN nf (roN g b z))), .ref q_4])), (q_3, bI E 9 (mB (fG pl tu fr nf (roN g b z) (rwW (feN g b z) w 9)))), (k2, aI E 9 (rwW (feN g b z) w 9)), (k3, aI E 5 (upN (snW aw 5) b 2)), (q_4, qI E (n + 1) (fun k => some ((upN ra n q_5) k)))] ++ plR E (n + 1) (upN ra n q_5) (upN rv n (pk5 tu fr (pcN (feN g b z)) (pcN (roN g b z)) (nf + 1)))) H _ := hW
        have hW := WD.part hW (w' := ([(h0, .inr (4, [.ref q_3, .ref k2, .ref k3, .int (nI sp), .int (nI pl), .int (nI (fT pl tu nf (roN g b z))), .int (nI (fF pl tu fr nf (roN g b z))), .int (nI (fN nf (roN g b z))), .ref q_4])), (q_3, bI E 9 (mB (fG pl tu fr nf (roN g b z) (rwW (feN g b z) w 9)))), (k2, aI E 9 (rwW (feN g b z) w 9)), (k3, aI E 5 (upN (snW aw 5) b 2)), (q_4, qI E (n + 1) (fun k => some ((upN ra n q_5) k)))] ++ CW E c0 a1 a2 a3 a4 a5 qs qa qb qc qd pl (fT pl tu nf (roN g b z)) (fF pl tu fr nf (roN g b z)) (fN nf (roN g b z)) (fG pl tu fr nf (roN g b z) (rwW (feN g b z) w 9)) sp (rwW (feN g b z) w 9) (upN (snW aw 5) b 2) ((upN pt tu (upN (pt tu) (th tu) (pcN (feN g b z))))) ((upN ft tu (if ti tu fr = 0 then upN (ft tu) fr (th tu) else ft tu))) ((upN ti tu (upN (ti tu) fr (ti tu fr + 1)))) ((upN bt tu (fB (bt tu) (ti tu) fr (pcN (feN g b z)) (roN g b z)))) ((upN th tu (th tu + 1))))) [26, 27, 28, 29, 30, 0, 1, 2, 3, 4, 5, 6, 7, 8, 9, 10, 11, 12, 13, 14, 15, 16, 17, 18, 19, 20, 21, 22, 23, 24, 25] rfl (by decide)
        refine lv_goto (tgt := 301) C.x C.b dL_act_297 (by decide) ?_
        refine x_icmp_ne C (by have := pcN_le (feN g b z); omega) (by have := pcN_le (feN g b z); omega) (tgt := 313) dL_act_301 (by decide) (fun c_9 => ?_) (fun c_9 => ?_)
        · exact absurd rfl c_9
        · refine lv_iload C.x C.b dL_act_304 (lv_at hl 0 rfl) ?_
          refine x_if_eq C (by omega) (tgt := 313) dL_act_306 (by decide) (fun c_10 => ?_) (fun c_10 => ?_)
          · exact absurd c_10 (by decide)
          · refine lv_iconst (v := nI 1) C.x C.b dL_act_309 (by decide) ?_
            refine lv_goto (tgt := 314) C.x C.b dL_act_310 (by decide) ?_
            refine W.widen (k := 90) (n := 300) (by omega) (by omega) ?_
            have hW : WD E _ s (AW E h0 k2 k3 c0 a1 a2 a3 a4 a5 qs qa qb qc qd q_3 q_4 pl (fT pl tu nf (roN g b z)) (fF pl tu fr nf (roN g b z)) (fN nf (roN g b z)) (fG pl tu fr nf (roN g b z) (rwW (feN g b z) w 9)) sp (n + 1) (rwW (feN g b z) w 9) (upN (snW aw 5) b 2) (upN ra n q_5) (upN rv n (pk5 tu fr (pcN (feN g b z)) (pcN (roN g b z)) (nf + 1))) ((upN pt tu (upN (pt tu) (th tu) (pcN (feN g b z))))) ((upN ft tu (if ti tu fr = 0 then upN (ft tu) fr (th tu) else ft tu))) ((upN ti tu (upN (ti tu) fr (ti tu fr + 1)))) ((upN bt tu (fB (bt tu) (ti tu) fr (pcN (feN g b z)) (roN g b z)))) ((upN th tu (th tu + 1)))) H _ := hW.to (rfl)
            exact x_iretG C hW (by first | rfl | exact z_narb _) ⟨rfl, q_3, q_4, pl, (fT pl tu nf (roN g b z)), (fF pl tu fr nf (roN g b z)), (fN nf (roN g b z)), (fG pl tu fr nf (roN g b z) (rwW (feN g b z) w 9)), sp, (n + 1), (rwW (feN g b z) w 9), (upN (snW aw 5) b 2), (upN ra n q_5), (upN rv n (pk5 tu fr (pcN (feN g b z)) (pcN (roN g b z)) (nf + 1))), ((upN pt tu (upN (pt tu) (th tu) (pcN (feN g b z))))), ((upN ft tu (if ti tu fr = 0 then upN (ft tu) fr (th tu) else ft tu))), ((upN ti tu (upN (ti tu) fr (ti tu fr + 1)))), ((upN bt tu (fB (bt tu) (ti tu) fr (pcN (feN g b z)) (roN g b z)))), ((upN th tu (th tu + 1))), (hI.thr' hf10 hb), (by omega), (by omega), rfl⟩ rfl rfl dL_act_314
    · have hn9 : pl = 0 ∨ fr = 10 ∨ 0 < aw b := by omega
      refine lv_aload_n C.x C.b dL_act_271 rfl (lv_at hl 5 rfl) ?_
      refine lv_iload_n C.x C.b dL_act_272 rfl (lv_at hl 3 rfl) ?_
      refine x_rVI C hW (As := [.int (nI b)]) (rest := []) (Cn := RX5) (met_X5_canThrow l E h0 k1 k2 k3 k4 sp pl tu fr nf aw b hfr hpl (by omega) ha) gL_act_X5_canThrow rfl 1 rfl ⟨rfl, rfl⟩ ⟨rfl, by decide +kernel, by decide +kernel, by decide +kernel⟩ ⟨Nat.le_of_ble_eq_true rfl, Nat.le_of_ble_eq_true rfl⟩ [0, 3] rfl (by decide) 0 4 rfl rfl hl.1 rfl (Nat.le_of_ble_eq_true rfl) dL_act_273 ⟨by show _ ≤ 90; omega, by show _ ≤ 300; omega⟩ (fun H locs hW => ?_)
      refine x_toi (y := nI 0) (by rw [if_neg hcan]) ?_
      refine lv_istore (lv' := [(6, .int (nI 0)), (5, .int (nI q)), (4, .int (nI z)), (3, .int (nI b)), (0, .ref c0), (1, .ref h0), (2, .int v)]) C.x C.b dL_act_276 hl (by decide) rfl (fun ls hl => ?_)
      refine lv_aload_n C.x C.b dL_act_278 rfl (lv_at hl 4 rfl) ?_
      refine lv_iload_n C.x C.b dL_act_279 rfl (lv_at hl 3 rfl) ?_
      refine lv_iload C.x C.b dL_act_280 (lv_at hl 2 rfl) ?_
      refine x_catchR (X := "java/lang/IllegalStateException") (name := "java/lang/IllegalStateException") C C.gc [⟨30, 137, 315, 59⟩, ⟨138, 198, 315, 59⟩, ⟨199, 240, 315, 59⟩, ⟨241, 253, 315, 59⟩, ⟨254, 270, 315, 59⟩] ⟨271, 314, 315, 59⟩ [] (htab.trans rfl) (by decide) (by decide) (by decide) (by decide +kernel) C.gc.st hW (As := [.int (nI b), .int (nI z)]) (rest := []) (Cn := RX4) (bad_X4_throwBall_no l hst E c0 a1 a3 a5 pl tu fr nf a4 aw b z (by omega) (by omega) hpl hfr ha (by omega)) gL_act_X4_throwBall rfl 2 rfl ⟨rfl, rfl⟩ ⟨rfl, by decide +kernel, by decide +kernel, by decide +kernel⟩ ⟨Nat.le_of_ble_eq_true rfl, Nat.le_of_ble_eq_true rfl⟩ [5, 8, 9] rfl (by decide) 5 3 rfl rfl hl.1 rfl (Nat.le_of_ble_eq_true rfl) dL_act_282 ⟨by show _ ≤ 90; omega, by show _ ≤ 300; omega⟩ (fun q_11 H locs hW => ?_)
      refine lv_astore (lv' := [(7, .ref q_11), (6, .int (nI 0)), (5, .int (nI q)), (4, .int (nI z)), (3, .int (nI b)), (0, .ref c0), (1, .ref h0), (2, .int v)]) C.x C.b dL_act_315 hl (by decide) rfl (fun ls hl => ?_)
      refine lv_iload C.x C.b dL_act_317 (lv_at hl 1 rfl) ?_
      refine x_if_ne C (by omega) (tgt := 326) dL_act_319 (by decide) (fun c_12 => ?_) (fun c_12 => ?_)
      · exact absurd c_12 (by decide)
      · refine lv_iconst (v := nI 1) C.x C.b dL_act_322 (by decide) ?_
        refine lv_goto (tgt := 327) C.x C.b dL_act_323 (by decide) ?_
        refine W.widen (k := 90) (n := 300) (by omega) (by omega) ?_
        have hW : WD E _ s (AW E h0 k2 k3 c0 a1 a2 a3 a4 a5 qs qa qb qc qd k1 k4 pl tu fr nf g sp n w aw ra rv pt ft ti bt th) H _ := hW.to (rfl)
        exact x_iretG C hW (by first | rfl | exact z_narb _) ⟨rfl, k1, k4, pl, tu, fr, nf, g, sp, n, w, aw, ra, rv, pt, ft, ti, bt, th, hI, (by omega), (by omega), rfl⟩ rfl rfl dL_act_327
  have jn_13 : ∀ (H : Heap) (locs : List Loc) (ls : Array Slot), WD E (va_A (([(h0, .inr (4, [.ref k1, .ref k2, .ref k3, .int (nI sp), .int (nI pl), .int (nI tu), .int (nI fr), .int (nI nf), .ref k4])), (k1, bI E 9 (mB g)), (k2, aI E 9 w), (k3, aI E 5 aw), (k4, qI E n (fun k => some (ra k)))] ++ CW E c0 a1 a2 a3 a4 a5 qs qa qb qc qd pl tu fr nf g sp w aw pt ft ti bt th) ++ plR E n ra rv) s.heap.size) s (([(h0, .inr (4, [.ref k1, .ref k2, .ref k3, .int (nI sp), .int (nI pl), .int (nI tu), .int (nI fr), .int (nI nf), .ref k4])), (k1, bI E 9 (mB g)), (k2, aI E 9 w), (k3, aI E 5 aw), (k4, qI E n (fun k => some (ra k)))] ++ CW E c0 a1 a2 a3 a4 a5 qs qa qb qc qd pl tu fr nf g sp w aw pt ft ti bt th) ++ plR E n ra rv) H locs → lv_has ls 8 [(6, .int (nI 1)), (5, .int (nI q)), (4, .int (nI z)), (3, .int (nI b)), (0, .ref c0), (1, .ref h0), (2, .int v)] → W p l e ({ frames := 8, cells := 90, slots := 300, locals := 196 } : Room) s m ([.ref c0, .ref h0, .int v] : List Value).toArray below meth c H locs 0 0 (QG E (([(h0, .inr (4, [.ref k1, .ref k2, .ref k3, .int (nI sp), .int (nI pl), .int (nI tu), .int (nI fr), .int (nI nf), .ref k4])), (k1, bI E 9 (mB g)), (k2, aI E 9 w), (k3, aI E 5 aw), (k4, qI E n (fun k => some (ra k)))] ++ CW E c0 a1 a2 a3 a4 a5 qs qa qb qc qd pl tu fr nf g sp w aw pt ft ti bt th) ++ plR E n ra rv) 90 300 (fun r w1 => r = nI 1 ∧ JS E h0 k2 k3 c0 a1 a2 a3 a4 a5 qs qa qb qc qd (n + 1) (sp + 20) w1) below ([.ref c0, .ref h0, .int v] : List Value).toArray s) (F0 m 138 ls []) := by
    intro  H locs ls hW hl
    refine lv_aload_n C.x C.b dL_act_138 rfl (lv_at hl 5 rfl) ?_
    refine x_get C hW 0 4 3 (Cn := RX5) (T := TX5) (N := 9) rfl rfl (by decide) hinX5 hf31 rfl dL_act_139 ?_
    refine x_if_le C (by omega) (tgt := 149) dL_act_142 (by decide) (fun c_14 => ?_) (fun c_14 => ?_)
    · refine lv_iconst (v := nI 0) C.x C.b dL_act_149 (by decide) ?_
      refine lv_istore (lv' := [(6, .int (nI 0)), (5, .int (nI q)), (4, .int (nI z)), (3, .int (nI b)), (0, .ref c0), (1, .ref h0), (2, .int v)]) C.x C.b dL_act_150 hl (by decide) rfl (fun ls hl => ?_)
      refine lv_iload C.x C.b dL_act_152 (lv_at hl 0 rfl) ?_
      refine x_if_eq C (by omega) (tgt := 175) dL_act_154 (by decide) (fun c_15 => ?_) (fun c_15 => ?_)
      · refine lv_aload_n C.x C.b dL_act_175 rfl (lv_at hl 4 rfl) ?_
        refine lv_iload C.x C.b dL_act_176 (lv_at hl 1 rfl) ?_
        refine x_catchR (X := "java/lang/IllegalStateException") (name := "java/lang/IllegalStateException") C C.gc [⟨30, 137, 315, 59⟩] ⟨138, 198, 315, 59⟩ [⟨199, 240, 315, 59⟩, ⟨241, 253, 315, 59⟩, ⟨254, 270, 315, 59⟩, ⟨271, 314, 315, 59⟩] (htab.trans rfl) (by decide) (by decide) (by decide) (by decide +kernel) C.gc.st hW (As := [.int (nI q)]) (rest := []) (Cn := RX4) (bad_X4_replaceString_no l hst E c0 a1 a3 a5 pl tu fr nf a2 g sp w q (by omega) (by omega)) gL_act_X4_replaceString rfl 1 rfl ⟨rfl, rfl⟩ ⟨rfl, by decide +kernel, by decide +kernel, by decide +kernel⟩ ⟨Nat.le_of_ble_eq_true rfl, Nat.le_of_ble_eq_true rfl⟩ [5, 6, 7] rfl (by decide) 5 3 rfl rfl hl.1 rfl (Nat.le_of_ble_eq_true rfl) dL_act_178 ⟨by show _ ≤ 90; omega, by show _ ≤ 300; omega⟩ (fun q_16 H locs hW => ?_)
        refine lv_astore (lv' := [(7, .ref q_16), (6, .int (nI 0)), (5, .int (nI q)), (4, .int (nI z)), (3, .int (nI b)), (0, .ref c0), (1, .ref h0), (2, .int v)]) C.x C.b dL_act_315 hl (by decide) rfl (fun ls hl => ?_)
        refine lv_iload C.x C.b dL_act_317 (lv_at hl 1 rfl) ?_
        refine x_if_ne C (by omega) (tgt := 326) dL_act_319 (by decide) (fun c_17 => ?_) (fun c_17 => ?_)
        · exact absurd c_17 (by decide)
        · refine lv_iconst (v := nI 1) C.x C.b dL_act_322 (by decide) ?_
          refine lv_goto (tgt := 327) C.x C.b dL_act_323 (by decide) ?_
          refine W.widen (k := 90) (n := 300) (by omega) (by omega) ?_
          have hW : WD E _ s (AW E h0 k2 k3 c0 a1 a2 a3 a4 a5 qs qa qb qc qd k1 k4 pl tu fr nf g sp n w aw ra rv pt ft ti bt th) H _ := hW.to (rfl)
          exact x_iretG C hW (by first | rfl | exact z_narb _) ⟨rfl, k1, k4, pl, tu, fr, nf, g, sp, n, w, aw, ra, rv, pt, ft, ti, bt, th, hI, (by omega), (by omega), rfl⟩ rfl rfl dL_act_327
      · exact absurd (by decide) c_15
    · refine lv_iconst (v := nI 1) C.x C.b dL_act_145 (by decide) ?_
      refine lv_goto (tgt := 150) C.x C.b dL_act_146 (by decide) ?_
      refine lv_istore (lv' := [(6, .int (nI 1)), (5, .int (nI q)), (4, .int (nI z)), (3, .int (nI b)), (0, .ref c0), (1, .ref h0), (2, .int v)]) C.x C.b dL_act_150 hl (by decide) rfl (fun ls hl => ?_)
      refine lv_iload C.x C.b dL_act_152 (lv_at hl 0 rfl) ?_
      refine x_if_eq C (by omega) (tgt := 175) dL_act_154 (by decide) (fun c_18 => ?_) (fun c_18 => ?_)
      · exact absurd c_18 (by decide)
      · refine lv_aload_n C.x C.b dL_act_157 rfl (lv_at hl 5 rfl) ?_
        refine x_get C hW 0 4 1 (Cn := RX5) (T := TX5) (N := 9) rfl rfl (by decide) hinX5 hf34 rfl dL_act_158 ?_
        refine lv_iload C.x C.b dL_act_161 (lv_at hl 1 rfl) ?_
        refine lv_iconst (v := nI 0) C.x C.b dL_act_163 (by decide) ?_
        refine x_ast C hW 2 q 0 rfl rfl rfl (by omega) (by decide) dL_act_164 (w' := (([(h0, .inr (4, [.ref k1, .ref k2, .ref k3, .int (nI sp), .int (nI pl), .int (nI tu), .int (nI fr), .int (nI nf), .ref k4])), (k1, bI E 9 (mB g)), (k2, aI E 9 (upN w q 0)), (k3, aI E 5 aw), (k4, qI E n (fun k => some (ra k)))] ++ CW E c0 a1 a2 a3 a4 a5 qs qa qb qc qd pl tu fr nf g sp w aw pt ft ti bt th) ++ plR E n ra rv)) rfl (fun H locs hW => ?_)
        refine lv_aload_n C.x C.b dL_act_165 rfl (lv_at hl 5 rfl) ?_
        refine lv_dup C.x C.b dL_act_166 rfl ?_
        refine x_get C hW 0 4 3 (Cn := RX5) (T := TX5) (N := 9) rfl rfl (by decide) hinX5 hf31 rfl dL_act_167 ?_
        refine lv_iconst (v := nI 1) C.x C.b dL_act_170 (by decide) ?_
        refine x_isub C (by omega) dL_act_171 ?_
        refine x_put C hW 0 4 3 (Cn := RX5) (T := TX5) (N := 9) (w' := (([(h0, .inr (4, [.ref k1, .ref k2, .ref k3, .int (nI (sp - 1)), .int (nI pl), .int (nI tu), .int (nI fr), .int (nI nf), .ref k4])), (k1, bI E 9 (mB g)), (k2, aI E 9 (upN w q 0)), (k3, aI E 5 aw), (k4, qI E n (fun k => some (ra k)))] ++ CW E c0 a1 a2 a3 a4 a5 qs qa qb qc qd pl tu fr nf g sp w aw pt ft ti bt th) ++ plR E n ra rv)) tyX5 tyX5_ok nmX5 rfl rfl (by decide) hinX5 hf31 rfl (by decide +kernel) (Nat.le_of_ble_eq_true rfl) dL_act_172 rfl (fun H locs hW => ?_)
        refine lv_aload_n C.x C.b dL_act_175 rfl (lv_at hl 4 rfl) ?_
        refine lv_iload C.x C.b dL_act_176 (lv_at hl 1 rfl) ?_
        refine x_wVI C hW (As := [.int (nI q)]) (rest := []) (wr := [(h0, .inr (4, [.ref k1, .ref k2, .ref k3, .int (nI (sp - 1)), .int (nI pl), .int (nI tu), .int (nI fr), .int (nI nf), .ref k4])), (k1, bI E 9 (mB g)), (k2, aI E 9 (upN w q 0)), (k3, aI E 5 aw), (k4, qI E n (fun k => some (ra k))), (a3, .inr (1, [.ref a4])), (a4, aI E 5 aw), (a5, .inl (E.2.2.2.1, 4, .inr (.inr (.inr (.inr (fun k => some (qs k))))))), (qs 0, .inr (2, [.ref (qa 0), .ref (qb 0), .ref (qc 0), .ref (qd 0), .int (nI (th 0))])), (qa 0, aI E 30 (pt 0)), (qb 0, aI E 10 (ft 0)), (qc 0, aI E 10 (ti 0)), (qd 0, aI E 10 (bt 0)), (qs 1, .inr (2, [.ref (qa 1), .ref (qb 1), .ref (qc 1), .ref (qd 1), .int (nI (th 1))])), (qa 1, aI E 30 (pt 1)), (qb 1, aI E 10 (ft 1)), (qc 1, aI E 10 (ti 1)), (qd 1, aI E 10 (bt 1)), (qs 2, .inr (2, [.ref (qa 2), .ref (qb 2), .ref (qc 2), .ref (qd 2), .int (nI (th 2))])), (qa 2, aI E 30 (pt 2)), (qb 2, aI E 10 (ft 2)), (qc 2, aI E 10 (ti 2)), (qd 2, aI E 10 (bt 2)), (qs 3, .inr (2, [.ref (qa 3), .ref (qb 3), .ref (qc 3), .ref (qd 3), .int (nI (th 3))])), (qa 3, aI E 30 (pt 3)), (qb 3, aI E 10 (ft 3)), (qc 3, aI E 10 (ti 3)), (qd 3, aI E 10 (bt 3))]) (wn := ([(h0, .inr (4, [.ref k1, .ref k2, .ref k3, .int (nI (sp - 1)), .int (nI pl), .int (nI tu), .int (nI fr), .int (nI nf), .ref k4])), (k1, bI E 9 (mB g)), (k2, aI E 9 (upN w q 0)), (k3, aI E 5 aw), (k4, qI E n (fun k => some (ra k)))] ++ CW E c0 a1 a2 a3 a4 a5 qs qa qb qc qd pl tu fr nf g (sp - 1) (upN w q 0) aw pt ft ti bt th)) (Cn := RX4) (met_X4_replaceString_ok l E c0 a1 a3 a5 pl tu fr nf a2 g sp w q (by omega) (by omega) (by omega)) gL_act_X4_replaceString rfl 1 rfl ⟨rfl, rfl⟩ ⟨rfl, by decide +kernel, by decide +kernel, by decide +kernel⟩ ⟨Nat.le_of_ble_eq_true rfl, Nat.le_of_ble_eq_true rfl⟩ [5, 6, 7] [0, 1, 2, 3, 4, 8, 9, 10, 11, 12, 13, 14, 15, 16, 17, 18, 19, 20, 21, 22, 23, 24, 25, 26, 27, 28, 29, 30] [0, 1, 2, 3, 4, 28, 29, 30, 5, 6, 7, 8, 9, 10, 11, 12, 13, 14, 15, 16, 17, 18, 19, 20, 21, 22, 23, 24, 25, 26, 27] rfl (by decide) rfl (by decide) (by decide) rfl (by decide) 5 3 rfl rfl hl.1 rfl (Nat.le_of_ble_eq_true rfl) dL_act_178 ⟨by show _ ≤ 90; omega, by show _ ≤ 300; omega⟩ (fun H locs hW => ?_)
        have hW : WD E _ s (([(h0, .inr (4, [.ref k1, .ref k2, .ref k3, .int (nI (sp - 1)), .int (nI pl), .int (nI tu), .int (nI fr), .int (nI nf), .ref k4])), (k1, bI E 9 (mB g)), (k2, aI E 9 (upN w q 0)), (k3, aI E 5 aw), (k4, qI E n (fun k => some (ra k)))] ++ CW E c0 a1 a2 a3 a4 a5 qs qa qb qc qd pl tu fr nf g (sp - 1) (upN w q 0) aw pt ft ti bt th) ++ plR E n ra rv) H _ := hW
        refine lv_aload_n C.x C.b dL_act_181 rfl (lv_at hl 5 rfl) ?_
        refine x_get C hW 0 4 3 (Cn := RX5) (T := TX5) (N := 9) rfl rfl (by decide) hinX5 hf31 rfl dL_act_182 ?_
        refine x_icmp_ne C (by omega) (by omega) (tgt := 197) dL_act_185 (by decide) (fun c_19 => ?_) (fun c_19 => ?_)
        · exact absurd rfl c_19
        · refine lv_iload C.x C.b dL_act_188 (lv_at hl 0 rfl) ?_
          refine x_if_eq C (by omega) (tgt := 197) dL_act_190 (by decide) (fun c_20 => ?_) (fun c_20 => ?_)
          · exact absurd c_20 (by decide)
          · refine lv_iconst (v := nI 1) C.x C.b dL_act_193 (by decide) ?_
            refine lv_goto (tgt := 198) C.x C.b dL_act_194 (by decide) ?_
            refine W.widen (k := 90) (n := 300) (by omega) (by omega) ?_
            have hW : WD E _ s (AW E h0 k2 k3 c0 a1 a2 a3 a4 a5 qs qa qb qc qd k1 k4 pl tu fr nf g (sp - 1) n (upN w q 0) aw ra rv pt ft ti bt th) H _ := hW.to (rfl)
            exact x_iretG C hW (by first | rfl | exact z_narb _) ⟨rfl, k1, k4, pl, tu, fr, nf, g, (sp - 1), n, (upN w q 0), aw, ra, rv, pt, ft, ti, bt, th, (hI.rep q), (by omega), (by omega), rfl⟩ rfl rfl dL_act_198
  refine lv_iload_n C.x C.b dL_act_30 rfl (lv_at hl 6 rfl) ?_
  refine lv_bipush (v := nI 16) C.x C.b dL_act_31 (by decide) ?_
  refine x_rSI C hW (As := [.int v, .int (nI 16)]) (rest := []) (met_L_below l E v 16 (by omega) (by omega)) gL_act_L_below rfl 2 rfl ⟨rfl, rfl⟩ ⟨by decide +kernel, by decide +kernel, by decide +kernel⟩ ⟨Nat.le_of_ble_eq_true rfl, Nat.le_of_ble_eq_true rfl⟩ [] rfl (by decide) hl.1 rfl (Nat.le_of_ble_eq_true rfl) dL_act_33 ⟨by show _ ≤ 90; omega, by show _ ≤ 300; omega⟩ (fun H locs hW => ?_)
  obtain ⟨j, hj, ej⟩ : ∃ j, j < 16 ∧ bwN v 16 = j := ⟨_, bwN_lt _ (by decide), rfl⟩
  refine x_toi (y := nI j) (congrArg nI ej) ?_
  rcases (show j = 0 ∨ j = 1 ∨ j = 2 ∨ j = 3 ∨ j = 4 ∨ j = 5 ∨ j = 6 ∨ j = 7 ∨ j = 8 ∨ j = 9 ∨ j = 10 ∨ j = 11 ∨ j = 12 ∨ j = 13 ∨ j = 14 ∨ j = 15 by omega) with rfl | rfl | rfl | rfl | rfl | rfl | rfl | rfl | rfl | rfl | rfl | rfl | rfl | rfl | rfl | rfl
  · refine lv_tableIn C.x C.b (off := 36) (tgt := 72) dL_act_36 (by decide +kernel) (by decide +kernel) (by decide +kernel) (by decide) ?_
    refine lv_aload_n C.x C.b dL_act_72 rfl (lv_at hl 5 rfl) ?_
    refine x_get C hW 0 4 4 (Cn := RX5) (T := TX5) (N := 9) rfl rfl (by decide) hinX5 hf15 rfl dL_act_73 ?_
    refine lv_iconst (v := nI 4) C.x C.b dL_act_76 (by decide) ?_
    refine x_icmp_ge C (by omega) (by omega) (tgt := 92) dL_act_77 (by decide) (fun c_21 => ?_) (fun c_21 => ?_)
    · refine lv_iconst (v := nI 0) C.x C.b dL_act_92 (by decide) ?_
      refine lv_istore (lv' := [(6, .int (nI 0)), (5, .int (nI q)), (4, .int (nI z)), (3, .int (nI b)), (0, .ref c0), (1, .ref h0), (2, .int v)]) C.x C.b dL_act_93 hl (by decide) rfl (fun ls hl => ?_)
      refine lv_aload_n C.x C.b dL_act_95 rfl (lv_at hl 5 rfl) ?_
      refine lv_dup C.x C.b dL_act_96 rfl ?_
      refine x_get C hW 0 4 4 (Cn := RX5) (T := TX5) (N := 9) rfl rfl (by decide) hinX5 hf15 rfl dL_act_97 ?_
      refine lv_iload C.x C.b dL_act_100 (lv_at hl 0 rfl) ?_
      refine x_if_eq C (by omega) (tgt := 109) dL_act_102 (by decide) (fun c_22 => ?_) (fun c_22 => ?_)
      · refine lv_iconst (v := nI 0) C.x C.b dL_act_109 (by decide) ?_
        refine x_iadd C dL_act_110 ?_
        refine x_put C hW 0 4 4 (Cn := RX5) (T := TX5) (N := 9) (w' := (([(h0, .inr (4, [.ref k1, .ref k2, .ref k3, .int (nI sp), .int (nI (pl + 0)), .int (nI tu), .int (nI fr), .int (nI nf), .ref k4])), (k1, bI E 9 (mB g)), (k2, aI E 9 w), (k3, aI E 5 aw), (k4, qI E n (fun k => some (ra k)))] ++ CW E c0 a1 a2 a3 a4 a5 qs qa qb qc qd pl tu fr nf g sp w aw pt ft ti bt th) ++ plR E n ra rv)) tyX5 tyX5_ok nmX5 rfl rfl (by decide) hinX5 hf15 rfl (by decide +kernel) (Nat.le_of_ble_eq_true rfl) dL_act_111 rfl (fun H locs hW => ?_)
        refine lv_aload_n C.x C.b dL_act_114 rfl (lv_at hl 4 rfl) ?_
        refine x_catchR (X := "java/lang/IllegalStateException") (name := "java/lang/IllegalStateException") C C.gc [] ⟨30, 137, 315, 59⟩ [⟨138, 198, 315, 59⟩, ⟨199, 240, 315, 59⟩, ⟨241, 253, 315, 59⟩, ⟨254, 270, 315, 59⟩, ⟨271, 314, 315, 59⟩] (htab.trans rfl) (by decide) (by decide) (by decide) (by decide +kernel) C.gc.st hW (As := []) (rest := []) (Cn := RX4) (bad_X4_addPlayer_no l hst E c0 a1 a3 a5 pl tu fr nf qs qa qb qc qd pt ft ti bt th (by rcases Nat.lt_or_ge pl 4 with z | z; exact Or.inr (hI.hn0 (by omega)); exact Or.inl (by omega)) hpl (hth 0)) gL_act_X4_addPlayer rfl 0 rfl ⟨rfl, rfl⟩ ⟨rfl, by decide +kernel, by decide +kernel, by decide +kernel⟩ ⟨Nat.le_of_ble_eq_true rfl, Nat.le_of_ble_eq_true rfl⟩ [5, 10, 11, 12, 13, 14, 15] rfl (by decide) 5 3 rfl rfl hl.1 rfl (Nat.le_of_ble_eq_true rfl) dL_act_115 ⟨by show _ ≤ 90; omega, by show _ ≤ 300; omega⟩ (fun q_23 H locs hW => ?_)
        refine lv_astore (lv' := [(7, .ref q_23), (6, .int (nI 0)), (5, .int (nI q)), (4, .int (nI z)), (3, .int (nI b)), (0, .ref c0), (1, .ref h0), (2, .int v)]) C.x C.b dL_act_315 hl (by decide) rfl (fun ls hl => ?_)
        refine lv_iload C.x C.b dL_act_317 (lv_at hl 1 rfl) ?_
        refine x_if_ne C (by omega) (tgt := 326) dL_act_319 (by decide) (fun c_24 => ?_) (fun c_24 => ?_)
        · exact absurd c_24 (by decide)
        · refine lv_iconst (v := nI 1) C.x C.b dL_act_322 (by decide) ?_
          refine lv_goto (tgt := 327) C.x C.b dL_act_323 (by decide) ?_
          refine W.widen (k := 90) (n := 300) (by omega) (by omega) ?_
          have hW : WD E _ s (AW E h0 k2 k3 c0 a1 a2 a3 a4 a5 qs qa qb qc qd k1 k4 pl tu fr nf g sp n w aw ra rv pt ft ti bt th) H _ := hW.to (rfl)
          exact x_iretG C hW (by first | rfl | exact z_narb _) ⟨rfl, k1, k4, pl, tu, fr, nf, g, sp, n, w, aw, ra, rv, pt, ft, ti, bt, th, hI, (by omega), (by omega), rfl⟩ rfl rfl dL_act_327
      · exact absurd (by decide) c_22
    · refine lv_aload_n C.x C.b dL_act_80 rfl (lv_at hl 5 rfl) ?_
      refine x_get C hW 0 4 8 (Cn := RX5) (T := TX5) (N := 9) rfl rfl (by decide) hinX5 hf21 rfl dL_act_81 ?_
      refine x_alen C hW 4 3 rfl rfl dL_act_84 ?_
      refine x_toi (y := nI n) rfl ?_
      refine x_if_ne C (by omega) (tgt := 92) dL_act_85 (by decide) (fun c_25 => ?_) (fun c_25 => ?_)
      · refine lv_iconst (v := nI 0) C.x C.b dL_act_92 (by decide) ?_
        refine lv_istore (lv' := [(6, .int (nI 0)), (5, .int (nI q)), (4, .int (nI z)), (3, .int (nI b)), (0, .ref c0), (1, .ref h0), (2, .int v)]) C.x C.b dL_act_93 hl (by decide) rfl (fun ls hl => ?_)
        refine lv_aload_n C.x C.b dL_act_95 rfl (lv_at hl 5 rfl) ?_
        refine lv_dup C.x C.b dL_act_96 rfl ?_
        refine x_get C hW 0 4 4 (Cn := RX5) (T := TX5) (N := 9) rfl rfl (by decide) hinX5 hf15 rfl dL_act_97 ?_
        refine lv_iload C.x C.b dL_act_100 (lv_at hl 0 rfl) ?_
        refine x_if_eq C (by omega) (tgt := 109) dL_act_102 (by decide) (fun c_26 => ?_) (fun c_26 => ?_)
        · refine lv_iconst (v := nI 0) C.x C.b dL_act_109 (by decide) ?_
          refine x_iadd C dL_act_110 ?_
          refine x_put C hW 0 4 4 (Cn := RX5) (T := TX5) (N := 9) (w' := (([(h0, .inr (4, [.ref k1, .ref k2, .ref k3, .int (nI sp), .int (nI (pl + 0)), .int (nI tu), .int (nI fr), .int (nI nf), .ref k4])), (k1, bI E 9 (mB g)), (k2, aI E 9 w), (k3, aI E 5 aw), (k4, qI E n (fun k => some (ra k)))] ++ CW E c0 a1 a2 a3 a4 a5 qs qa qb qc qd pl tu fr nf g sp w aw pt ft ti bt th) ++ plR E n ra rv)) tyX5 tyX5_ok nmX5 rfl rfl (by decide) hinX5 hf15 rfl (by decide +kernel) (Nat.le_of_ble_eq_true rfl) dL_act_111 rfl (fun H locs hW => ?_)
          refine lv_aload_n C.x C.b dL_act_114 rfl (lv_at hl 4 rfl) ?_
          refine x_catchR (X := "java/lang/IllegalStateException") (name := "java/lang/IllegalStateException") C C.gc [] ⟨30, 137, 315, 59⟩ [⟨138, 198, 315, 59⟩, ⟨199, 240, 315, 59⟩, ⟨241, 253, 315, 59⟩, ⟨254, 270, 315, 59⟩, ⟨271, 314, 315, 59⟩] (htab.trans rfl) (by decide) (by decide) (by decide) (by decide +kernel) C.gc.st hW (As := []) (rest := []) (Cn := RX4) (bad_X4_addPlayer_no l hst E c0 a1 a3 a5 pl tu fr nf qs qa qb qc qd pt ft ti bt th (by rcases Nat.lt_or_ge pl 4 with z | z; exact Or.inr (hI.hn0 (by omega)); exact Or.inl (by omega)) hpl (hth 0)) gL_act_X4_addPlayer rfl 0 rfl ⟨rfl, rfl⟩ ⟨rfl, by decide +kernel, by decide +kernel, by decide +kernel⟩ ⟨Nat.le_of_ble_eq_true rfl, Nat.le_of_ble_eq_true rfl⟩ [5, 10, 11, 12, 13, 14, 15] rfl (by decide) 5 3 rfl rfl hl.1 rfl (Nat.le_of_ble_eq_true rfl) dL_act_115 ⟨by show _ ≤ 90; omega, by show _ ≤ 300; omega⟩ (fun q_27 H locs hW => ?_)
          refine lv_astore (lv' := [(7, .ref q_27), (6, .int (nI 0)), (5, .int (nI q)), (4, .int (nI z)), (3, .int (nI b)), (0, .ref c0), (1, .ref h0), (2, .int v)]) C.x C.b dL_act_315 hl (by decide) rfl (fun ls hl => ?_)
          refine lv_iload C.x C.b dL_act_317 (lv_at hl 1 rfl) ?_
          refine x_if_ne C (by omega) (tgt := 326) dL_act_319 (by decide) (fun c_28 => ?_) (fun c_28 => ?_)
          · exact absurd c_28 (by decide)
          · refine lv_iconst (v := nI 1) C.x C.b dL_act_322 (by decide) ?_
            refine lv_goto (tgt := 327) C.x C.b dL_act_323 (by decide) ?_
            refine W.widen (k := 90) (n := 300) (by omega) (by omega) ?_
            have hW : WD E _ s (AW E h0 k2 k3 c0 a1 a2 a3 a4 a5 qs qa qb qc qd k1 k4 pl tu fr nf g sp n w aw ra rv pt ft ti bt th) H _ := hW.to (rfl)
            exact x_iretG C hW (by first | rfl | exact z_narb _) ⟨rfl, k1, k4, pl, tu, fr, nf, g, sp, n, w, aw, ra, rv, pt, ft, ti, bt, th, hI, (by omega), (by omega), rfl⟩ rfl rfl dL_act_327
        · exact absurd (by decide) c_26
      · refine lv_iconst (v := nI 1) C.x C.b dL_act_88 (by decide) ?_
        refine lv_goto (tgt := 93) C.x C.b dL_act_89 (by decide) ?_
        refine lv_istore (lv' := [(6, .int (nI 1)), (5, .int (nI q)), (4, .int (nI z)), (3, .int (nI b)), (0, .ref c0), (1, .ref h0), (2, .int v)]) C.x C.b dL_act_93 hl (by decide) rfl (fun ls hl => ?_)
        refine lv_aload_n C.x C.b dL_act_95 rfl (lv_at hl 5 rfl) ?_
        refine lv_dup C.x C.b dL_act_96 rfl ?_
        refine x_get C hW 0 4 4 (Cn := RX5) (T := TX5) (N := 9) rfl rfl (by decide) hinX5 hf15 rfl dL_act_97 ?_
        refine lv_iload C.x C.b dL_act_100 (lv_at hl 0 rfl) ?_
        refine x_if_eq C (by omega) (tgt := 109) dL_act_102 (by decide) (fun c_29 => ?_) (fun c_29 => ?_)
        · exact absurd c_29 (by decide)
        · refine lv_iconst (v := nI 1) C.x C.b dL_act_105 (by decide) ?_
          refine lv_goto (tgt := 110) C.x C.b dL_act_106 (by decide) ?_
          refine x_iadd C dL_act_110 ?_
          refine x_put C hW 0 4 4 (Cn := RX5) (T := TX5) (N := 9) (w' := (([(h0, .inr (4, [.ref k1, .ref k2, .ref k3, .int (nI sp), .int (nI (pl + 1)), .int (nI tu), .int (nI fr), .int (nI nf), .ref k4])), (k1, bI E 9 (mB g)), (k2, aI E 9 w), (k3, aI E 5 aw), (k4, qI E n (fun k => some (ra k)))] ++ CW E c0 a1 a2 a3 a4 a5 qs qa qb qc qd pl tu fr nf g sp w aw pt ft ti bt th) ++ plR E n ra rv)) tyX5 tyX5_ok nmX5 rfl rfl (by decide) hinX5 hf15 rfl (by decide +kernel) (Nat.le_of_ble_eq_true rfl) dL_act_111 rfl (fun H locs hW => ?_)
          refine lv_aload_n C.x C.b dL_act_114 rfl (lv_at hl 4 rfl) ?_
          refine x_wVI C hW (As := []) (rest := []) (wr := [(h0, .inr (4, [.ref k1, .ref k2, .ref k3, .int (nI sp), .int (nI (pl + 1)), .int (nI tu), .int (nI fr), .int (nI nf), .ref k4])), (k1, bI E 9 (mB g)), (k2, aI E 9 w), (k3, aI E 5 aw), (k4, qI E n (fun k => some (ra k))), (a1, .inr (0, [.ref a2, .int (nI g), .int (nI sp)])), (a2, aI E 9 w), (a3, .inr (1, [.ref a4])), (a4, aI E 5 aw), (qs 1, .inr (2, [.ref (qa 1), .ref (qb 1), .ref (qc 1), .ref (qd 1), .int (nI (th 1))])), (qa 1, aI E 30 (pt 1)), (qb 1, aI E 10 (ft 1)), (qc 1, aI E 10 (ti 1)), (qd 1, aI E 10 (bt 1)), (qs 2, .inr (2, [.ref (qa 2), .ref (qb 2), .ref (qc 2), .ref (qd 2), .int (nI (th 2))])), (qa 2, aI E 30 (pt 2)), (qb 2, aI E 10 (ft 2)), (qc 2, aI E 10 (ti 2)), (qd 2, aI E 10 (bt 2)), (qs 3, .inr (2, [.ref (qa 3), .ref (qb 3), .ref (qc 3), .ref (qd 3), .int (nI (th 3))])), (qa 3, aI E 30 (pt 3)), (qb 3, aI E 10 (ft 3)), (qc 3, aI E 10 (ti 3)), (qd 3, aI E 10 (bt 3))]) (wn := ([(h0, .inr (4, [.ref k1, .ref k2, .ref k3, .int (nI sp), .int (nI (pl + 1)), .int (nI tu), .int (nI fr), .int (nI nf), .ref k4])), (k1, bI E 9 (mB g)), (k2, aI E 9 w), (k3, aI E 5 aw), (k4, qI E n (fun k => some (ra k)))] ++ CW E c0 a1 a2 a3 a4 a5 qs qa qb qc qd (pl + 1) tu fr nf g sp w aw pt ft ti bt th)) (Cn := RX4) (met_X4_addPlayer_ok l E c0 a1 a3 a5 pl tu fr nf qs qa qb qc qd pt ft ti bt th (by omega) (hI.nz.mp (by omega))) gL_act_X4_addPlayer rfl 0 rfl ⟨rfl, rfl⟩ ⟨rfl, by decide +kernel, by decide +kernel, by decide +kernel⟩ ⟨Nat.le_of_ble_eq_true rfl, Nat.le_of_ble_eq_true rfl⟩ [5, 10, 11, 12, 13, 14, 15] [0, 1, 2, 3, 4, 6, 7, 8, 9, 16, 17, 18, 19, 20, 21, 22, 23, 24, 25, 26, 27, 28, 29, 30] [0, 1, 2, 3, 4, 24, 5, 6, 7, 8, 25, 26, 27, 28, 29, 30, 9, 10, 11, 12, 13, 14, 15, 16, 17, 18, 19, 20, 21, 22, 23] rfl (by decide) rfl (by decide) (by decide) rfl (by decide) 5 3 rfl rfl hl.1 rfl (Nat.le_of_ble_eq_true rfl) dL_act_115 ⟨by show _ ≤ 90; omega, by show _ ≤ 300; omega⟩ (fun H locs hW => ?_)
          have hW : WD E _ s (([(h0, .inr (4, [.ref k1, .ref k2, .ref k3, .int (nI sp), .int (nI (pl + 1)), .int (nI tu), .int (nI fr), .int (nI nf), .ref k4])), (k1, bI E 9 (mB g)), (k2, aI E 9 w), (k3, aI E 5 aw), (k4, qI E n (fun k => some (ra k)))] ++ CW E c0 a1 a2 a3 a4 a5 qs qa qb qc qd (pl + 1) tu fr nf g sp w aw pt ft ti bt th) ++ plR E n ra rv) H _ := hW
          refine lv_aload_n C.x C.b dL_act_118 rfl (lv_at hl 5 rfl) ?_
          refine x_get C hW 0 4 4 (Cn := RX5) (T := TX5) (N := 9) rfl rfl (by decide) hinX5 hf15 rfl dL_act_119 ?_
          refine lv_iconst (v := nI 1) C.x C.b dL_act_122 (by decide) ?_
          refine x_isub C (by omega) dL_act_123 ?_
          refine x_icmp_ne C (by omega) (by omega) (tgt := 136) dL_act_124 (by decide) (fun c_30 => ?_) (fun c_30 => ?_)
          · exact absurd (by omega) c_30
          · refine lv_iload C.x C.b dL_act_127 (lv_at hl 0 rfl) ?_
            refine x_if_eq C (by omega) (tgt := 136) dL_act_129 (by decide) (fun c_31 => ?_) (fun c_31 => ?_)
            · exact absurd c_31 (by decide)
            · refine lv_iconst (v := nI 1) C.x C.b dL_act_132 (by decide) ?_
              refine lv_goto (tgt := 137) C.x C.b dL_act_133 (by decide) ?_
              refine W.widen (k := 90) (n := 300) (by omega) (by omega) ?_
              have hW : WD E _ s (AW E h0 k2 k3 c0 a1 a2 a3 a4 a5 qs qa qb qc qd k1 k4 (pl + 1) tu fr nf g sp n w aw ra rv pt ft ti bt th) H _ := hW.to (rfl)
              exact x_iretG C hW (by first | rfl | exact z_narb _) ⟨rfl, k1, k4, (pl + 1), tu, fr, nf, g, sp, n, w, aw, ra, rv, pt, ft, ti, bt, th, (hI.add' (by omega) (by omega)), (by omega), (by omega), rfl⟩ rfl rfl dL_act_137
  · refine lv_tableIn C.x C.b (off := 102) (tgt := 138) dL_act_36 (by decide +kernel) (by decide +kernel) (by decide +kernel) (by decide) ?_
    exact jn_13  _ _ _ (hW.to rfl) (lv_to (lv_sub (l' := [(6, .int (nI 1)), (5, .int (nI q)), (4, .int (nI z)), (3, .int (nI b)), (0, .ref c0), (1, .ref h0), (2, .int v)]) hl [0, 1, 2, 3, 4, 5, 6] rfl) rfl)
  · refine lv_tableIn C.x C.b (off := 102) (tgt := 138) dL_act_36 (by decide +kernel) (by decide +kernel) (by decide +kernel) (by decide) ?_
    exact jn_13  _ _ _ (hW.to rfl) (lv_to (lv_sub (l' := [(6, .int (nI 1)), (5, .int (nI q)), (4, .int (nI z)), (3, .int (nI b)), (0, .ref c0), (1, .ref h0), (2, .int v)]) hl [0, 1, 2, 3, 4, 5, 6] rfl) rfl)
  · refine lv_tableIn C.x C.b (off := 163) (tgt := 199) dL_act_36 (by decide +kernel) (by decide +kernel) (by decide +kernel) (by decide) ?_
    refine lv_iconst (v := nI 1) C.x C.b dL_act_199 (by decide) ?_
    refine lv_iload_n C.x C.b dL_act_200 rfl (lv_at hl 6 rfl) ?_
    refine lv_iconst (v := nI 4) C.x C.b dL_act_201 (by decide) ?_
    refine lv_ishr C.x C.b dL_act_202 ?_
    refine lv_bipush (v := nI 20) C.x C.b dL_act_203 (by decide) ?_
    refine x_rSI C hW (As := [.int (v >>> ((nI 4) &&& 31)), .int (nI 20)]) (rest := [.int (nI 1)]) (met_L_below l E (v >>> ((nI 4) &&& 31)) 20 (by omega) (by omega)) gL_act_L_below rfl 2 rfl ⟨rfl, rfl⟩ ⟨by decide +kernel, by decide +kernel, by decide +kernel⟩ ⟨Nat.le_of_ble_eq_true rfl, Nat.le_of_ble_eq_true rfl⟩ [] rfl (by decide) hl.1 rfl (Nat.le_of_ble_eq_true rfl) dL_act_205 ⟨by show _ ≤ 90; omega, by show _ ≤ 300; omega⟩ (fun H locs hW => ?_)
    refine x_iadd C dL_act_208 ?_
    obtain ⟨y, hye⟩ : ∃ y, 1 + (bwN (v >>> ((nI 4) &&& 31)) 20) = y := ⟨_, rfl⟩
    have hy1 : 1 ≤ y := by omega
    have hy2 : y ≤ 20 := by have := bwN_lt (v >>> (nI 4 &&& 31)) (k := 20) (by decide); omega
    refine x_toi (y := nI y) (congrArg nI hye) ?_
    refine lv_istore (lv' := [(7, .int (nI y)), (6, .int (nI 1)), (5, .int (nI q)), (4, .int (nI z)), (3, .int (nI b)), (0, .ref c0), (1, .ref h0), (2, .int v)]) C.x C.b dL_act_209 hl (by decide) rfl (fun ls hl => ?_)
    refine lv_aload_n C.x C.b dL_act_211 rfl (lv_at hl 6 rfl) ?_
    refine lv_dup C.x C.b dL_act_212 rfl ?_
    refine x_get C hW 0 4 3 (Cn := RX5) (T := TX5) (N := 9) rfl rfl (by decide) hinX5 hf31 rfl dL_act_213 ?_
    refine lv_iload C.x C.b dL_act_216 (lv_at hl 0 rfl) ?_
    refine x_iadd C dL_act_218 ?_
    refine x_put C hW 0 4 3 (Cn := RX5) (T := TX5) (N := 9) (w' := (([(h0, .inr (4, [.ref k1, .ref k2, .ref k3, .int (nI (sp + y)), .int (nI pl), .int (nI tu), .int (nI fr), .int (nI nf), .ref k4])), (k1, bI E 9 (mB g)), (k2, aI E 9 w), (k3, aI E 5 aw), (k4, qI E n (fun k => some (ra k)))] ++ CW E c0 a1 a2 a3 a4 a5 qs qa qb qc qd pl tu fr nf g sp w aw pt ft ti bt th) ++ plR E n ra rv)) tyX5 tyX5_ok nmX5 rfl rfl (by decide) hinX5 hf31 rfl (by decide +kernel) (Nat.le_of_ble_eq_true rfl) dL_act_219 rfl (fun H locs hW => ?_)
    refine lv_aload_n C.x C.b dL_act_222 rfl (lv_at hl 5 rfl) ?_
    refine lv_iload C.x C.b dL_act_223 (lv_at hl 0 rfl) ?_
    refine x_wVI C hW (As := [.int (nI y)]) (rest := []) (wr := [(h0, .inr (4, [.ref k1, .ref k2, .ref k3, .int (nI (sp + y)), .int (nI pl), .int (nI tu), .int (nI fr), .int (nI nf), .ref k4])), (k1, bI E 9 (mB g)), (k2, aI E 9 w), (k3, aI E 5 aw), (k4, qI E n (fun k => some (ra k))), (a3, .inr (1, [.ref a4])), (a4, aI E 5 aw), (a5, .inl (E.2.2.2.1, 4, .inr (.inr (.inr (.inr (fun k => some (qs k))))))), (qs 0, .inr (2, [.ref (qa 0), .ref (qb 0), .ref (qc 0), .ref (qd 0), .int (nI (th 0))])), (qa 0, aI E 30 (pt 0)), (qb 0, aI E 10 (ft 0)), (qc 0, aI E 10 (ti 0)), (qd 0, aI E 10 (bt 0)), (qs 1, .inr (2, [.ref (qa 1), .ref (qb 1), .ref (qc 1), .ref (qd 1), .int (nI (th 1))])), (qa 1, aI E 30 (pt 1)), (qb 1, aI E 10 (ft 1)), (qc 1, aI E 10 (ti 1)), (qd 1, aI E 10 (bt 1)), (qs 2, .inr (2, [.ref (qa 2), .ref (qb 2), .ref (qc 2), .ref (qd 2), .int (nI (th 2))])), (qa 2, aI E 30 (pt 2)), (qb 2, aI E 10 (ft 2)), (qc 2, aI E 10 (ti 2)), (qd 2, aI E 10 (bt 2)), (qs 3, .inr (2, [.ref (qa 3), .ref (qb 3), .ref (qc 3), .ref (qd 3), .int (nI (th 3))])), (qa 3, aI E 30 (pt 3)), (qb 3, aI E 10 (ft 3)), (qc 3, aI E 10 (ti 3)), (qd 3, aI E 10 (bt 3))]) (wn := ([(h0, .inr (4, [.ref k1, .ref k2, .ref k3, .int (nI (sp + y)), .int (nI pl), .int (nI tu), .int (nI fr), .int (nI nf), .ref k4])), (k1, bI E 9 (mB g)), (k2, aI E 9 w), (k3, aI E 5 aw), (k4, qI E n (fun k => some (ra k)))] ++ CW E c0 a1 a2 a3 a4 a5 qs qa qb qc qd pl tu fr nf g (sp + y) w aw pt ft ti bt th)) (Cn := RX4) (met_X4_buyStrings_ok l E c0 a1 a3 a5 pl tu fr nf a2 g sp w y (by omega) (by omega)) gL_act_X4_buyStrings rfl 1 rfl ⟨rfl, rfl⟩ ⟨rfl, by decide +kernel, by decide +kernel, by decide +kernel⟩ ⟨Nat.le_of_ble_eq_true rfl, Nat.le_of_ble_eq_true rfl⟩ [5, 6, 7] [0, 1, 2, 3, 4, 8, 9, 10, 11, 12, 13, 14, 15, 16, 17, 18, 19, 20, 21, 22, 23, 24, 25, 26, 27, 28, 29, 30] [0, 1, 2, 3, 4, 28, 29, 30, 5, 6, 7, 8, 9, 10, 11, 12, 13, 14, 15, 16, 17, 18, 19, 20, 21, 22, 23, 24, 25, 26, 27] rfl (by decide) rfl (by decide) (by decide) rfl (by decide) 5 3 rfl rfl hl.1 rfl (Nat.le_of_ble_eq_true rfl) dL_act_225 ⟨by show _ ≤ 90; omega, by show _ ≤ 300; omega⟩ (fun H locs hW => ?_)
    have hW : WD E _ s (([(h0, .inr (4, [.ref k1, .ref k2, .ref k3, .int (nI (sp + y)), .int (nI pl), .int (nI tu), .int (nI fr), .int (nI nf), .ref k4])), (k1, bI E 9 (mB g)), (k2, aI E 9 w), (k3, aI E 5 aw), (k4, qI E n (fun k => some (ra k)))] ++ CW E c0 a1 a2 a3 a4 a5 qs qa qb qc qd pl tu fr nf g (sp + y) w aw pt ft ti bt th) ++ plR E n ra rv) H _ := hW
    refine lv_aload_n C.x C.b dL_act_228 rfl (lv_at hl 6 rfl) ?_
    refine x_get C hW 0 4 3 (Cn := RX5) (T := TX5) (N := 9) rfl rfl (by decide) hinX5 hf31 rfl dL_act_229 ?_
    refine x_icmp_ne C (by omega) (by omega) (tgt := 239) dL_act_232 (by decide) (fun c_32 => ?_) (fun c_32 => ?_)
    · exact absurd rfl c_32
    · refine lv_iconst (v := nI 1) C.x C.b dL_act_235 (by decide) ?_
      refine lv_goto (tgt := 240) C.x C.b dL_act_236 (by decide) ?_
      refine W.widen (k := 90) (n := 300) (by omega) (by omega) ?_
      have hW : WD E _ s (AW E h0 k2 k3 c0 a1 a2 a3 a4 a5 qs qa qb qc qd k1 k4 pl tu fr nf g (sp + y) n w aw ra rv pt ft ti bt th) H _ := hW.to (rfl)
      exact x_iretG C hW (by first | rfl | exact z_narb _) ⟨rfl, k1, k4, pl, tu, fr, nf, g, (sp + y), n, w, aw, ra, rv, pt, ft, ti, bt, th, hI, (by omega), (by omega), rfl⟩ rfl rfl dL_act_240
  · refine lv_tableIn C.x C.b (off := 205) (tgt := 241) dL_act_36 (by decide +kernel) (by decide +kernel) (by decide +kernel) (by decide) ?_
    refine lv_iload_n C.x C.b dL_act_241 rfl (lv_at hl 6 rfl) ?_
    refine lv_bipush (v := nI 6) C.x C.b dL_act_242 (by decide) ?_
    refine lv_ishr C.x C.b dL_act_244 ?_
    refine lv_iconst (v := nI 4) C.x C.b dL_act_245 (by decide) ?_
    refine x_rSI C hW (As := [.int (v >>> ((nI 6) &&& 31)), .int (nI 4)]) (rest := []) (met_L_below l E (v >>> ((nI 6) &&& 31)) 4 (by omega) (by omega)) gL_act_L_below rfl 2 rfl ⟨rfl, rfl⟩ ⟨by decide +kernel, by decide +kernel, by decide +kernel⟩ ⟨Nat.le_of_ble_eq_true rfl, Nat.le_of_ble_eq_true rfl⟩ [] rfl (by decide) hl.1 rfl (Nat.le_of_ble_eq_true rfl) dL_act_246 ⟨by show _ ≤ 90; omega, by show _ ≤ 300; omega⟩ (fun H locs hW => ?_)
    refine x_if_le C (Nat.lt_trans (bwN_lt _ (by decide)) (by decide)) (tgt := 254) dL_act_249 (by decide) (fun c_33 => ?_) (fun c_33 => ?_)
    · refine lv_aload_n C.x C.b dL_act_254 rfl (lv_at hl 4 rfl) ?_
      refine x_wVI C hW (As := []) (rest := []) (wr := [(h0, .inr (4, [.ref k1, .ref k2, .ref k3, .int (nI sp), .int (nI pl), .int (nI tu), .int (nI fr), .int (nI nf), .ref k4])), (k1, bI E 9 (mB g)), (k2, aI E 9 w), (k3, aI E 5 aw), (k4, qI E n (fun k => some (ra k)))]) (wn := [(h0, .inr (4, [.ref k1, .ref k2, .ref k3, .int (nI sp), .int (nI pl), .int (nI tu), .int (nI fr), .int (nI nf), .ref k4])), (k1, bI E 9 (mB g)), (k2, aI E 9 w), (k3, aI E 5 aw), (k4, qI E n (fun k => some (ra k))), (c0, .inr (3, [.ref a1, .ref a3, .ref a5, .int (nI pl), .int (nI 0), .int (nI 0), .int (nI 0)])), (a1, .inr (0, [.ref a2, .int (nI (suN w 9)), .int (nI sp)])), (a2, aI E 9 w), (a3, .inr (1, [.ref a4])), (a4, aI E 5 (zeW aw 5)), (a5, .inl (E.2.2.2.1, 4, .inr (.inr (.inr (.inr (fun k => some (qs k))))))), (qs 0, .inr (2, [.ref (qa 0), .ref (qb 0), .ref (qc 0), .ref (qd 0), .int (nI 0)])), (qa 0, aI E 30 (pt 0)), (qb 0, aI E 10 (zeW (ft 0) 10)), (qc 0, aI E 10 (zeW (ti 0) 10)), (qd 0, aI E 10 (zeW (bt 0) 10)), (qs 1, .inr (2, [.ref (qa 1), .ref (qb 1), .ref (qc 1), .ref (qd 1), .int (nI 0)])), (qa 1, aI E 30 (pt 1)), (qb 1, aI E 10 (zeW (ft 1) 10)), (qc 1, aI E 10 (zeW (ti 1) 10)), (qd 1, aI E 10 (zeW (bt 1) 10)), (qs 2, .inr (2, [.ref (qa 2), .ref (qb 2), .ref (qc 2), .ref (qd 2), .int (nI 0)])), (qa 2, aI E 30 (pt 2)), (qb 2, aI E 10 (zeW (ft 2) 10)), (qc 2, aI E 10 (zeW (ti 2) 10)), (qd 2, aI E 10 (zeW (bt 2) 10)), (qs 3, .inr (2, [.ref (qa 3), .ref (qb 3), .ref (qc 3), .ref (qd 3), .int (nI 0)])), (qa 3, aI E 30 (pt 3)), (qb 3, aI E 10 (zeW (ft 3) 10)), (qc 3, aI E 10 (zeW (ti 3) 10)), (qd 3, aI E 10 (zeW (bt 3) 10))]) (Cn := RX4) (met_X4_newGame l E c0 a1 a3 a5 pl tu fr nf a2 g sp w a4 aw qs qa qb qc qd pt ft ti bt th hpl hpt hw hth hft hti hbt) gL_act_X4_newGame rfl 0 rfl ⟨rfl, rfl⟩ ⟨rfl, by decide +kernel, by decide +kernel, by decide +kernel⟩ ⟨Nat.le_of_ble_eq_true rfl, Nat.le_of_ble_eq_true rfl⟩ [5, 6, 7, 8, 9, 10, 11, 12, 13, 14, 15, 16, 17, 18, 19, 20, 21, 22, 23, 24, 25, 26, 27, 28, 29, 30] [0, 1, 2, 3, 4] [0, 1, 2, 3, 4, 5, 6, 7, 8, 9, 10, 11, 12, 13, 14, 15, 16, 17, 18, 19, 20, 21, 22, 23, 24, 25, 26, 27, 28, 29, 30] rfl (by decide) rfl (by decide) (by decide) rfl (by decide) 5 3 rfl rfl hl.1 rfl (Nat.le_of_ble_eq_true rfl) dL_act_255 ⟨by show _ ≤ 90; omega, by show _ ≤ 300; omega⟩ (fun H locs hW => ?_)
      have hW : WD E _ s ([(h0, .inr (4, [.ref k1, .ref k2, .ref k3, .int (nI sp), .int (nI pl), .int (nI tu), .int (nI fr), .int (nI nf), .ref k4])), (k1, bI E 9 (mB g)), (k2, aI E 9 w), (k3, aI E 5 aw), (k4, qI E n (fun k => some (ra k))), (c0, .inr (3, [.ref a1, .ref a3, .ref a5, .int (nI pl), .int (nI 0), .int (nI 0), .int (nI 0)])), (a1, .inr (0, [.ref a2, .int (nI (suN w 9)), .int (nI sp)])), (a2, aI E 9 w), (a3, .inr (1, [.ref a4])), (a4, aI E 5 (zeW aw 5)), (a5, .inl (E.2.2.2.1, 4, .inr (.inr (.inr (.inr (fun k => some (qs k))))))), (qs 0, .inr (2, [.ref (qa 0), .ref (qb 0), .ref (qc 0), .ref (qd 0), .int (nI 0)])), (qa 0, aI E 30 (pt 0)), (qb 0, aI E 10 (zeW (ft 0) 10)), (qc 0, aI E 10 (zeW (ti 0) 10)), (qd 0, aI E 10 (zeW (bt 0) 10)), (qs 1, .inr (2, [.ref (qa 1), .ref (qb 1), .ref (qc 1), .ref (qd 1), .int (nI 0)])), (qa 1, aI E 30 (pt 1)), (qb 1, aI E 10 (zeW (ft 1) 10)), (qc 1, aI E 10 (zeW (ti 1) 10)), (qd 1, aI E 10 (zeW (bt 1) 10)), (qs 2, .inr (2, [.ref (qa 2), .ref (qb 2), .ref (qc 2), .ref (qd 2), .int (nI 0)])), (qa 2, aI E 30 (pt 2)), (qb 2, aI E 10 (zeW (ft 2) 10)), (qc 2, aI E 10 (zeW (ti 2) 10)), (qd 2, aI E 10 (zeW (bt 2) 10)), (qs 3, .inr (2, [.ref (qa 3), .ref (qb 3), .ref (qc 3), .ref (qd 3), .int (nI 0)])), (qa 3, aI E 30 (pt 3)), (qb 3, aI E 10 (zeW (ft 3) 10)), (qc 3, aI E 10 (zeW (ti 3) 10)), (qd 3, aI E 10 (zeW (bt 3) 10))] ++ plR E n ra rv) H _ := hW
      have hW : WD E _ s (([(h0, .inr (4, [.ref k1, .ref k2, .ref k3, .int (nI sp), .int (nI pl), .int (nI tu), .int (nI fr), .int (nI nf), .ref k4])), (k1, bI E 9 (mB g)), (k2, aI E 9 w), (k3, aI E 5 aw), (k4, qI E n (fun k => some (ra k)))] ++ CW E c0 a1 a2 a3 a4 a5 qs qa qb qc qd pl 0 0 0 (suN w 9) sp w (zeW aw 5) pt ((fun k => zeW (ft k) 10)) ((fun k => zeW (ti k) 10)) ((fun k => zeW (bt k) 10)) ((fun _ => 0))) ++ plR E n ra rv) H _ := hW
      refine lv_aload_n C.x C.b dL_act_258 rfl (lv_at hl 5 rfl) ?_
      refine x_gVG C hW (As := []) (rest := [.int (pinV (fiB (scC pt ft ti bt th) pl))]) (cx := [(h0, .inr (4, [.ref k1, .ref k2, .ref k3, .int (nI sp), .int (nI pl), .int (nI tu), .int (nI fr), .int (nI nf), .ref k4])), (k1, bI E 9 (mB g)), (k2, aI E 9 w), (k3, aI E 5 aw), (k4, qI E n (fun k => some (ra k)))]) (wr := (CW E c0 a1 a2 a3 a4 a5 qs qa qb qc qd pl 0 0 0 (suN w 9) sp w (zeW aw 5) pt ((fun k => zeW (ft k) 10)) ((fun k => zeW (ti k) 10)) ((fun k => zeW (bt k) 10)) ((fun _ => 0)))) (Cn := RX5) (met_X5_newGame l E h0 k1 k2 k3 k4 sp pl tu fr nf g w aw n ra rv hnn hrv hp1 hpl hw hg) gL_act_X5_newGame rfl 0 rfl ⟨rfl, rfl⟩ ⟨rfl, by decide +kernel, by decide +kernel, by decide +kernel⟩ ⟨Nat.le_of_ble_eq_true rfl, Nat.le_of_ble_eq_true rfl⟩ [0, 1, 2, 3, 4] [5, 6, 7, 8, 9, 10, 11, 12, 13, 14, 15, 16, 17, 18, 19, 20, 21, 22, 23, 24, 25, 26, 27, 28, 29, 30] rfl (by decide) rfl (by decide) (by decide) 0 4 rfl rfl hl.1 rfl (Nat.le_of_ble_eq_true rfl) dL_act_259 ⟨by show _ ≤ 90; omega, by show _ ≤ 300; omega⟩ (fun r_35 w_36 H locs hp_37 hW => ?_)
      obtain ⟨rfl, q_34, rfl⟩ := hp_37
      have hW : WD E _ s ([(c0, .inr (3, [.ref a1, .ref a3, .ref a5, .int (nI pl), .int (nI 0), .int (nI 0), .int (nI 0)])), (a1, .inr (0, [.ref a2, .int (nI (suN w 9)), .int (nI sp)])), (a2, aI E 9 w), (a3, .inr (1, [.ref a4])), (a4, aI E 5 (zeW aw 5)), (a5, .inl (E.2.2.2.1, 4, .inr (.inr (.inr (.inr (fun k => some (qs k))))))), (qs 0, .inr (2, [.ref (qa 0), .ref (qb 0), .ref (qc 0), .ref (qd 0), .int (nI ((fun _ => 0) 0))])), (qa 0, aI E 30 (pt 0)), (qb 0, aI E 10 ((fun k => zeW (ft k) 10) 0)), (qc 0, aI E 10 ((fun k => zeW (ti k) 10) 0)), (qd 0, aI E 10 ((fun k => zeW (bt k) 10) 0)), (qs 1, .inr (2, [.ref (qa 1), .ref (qb 1), .ref (qc 1), .ref (qd 1), .int (nI ((fun _ => 0) 1))])), (qa 1, aI E 30 (pt 1)), (qb 1, aI E 10 ((fun k => zeW (ft k) 10) 1)), (qc 1, aI E 10 ((fun k => zeW (ti k) 10) 1)), (qd 1, aI E 10 ((fun k => zeW (bt k) 10) 1)), (qs 2, .inr (2, [.ref (qa 2), .ref (qb 2), .ref (qc 2), .ref (qd 2), .int (nI ((fun _ => 0) 2))])), (qa 2, aI E 30 (pt 2)), (qb 2, aI E 10 ((fun k => zeW (ft k) 10) 2)), (qc 2, aI E 10 ((fun k => zeW (ti k) 10) 2)), (qd 2, aI E 10 ((fun k => zeW (bt k) 10) 2)), (qs 3, .inr (2, [.ref (qa 3), .ref (qb 3), .ref (qc 3), .ref (qd 3), .int (nI ((fun _ => 0) 3))])), (qa 3, aI E 30 (pt 3)), (qb 3, aI E 10 ((fun k => zeW (ft k) 10) 3)), (qc 3, aI E 10 ((fun k => zeW (ti k) 10) 3)), (qd 3, aI E 10 ((fun k => zeW (bt k) 10) 3)), (h0, .inr (4, [.ref k1, .ref k2, .ref k3, .int (nI sp), .int (nI pl), .int (nI 0), .int (nI 0), .int (nI 0), .ref q_34])), (k1, bI E 9 (mB (suN w 9))), (k2, aI E 9 w), (k3, aI E 5 (zeW aw 5)), (q_34, qI E 0 (fun k => some (ra k)))] ++ plR E 0 ra rv) H _ := hW
      have hW := WD.part hW (w' := ([(h0, .inr (4, [.ref k1, .ref k2, .ref k3, .int (nI sp), .int (nI pl), .int (nI 0), .int (nI 0), .int (nI 0), .ref q_34])), (k1, bI E 9 (mB (suN w 9))), (k2, aI E 9 w), (k3, aI E 5 (zeW aw 5)), (q_34, qI E 0 (fun k => some (ra k)))] ++ CW E c0 a1 a2 a3 a4 a5 qs qa qb qc qd pl 0 0 0 (suN w 9) sp w (zeW aw 5) pt ((fun k => zeW (ft k) 10)) ((fun k => zeW (ti k) 10)) ((fun k => zeW (bt k) 10)) ((fun _ => 0)))) [26, 27, 28, 29, 30, 0, 1, 2, 3, 4, 5, 6, 7, 8, 9, 10, 11, 12, 13, 14, 15, 16, 17, 18, 19, 20, 21, 22, 23, 24, 25] rfl (by decide)
      refine lv_icmp_ne C.x C.b (tgt := 269) dL_act_262 (by decide) (fun c_38 => ?_) (fun c_38 => ?_)
      · exact absurd (congrArg pinV hI.ld).symm c_38
      · have c_38 : pinV (fiB (scC pt ft ti bt th) pl) = pinV (blB (scL n rv) pl pl) := c_38
        refine lv_iconst (v := nI 1) C.x C.b dL_act_265 (by decide) ?_
        refine lv_goto (tgt := 270) C.x C.b dL_act_266 (by decide) ?_
        refine W.widen (k := 90) (n := 300) (by omega) (by omega) ?_
        have hW : WD E _ s (AW E h0 k2 k3 c0 a1 a2 a3 a4 a5 qs qa qb qc qd k1 q_34 pl 0 0 0 (suN w 9) sp 0 w (zeW aw 5) ra rv pt (fun k => zeW (ft k) 10) (fun k => zeW (ti k) 10) (fun k => zeW (bt k) 10) (fun _ => 0)) H _ := hW.to (rfl)
        exact x_iretG C hW (by first | rfl | exact z_narb _) ⟨rfl, k1, q_34, pl, 0, 0, 0, (suN w 9), sp, 0, w, (zeW aw 5), ra, rv, pt, (fun k => zeW (ft k) 10), (fun k => zeW (ti k) 10), (fun k => zeW (bt k) 10), (fun _ => 0), hI.new, (by omega), (by omega), rfl⟩ rfl rfl dL_act_270
    · refine lv_iconst (v := nI 1) C.x C.b dL_act_252 (by decide) ?_
      refine W.widen (k := 90) (n := 300) (by omega) (by omega) ?_
      have hW : WD E _ s (AW E h0 k2 k3 c0 a1 a2 a3 a4 a5 qs qa qb qc qd k1 k4 pl tu fr nf g sp n w aw ra rv pt ft ti bt th) H _ := hW.to (rfl)
      exact x_iretG C hW (by first | rfl | exact z_narb _) ⟨rfl, k1, k4, pl, tu, fr, nf, g, sp, n, w, aw, ra, rv, pt, ft, ti, bt, th, hI, (by omega), (by omega), rfl⟩ rfl rfl dL_act_253
  · refine lv_tableOut C.x C.b (tgt := 271) dL_act_36 (Or.inr (by decide +kernel)) (by decide) ?_
    exact jn_1  _ _ _ (hW.to rfl) (lv_to (lv_sub (l' := [(6, .int (nI 1)), (5, .int (nI q)), (4, .int (nI z)), (3, .int (nI b)), (0, .ref c0), (1, .ref h0), (2, .int v)]) hl [0, 1, 2, 3, 4, 5, 6] rfl) rfl)
  · refine lv_tableOut C.x C.b (tgt := 271) dL_act_36 (Or.inr (by decide +kernel)) (by decide) ?_
    exact jn_1  _ _ _ (hW.to rfl) (lv_to (lv_sub (l' := [(6, .int (nI 1)), (5, .int (nI q)), (4, .int (nI z)), (3, .int (nI b)), (0, .ref c0), (1, .ref h0), (2, .int v)]) hl [0, 1, 2, 3, 4, 5, 6] rfl) rfl)
  · refine lv_tableOut C.x C.b (tgt := 271) dL_act_36 (Or.inr (by decide +kernel)) (by decide) ?_
    exact jn_1  _ _ _ (hW.to rfl) (lv_to (lv_sub (l' := [(6, .int (nI 1)), (5, .int (nI q)), (4, .int (nI z)), (3, .int (nI b)), (0, .ref c0), (1, .ref h0), (2, .int v)]) hl [0, 1, 2, 3, 4, 5, 6] rfl) rfl)
  · refine lv_tableOut C.x C.b (tgt := 271) dL_act_36 (Or.inr (by decide +kernel)) (by decide) ?_
    exact jn_1  _ _ _ (hW.to rfl) (lv_to (lv_sub (l' := [(6, .int (nI 1)), (5, .int (nI q)), (4, .int (nI z)), (3, .int (nI b)), (0, .ref c0), (1, .ref h0), (2, .int v)]) hl [0, 1, 2, 3, 4, 5, 6] rfl) rfl)
  · refine lv_tableOut C.x C.b (tgt := 271) dL_act_36 (Or.inr (by decide +kernel)) (by decide) ?_
    exact jn_1  _ _ _ (hW.to rfl) (lv_to (lv_sub (l' := [(6, .int (nI 1)), (5, .int (nI q)), (4, .int (nI z)), (3, .int (nI b)), (0, .ref c0), (1, .ref h0), (2, .int v)]) hl [0, 1, 2, 3, 4, 5, 6] rfl) rfl)
  · refine lv_tableOut C.x C.b (tgt := 271) dL_act_36 (Or.inr (by decide +kernel)) (by decide) ?_
    exact jn_1  _ _ _ (hW.to rfl) (lv_to (lv_sub (l' := [(6, .int (nI 1)), (5, .int (nI q)), (4, .int (nI z)), (3, .int (nI b)), (0, .ref c0), (1, .ref h0), (2, .int v)]) hl [0, 1, 2, 3, 4, 5, 6] rfl) rfl)
  · refine lv_tableOut C.x C.b (tgt := 271) dL_act_36 (Or.inr (by decide +kernel)) (by decide) ?_
    exact jn_1  _ _ _ (hW.to rfl) (lv_to (lv_sub (l' := [(6, .int (nI 1)), (5, .int (nI q)), (4, .int (nI z)), (3, .int (nI b)), (0, .ref c0), (1, .ref h0), (2, .int v)]) hl [0, 1, 2, 3, 4, 5, 6] rfl) rfl)
  · refine lv_tableOut C.x C.b (tgt := 271) dL_act_36 (Or.inr (by decide +kernel)) (by decide) ?_
    exact jn_1  _ _ _ (hW.to rfl) (lv_to (lv_sub (l' := [(6, .int (nI 1)), (5, .int (nI q)), (4, .int (nI z)), (3, .int (nI b)), (0, .ref c0), (1, .ref h0), (2, .int v)]) hl [0, 1, 2, 3, 4, 5, 6] rfl) rfl)
  · refine lv_tableOut C.x C.b (tgt := 271) dL_act_36 (Or.inr (by decide +kernel)) (by decide) ?_
    exact jn_1  _ _ _ (hW.to rfl) (lv_to (lv_sub (l' := [(6, .int (nI 1)), (5, .int (nI q)), (4, .int (nI z)), (3, .int (nI b)), (0, .ref c0), (1, .ref h0), (2, .int v)]) hl [0, 1, 2, 3, 4, 5, 6] rfl) rfl)
  · refine lv_tableOut C.x C.b (tgt := 271) dL_act_36 (Or.inr (by decide +kernel)) (by decide) ?_
    exact jn_1  _ _ _ (hW.to rfl) (lv_to (lv_sub (l' := [(6, .int (nI 1)), (5, .int (nI q)), (4, .int (nI z)), (3, .int (nI b)), (0, .ref c0), (1, .ref h0), (2, .int v)]) hl [0, 1, 2, 3, 4, 5, 6] rfl) rfl)
  · refine lv_tableOut C.x C.b (tgt := 271) dL_act_36 (Or.inr (by decide +kernel)) (by decide) ?_
    exact jn_1  _ _ _ (hW.to rfl) (lv_to (lv_sub (l' := [(6, .int (nI 1)), (5, .int (nI q)), (4, .int (nI z)), (3, .int (nI b)), (0, .ref c0), (1, .ref h0), (2, .int v)]) hl [0, 1, 2, 3, 4, 5, 6] rfl) rfl)
