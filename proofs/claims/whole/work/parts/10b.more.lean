/-! CHECKSUM OF THE REFERENCE; CONSTRUCTORS -/
set_option maxHeartbeats 4000000 in
set_option maxRecDepth 100000 in
theorem met_X5_digest (l : Launch) (E : EV) (h0 k1 k2 k3 k4 k5 k6 k7 k8 : Nat) (x : Int32) (g sp pl tu fr nf : Nat) (w aw my fe be sk cl ex : Nat → Nat) (hpl : pl ≤ 4) (hfr : fr ≤ 10) (htu : tu < 4) (hmy : ∀ j, my j ≤ 30) (hfe : ∀ j, fe j ≤ 9) (hbe : ∀ j, be j ≤ 30) (hex : ∀ j, ex j ≤ 2) (hg : g < 512) (hw : ∀ i, w i ≤ 12) (ha : ∀ i, aw i ≤ 2) (hsk : ∀ j, sk j ≤ 10) (hcl : ∀ j, cl j ≤ 10) (hnf : nf ≤ 3) (hsp : sp ≤ 20000) : MLa l yX5_digest wsX5_digest { frames := 10, cells := 1, slots := 7, locals := 234 } E [.ref h0] [(h0, .inr (4, [.int x, .int (nI g), .ref k1, .ref k2, .int (nI sp), .int (nI pl), .int (nI tu), .int (nI fr), .int (nI nf), .ref k3, .ref k4, .ref k5, .ref k6, .ref k7, .ref k8])), (k1, aI E 9 w), (k2, aI E 5 aw), (k3, aI E 4 my), (k4, aI E 120 fe), (k5, aI E 44 be), (k6, aI E 4 sk), (k7, aI E 4 cl), (k8, aI E 40 ex)] 1 7 (dgN (dgR (dgB (dgH pl fr nf sp (tnI pl fr tu) (beS g aw 5).1 (tcF g)) g w 9) aw 5) my (scT my fe be ex tu fr) sk cl (poM my fe be ex tu fr) pl) [(h0, .inr (4, [.int (nI 0), .int (nI g), .ref k1, .ref k2, .int (nI sp), .int (nI pl), .int (nI tu), .int (nI fr), .int (nI nf), .ref k3, .ref k4, .ref k5, .ref k6, .ref k7, .ref k8])), (k1, aI E 9 w), (k2, aI E 5 aw), (k3, aI E 4 my), (k4, aI E 120 fe), (k5, aI E 44 be), (k6, aI E 4 sk), (k7, aI E 4 cl), (k8, aI E 40 ex)] := by
  refine sA (own := RX5) (cc := cX5_digest) (maxL := 8) rfl (by decide) rfl (Nat.le_of_ble_eq_true rfl) ?_
  intro p e s m below meth c C hnm ls hl hW
  have hl : lv_has ls 8 [(0, .ref h0)] := hl
  have hW : WD E _ s [(h0, .inr (4, [.int x, .int (nI g), .ref k1, .ref k2, .int (nI sp), .int (nI pl), .int (nI tu), .int (nI fr), .int (nI nf), .ref k3, .ref k4, .ref k5, .ref k6, .ref k7, .ref k8])), (k1, aI E 9 w), (k2, aI E 5 aw), (k3, aI E 4 my), (k4, aI E 120 fe), (k5, aI E 44 be), (k6, aI E 4 sk), (k7, aI E 4 cl), (k8, aI E 40 ex)] s.heap [] := hW
  have hinX5 : ∀ w ∈ u_ws RX5 TX5 15, w ∈ wsX5_digest := by decide +kernel
  have hf41 : Cond.fieldLink RX5 41 (TX5 0).1 (TX5 0).2.1 (TX5 0).2.2.1 ∈ wsX5_digest := by decide +kernel
  have hf9 : Cond.fieldLink RX5 9 (TX5 1).1 (TX5 1).2.1 (TX5 1).2.2.1 ∈ wsX5_digest := by decide +kernel
  have hf13 : Cond.fieldLink RX5 13 (TX5 2).1 (TX5 2).2.1 (TX5 2).2.2.1 ∈ wsX5_digest := by decide +kernel
  have hf17 : Cond.fieldLink RX5 17 (TX5 3).1 (TX5 3).2.1 (TX5 3).2.2.1 ∈ wsX5_digest := by decide +kernel
  have hf20 : Cond.fieldLink RX5 20 (TX5 4).1 (TX5 4).2.1 (TX5 4).2.2.1 ∈ wsX5_digest := by decide +kernel
  have hf48 : Cond.fieldLink RX5 48 (TX5 5).1 (TX5 5).2.1 (TX5 5).2.2.1 ∈ wsX5_digest := by decide +kernel
  have hf72 : Cond.fieldLink RX5 72 (TX5 7).1 (TX5 7).2.1 (TX5 7).2.2.1 ∈ wsX5_digest := by decide +kernel
  have hf97 : Cond.fieldLink RX5 97 (TX5 8).1 (TX5 8).2.1 (TX5 8).2.2.1 ∈ wsX5_digest := by decide +kernel
  have hf23 : Cond.fieldLink RX5 23 (TX5 9).1 (TX5 9).2.1 (TX5 9).2.2.1 ∈ wsX5_digest := by decide +kernel
  have hf32 : Cond.fieldLink RX5 32 (TX5 12).1 (TX5 12).2.1 (TX5 12).2.2.1 ∈ wsX5_digest := by decide +kernel
  have hf35 : Cond.fieldLink RX5 35 (TX5 13).1 (TX5 13).2.1 (TX5 13).2.2.1 ∈ wsX5_digest := by decide +kernel
  refine lv_aload_n C.x C.b dX5_digest_0 rfl (lv_at hl 0 rfl) ?_
  refine lv_iconst (v := nI 0) C.x C.b dX5_digest_1 (by decide) ?_
  refine x_put C hW 0 4 0 (Cn := RX5) (T := TX5) (N := 15) (w' := [(h0, .inr (4, [.int (nI 0), .int (nI g), .ref k1, .ref k2, .int (nI sp), .int (nI pl), .int (nI tu), .int (nI fr), .int (nI nf), .ref k3, .ref k4, .ref k5, .ref k6, .ref k7, .ref k8])), (k1, aI E 9 w), (k2, aI E 5 aw), (k3, aI E 4 my), (k4, aI E 120 fe), (k5, aI E 44 be), (k6, aI E 4 sk), (k7, aI E 4 cl), (k8, aI E 40 ex)]) tyX5 tyX5_ok nmX5 rfl rfl (by decide) hinX5 hf41 rfl (by decide +kernel) (Nat.le_of_ble_eq_true rfl) dX5_digest_2 rfl (fun H locs hW => ?_)
  refine lv_bipush (v := nI 7) C.x C.b dX5_digest_5 (by decide) ?_
  refine x_newa C hW (N' := 7) (by decide +kernel) rfl (by decide) (Nat.le_of_ble_eq_true rfl) (Nat.le_of_ble_eq_true rfl) dX5_digest_7 (fun na_1 H hW => ?_)
  have hW : WD E _ s [(h0, .inr (4, [.int (nI 0), .int (nI g), .ref k1, .ref k2, .int (nI sp), .int (nI pl), .int (nI tu), .int (nI fr), .int (nI nf), .ref k3, .ref k4, .ref k5, .ref k6, .ref k7, .ref k8])), (k1, aI E 9 w), (k2, aI E 5 aw), (k3, aI E 4 my), (k4, aI E 120 fe), (k5, aI E 44 be), (k6, aI E 4 sk), (k7, aI E 4 cl), (k8, aI E 40 ex), (na_1, .inl (E.2.1, 7, .inl (fun _ => nI 0)))] H _ := hW
  refine lv_dup C.x C.b dX5_digest_9 rfl ?_
  refine lv_iconst (v := nI 0) C.x C.b dX5_digest_10 (by decide) ?_
  refine lv_aload_n C.x C.b dX5_digest_11 rfl (lv_at hl 0 rfl) ?_
  refine x_get C hW 0 4 5 (Cn := RX5) (T := TX5) (N := 15) rfl rfl (by decide) hinX5 hf48 rfl dX5_digest_12 ?_
  refine x_astR C hW 9 0 rfl rfl (by decide) (by decide) dX5_digest_15 (w' := [(h0, .inr (4, [.int (nI 0), .int (nI g), .ref k1, .ref k2, .int (nI sp), .int (nI pl), .int (nI tu), .int (nI fr), .int (nI nf), .ref k3, .ref k4, .ref k5, .ref k6, .ref k7, .ref k8])), (k1, aI E 9 w), (k2, aI E 5 aw), (k3, aI E 4 my), (k4, aI E 120 fe), (k5, aI E 44 be), (k6, aI E 4 sk), (k7, aI E 4 cl), (k8, aI E 40 ex), (na_1, .inl (E.2.1, 7, .inl (upN (fun _ => nI 0) 0 (nI pl))))]) rfl (fun H locs hW => ?_)
  refine lv_dup C.x C.b dX5_digest_16 rfl ?_
  refine lv_iconst (v := nI 1) C.x C.b dX5_digest_17 (by decide) ?_
  refine lv_aload_n C.x C.b dX5_digest_18 rfl (lv_at hl 0 rfl) ?_
  refine x_cVI C hW (As := []) (rest := [.int (nI 1), .ref na_1, .ref na_1]) (wr := [(na_1, .inl (E.2.1, 7, .inl (upN (fun _ => nI 0) 0 (nI pl))))]) (wn := [(h0, .inr (4, [.int (nI 0), .int (nI g), .ref k1, .ref k2, .int (nI sp), .int (nI pl), .int (nI tu), .int (nI fr), .int (nI nf), .ref k3, .ref k4, .ref k5, .ref k6, .ref k7, .ref k8])), (k1, aI E 9 w), (k2, aI E 5 aw), (k3, aI E 4 my), (k4, aI E 120 fe), (k5, aI E 44 be), (k6, aI E 4 sk), (k7, aI E 4 cl), (k8, aI E 40 ex), (na_1, .inl (E.2.1, 7, .inl (upN (fun _ => nI 0) 0 (nI pl))))]) (Cn := RX5) (met_X5_turnNow l E h0 k1 k2 k3 k4 k5 k6 k7 k8 (nI 0) g sp pl tu fr nf w aw my fe be sk cl ex (by omega) (by omega)) gX5_digest_X5_turnNow rfl 0 rfl ⟨rfl, rfl⟩ ⟨rfl, by decide +kernel, by decide +kernel, by decide +kernel⟩ ⟨Nat.le_of_ble_eq_true rfl, Nat.le_of_ble_eq_true rfl⟩ [0, 1, 2, 3, 4, 5, 6, 7, 8] [9] [1, 2, 3, 4, 5, 6, 7, 8, 9, 0] rfl (by decide) rfl (by decide) (by decide) rfl (by decide) 0 4 rfl rfl hl.1 rfl (Nat.le_of_ble_eq_true rfl) dX5_digest_19 ⟨Nat.le_of_ble_eq_true rfl, Nat.le_of_ble_eq_true rfl⟩ (fun H locs hW => ?_)
  refine x_astR C hW 9 1 rfl rfl (by decide) (by decide) dX5_digest_22 (w' := [(h0, .inr (4, [.int (nI 0), .int (nI g), .ref k1, .ref k2, .int (nI sp), .int (nI pl), .int (nI tu), .int (nI fr), .int (nI nf), .ref k3, .ref k4, .ref k5, .ref k6, .ref k7, .ref k8])), (k1, aI E 9 w), (k2, aI E 5 aw), (k3, aI E 4 my), (k4, aI E 120 fe), (k5, aI E 44 be), (k6, aI E 4 sk), (k7, aI E 4 cl), (k8, aI E 40 ex), (na_1, .inl (E.2.1, 7, .inl (upN (upN (fun _ => nI 0) 0 (nI pl)) 1 (tnI pl fr tu))))]) rfl (fun H locs hW => ?_)
  refine lv_dup C.x C.b dX5_digest_23 rfl ?_
  refine lv_iconst (v := nI 2) C.x C.b dX5_digest_24 (by decide) ?_
  refine lv_aload_n C.x C.b dX5_digest_25 rfl (lv_at hl 0 rfl) ?_
  refine x_get C hW 0 4 7 (Cn := RX5) (T := TX5) (N := 15) rfl rfl (by decide) hinX5 hf72 rfl dX5_digest_26 ?_
  refine x_astR C hW 9 2 rfl rfl (by decide) (by decide) dX5_digest_29 (w' := [(h0, .inr (4, [.int (nI 0), .int (nI g), .ref k1, .ref k2, .int (nI sp), .int (nI pl), .int (nI tu), .int (nI fr), .int (nI nf), .ref k3, .ref k4, .ref k5, .ref k6, .ref k7, .ref k8])), (k1, aI E 9 w), (k2, aI E 5 aw), (k3, aI E 4 my), (k4, aI E 120 fe), (k5, aI E 44 be), (k6, aI E 4 sk), (k7, aI E 4 cl), (k8, aI E 40 ex), (na_1, .inl (E.2.1, 7, .inl (upN (upN (upN (fun _ => nI 0) 0 (nI pl)) 1 (tnI pl fr tu)) 2 (nI fr))))]) rfl (fun H locs hW => ?_)
  refine lv_dup C.x C.b dX5_digest_30 rfl ?_
  refine lv_iconst (v := nI 3) C.x C.b dX5_digest_31 (by decide) ?_
  refine lv_aload_n C.x C.b dX5_digest_32 rfl (lv_at hl 0 rfl) ?_
  refine x_get C hW 0 4 8 (Cn := RX5) (T := TX5) (N := 15) rfl rfl (by decide) hinX5 hf97 rfl dX5_digest_33 ?_
  refine x_astR C hW 9 3 rfl rfl (by decide) (by decide) dX5_digest_36 (w' := [(h0, .inr (4, [.int (nI 0), .int (nI g), .ref k1, .ref k2, .int (nI sp), .int (nI pl), .int (nI tu), .int (nI fr), .int (nI nf), .ref k3, .ref k4, .ref k5, .ref k6, .ref k7, .ref k8])), (k1, aI E 9 w), (k2, aI E 5 aw), (k3, aI E 4 my), (k4, aI E 120 fe), (k5, aI E 44 be), (k6, aI E 4 sk), (k7, aI E 4 cl), (k8, aI E 40 ex), (na_1, .inl (E.2.1, 7, .inl (upN (upN (upN (upN (fun _ => nI 0) 0 (nI pl)) 1 (tnI pl fr tu)) 2 (nI fr)) 3 (nI nf))))]) rfl (fun H locs hW => ?_)
  refine lv_dup C.x C.b dX5_digest_37 rfl ?_
  refine lv_iconst (v := nI 4) C.x C.b dX5_digest_38 (by decide) ?_
  refine lv_aload_n C.x C.b dX5_digest_39 rfl (lv_at hl 0 rfl) ?_
  refine x_get C hW 0 4 4 (Cn := RX5) (T := TX5) (N := 15) rfl rfl (by decide) hinX5 hf20 rfl dX5_digest_40 ?_
  refine x_astR C hW 9 4 rfl rfl (by decide) (by decide) dX5_digest_43 (w' := [(h0, .inr (4, [.int (nI 0), .int (nI g), .ref k1, .ref k2, .int (nI sp), .int (nI pl), .int (nI tu), .int (nI fr), .int (nI nf), .ref k3, .ref k4, .ref k5, .ref k6, .ref k7, .ref k8])), (k1, aI E 9 w), (k2, aI E 5 aw), (k3, aI E 4 my), (k4, aI E 120 fe), (k5, aI E 44 be), (k6, aI E 4 sk), (k7, aI E 4 cl), (k8, aI E 40 ex), (na_1, .inl (E.2.1, 7, .inl (upN (upN (upN (upN (upN (fun _ => nI 0) 0 (nI pl)) 1 (tnI pl fr tu)) 2 (nI fr)) 3 (nI nf)) 4 (nI sp))))]) rfl (fun H locs hW => ?_)
  refine lv_dup C.x C.b dX5_digest_44 rfl ?_
  refine lv_iconst (v := nI 5) C.x C.b dX5_digest_45 (by decide) ?_
  refine lv_aload_n C.x C.b dX5_digest_46 rfl (lv_at hl 0 rfl) ?_
  refine x_cVI C hW (As := []) (rest := [.int (nI 5), .ref na_1, .ref na_1]) (wr := [(na_1, .inl (E.2.1, 7, .inl (upN (upN (upN (upN (upN (fun _ => nI 0) 0 (nI pl)) 1 (tnI pl fr tu)) 2 (nI fr)) 3 (nI nf)) 4 (nI sp))))]) (wn := [(h0, .inr (4, [.int (nI 0), .int (nI g), .ref k1, .ref k2, .int (nI sp), .int (nI pl), .int (nI tu), .int (nI fr), .int (nI nf), .ref k3, .ref k4, .ref k5, .ref k6, .ref k7, .ref k8])), (k1, aI E 9 w), (k2, aI E 5 aw), (k3, aI E 4 my), (k4, aI E 120 fe), (k5, aI E 44 be), (k6, aI E 4 sk), (k7, aI E 4 cl), (k8, aI E 40 ex), (na_1, .inl (E.2.1, 7, .inl (upN (upN (upN (upN (upN (fun _ => nI 0) 0 (nI pl)) 1 (tnI pl fr tu)) 2 (nI fr)) 3 (nI nf)) 4 (nI sp))))]) (Cn := RX5) (met_X5_best l E h0 k1 k2 k3 k4 k5 k6 k7 k8 (nI 0) g sp pl tu fr nf w aw my fe be sk cl ex (by omega) ha) gX5_digest_X5_best rfl 0 rfl ⟨rfl, rfl⟩ ⟨rfl, by decide +kernel, by decide +kernel, by decide +kernel⟩ ⟨Nat.le_of_ble_eq_true rfl, Nat.le_of_ble_eq_true rfl⟩ [0, 1, 2, 3, 4, 5, 6, 7, 8] [9] [1, 2, 3, 4, 5, 6, 7, 8, 9, 0] rfl (by decide) rfl (by decide) (by decide) rfl (by decide) 0 4 rfl rfl hl.1 rfl (Nat.le_of_ble_eq_true rfl) dX5_digest_47 ⟨Nat.le_of_ble_eq_true rfl, Nat.le_of_ble_eq_true rfl⟩ (fun H locs hW => ?_)
  refine x_astR C hW 9 5 rfl rfl (by decide) (by decide) dX5_digest_50 (w' := [(h0, .inr (4, [.int (nI 0), .int (nI g), .ref k1, .ref k2, .int (nI sp), .int (nI pl), .int (nI tu), .int (nI fr), .int (nI nf), .ref k3, .ref k4, .ref k5, .ref k6, .ref k7, .ref k8])), (k1, aI E 9 w), (k2, aI E 5 aw), (k3, aI E 4 my), (k4, aI E 120 fe), (k5, aI E 44 be), (k6, aI E 4 sk), (k7, aI E 4 cl), (k8, aI E 40 ex), (na_1, .inl (E.2.1, 7, .inl (upN (upN (upN (upN (upN (upN (fun _ => nI 0) 0 (nI pl)) 1 (tnI pl fr tu)) 2 (nI fr)) 3 (nI nf)) 4 (nI sp)) 5 ((beS g aw 5).1))))]) rfl (fun H locs hW => ?_)
  refine lv_dup C.x C.b dX5_digest_51 rfl ?_
  refine lv_bipush (v := nI 6) C.x C.b dX5_digest_52 (by decide) ?_
  refine lv_aload_n C.x C.b dX5_digest_54 rfl (lv_at hl 0 rfl) ?_
  refine x_cVI C hW (As := []) (rest := [.int (nI 6), .ref na_1, .ref na_1]) (wr := [(na_1, .inl (E.2.1, 7, .inl (upN (upN (upN (upN (upN (upN (fun _ => nI 0) 0 (nI pl)) 1 (tnI pl fr tu)) 2 (nI fr)) 3 (nI nf)) 4 (nI sp)) 5 ((beS g aw 5).1))))]) (wn := [(h0, .inr (4, [.int (nI 0), .int (nI g), .ref k1, .ref k2, .int (nI sp), .int (nI pl), .int (nI tu), .int (nI fr), .int (nI nf), .ref k3, .ref k4, .ref k5, .ref k6, .ref k7, .ref k8])), (k1, aI E 9 w), (k2, aI E 5 aw), (k3, aI E 4 my), (k4, aI E 120 fe), (k5, aI E 44 be), (k6, aI E 4 sk), (k7, aI E 4 cl), (k8, aI E 40 ex), (na_1, .inl (E.2.1, 7, .inl (upN (upN (upN (upN (upN (upN (fun _ => nI 0) 0 (nI pl)) 1 (tnI pl fr tu)) 2 (nI fr)) 3 (nI nf)) 4 (nI sp)) 5 ((beS g aw 5).1))))]) (Cn := RX5) (met_X5_clear l E h0 k1 k2 k3 k4 k5 k6 k7 k8 (nI 0) g sp pl tu fr nf w aw my fe be sk cl ex (by omega)) gX5_digest_X5_clear rfl 0 rfl ⟨rfl, rfl⟩ ⟨rfl, by decide +kernel, by decide +kernel, by decide +kernel⟩ ⟨Nat.le_of_ble_eq_true rfl, Nat.le_of_ble_eq_true rfl⟩ [0, 1, 2, 3, 4, 5, 6, 7, 8] [9] [1, 2, 3, 4, 5, 6, 7, 8, 9, 0] rfl (by decide) rfl (by decide) (by decide) rfl (by decide) 0 4 rfl rfl hl.1 rfl (Nat.le_of_ble_eq_true rfl) dX5_digest_55 ⟨Nat.le_of_ble_eq_true rfl, Nat.le_of_ble_eq_true rfl⟩ (fun H locs hW => ?_)
  refine x_astR C hW 9 6 rfl rfl (by decide) (by decide) dX5_digest_58 (w' := [(h0, .inr (4, [.int (nI 0), .int (nI g), .ref k1, .ref k2, .int (nI sp), .int (nI pl), .int (nI tu), .int (nI fr), .int (nI nf), .ref k3, .ref k4, .ref k5, .ref k6, .ref k7, .ref k8])), (k1, aI E 9 w), (k2, aI E 5 aw), (k3, aI E 4 my), (k4, aI E 120 fe), (k5, aI E 44 be), (k6, aI E 4 sk), (k7, aI E 4 cl), (k8, aI E 40 ex), (na_1, .inl (E.2.1, 7, .inl (upN (upN (upN (upN (upN (upN (upN (fun _ => nI 0) 0 (nI pl)) 1 (tnI pl fr tu)) 2 (nI fr)) 3 (nI nf)) 4 (nI sp)) 5 ((beS g aw 5).1)) 6 (tcF g))))]) rfl (fun H locs hW => ?_)
  refine lv_astore_n (lv' := [(1, .ref na_1), (0, .ref h0)]) C.x C.b dX5_digest_59 rfl hl (by decide) rfl (fun ls hl => ?_)
  refine lv_ldc2 (v := (1999)) C.x C.b C.ow (C.ts (.constantLong RX5 171 (1999)) (by decide +kernel)) dX5_digest_60 ?_
  refine lv_lstore_n (lv' := [(2, .long ((1999 : Int64))), (1, .ref na_1), (0, .ref h0)]) C.x C.b dX5_digest_63 rfl hl (by decide) rfl (fun ls hl => ?_)
  refine lv_aload_n C.x C.b dX5_digest_64 rfl (lv_at hl 1 rfl) ?_
  refine lv_astore (lv' := [(4, .ref na_1), (2, .long ((1999 : Int64))), (1, .ref na_1), (0, .ref h0)]) C.x C.b dX5_digest_65 hl (by decide) rfl (fun ls hl => ?_)
  refine lv_aload C.x C.b dX5_digest_67 (lv_at hl 0 rfl) ?_
  refine x_alen C hW 9 0 rfl rfl dX5_digest_69 ?_
  refine x_toi (y := nI 7) rfl ?_
  refine lv_istore (lv' := [(5, .int (nI 7)), (4, .ref na_1), (2, .long ((1999 : Int64))), (1, .ref na_1), (0, .ref h0)]) C.x C.b dX5_digest_70 hl (by decide) rfl (fun ls hl => ?_)
  refine lv_iconst (v := nI 0) C.x C.b dX5_digest_72 (by decide) ?_
  refine lv_istore (lv' := [(6, .int (nI 0)), (5, .int (nI 7)), (4, .ref na_1), (2, .long ((1999 : Int64))), (1, .ref na_1), (0, .ref h0)]) C.x C.b dX5_digest_73 hl (by decide) rfl (fun ls hl => ?_)
  refine lv_iload C.x C.b dX5_digest_75 (lv_at hl 0 rfl) ?_
  refine lv_iload C.x C.b dX5_digest_77 (lv_at hl 1 rfl) ?_
  refine x_icmp_ge C (by omega) (by omega) (tgt := 105) dX5_digest_79 (by decide) (fun c_2 => ?_) (fun c_2 => ?_)
  · exact absurd c_2 (by decide)
  · refine lv_aload C.x C.b dX5_digest_82 (lv_at hl 2 rfl) ?_
    refine lv_iload C.x C.b dX5_digest_84 (lv_at hl 0 rfl) ?_
    refine x_aldR C hW 9 0 rfl rfl (by decide) (by decide) dX5_digest_86 ?_
    refine x_toi (y := nI pl) rfl ?_
    refine lv_istore (lv' := [(7, .int (nI pl)), (6, .int (nI 0)), (5, .int (nI 7)), (4, .ref na_1), (2, .long ((1999 : Int64))), (1, .ref na_1), (0, .ref h0)]) C.x C.b dX5_digest_87 hl (by decide) rfl (fun ls hl => ?_)
    refine lv_lload_n C.x C.b dX5_digest_89 rfl (lv_at hl 4 rfl) ?_
    refine lv_ldc2 (v := (31)) C.x C.b C.ow (C.ts (.constantLong RX5 173 (31)) (by decide +kernel)) dX5_digest_90 ?_
    refine lv_lmul C.x C.b dX5_digest_93 ?_
    refine lv_iload C.x C.b dX5_digest_94 (lv_at hl 0 rfl) ?_
    refine lv_i2l (v := lN pl) C.x C.b dX5_digest_96 (nI_l (by omega)) ?_
    refine lv_ladd C.x C.b dX5_digest_97 ?_
    refine lv_lstore_n (lv' := [(2, .long ((((1999 : Int64)) * ((31 : Int64))) + (lN pl))), (7, .int (nI pl)), (6, .int (nI 0)), (5, .int (nI 7)), (4, .ref na_1), (1, .ref na_1), (0, .ref h0)]) C.x C.b dX5_digest_98 rfl hl (by decide) rfl (fun ls hl => ?_)
    refine lv_iinc (k := 2) (v := nI 1) (lv' := [(6, .int (nI 1)), (2, .long ((((1999 : Int64)) * ((31 : Int64))) + (lN pl))), (7, .int (nI pl)), (5, .int (nI 7)), (4, .ref na_1), (1, .ref na_1), (0, .ref h0)]) C.x C.b dX5_digest_99 hl rfl (by decide) (by decide) rfl (fun ls hl => ?_)
    refine lv_goto (tgt := 75) C.x C.b dX5_digest_102 (by decide) ?_
    refine lv_iload C.x C.b dX5_digest_75 (lv_at hl 0 rfl) ?_
    refine lv_iload C.x C.b dX5_digest_77 (lv_at hl 3 rfl) ?_
    refine x_icmp_ge C (by omega) (by omega) (tgt := 105) dX5_digest_79 (by decide) (fun c_3 => ?_) (fun c_3 => ?_)
    · exact absurd c_3 (by decide)
    · refine lv_aload C.x C.b dX5_digest_82 (lv_at hl 4 rfl) ?_
      refine lv_iload C.x C.b dX5_digest_84 (lv_at hl 0 rfl) ?_
      refine x_aldR C hW 9 1 rfl rfl (by decide) (by decide) dX5_digest_86 ?_
      refine x_toi (y := tnI pl fr tu) rfl ?_
      refine lv_istore (lv' := [(7, .int (tnI pl fr tu)), (6, .int (nI 1)), (2, .long ((((1999 : Int64)) * ((31 : Int64))) + (lN pl))), (5, .int (nI 7)), (4, .ref na_1), (1, .ref na_1), (0, .ref h0)]) C.x C.b dX5_digest_87 hl (by decide) rfl (fun ls hl => ?_)
      refine lv_lload_n C.x C.b dX5_digest_89 rfl (lv_at hl 2 rfl) ?_
      refine lv_ldc2 (v := (31)) C.x C.b C.ow (C.ts (.constantLong RX5 173 (31)) (by decide +kernel)) dX5_digest_90 ?_
      refine lv_lmul C.x C.b dX5_digest_93 ?_
      refine lv_iload C.x C.b dX5_digest_94 (lv_at hl 0 rfl) ?_
      refine lv_i2l C.x C.b dX5_digest_96 rfl ?_
      refine lv_ladd C.x C.b dX5_digest_97 ?_
      refine lv_lstore_n (lv' := [(2, .long ((((((1999 : Int64)) * ((31 : Int64))) + (lN pl)) * ((31 : Int64))) + (Int32.toInt64 (tnI pl fr tu)))), (7, .int (tnI pl fr tu)), (6, .int (nI 1)), (5, .int (nI 7)), (4, .ref na_1), (1, .ref na_1), (0, .ref h0)]) C.x C.b dX5_digest_98 rfl hl (by decide) rfl (fun ls hl => ?_)
      refine lv_iinc (k := 2) (v := nI 2) (lv' := [(6, .int (nI 2)), (2, .long ((((((1999 : Int64)) * ((31 : Int64))) + (lN pl)) * ((31 : Int64))) + (Int32.toInt64 (tnI pl fr tu)))), (7, .int (tnI pl fr tu)), (5, .int (nI 7)), (4, .ref na_1), (1, .ref na_1), (0, .ref h0)]) C.x C.b dX5_digest_99 hl rfl (by decide) (by decide) rfl (fun ls hl => ?_)
      refine lv_goto (tgt := 75) C.x C.b dX5_digest_102 (by decide) ?_
      refine lv_iload C.x C.b dX5_digest_75 (lv_at hl 0 rfl) ?_
      refine lv_iload C.x C.b dX5_digest_77 (lv_at hl 3 rfl) ?_
      refine x_icmp_ge C (by omega) (by omega) (tgt := 105) dX5_digest_79 (by decide) (fun c_4 => ?_) (fun c_4 => ?_)
      · exact absurd c_4 (by decide)
      · refine lv_aload C.x C.b dX5_digest_82 (lv_at hl 4 rfl) ?_
        refine lv_iload C.x C.b dX5_digest_84 (lv_at hl 0 rfl) ?_
        refine x_aldR C hW 9 2 rfl rfl (by decide) (by decide) dX5_digest_86 ?_
        refine x_toi (y := nI fr) rfl ?_
        refine lv_istore (lv' := [(7, .int (nI fr)), (6, .int (nI 2)), (2, .long ((((((1999 : Int64)) * ((31 : Int64))) + (lN pl)) * ((31 : Int64))) + (Int32.toInt64 (tnI pl fr tu)))), (5, .int (nI 7)), (4, .ref na_1), (1, .ref na_1), (0, .ref h0)]) C.x C.b dX5_digest_87 hl (by decide) rfl (fun ls hl => ?_)
        refine lv_lload_n C.x C.b dX5_digest_89 rfl (lv_at hl 2 rfl) ?_
        refine lv_ldc2 (v := (31)) C.x C.b C.ow (C.ts (.constantLong RX5 173 (31)) (by decide +kernel)) dX5_digest_90 ?_
        refine lv_lmul C.x C.b dX5_digest_93 ?_
        refine lv_iload C.x C.b dX5_digest_94 (lv_at hl 0 rfl) ?_
        refine lv_i2l (v := lN fr) C.x C.b dX5_digest_96 (nI_l (by omega)) ?_
        refine lv_ladd C.x C.b dX5_digest_97 ?_
        refine lv_lstore_n (lv' := [(2, .long ((((((((1999 : Int64)) * ((31 : Int64))) + (lN pl)) * ((31 : Int64))) + (Int32.toInt64 (tnI pl fr tu))) * ((31 : Int64))) + (lN fr))), (7, .int (nI fr)), (6, .int (nI 2)), (5, .int (nI 7)), (4, .ref na_1), (1, .ref na_1), (0, .ref h0)]) C.x C.b dX5_digest_98 rfl hl (by decide) rfl (fun ls hl => ?_)
        refine lv_iinc (k := 2) (v := nI 3) (lv' := [(6, .int (nI 3)), (2, .long ((((((((1999 : Int64)) * ((31 : Int64))) + (lN pl)) * ((31 : Int64))) + (Int32.toInt64 (tnI pl fr tu))) * ((31 : Int64))) + (lN fr))), (7, .int (nI fr)), (5, .int (nI 7)), (4, .ref na_1), (1, .ref na_1), (0, .ref h0)]) C.x C.b dX5_digest_99 hl rfl (by decide) (by decide) rfl (fun ls hl => ?_)
        refine lv_goto (tgt := 75) C.x C.b dX5_digest_102 (by decide) ?_
        refine lv_iload C.x C.b dX5_digest_75 (lv_at hl 0 rfl) ?_
        refine lv_iload C.x C.b dX5_digest_77 (lv_at hl 3 rfl) ?_
        refine x_icmp_ge C (by omega) (by omega) (tgt := 105) dX5_digest_79 (by decide) (fun c_5 => ?_) (fun c_5 => ?_)
        · exact absurd c_5 (by decide)
        · refine lv_aload C.x C.b dX5_digest_82 (lv_at hl 4 rfl) ?_
          refine lv_iload C.x C.b dX5_digest_84 (lv_at hl 0 rfl) ?_
          refine x_aldR C hW 9 3 rfl rfl (by decide) (by decide) dX5_digest_86 ?_
          refine x_toi (y := nI nf) rfl ?_
          refine lv_istore (lv' := [(7, .int (nI nf)), (6, .int (nI 3)), (2, .long ((((((((1999 : Int64)) * ((31 : Int64))) + (lN pl)) * ((31 : Int64))) + (Int32.toInt64 (tnI pl fr tu))) * ((31 : Int64))) + (lN fr))), (5, .int (nI 7)), (4, .ref na_1), (1, .ref na_1), (0, .ref h0)]) C.x C.b dX5_digest_87 hl (by decide) rfl (fun ls hl => ?_)
          refine lv_lload_n C.x C.b dX5_digest_89 rfl (lv_at hl 2 rfl) ?_
          refine lv_ldc2 (v := (31)) C.x C.b C.ow (C.ts (.constantLong RX5 173 (31)) (by decide +kernel)) dX5_digest_90 ?_
          refine lv_lmul C.x C.b dX5_digest_93 ?_
          refine lv_iload C.x C.b dX5_digest_94 (lv_at hl 0 rfl) ?_
          refine lv_i2l (v := lN nf) C.x C.b dX5_digest_96 (nI_l (by omega)) ?_
          refine lv_ladd C.x C.b dX5_digest_97 ?_
          refine lv_lstore_n (lv' := [(2, .long ((((((((((1999 : Int64)) * ((31 : Int64))) + (lN pl)) * ((31 : Int64))) + (Int32.toInt64 (tnI pl fr tu))) * ((31 : Int64))) + (lN fr)) * ((31 : Int64))) + (lN nf))), (7, .int (nI nf)), (6, .int (nI 3)), (5, .int (nI 7)), (4, .ref na_1), (1, .ref na_1), (0, .ref h0)]) C.x C.b dX5_digest_98 rfl hl (by decide) rfl (fun ls hl => ?_)
          refine lv_iinc (k := 2) (v := nI 4) (lv' := [(6, .int (nI 4)), (2, .long ((((((((((1999 : Int64)) * ((31 : Int64))) + (lN pl)) * ((31 : Int64))) + (Int32.toInt64 (tnI pl fr tu))) * ((31 : Int64))) + (lN fr)) * ((31 : Int64))) + (lN nf))), (7, .int (nI nf)), (5, .int (nI 7)), (4, .ref na_1), (1, .ref na_1), (0, .ref h0)]) C.x C.b dX5_digest_99 hl rfl (by decide) (by decide) rfl (fun ls hl => ?_)
          refine lv_goto (tgt := 75) C.x C.b dX5_digest_102 (by decide) ?_
          refine lv_iload C.x C.b dX5_digest_75 (lv_at hl 0 rfl) ?_
          refine lv_iload C.x C.b dX5_digest_77 (lv_at hl 3 rfl) ?_
          refine x_icmp_ge C (by omega) (by omega) (tgt := 105) dX5_digest_79 (by decide) (fun c_6 => ?_) (fun c_6 => ?_)
          · exact absurd c_6 (by decide)
          · refine lv_aload C.x C.b dX5_digest_82 (lv_at hl 4 rfl) ?_
            refine lv_iload C.x C.b dX5_digest_84 (lv_at hl 0 rfl) ?_
            refine x_aldR C hW 9 4 rfl rfl (by decide) (by decide) dX5_digest_86 ?_
            refine x_toi (y := nI sp) rfl ?_
            refine lv_istore (lv' := [(7, .int (nI sp)), (6, .int (nI 4)), (2, .long ((((((((((1999 : Int64)) * ((31 : Int64))) + (lN pl)) * ((31 : Int64))) + (Int32.toInt64 (tnI pl fr tu))) * ((31 : Int64))) + (lN fr)) * ((31 : Int64))) + (lN nf))), (5, .int (nI 7)), (4, .ref na_1), (1, .ref na_1), (0, .ref h0)]) C.x C.b dX5_digest_87 hl (by decide) rfl (fun ls hl => ?_)
            refine lv_lload_n C.x C.b dX5_digest_89 rfl (lv_at hl 2 rfl) ?_
            refine lv_ldc2 (v := (31)) C.x C.b C.ow (C.ts (.constantLong RX5 173 (31)) (by decide +kernel)) dX5_digest_90 ?_
            refine lv_lmul C.x C.b dX5_digest_93 ?_
            refine lv_iload C.x C.b dX5_digest_94 (lv_at hl 0 rfl) ?_
            refine lv_i2l (v := lN sp) C.x C.b dX5_digest_96 (nI_l (by omega)) ?_
            refine lv_ladd C.x C.b dX5_digest_97 ?_
            refine lv_lstore_n (lv' := [(2, .long ((((((((((((1999 : Int64)) * ((31 : Int64))) + (lN pl)) * ((31 : Int64))) + (Int32.toInt64 (tnI pl fr tu))) * ((31 : Int64))) + (lN fr)) * ((31 : Int64))) + (lN nf)) * ((31 : Int64))) + (lN sp))), (7, .int (nI sp)), (6, .int (nI 4)), (5, .int (nI 7)), (4, .ref na_1), (1, .ref na_1), (0, .ref h0)]) C.x C.b dX5_digest_98 rfl hl (by decide) rfl (fun ls hl => ?_)
            refine lv_iinc (k := 2) (v := nI 5) (lv' := [(6, .int (nI 5)), (2, .long ((((((((((((1999 : Int64)) * ((31 : Int64))) + (lN pl)) * ((31 : Int64))) + (Int32.toInt64 (tnI pl fr tu))) * ((31 : Int64))) + (lN fr)) * ((31 : Int64))) + (lN nf)) * ((31 : Int64))) + (lN sp))), (7, .int (nI sp)), (5, .int (nI 7)), (4, .ref na_1), (1, .ref na_1), (0, .ref h0)]) C.x C.b dX5_digest_99 hl rfl (by decide) (by decide) rfl (fun ls hl => ?_)
            refine lv_goto (tgt := 75) C.x C.b dX5_digest_102 (by decide) ?_
            refine lv_iload C.x C.b dX5_digest_75 (lv_at hl 0 rfl) ?_
            refine lv_iload C.x C.b dX5_digest_77 (lv_at hl 3 rfl) ?_
            refine x_icmp_ge C (by omega) (by omega) (tgt := 105) dX5_digest_79 (by decide) (fun c_7 => ?_) (fun c_7 => ?_)
            · exact absurd c_7 (by decide)
            · refine lv_aload C.x C.b dX5_digest_82 (lv_at hl 4 rfl) ?_
              refine lv_iload C.x C.b dX5_digest_84 (lv_at hl 0 rfl) ?_
              refine x_aldR C hW 9 5 rfl rfl (by decide) (by decide) dX5_digest_86 ?_
              refine x_toi (y := (beS g aw 5).1) rfl ?_
              refine lv_istore (lv' := [(7, .int ((beS g aw 5).1)), (6, .int (nI 5)), (2, .long ((((((((((((1999 : Int64)) * ((31 : Int64))) + (lN pl)) * ((31 : Int64))) + (Int32.toInt64 (tnI pl fr tu))) * ((31 : Int64))) + (lN fr)) * ((31 : Int64))) + (lN nf)) * ((31 : Int64))) + (lN sp))), (5, .int (nI 7)), (4, .ref na_1), (1, .ref na_1), (0, .ref h0)]) C.x C.b dX5_digest_87 hl (by decide) rfl (fun ls hl => ?_)
              refine lv_lload_n C.x C.b dX5_digest_89 rfl (lv_at hl 2 rfl) ?_
              refine lv_ldc2 (v := (31)) C.x C.b C.ow (C.ts (.constantLong RX5 173 (31)) (by decide +kernel)) dX5_digest_90 ?_
              refine lv_lmul C.x C.b dX5_digest_93 ?_
              refine lv_iload C.x C.b dX5_digest_94 (lv_at hl 0 rfl) ?_
              refine lv_i2l C.x C.b dX5_digest_96 rfl ?_
              refine lv_ladd C.x C.b dX5_digest_97 ?_
              refine lv_lstore_n (lv' := [(2, .long ((((((((((((((1999 : Int64)) * ((31 : Int64))) + (lN pl)) * ((31 : Int64))) + (Int32.toInt64 (tnI pl fr tu))) * ((31 : Int64))) + (lN fr)) * ((31 : Int64))) + (lN nf)) * ((31 : Int64))) + (lN sp)) * ((31 : Int64))) + (Int32.toInt64 ((beS g aw 5).1)))), (7, .int ((beS g aw 5).1)), (6, .int (nI 5)), (5, .int (nI 7)), (4, .ref na_1), (1, .ref na_1), (0, .ref h0)]) C.x C.b dX5_digest_98 rfl hl (by decide) rfl (fun ls hl => ?_)
              refine lv_iinc (k := 2) (v := nI 6) (lv' := [(6, .int (nI 6)), (2, .long ((((((((((((((1999 : Int64)) * ((31 : Int64))) + (lN pl)) * ((31 : Int64))) + (Int32.toInt64 (tnI pl fr tu))) * ((31 : Int64))) + (lN fr)) * ((31 : Int64))) + (lN nf)) * ((31 : Int64))) + (lN sp)) * ((31 : Int64))) + (Int32.toInt64 ((beS g aw 5).1)))), (7, .int ((beS g aw 5).1)), (5, .int (nI 7)), (4, .ref na_1), (1, .ref na_1), (0, .ref h0)]) C.x C.b dX5_digest_99 hl rfl (by decide) (by decide) rfl (fun ls hl => ?_)
              refine lv_goto (tgt := 75) C.x C.b dX5_digest_102 (by decide) ?_
              refine lv_iload C.x C.b dX5_digest_75 (lv_at hl 0 rfl) ?_
              refine lv_iload C.x C.b dX5_digest_77 (lv_at hl 3 rfl) ?_
              refine x_icmp_ge C (by omega) (by omega) (tgt := 105) dX5_digest_79 (by decide) (fun c_8 => ?_) (fun c_8 => ?_)
              · exact absurd c_8 (by decide)
              · refine lv_aload C.x C.b dX5_digest_82 (lv_at hl 4 rfl) ?_
                refine lv_iload C.x C.b dX5_digest_84 (lv_at hl 0 rfl) ?_
                refine x_aldR C hW 9 6 rfl rfl (by decide) (by decide) dX5_digest_86 ?_
                refine x_toi (y := tcF g) rfl ?_
                refine lv_istore (lv' := [(7, .int (tcF g)), (6, .int (nI 6)), (2, .long ((((((((((((((1999 : Int64)) * ((31 : Int64))) + (lN pl)) * ((31 : Int64))) + (Int32.toInt64 (tnI pl fr tu))) * ((31 : Int64))) + (lN fr)) * ((31 : Int64))) + (lN nf)) * ((31 : Int64))) + (lN sp)) * ((31 : Int64))) + (Int32.toInt64 ((beS g aw 5).1)))), (5, .int (nI 7)), (4, .ref na_1), (1, .ref na_1), (0, .ref h0)]) C.x C.b dX5_digest_87 hl (by decide) rfl (fun ls hl => ?_)
                refine lv_lload_n C.x C.b dX5_digest_89 rfl (lv_at hl 2 rfl) ?_
                refine lv_ldc2 (v := (31)) C.x C.b C.ow (C.ts (.constantLong RX5 173 (31)) (by decide +kernel)) dX5_digest_90 ?_
                refine lv_lmul C.x C.b dX5_digest_93 ?_
                refine lv_iload C.x C.b dX5_digest_94 (lv_at hl 0 rfl) ?_
                refine lv_i2l C.x C.b dX5_digest_96 rfl ?_
                refine lv_ladd C.x C.b dX5_digest_97 ?_
                refine lv_lstore_n (lv' := [(2, .long ((((((((((((((((1999 : Int64)) * ((31 : Int64))) + (lN pl)) * ((31 : Int64))) + (Int32.toInt64 (tnI pl fr tu))) * ((31 : Int64))) + (lN fr)) * ((31 : Int64))) + (lN nf)) * ((31 : Int64))) + (lN sp)) * ((31 : Int64))) + (Int32.toInt64 ((beS g aw 5).1))) * ((31 : Int64))) + (Int32.toInt64 (tcF g)))), (7, .int (tcF g)), (6, .int (nI 6)), (5, .int (nI 7)), (4, .ref na_1), (1, .ref na_1), (0, .ref h0)]) C.x C.b dX5_digest_98 rfl hl (by decide) rfl (fun ls hl => ?_)
                refine lv_iinc (k := 2) (v := nI 7) (lv' := [(6, .int (nI 7)), (2, .long ((((((((((((((((1999 : Int64)) * ((31 : Int64))) + (lN pl)) * ((31 : Int64))) + (Int32.toInt64 (tnI pl fr tu))) * ((31 : Int64))) + (lN fr)) * ((31 : Int64))) + (lN nf)) * ((31 : Int64))) + (lN sp)) * ((31 : Int64))) + (Int32.toInt64 ((beS g aw 5).1))) * ((31 : Int64))) + (Int32.toInt64 (tcF g)))), (7, .int (tcF g)), (5, .int (nI 7)), (4, .ref na_1), (1, .ref na_1), (0, .ref h0)]) C.x C.b dX5_digest_99 hl rfl (by decide) (by decide) rfl (fun ls hl => ?_)
                refine lv_goto (tgt := 75) C.x C.b dX5_digest_102 (by decide) ?_
                refine lv_iload C.x C.b dX5_digest_75 (lv_at hl 0 rfl) ?_
                refine lv_iload C.x C.b dX5_digest_77 (lv_at hl 3 rfl) ?_
                refine x_icmp_ge C (by omega) (by omega) (tgt := 105) dX5_digest_79 (by decide) (fun c_9 => ?_) (fun c_9 => ?_)
                · refine lv_iconst (v := nI 0) C.x C.b dX5_digest_105 (by decide) ?_
                  refine lv_istore (lv' := [(4, .int (nI 0)), (6, .int (nI 7)), (2, .long ((((((((((((((((1999 : Int64)) * ((31 : Int64))) + (lN pl)) * ((31 : Int64))) + (Int32.toInt64 (tnI pl fr tu))) * ((31 : Int64))) + (lN fr)) * ((31 : Int64))) + (lN nf)) * ((31 : Int64))) + (lN sp)) * ((31 : Int64))) + (Int32.toInt64 ((beS g aw 5).1))) * ((31 : Int64))) + (Int32.toInt64 (tcF g)))), (7, .int (tcF g)), (5, .int (nI 7)), (1, .ref na_1), (0, .ref h0)]) C.x C.b dX5_digest_106 hl (by decide) rfl (fun ls hl => ?_)
                  have lp_10 : ∀ (n10 i : Nat), i ≤ 9 → 9 + 1 ≤ i + n10 → ∀ (H : Heap) (locs : List Loc) (ls : Array Slot), WD E (va_A [(h0, .inr (4, [.int x, .int (nI g), .ref k1, .ref k2, .int (nI sp), .int (nI pl), .int (nI tu), .int (nI fr), .int (nI nf), .ref k3, .ref k4, .ref k5, .ref k6, .ref k7, .ref k8])), (k1, aI E 9 w), (k2, aI E 5 aw), (k3, aI E 4 my), (k4, aI E 120 fe), (k5, aI E 44 be), (k6, aI E 4 sk), (k7, aI E 4 cl), (k8, aI E 40 ex)] s.heap.size) s [(h0, .inr (4, [.int (nI 0), .int (nI g), .ref k1, .ref k2, .int (nI sp), .int (nI pl), .int (nI tu), .int (nI fr), .int (nI nf), .ref k3, .ref k4, .ref k5, .ref k6, .ref k7, .ref k8])), (k1, aI E 9 w), (k2, aI E 5 aw), (k3, aI E 4 my), (k4, aI E 120 fe), (k5, aI E 44 be), (k6, aI E 4 sk), (k7, aI E 4 cl), (k8, aI E 40 ex), (na_1, .inl (E.2.1, 7, .inl (upN (upN (upN (upN (upN (upN (upN (fun _ => nI 0) 0 (nI pl)) 1 (tnI pl fr tu)) 2 (nI fr)) 3 (nI nf)) 4 (nI sp)) 5 ((beS g aw 5).1)) 6 (tcF g))))] H locs → lv_has ls 8 [(4, .int (nI i)), (2, .long (dgB (dgH pl fr nf sp (tnI pl fr tu) (beS g aw 5).1 (tcF g)) g w i)), (0, .ref h0)] → W p l e ({ frames := 10, cells := 1, slots := 7, locals := 234 } : Room) s m ([.ref h0] : List Value).toArray below meth c H locs (0 + 1) (0 + 7) (QLa E [(h0, .inr (4, [.int x, .int (nI g), .ref k1, .ref k2, .int (nI sp), .int (nI pl), .int (nI tu), .int (nI fr), .int (nI nf), .ref k3, .ref k4, .ref k5, .ref k6, .ref k7, .ref k8])), (k1, aI E 9 w), (k2, aI E 5 aw), (k3, aI E 4 my), (k4, aI E 120 fe), (k5, aI E 44 be), (k6, aI E 4 sk), (k7, aI E 4 cl), (k8, aI E 40 ex)] 1 7 (dgN (dgR (dgB (dgH pl fr nf sp (tnI pl fr tu) (beS g aw 5).1 (tcF g)) g w 9) aw 5) my (scT my fe be ex tu fr) sk cl (poM my fe be ex tu fr) pl) [(h0, .inr (4, [.int (nI 0), .int (nI g), .ref k1, .ref k2, .int (nI sp), .int (nI pl), .int (nI tu), .int (nI fr), .int (nI nf), .ref k3, .ref k4, .ref k5, .ref k6, .ref k7, .ref k8])), (k1, aI E 9 w), (k2, aI E 5 aw), (k3, aI E 4 my), (k4, aI E 120 fe), (k5, aI E 44 be), (k6, aI E 4 sk), (k7, aI E 4 cl), (k8, aI E 40 ex)] below ([.ref h0] : List Value).toArray s) (F0 m 108 ls []) := by
                    intro n10
                    induction n10 with
                    | zero => intro i hi hn; exact absurd hn (by omega)
                    | succ n10 ih10 =>
                      intro i hi hn  H locs ls hW hl
                      refine lv_iload C.x C.b dX5_digest_108 (lv_at hl 0 rfl) ?_
                      refine lv_bipush (v := nI 9) C.x C.b dX5_digest_110 (by decide) ?_
                      refine x_icmp_ge C (by omega) (by omega) (tgt := 151) dX5_digest_112 (by decide) (fun c_11 => ?_) (fun c_11 => ?_)
                      · obtain rfl : i = 9 := by omega
                        refine lv_iconst (v := nI 0) C.x C.b dX5_digest_151 (by decide) ?_
                        refine lv_istore (lv' := [(4, .int (nI 0)), (2, .long (dgB (dgH pl fr nf sp (tnI pl fr tu) (beS g aw 5).1 (tcF g)) g w 9)), (0, .ref h0)]) C.x C.b dX5_digest_152 hl (by decide) rfl (fun ls hl => ?_)
                        have lp_12 : ∀ (n12 i : Nat), i ≤ 5 → 5 + 1 ≤ i + n12 → ∀ (H : Heap) (locs : List Loc) (ls : Array Slot), WD E (va_A [(h0, .inr (4, [.int x, .int (nI g), .ref k1, .ref k2, .int (nI sp), .int (nI pl), .int (nI tu), .int (nI fr), .int (nI nf), .ref k3, .ref k4, .ref k5, .ref k6, .ref k7, .ref k8])), (k1, aI E 9 w), (k2, aI E 5 aw), (k3, aI E 4 my), (k4, aI E 120 fe), (k5, aI E 44 be), (k6, aI E 4 sk), (k7, aI E 4 cl), (k8, aI E 40 ex)] s.heap.size) s [(h0, .inr (4, [.int (nI 0), .int (nI g), .ref k1, .ref k2, .int (nI sp), .int (nI pl), .int (nI tu), .int (nI fr), .int (nI nf), .ref k3, .ref k4, .ref k5, .ref k6, .ref k7, .ref k8])), (k1, aI E 9 w), (k2, aI E 5 aw), (k3, aI E 4 my), (k4, aI E 120 fe), (k5, aI E 44 be), (k6, aI E 4 sk), (k7, aI E 4 cl), (k8, aI E 40 ex), (na_1, .inl (E.2.1, 7, .inl (upN (upN (upN (upN (upN (upN (upN (fun _ => nI 0) 0 (nI pl)) 1 (tnI pl fr tu)) 2 (nI fr)) 3 (nI nf)) 4 (nI sp)) 5 ((beS g aw 5).1)) 6 (tcF g))))] H locs → lv_has ls 8 [(4, .int (nI i)), (2, .long (dgR (dgB (dgH pl fr nf sp (tnI pl fr tu) (beS g aw 5).1 (tcF g)) g w 9) aw i)), (0, .ref h0)] → W p l e ({ frames := 10, cells := 1, slots := 7, locals := 234 } : Room) s m ([.ref h0] : List Value).toArray below meth c H locs (0 + 1) (0 + 7) (QLa E [(h0, .inr (4, [.int x, .int (nI g), .ref k1, .ref k2, .int (nI sp), .int (nI pl), .int (nI tu), .int (nI fr), .int (nI nf), .ref k3, .ref k4, .ref k5, .ref k6, .ref k7, .ref k8])), (k1, aI E 9 w), (k2, aI E 5 aw), (k3, aI E 4 my), (k4, aI E 120 fe), (k5, aI E 44 be), (k6, aI E 4 sk), (k7, aI E 4 cl), (k8, aI E 40 ex)] 1 7 (dgN (dgR (dgB (dgH pl fr nf sp (tnI pl fr tu) (beS g aw 5).1 (tcF g)) g w 9) aw 5) my (scT my fe be ex tu fr) sk cl (poM my fe be ex tu fr) pl) [(h0, .inr (4, [.int (nI 0), .int (nI g), .ref k1, .ref k2, .int (nI sp), .int (nI pl), .int (nI tu), .int (nI fr), .int (nI nf), .ref k3, .ref k4, .ref k5, .ref k6, .ref k7, .ref k8])), (k1, aI E 9 w), (k2, aI E 5 aw), (k3, aI E 4 my), (k4, aI E 120 fe), (k5, aI E 44 be), (k6, aI E 4 sk), (k7, aI E 4 cl), (k8, aI E 40 ex)] below ([.ref h0] : List Value).toArray s) (F0 m 154 ls []) := by
                          intro n12
                          induction n12 with
                          | zero => intro i hi hn; exact absurd hn (by omega)
                          | succ n12 ih12 =>
                            intro i hi hn  H locs ls hW hl
                            refine lv_iload C.x C.b dX5_digest_154 (lv_at hl 0 rfl) ?_
                            refine lv_iconst (v := nI 5) C.x C.b dX5_digest_156 (by decide) ?_
                            refine x_icmp_ge C (by omega) (by omega) (tgt := 181) dX5_digest_157 (by decide) (fun c_13 => ?_) (fun c_13 => ?_)
                            · obtain rfl : i = 5 := by omega
                              refine lv_iconst (v := nI 0) C.x C.b dX5_digest_181 (by decide) ?_
                              refine lv_istore (lv' := [(4, .int (nI 0)), (2, .long (dgR (dgB (dgH pl fr nf sp (tnI pl fr tu) (beS g aw 5).1 (tcF g)) g w 9) aw 5)), (0, .ref h0)]) C.x C.b dX5_digest_182 hl (by decide) rfl (fun ls hl => ?_)
                              have lp_14 : ∀ (n14 k : Nat), k ≤ pl → pl + 1 ≤ k + n14 → ∀ (H : Heap) (locs : List Loc) (ls : Array Slot), WD E (va_A [(h0, .inr (4, [.int x, .int (nI g), .ref k1, .ref k2, .int (nI sp), .int (nI pl), .int (nI tu), .int (nI fr), .int (nI nf), .ref k3, .ref k4, .ref k5, .ref k6, .ref k7, .ref k8])), (k1, aI E 9 w), (k2, aI E 5 aw), (k3, aI E 4 my), (k4, aI E 120 fe), (k5, aI E 44 be), (k6, aI E 4 sk), (k7, aI E 4 cl), (k8, aI E 40 ex)] s.heap.size) s [(h0, .inr (4, [.int (nI 0), .int (nI g), .ref k1, .ref k2, .int (nI sp), .int (nI pl), .int (nI tu), .int (nI fr), .int (nI nf), .ref k3, .ref k4, .ref k5, .ref k6, .ref k7, .ref k8])), (k1, aI E 9 w), (k2, aI E 5 aw), (k3, aI E 4 my), (k4, aI E 120 fe), (k5, aI E 44 be), (k6, aI E 4 sk), (k7, aI E 4 cl), (k8, aI E 40 ex), (na_1, .inl (E.2.1, 7, .inl (upN (upN (upN (upN (upN (upN (upN (fun _ => nI 0) 0 (nI pl)) 1 (tnI pl fr tu)) 2 (nI fr)) 3 (nI nf)) 4 (nI sp)) 5 ((beS g aw 5).1)) 6 (tcF g))))] H locs → lv_has ls 8 [(4, .int (nI k)), (2, .long (dgN (dgR (dgB (dgH pl fr nf sp (tnI pl fr tu) (beS g aw 5).1 (tcF g)) g w 9) aw 5) my (scT my fe be ex tu fr) sk cl (poM my fe be ex tu fr) k)), (0, .ref h0)] → W p l e ({ frames := 10, cells := 1, slots := 7, locals := 234 } : Room) s m ([.ref h0] : List Value).toArray below meth c H locs (0 + 1) (0 + 7) (QLa E [(h0, .inr (4, [.int x, .int (nI g), .ref k1, .ref k2, .int (nI sp), .int (nI pl), .int (nI tu), .int (nI fr), .int (nI nf), .ref k3, .ref k4, .ref k5, .ref k6, .ref k7, .ref k8])), (k1, aI E 9 w), (k2, aI E 5 aw), (k3, aI E 4 my), (k4, aI E 120 fe), (k5, aI E 44 be), (k6, aI E 4 sk), (k7, aI E 4 cl), (k8, aI E 40 ex)] 1 7 (dgN (dgR (dgB (dgH pl fr nf sp (tnI pl fr tu) (beS g aw 5).1 (tcF g)) g w 9) aw 5) my (scT my fe be ex tu fr) sk cl (poM my fe be ex tu fr) pl) [(h0, .inr (4, [.int (nI 0), .int (nI g), .ref k1, .ref k2, .int (nI sp), .int (nI pl), .int (nI tu), .int (nI fr), .int (nI nf), .ref k3, .ref k4, .ref k5, .ref k6, .ref k7, .ref k8])), (k1, aI E 9 w), (k2, aI E 5 aw), (k3, aI E 4 my), (k4, aI E 120 fe), (k5, aI E 44 be), (k6, aI E 4 sk), (k7, aI E 4 cl), (k8, aI E 40 ex)] below ([.ref h0] : List Value).toArray s) (F0 m 184 ls []) := by
                                intro n14
                                induction n14 with
                                | zero => intro k hk hn; exact absurd hn (by omega)
                                | succ n14 ih14 =>
                                  intro k hk hn  H locs ls hW hl
                                  refine lv_iload C.x C.b dX5_digest_184 (lv_at hl 0 rfl) ?_
                                  refine lv_aload_n C.x C.b dX5_digest_186 rfl (lv_at hl 2 rfl) ?_
                                  refine x_get C hW 0 4 5 (Cn := RX5) (T := TX5) (N := 15) rfl rfl (by decide) hinX5 hf48 rfl dX5_digest_187 ?_
                                  refine x_icmp_ge C (by omega) (by omega) (tgt := 284) dX5_digest_190 (by decide) (fun c_15 => ?_) (fun c_15 => ?_)
                                  · obtain rfl : k = pl := by omega
                                    refine lv_lload_n C.x C.b dX5_digest_284 rfl (lv_at hl 1 rfl) ?_
                                    exact x_lretA C (hW.sub [0, 1, 2, 3, 4, 5, 6, 7, 8] rfl (by decide)) rfl rfl rfl dX5_digest_285
                                  · refine lv_lload_n C.x C.b dX5_digest_193 rfl (lv_at hl 1 rfl) ?_
                                    refine lv_ldc2 (v := (31)) C.x C.b C.ow (C.ts (.constantLong RX5 173 (31)) (by decide +kernel)) dX5_digest_194 ?_
                                    refine lv_lmul C.x C.b dX5_digest_197 ?_
                                    refine lv_aload_n C.x C.b dX5_digest_198 rfl (lv_at hl 2 rfl) ?_
                                    refine x_get C hW 0 4 9 (Cn := RX5) (T := TX5) (N := 15) rfl rfl (by decide) hinX5 hf23 rfl dX5_digest_199 ?_
                                    refine lv_iload C.x C.b dX5_digest_202 (lv_at hl 0 rfl) ?_
                                    refine x_ald C hW 3 k rfl rfl (by omega) (by decide) dX5_digest_204 ?_
                                    have e1 := hmy k
                                    refine lv_i2l (v := lN (my k)) C.x C.b dX5_digest_205 (nI_l (by omega)) ?_
                                    refine lv_ladd C.x C.b dX5_digest_206 ?_
                                    refine lv_ldc2 (v := (31)) C.x C.b C.ow (C.ts (.constantLong RX5 173 (31)) (by decide +kernel)) dX5_digest_207 ?_
                                    refine lv_lmul C.x C.b dX5_digest_210 ?_
                                    refine lv_aload_n C.x C.b dX5_digest_211 rfl (lv_at hl 2 rfl) ?_
                                    refine lv_iload C.x C.b dX5_digest_212 (lv_at hl 0 rfl) ?_
                                    refine x_cVI C hW (As := [.int (nI k)]) (rest := [.long ((((dgN (dgR (dgB (dgH pl fr nf sp (tnI pl fr tu) (beS g aw 5).1 (tcF g)) g w 9) aw 5) my (scT my fe be ex tu fr) sk cl (poM my fe be ex tu fr) k) * ((31 : Int64))) + (lN (my k))) * ((31 : Int64)))]) (wr := [(na_1, .inl (E.2.1, 7, .inl (upN (upN (upN (upN (upN (upN (upN (fun _ => nI 0) 0 (nI pl)) 1 (tnI pl fr tu)) 2 (nI fr)) 3 (nI nf)) 4 (nI sp)) 5 ((beS g aw 5).1)) 6 (tcF g))))]) (wn := [(h0, .inr (4, [.int (nI 0), .int (nI g), .ref k1, .ref k2, .int (nI sp), .int (nI pl), .int (nI tu), .int (nI fr), .int (nI nf), .ref k3, .ref k4, .ref k5, .ref k6, .ref k7, .ref k8])), (k1, aI E 9 w), (k2, aI E 5 aw), (k3, aI E 4 my), (k4, aI E 120 fe), (k5, aI E 44 be), (k6, aI E 4 sk), (k7, aI E 4 cl), (k8, aI E 40 ex), (na_1, .inl (E.2.1, 7, .inl (upN (upN (upN (upN (upN (upN (upN (fun _ => nI 0) 0 (nI pl)) 1 (tnI pl fr tu)) 2 (nI fr)) 3 (nI nf)) 4 (nI sp)) 5 ((beS g aw 5).1)) 6 (tcF g))))]) (Cn := RX5) (met_X5_score l E h0 k1 k2 k3 k4 k5 k6 k7 k8 (nI 0) g sp pl tu fr nf w aw my fe be sk cl ex k (by omega) (by omega) (by omega) hmy hbe hex) gX5_digest_X5_score rfl 1 rfl ⟨rfl, rfl⟩ ⟨rfl, by decide +kernel, by decide +kernel, by decide +kernel⟩ ⟨Nat.le_of_ble_eq_true rfl, Nat.le_of_ble_eq_true rfl⟩ [0, 1, 2, 3, 4, 5, 6, 7, 8] [9] [1, 2, 3, 4, 5, 6, 7, 8, 9, 0] rfl (by decide) rfl (by decide) (by decide) rfl (by decide) 0 4 rfl rfl hl.1 rfl (Nat.le_of_ble_eq_true rfl) dX5_digest_214 ⟨Nat.le_of_ble_eq_true rfl, Nat.le_of_ble_eq_true rfl⟩ (fun H locs hW => ?_)
                                    have e2 := scT_le (be := be) (ex := ex) hfe hmy tu fr k
                                    refine lv_i2l (v := lN (scT my fe be ex tu fr k)) C.x C.b dX5_digest_217 (nI_l (by omega)) ?_
                                    refine lv_ladd C.x C.b dX5_digest_218 ?_
                                    refine lv_ldc2 (v := (31)) C.x C.b C.ow (C.ts (.constantLong RX5 173 (31)) (by decide +kernel)) dX5_digest_219 ?_
                                    refine lv_lmul C.x C.b dX5_digest_222 ?_
                                    refine lv_aload_n C.x C.b dX5_digest_223 rfl (lv_at hl 2 rfl) ?_
                                    refine x_get C hW 0 4 12 (Cn := RX5) (T := TX5) (N := 15) rfl rfl (by decide) hinX5 hf32 rfl dX5_digest_224 ?_
                                    refine lv_iload C.x C.b dX5_digest_227 (lv_at hl 0 rfl) ?_
                                    refine x_ald C hW 6 k rfl rfl (by omega) (by decide) dX5_digest_229 ?_
                                    have e3 := hsk k
                                    refine lv_i2l (v := lN (sk k)) C.x C.b dX5_digest_230 (nI_l (by omega)) ?_
                                    refine lv_ladd C.x C.b dX5_digest_231 ?_
                                    refine lv_ldc2 (v := (31)) C.x C.b C.ow (C.ts (.constantLong RX5 173 (31)) (by decide +kernel)) dX5_digest_232 ?_
                                    refine lv_lmul C.x C.b dX5_digest_235 ?_
                                    refine lv_aload_n C.x C.b dX5_digest_236 rfl (lv_at hl 2 rfl) ?_
                                    refine x_get C hW 0 4 13 (Cn := RX5) (T := TX5) (N := 15) rfl rfl (by decide) hinX5 hf35 rfl dX5_digest_237 ?_
                                    refine lv_iload C.x C.b dX5_digest_240 (lv_at hl 0 rfl) ?_
                                    refine x_ald C hW 7 k rfl rfl (by omega) (by decide) dX5_digest_242 ?_
                                    have e4 := hcl k
                                    refine lv_i2l (v := lN (cl k)) C.x C.b dX5_digest_243 (nI_l (by omega)) ?_
                                    refine lv_ladd C.x C.b dX5_digest_244 ?_
                                    refine lv_lstore_n (lv' := [(2, .long (((((((((dgN (dgR (dgB (dgH pl fr nf sp (tnI pl fr tu) (beS g aw 5).1 (tcF g)) g w 9) aw 5) my (scT my fe be ex tu fr) sk cl (poM my fe be ex tu fr) k) * ((31 : Int64))) + (lN (my k))) * ((31 : Int64))) + (lN (scT my fe be ex tu fr k))) * ((31 : Int64))) + (lN (sk k))) * ((31 : Int64))) + (lN (cl k)))), (4, .int (nI k)), (0, .ref h0)]) C.x C.b dX5_digest_245 rfl hl (by decide) rfl (fun ls hl => ?_)
                                    refine lv_iconst (v := nI 0) C.x C.b dX5_digest_246 (by decide) ?_
                                    refine lv_istore (lv' := [(5, .int (nI 0)), (2, .long (((((((((dgN (dgR (dgB (dgH pl fr nf sp (tnI pl fr tu) (beS g aw 5).1 (tcF g)) g w 9) aw 5) my (scT my fe be ex tu fr) sk cl (poM my fe be ex tu fr) k) * ((31 : Int64))) + (lN (my k))) * ((31 : Int64))) + (lN (scT my fe be ex tu fr k))) * ((31 : Int64))) + (lN (sk k))) * ((31 : Int64))) + (lN (cl k)))), (4, .int (nI k)), (0, .ref h0)]) C.x C.b dX5_digest_247 hl (by decide) rfl (fun ls hl => ?_)
                                    have lp_16 : ∀ (n16 i : Nat), i ≤ 10 → 10 + 1 ≤ i + n16 → ∀ (H : Heap) (locs : List Loc) (ls : Array Slot), WD E (va_A [(h0, .inr (4, [.int x, .int (nI g), .ref k1, .ref k2, .int (nI sp), .int (nI pl), .int (nI tu), .int (nI fr), .int (nI nf), .ref k3, .ref k4, .ref k5, .ref k6, .ref k7, .ref k8])), (k1, aI E 9 w), (k2, aI E 5 aw), (k3, aI E 4 my), (k4, aI E 120 fe), (k5, aI E 44 be), (k6, aI E 4 sk), (k7, aI E 4 cl), (k8, aI E 40 ex)] s.heap.size) s [(h0, .inr (4, [.int (nI 0), .int (nI g), .ref k1, .ref k2, .int (nI sp), .int (nI pl), .int (nI tu), .int (nI fr), .int (nI nf), .ref k3, .ref k4, .ref k5, .ref k6, .ref k7, .ref k8])), (k1, aI E 9 w), (k2, aI E 5 aw), (k3, aI E 4 my), (k4, aI E 120 fe), (k5, aI E 44 be), (k6, aI E 4 sk), (k7, aI E 4 cl), (k8, aI E 40 ex), (na_1, .inl (E.2.1, 7, .inl (upN (upN (upN (upN (upN (upN (upN (fun _ => nI 0) 0 (nI pl)) 1 (tnI pl fr tu)) 2 (nI fr)) 3 (nI nf)) 4 (nI sp)) 5 ((beS g aw 5).1)) 6 (tcF g))))] H locs → lv_has ls 8 [(5, .int (nI i)), (2, .long (dgP ((((dgN (dgR (dgB (dgH pl fr nf sp (tnI pl fr tu) (beS g aw 5).1 (tcF g)) g w 9) aw 5) my (scT my fe be ex tu fr) sk cl (poM my fe be ex tu fr) k * (31 : Int64) + lN (my k)) * (31 : Int64) + lN (scT my fe be ex tu fr k)) * (31 : Int64) + lN (sk k)) * (31 : Int64) + lN (cl k)) (poM my fe be ex tu fr k) i)), (4, .int (nI k)), (0, .ref h0)] → W p l e ({ frames := 10, cells := 1, slots := 7, locals := 234 } : Room) s m ([.ref h0] : List Value).toArray below meth c H locs (0 + 1) (0 + 7) (QLa E [(h0, .inr (4, [.int x, .int (nI g), .ref k1, .ref k2, .int (nI sp), .int (nI pl), .int (nI tu), .int (nI fr), .int (nI nf), .ref k3, .ref k4, .ref k5, .ref k6, .ref k7, .ref k8])), (k1, aI E 9 w), (k2, aI E 5 aw), (k3, aI E 4 my), (k4, aI E 120 fe), (k5, aI E 44 be), (k6, aI E 4 sk), (k7, aI E 4 cl), (k8, aI E 40 ex)] 1 7 (dgN (dgR (dgB (dgH pl fr nf sp (tnI pl fr tu) (beS g aw 5).1 (tcF g)) g w 9) aw 5) my (scT my fe be ex tu fr) sk cl (poM my fe be ex tu fr) pl) [(h0, .inr (4, [.int (nI 0), .int (nI g), .ref k1, .ref k2, .int (nI sp), .int (nI pl), .int (nI tu), .int (nI fr), .int (nI nf), .ref k3, .ref k4, .ref k5, .ref k6, .ref k7, .ref k8])), (k1, aI E 9 w), (k2, aI E 5 aw), (k3, aI E 4 my), (k4, aI E 120 fe), (k5, aI E 44 be), (k6, aI E 4 sk), (k7, aI E 4 cl), (k8, aI E 40 ex)] below ([.ref h0] : List Value).toArray s) (F0 m 249 ls []) := by
                                      intro n16
                                      induction n16 with
                                      | zero => intro i hi hn; exact absurd hn (by omega)
                                      | succ n16 ih16 =>
                                        intro i hi hn  H locs ls hW hl
                                        refine lv_iload C.x C.b dX5_digest_249 (lv_at hl 0 rfl) ?_
                                        refine lv_bipush (v := nI 10) C.x C.b dX5_digest_251 (by decide) ?_
                                        refine x_icmp_ge C (by omega) (by omega) (tgt := 278) dX5_digest_253 (by decide) (fun c_17 => ?_) (fun c_17 => ?_)
                                        · obtain rfl : i = 10 := by omega
                                          refine lv_iinc (k := 2) (v := nI (k + 1)) (lv' := [(4, .int (nI (k + 1))), (5, .int (nI 10)), (2, .long (dgP ((((dgN (dgR (dgB (dgH pl fr nf sp (tnI pl fr tu) (beS g aw 5).1 (tcF g)) g w 9) aw 5) my (scT my fe be ex tu fr) sk cl (poM my fe be ex tu fr) k * (31 : Int64) + lN (my k)) * (31 : Int64) + lN (scT my fe be ex tu fr k)) * (31 : Int64) + lN (sk k)) * (31 : Int64) + lN (cl k)) (poM my fe be ex tu fr k) 10)), (0, .ref h0)]) C.x C.b dX5_digest_278 hl rfl (z_inc k 1) (by decide) rfl (fun ls hl => ?_)
                                          refine lv_goto (tgt := 184) C.x C.b dX5_digest_281 (by decide) ?_
                                          exact ih14 (k + 1) (by omega) (by omega)  _ _ _ (hW.to rfl) (lv_to (lv_sub (l' := [(4, .int (nI (k + 1))), (2, .long (dgP ((((dgN (dgR (dgB (dgH pl fr nf sp (tnI pl fr tu) (beS g aw 5).1 (tcF g)) g w 9) aw 5) my (scT my fe be ex tu fr) sk cl (poM my fe be ex tu fr) k * (31 : Int64) + lN (my k)) * (31 : Int64) + lN (scT my fe be ex tu fr k)) * (31 : Int64) + lN (sk k)) * (31 : Int64) + lN (cl k)) (poM my fe be ex tu fr k) 10)), (0, .ref h0)]) hl [0, 2, 3] rfl) (by first | rfl | (simp [dgP, dgN, dgB, dgR, c_2, c_3, c_4, c_5, c_6, c_7, c_8, c_9, c_11, c_13, c_15, c_17]; done) | (rw [if_pos (by omega)]; done) | (rw [if_neg (by omega)]; done) | (exfalso; omega) | (simp only [dgP, dgN, dgB, dgR]; (repeat' split) <;> first | rfl | contradiction | (exfalso; omega))))
                                        · refine lv_lload_n C.x C.b dX5_digest_256 rfl (lv_at hl 1 rfl) ?_
                                          refine lv_ldc2 (v := (31)) C.x C.b C.ow (C.ts (.constantLong RX5 173 (31)) (by decide +kernel)) dX5_digest_257 ?_
                                          refine lv_lmul C.x C.b dX5_digest_260 ?_
                                          refine lv_aload_n C.x C.b dX5_digest_261 rfl (lv_at hl 3 rfl) ?_
                                          refine lv_iload C.x C.b dX5_digest_262 (lv_at hl 2 rfl) ?_
                                          refine lv_iload C.x C.b dX5_digest_264 (lv_at hl 0 rfl) ?_
                                          refine x_cVI C hW (As := [.int (nI k), .int (nI i)]) (rest := [.long ((dgP ((((dgN (dgR (dgB (dgH pl fr nf sp (tnI pl fr tu) (beS g aw 5).1 (tcF g)) g w 9) aw 5) my (scT my fe be ex tu fr) sk cl (poM my fe be ex tu fr) k * (31 : Int64) + lN (my k)) * (31 : Int64) + lN (scT my fe be ex tu fr k)) * (31 : Int64) + lN (sk k)) * (31 : Int64) + lN (cl k)) (poM my fe be ex tu fr k) i) * ((31 : Int64)))]) (wr := [(na_1, .inl (E.2.1, 7, .inl (upN (upN (upN (upN (upN (upN (upN (fun _ => nI 0) 0 (nI pl)) 1 (tnI pl fr tu)) 2 (nI fr)) 3 (nI nf)) 4 (nI sp)) 5 ((beS g aw 5).1)) 6 (tcF g))))]) (wn := [(h0, .inr (4, [.int (nI 0), .int (nI g), .ref k1, .ref k2, .int (nI sp), .int (nI pl), .int (nI tu), .int (nI fr), .int (nI nf), .ref k3, .ref k4, .ref k5, .ref k6, .ref k7, .ref k8])), (k1, aI E 9 w), (k2, aI E 5 aw), (k3, aI E 4 my), (k4, aI E 120 fe), (k5, aI E 44 be), (k6, aI E 4 sk), (k7, aI E 4 cl), (k8, aI E 40 ex), (na_1, .inl (E.2.1, 7, .inl (upN (upN (upN (upN (upN (upN (upN (fun _ => nI 0) 0 (nI pl)) 1 (tnI pl fr tu)) 2 (nI fr)) 3 (nI nf)) 4 (nI sp)) 5 ((beS g aw 5).1)) 6 (tcF g))))]) (Cn := RX5) (met_X5_points l E h0 k1 k2 k3 k4 k5 k6 k7 k8 (nI 0) g sp pl tu fr nf w aw my fe be sk cl ex k i (by omega) (by omega) (by omega) (by omega) hmy hbe hex) gX5_digest_X5_points rfl 2 rfl ⟨rfl, rfl⟩ ⟨rfl, by decide +kernel, by decide +kernel, by decide +kernel⟩ ⟨Nat.le_of_ble_eq_true rfl, Nat.le_of_ble_eq_true rfl⟩ [0, 1, 2, 3, 4, 5, 6, 7, 8] [9] [1, 2, 3, 4, 5, 6, 7, 8, 9, 0] rfl (by decide) rfl (by decide) (by decide) rfl (by decide) 0 4 rfl rfl hl.1 rfl (Nat.le_of_ble_eq_true rfl) dX5_digest_266 ⟨Nat.le_of_ble_eq_true rfl, Nat.le_of_ble_eq_true rfl⟩ (fun H locs hW => ?_)
                                          have e5 := poM_le (be := be) (ex := ex) hfe hmy tu fr k i
                                          refine lv_i2l (v := lN (poM my fe be ex tu fr k i)) C.x C.b dX5_digest_269 (nI_l (by omega)) ?_
                                          refine lv_ladd C.x C.b dX5_digest_270 ?_
                                          refine lv_lstore_n (lv' := [(2, .long (((dgP ((((dgN (dgR (dgB (dgH pl fr nf sp (tnI pl fr tu) (beS g aw 5).1 (tcF g)) g w 9) aw 5) my (scT my fe be ex tu fr) sk cl (poM my fe be ex tu fr) k * (31 : Int64) + lN (my k)) * (31 : Int64) + lN (scT my fe be ex tu fr k)) * (31 : Int64) + lN (sk k)) * (31 : Int64) + lN (cl k)) (poM my fe be ex tu fr k) i) * ((31 : Int64))) + (lN (poM my fe be ex tu fr k i)))), (5, .int (nI i)), (4, .int (nI k)), (0, .ref h0)]) C.x C.b dX5_digest_271 rfl hl (by decide) rfl (fun ls hl => ?_)
                                          refine lv_iinc (k := 1) (v := nI (i + 1)) (lv' := [(5, .int (nI (i + 1))), (2, .long (((dgP ((((dgN (dgR (dgB (dgH pl fr nf sp (tnI pl fr tu) (beS g aw 5).1 (tcF g)) g w 9) aw 5) my (scT my fe be ex tu fr) sk cl (poM my fe be ex tu fr) k * (31 : Int64) + lN (my k)) * (31 : Int64) + lN (scT my fe be ex tu fr k)) * (31 : Int64) + lN (sk k)) * (31 : Int64) + lN (cl k)) (poM my fe be ex tu fr k) i) * ((31 : Int64))) + (lN (poM my fe be ex tu fr k i)))), (4, .int (nI k)), (0, .ref h0)]) C.x C.b dX5_digest_272 hl rfl (z_inc i 1) (by decide) rfl (fun ls hl => ?_)
                                          refine lv_goto (tgt := 249) C.x C.b dX5_digest_275 (by decide) ?_
                                          exact ih16 (i + 1) (by omega) (by omega)  _ _ _ (hW.to rfl) (lv_to (lv_sub (l' := [(5, .int (nI (i + 1))), (2, .long (((dgP ((((dgN (dgR (dgB (dgH pl fr nf sp (tnI pl fr tu) (beS g aw 5).1 (tcF g)) g w 9) aw 5) my (scT my fe be ex tu fr) sk cl (poM my fe be ex tu fr) k * (31 : Int64) + lN (my k)) * (31 : Int64) + lN (scT my fe be ex tu fr k)) * (31 : Int64) + lN (sk k)) * (31 : Int64) + lN (cl k)) (poM my fe be ex tu fr k) i) * ((31 : Int64))) + (lN (poM my fe be ex tu fr k i)))), (4, .int (nI k)), (0, .ref h0)]) hl [0, 1, 2, 3] rfl) (by first | rfl | (simp [dgP, dgN, dgB, dgR, c_2, c_3, c_4, c_5, c_6, c_7, c_8, c_9, c_11, c_13, c_15, c_17]; done) | (rw [if_pos (by omega)]; done) | (rw [if_neg (by omega)]; done) | (exfalso; omega) | (simp only [dgP, dgN, dgB, dgR]; (repeat' split) <;> first | rfl | contradiction | (exfalso; omega))))
                                    exact lp_16 (10 + 1) 0 (by omega) (by omega)  _ _ _ (hW.to rfl) (lv_to (lv_sub (l' := [(5, .int (nI 0)), (2, .long (((((((((dgN (dgR (dgB (dgH pl fr nf sp (tnI pl fr tu) (beS g aw 5).1 (tcF g)) g w 9) aw 5) my (scT my fe be ex tu fr) sk cl (poM my fe be ex tu fr) k) * ((31 : Int64))) + (lN (my k))) * ((31 : Int64))) + (lN (scT my fe be ex tu fr k))) * ((31 : Int64))) + (lN (sk k))) * ((31 : Int64))) + (lN (cl k)))), (4, .int (nI k)), (0, .ref h0)]) hl [0, 1, 2, 3] rfl) rfl)
                              exact lp_14 (pl + 1) 0 (by omega) (by omega)  _ _ _ (hW.to rfl) (lv_to (lv_sub (l' := [(4, .int (nI 0)), (2, .long (dgR (dgB (dgH pl fr nf sp (tnI pl fr tu) (beS g aw 5).1 (tcF g)) g w 9) aw 5)), (0, .ref h0)]) hl [0, 1, 2] rfl) rfl)
                            · refine lv_lload_n C.x C.b dX5_digest_160 rfl (lv_at hl 1 rfl) ?_
                              refine lv_ldc2 (v := (31)) C.x C.b C.ow (C.ts (.constantLong RX5 173 (31)) (by decide +kernel)) dX5_digest_161 ?_
                              refine lv_lmul C.x C.b dX5_digest_164 ?_
                              refine lv_aload_n C.x C.b dX5_digest_165 rfl (lv_at hl 2 rfl) ?_
                              refine x_get C hW 0 4 3 (Cn := RX5) (T := TX5) (N := 15) rfl rfl (by decide) hinX5 hf17 rfl dX5_digest_166 ?_
                              refine lv_iload C.x C.b dX5_digest_169 (lv_at hl 0 rfl) ?_
                              refine x_ald C hW 2 i rfl rfl (by omega) (by decide) dX5_digest_171 ?_
                              have e1 := ha i
                              refine lv_i2l (v := lN (aw i)) C.x C.b dX5_digest_172 (nI_l (by omega)) ?_
                              refine lv_ladd C.x C.b dX5_digest_173 ?_
                              refine lv_lstore_n (lv' := [(2, .long (((dgR (dgB (dgH pl fr nf sp (tnI pl fr tu) (beS g aw 5).1 (tcF g)) g w 9) aw i) * ((31 : Int64))) + (lN (aw i)))), (4, .int (nI i)), (0, .ref h0)]) C.x C.b dX5_digest_174 rfl hl (by decide) rfl (fun ls hl => ?_)
                              refine lv_iinc (k := 1) (v := nI (i + 1)) (lv' := [(4, .int (nI (i + 1))), (2, .long (((dgR (dgB (dgH pl fr nf sp (tnI pl fr tu) (beS g aw 5).1 (tcF g)) g w 9) aw i) * ((31 : Int64))) + (lN (aw i)))), (0, .ref h0)]) C.x C.b dX5_digest_175 hl rfl (z_inc i 1) (by decide) rfl (fun ls hl => ?_)
                              refine lv_goto (tgt := 154) C.x C.b dX5_digest_178 (by decide) ?_
                              exact ih12 (i + 1) (by omega) (by omega)  _ _ _ (hW.to rfl) (lv_to (lv_sub (l' := [(4, .int (nI (i + 1))), (2, .long (((dgR (dgB (dgH pl fr nf sp (tnI pl fr tu) (beS g aw 5).1 (tcF g)) g w 9) aw i) * ((31 : Int64))) + (lN (aw i)))), (0, .ref h0)]) hl [0, 1, 2] rfl) (by first | rfl | (simp [dgP, dgN, dgB, dgR, c_2, c_3, c_4, c_5, c_6, c_7, c_8, c_9, c_11, c_13]; done) | (rw [if_pos (by omega)]; done) | (rw [if_neg (by omega)]; done) | (exfalso; omega) | (simp only [dgP, dgN, dgB, dgR]; (repeat' split) <;> first | rfl | contradiction | (exfalso; omega))))
                        exact lp_12 (5 + 1) 0 (by omega) (by omega)  _ _ _ (hW.to rfl) (lv_to (lv_sub (l' := [(4, .int (nI 0)), (2, .long (dgB (dgH pl fr nf sp (tnI pl fr tu) (beS g aw 5).1 (tcF g)) g w 9)), (0, .ref h0)]) hl [0, 1, 2] rfl) rfl)
                      · refine lv_lload_n C.x C.b dX5_digest_115 rfl (lv_at hl 1 rfl) ?_
                        refine lv_ldc2 (v := (31)) C.x C.b C.ow (C.ts (.constantLong RX5 173 (31)) (by decide +kernel)) dX5_digest_116 ?_
                        refine lv_lmul C.x C.b dX5_digest_119 ?_
                        refine lv_aload_n C.x C.b dX5_digest_120 rfl (lv_at hl 2 rfl) ?_
                        refine x_get C hW 0 4 1 (Cn := RX5) (T := TX5) (N := 15) rfl rfl (by decide) hinX5 hf9 rfl dX5_digest_121 ?_
                        refine lv_iload C.x C.b dX5_digest_124 (lv_at hl 0 rfl) ?_
                        refine x_ishr C (by omega) (by omega) dX5_digest_126 ?_
                        refine lv_iconst (v := nI 1) C.x C.b dX5_digest_127 (by decide) ?_
                        refine x_iand1 C dX5_digest_128 ?_
                        refine lv_i2l (v := lN ((g / 2 ^ i) % 2)) C.x C.b dX5_digest_129 (nI_l (by omega)) ?_
                        refine lv_ladd C.x C.b dX5_digest_130 ?_
                        refine lv_ldc2 (v := (31)) C.x C.b C.ow (C.ts (.constantLong RX5 173 (31)) (by decide +kernel)) dX5_digest_131 ?_
                        refine lv_lmul C.x C.b dX5_digest_134 ?_
                        refine lv_aload_n C.x C.b dX5_digest_135 rfl (lv_at hl 2 rfl) ?_
                        refine x_get C hW 0 4 2 (Cn := RX5) (T := TX5) (N := 15) rfl rfl (by decide) hinX5 hf13 rfl dX5_digest_136 ?_
                        refine lv_iload C.x C.b dX5_digest_139 (lv_at hl 0 rfl) ?_
                        refine x_ald C hW 1 i rfl rfl (by omega) (by decide) dX5_digest_141 ?_
                        have e1 := hw i
                        refine lv_i2l (v := lN (w i)) C.x C.b dX5_digest_142 (nI_l (by omega)) ?_
                        refine lv_ladd C.x C.b dX5_digest_143 ?_
                        refine lv_lstore_n (lv' := [(2, .long (((((dgB (dgH pl fr nf sp (tnI pl fr tu) (beS g aw 5).1 (tcF g)) g w i) * ((31 : Int64))) + (lN ((g / 2 ^ i) % 2))) * ((31 : Int64))) + (lN (w i)))), (4, .int (nI i)), (0, .ref h0)]) C.x C.b dX5_digest_144 rfl hl (by decide) rfl (fun ls hl => ?_)
                        refine lv_iinc (k := 1) (v := nI (i + 1)) (lv' := [(4, .int (nI (i + 1))), (2, .long (((((dgB (dgH pl fr nf sp (tnI pl fr tu) (beS g aw 5).1 (tcF g)) g w i) * ((31 : Int64))) + (lN ((g / 2 ^ i) % 2))) * ((31 : Int64))) + (lN (w i)))), (0, .ref h0)]) C.x C.b dX5_digest_145 hl rfl (z_inc i 1) (by decide) rfl (fun ls hl => ?_)
                        refine lv_goto (tgt := 108) C.x C.b dX5_digest_148 (by decide) ?_
                        exact ih10 (i + 1) (by omega) (by omega)  _ _ _ (hW.to rfl) (lv_to (lv_sub (l' := [(4, .int (nI (i + 1))), (2, .long (((((dgB (dgH pl fr nf sp (tnI pl fr tu) (beS g aw 5).1 (tcF g)) g w i) * ((31 : Int64))) + (lN ((g / 2 ^ i) % 2))) * ((31 : Int64))) + (lN (w i)))), (0, .ref h0)]) hl [0, 1, 2] rfl) (by first | rfl | (simp [dgP, dgN, dgB, dgR, c_2, c_3, c_4, c_5, c_6, c_7, c_8, c_9, c_11]; done) | (rw [if_pos (by omega)]; done) | (rw [if_neg (by omega)]; done) | (exfalso; omega) | (simp only [dgP, dgN, dgB, dgR]; (repeat' split) <;> first | rfl | contradiction | (exfalso; omega))))
                  exact lp_10 (9 + 1) 0 (by omega) (by omega)  _ _ _ (hW.to rfl) (lv_to (lv_sub (l' := [(4, .int (nI 0)), (2, .long ((((((((((((((((1999 : Int64)) * ((31 : Int64))) + (lN pl)) * ((31 : Int64))) + (Int32.toInt64 (tnI pl fr tu))) * ((31 : Int64))) + (lN fr)) * ((31 : Int64))) + (lN nf)) * ((31 : Int64))) + (lN sp)) * ((31 : Int64))) + (Int32.toInt64 ((beS g aw 5).1))) * ((31 : Int64))) + (Int32.toInt64 (tcF g)))), (0, .ref h0)]) hl [0, 2, 6] rfl) rfl)
                · exact absurd (by decide) c_9

set_option maxHeartbeats 4000000 in
set_option maxRecDepth 100000 in
theorem met_X0_init (l : Launch) (E : EV) (h0 : Nat)  : MC l yX0_init wsX0_init { frames := 1, cells := 1, slots := 9, locals := 12 } E [.ref h0] [(h0, .inr (0, [.null, .int ((0 : Int32)), .int ((0 : Int32))]))] 1 9 (fun u => ∃ q1 : Nat, u = [(h0, .inr (0, [.ref q1, .int (nI 511), .int (nI 3)])), (q1, aI E 9 (fun _ => 0))]) := by
  refine sC (own := RX0) (cc := cX0_init) (maxL := 1) rfl (by decide) rfl (Nat.le_of_ble_eq_true rfl) ?_
  intro p e s m below meth c C hnm ls hl hW
  have hl : lv_has ls 1 [(0, .ref h0)] := hl
  have hW : WD E _ s [(h0, .inr (0, [.null, .int ((0 : Int32)), .int ((0 : Int32))]))] s.heap [] := hW
  have hinX0 : ∀ w ∈ u_ws RX0 TX0 3, w ∈ wsX0_init := by decide +kernel
  have hf9 : Cond.fieldLink RX0 9 (TX0 0).1 (TX0 0).2.1 (TX0 0).2.2.1 ∈ wsX0_init := by decide +kernel
  have hf17 : Cond.fieldLink RX0 17 (TX0 1).1 (TX0 1).2.1 (TX0 1).2.2.1 ∈ wsX0_init := by decide +kernel
  have hf21 : Cond.fieldLink RX0 21 (TX0 2).1 (TX0 2).2.1 (TX0 2).2.2.1 ∈ wsX0_init := by decide +kernel
  refine lv_aload_n C.x C.b dX0_init_0 rfl (lv_at hl 0 rfl) ?_
  refine x_obj C (idx := 3) (by decide +kernel) (by decide +kernel) (by decide +kernel) hl.1 rfl (Nat.le_of_ble_eq_true rfl) (Nat.le_of_ble_eq_true rfl) dX0_init_1 ?_
  refine lv_aload_n C.x C.b dX0_init_4 rfl (lv_at hl 0 rfl) ?_
  refine lv_bipush (v := nI 9) C.x C.b dX0_init_5 (by decide) ?_
  refine x_newa C hW (N' := 9) (by decide +kernel) rfl (by decide) (Nat.le_of_ble_eq_true rfl) (Nat.le_of_ble_eq_true rfl) dX0_init_7 (fun na_1 H hW => ?_)
  have hW : WD E _ s [(h0, .inr (0, [.null, .int ((0 : Int32)), .int ((0 : Int32))])), (na_1, aI E 9 (fun _ => 0))] H _ := hW
  refine x_putr C hW 0 0 0 (ty := .array .int) (Cn := RX0) (T := TX0) (N := 3) (w' := [(h0, .inr (0, [.ref na_1, .int ((0 : Int32)), .int ((0 : Int32))])), (na_1, aI E 9 (fun _ => 0))]) tyX0 tyX0_ok nmX0 rfl rfl (by decide) hinX0 hf9 rfl hnm rfl (by decide +kernel) rfl rfl (Nat.le_of_ble_eq_true rfl) dX0_init_9 rfl (fun H locs hW => ?_)
  refine lv_aload_n C.x C.b dX0_init_12 rfl (lv_at hl 0 rfl) ?_
  refine lv_sipush (v := nI 511) C.x C.b dX0_init_13 (by decide) ?_
  refine x_put C hW 0 0 1 (Cn := RX0) (T := TX0) (N := 3) (w' := [(h0, .inr (0, [.ref na_1, .int (nI 511), .int ((0 : Int32))])), (na_1, aI E 9 (fun _ => 0))]) tyX0 tyX0_ok nmX0 rfl rfl (by decide) hinX0 hf17 rfl (by decide +kernel) (Nat.le_of_ble_eq_true rfl) dX0_init_16 rfl (fun H locs hW => ?_)
  refine lv_aload_n C.x C.b dX0_init_19 rfl (lv_at hl 0 rfl) ?_
  refine lv_iconst (v := nI 3) C.x C.b dX0_init_20 (by decide) ?_
  refine x_put C hW 0 0 2 (Cn := RX0) (T := TX0) (N := 3) (w' := [(h0, .inr (0, [.ref na_1, .int (nI 511), .int (nI 3)])), (na_1, aI E 9 (fun _ => 0))]) tyX0 tyX0_ok nmX0 rfl rfl (by decide) hinX0 hf21 rfl (by decide +kernel) (Nat.le_of_ble_eq_true rfl) dX0_init_21 rfl (fun H locs hW => ?_)
  exact x_vretC C hW ⟨na_1, rfl⟩ rfl rfl dX0_init_24

set_option maxHeartbeats 4000000 in
set_option maxRecDepth 100000 in
theorem met_X2_init (l : Launch) (E : EV) (h0 : Nat)  : MC l yX2_init wsX2_init { frames := 1, cells := 1, slots := 5, locals := 12 } E [.ref h0] [(h0, .inr (1, [.null]))] 1 5 (fun u => ∃ q1 : Nat, u = [(h0, .inr (1, [.ref q1])), (q1, aI E 5 (fun _ => 0))]) := by
  refine sC (own := RX2) (cc := cX2_init) (maxL := 1) rfl (by decide) rfl (Nat.le_of_ble_eq_true rfl) ?_
  intro p e s m below meth c C hnm ls hl hW
  have hl : lv_has ls 1 [(0, .ref h0)] := hl
  have hW : WD E _ s [(h0, .inr (1, [.null]))] s.heap [] := hW
  have hinX2 : ∀ w ∈ u_ws RX2 TX2 1, w ∈ wsX2_init := by decide +kernel
  have hf9 : Cond.fieldLink RX2 9 (TX2 0).1 (TX2 0).2.1 (TX2 0).2.2.1 ∈ wsX2_init := by decide +kernel
  refine lv_aload_n C.x C.b dX2_init_0 rfl (lv_at hl 0 rfl) ?_
  refine x_obj C (idx := 3) (by decide +kernel) (by decide +kernel) (by decide +kernel) hl.1 rfl (Nat.le_of_ble_eq_true rfl) (Nat.le_of_ble_eq_true rfl) dX2_init_1 ?_
  refine lv_aload_n C.x C.b dX2_init_4 rfl (lv_at hl 0 rfl) ?_
  refine lv_iconst (v := nI 5) C.x C.b dX2_init_5 (by decide) ?_
  refine x_newa C hW (N' := 5) (by decide +kernel) rfl (by decide) (Nat.le_of_ble_eq_true rfl) (Nat.le_of_ble_eq_true rfl) dX2_init_6 (fun na_1 H hW => ?_)
  have hW : WD E _ s [(h0, .inr (1, [.null])), (na_1, aI E 5 (fun _ => 0))] H _ := hW
  refine x_putr C hW 0 1 0 (ty := .array .int) (Cn := RX2) (T := TX2) (N := 1) (w' := [(h0, .inr (1, [.ref na_1])), (na_1, aI E 5 (fun _ => 0))]) tyX2 tyX2_ok nmX2 rfl rfl (by decide) hinX2 hf9 rfl hnm rfl (by decide +kernel) rfl rfl (Nat.le_of_ble_eq_true rfl) dX2_init_8 rfl (fun H locs hW => ?_)
  exact x_vretC C hW ⟨na_1, rfl⟩ rfl rfl dX2_init_11

set_option maxHeartbeats 4000000 in
set_option maxRecDepth 100000 in
theorem met_X3_init (l : Launch) (E : EV) (h0 : Nat)  : MC l yX3_init wsX3_init { frames := 1, cells := 4, slots := 60, locals := 12 } E [.ref h0] [(h0, .inr (2, [.null, .null, .null, .null, .int ((0 : Int32))]))] 4 60 (fun u => ∃ q1 q2 q3 q4 : Nat, u = [(h0, .inr (2, [.ref q1, .ref q2, .ref q3, .ref q4, .int (0 : Int32)])), (q1, aI E 30 (fun _ => 0)), (q2, aI E 10 (fun _ => 0)), (q3, aI E 10 (fun _ => 0)), (q4, aI E 10 (fun _ => 0))]) := by
  refine sC (own := RX3) (cc := cX3_init) (maxL := 1) rfl (by decide) rfl (Nat.le_of_ble_eq_true rfl) ?_
  intro p e s m below meth c C hnm ls hl hW
  have hl : lv_has ls 1 [(0, .ref h0)] := hl
  have hW : WD E _ s [(h0, .inr (2, [.null, .null, .null, .null, .int ((0 : Int32))]))] s.heap [] := hW
  have hinX3 : ∀ w ∈ u_ws RX3 TX3 5, w ∈ wsX3_init := by decide +kernel
  have hf9 : Cond.fieldLink RX3 9 (TX3 0).1 (TX3 0).2.1 (TX3 0).2.2.1 ∈ wsX3_init := by decide +kernel
  have hf15 : Cond.fieldLink RX3 15 (TX3 1).1 (TX3 1).2.1 (TX3 1).2.2.1 ∈ wsX3_init := by decide +kernel
  have hf18 : Cond.fieldLink RX3 18 (TX3 2).1 (TX3 2).2.1 (TX3 2).2.2.1 ∈ wsX3_init := by decide +kernel
  have hf21 : Cond.fieldLink RX3 21 (TX3 3).1 (TX3 3).2.1 (TX3 3).2.2.1 ∈ wsX3_init := by decide +kernel
  refine lv_aload_n C.x C.b dX3_init_0 rfl (lv_at hl 0 rfl) ?_
  refine x_obj C (idx := 3) (by decide +kernel) (by decide +kernel) (by decide +kernel) hl.1 rfl (Nat.le_of_ble_eq_true rfl) (Nat.le_of_ble_eq_true rfl) dX3_init_1 ?_
  refine lv_aload_n C.x C.b dX3_init_4 rfl (lv_at hl 0 rfl) ?_
  refine lv_bipush (v := nI 30) C.x C.b dX3_init_5 (by decide) ?_
  refine x_newa C hW (N' := 30) (by decide +kernel) rfl (by decide) (Nat.le_of_ble_eq_true rfl) (Nat.le_of_ble_eq_true rfl) dX3_init_7 (fun na_1 H hW => ?_)
  have hW : WD E _ s [(h0, .inr (2, [.null, .null, .null, .null, .int ((0 : Int32))])), (na_1, aI E 30 (fun _ => 0))] H _ := hW
  refine x_putr C hW 0 2 0 (ty := .array .int) (Cn := RX3) (T := TX3) (N := 5) (w' := [(h0, .inr (2, [.ref na_1, .null, .null, .null, .int ((0 : Int32))])), (na_1, aI E 30 (fun _ => 0))]) tyX3 tyX3_ok nmX3 rfl rfl (by decide) hinX3 hf9 rfl hnm rfl (by decide +kernel) rfl rfl (Nat.le_of_ble_eq_true rfl) dX3_init_9 rfl (fun H locs hW => ?_)
  refine lv_aload_n C.x C.b dX3_init_12 rfl (lv_at hl 0 rfl) ?_
  refine lv_bipush (v := nI 10) C.x C.b dX3_init_13 (by decide) ?_
  refine x_newa C hW (N' := 10) (by decide +kernel) rfl (by decide) (Nat.le_of_ble_eq_true rfl) (Nat.le_of_ble_eq_true rfl) dX3_init_15 (fun na_2 H hW => ?_)
  have hW : WD E _ s [(h0, .inr (2, [.ref na_1, .null, .null, .null, .int ((0 : Int32))])), (na_1, aI E 30 (fun _ => 0)), (na_2, aI E 10 (fun _ => 0))] H _ := hW
  refine x_putr C hW 0 2 1 (ty := .array .int) (Cn := RX3) (T := TX3) (N := 5) (w' := [(h0, .inr (2, [.ref na_1, .ref na_2, .null, .null, .int ((0 : Int32))])), (na_1, aI E 30 (fun _ => 0)), (na_2, aI E 10 (fun _ => 0))]) tyX3 tyX3_ok nmX3 rfl rfl (by decide) hinX3 hf15 rfl hnm rfl (by decide +kernel) rfl rfl (Nat.le_of_ble_eq_true rfl) dX3_init_17 rfl (fun H locs hW => ?_)
  refine lv_aload_n C.x C.b dX3_init_20 rfl (lv_at hl 0 rfl) ?_
  refine lv_bipush (v := nI 10) C.x C.b dX3_init_21 (by decide) ?_
  refine x_newa C hW (N' := 10) (by decide +kernel) rfl (by decide) (Nat.le_of_ble_eq_true rfl) (Nat.le_of_ble_eq_true rfl) dX3_init_23 (fun na_3 H hW => ?_)
  have hW : WD E _ s [(h0, .inr (2, [.ref na_1, .ref na_2, .null, .null, .int ((0 : Int32))])), (na_1, aI E 30 (fun _ => 0)), (na_2, aI E 10 (fun _ => 0)), (na_3, aI E 10 (fun _ => 0))] H _ := hW
  refine x_putr C hW 0 2 2 (ty := .array .int) (Cn := RX3) (T := TX3) (N := 5) (w' := [(h0, .inr (2, [.ref na_1, .ref na_2, .ref na_3, .null, .int ((0 : Int32))])), (na_1, aI E 30 (fun _ => 0)), (na_2, aI E 10 (fun _ => 0)), (na_3, aI E 10 (fun _ => 0))]) tyX3 tyX3_ok nmX3 rfl rfl (by decide) hinX3 hf18 rfl hnm rfl (by decide +kernel) rfl rfl (Nat.le_of_ble_eq_true rfl) dX3_init_25 rfl (fun H locs hW => ?_)
  refine lv_aload_n C.x C.b dX3_init_28 rfl (lv_at hl 0 rfl) ?_
  refine lv_bipush (v := nI 10) C.x C.b dX3_init_29 (by decide) ?_
  refine x_newa C hW (N' := 10) (by decide +kernel) rfl (by decide) (Nat.le_of_ble_eq_true rfl) (Nat.le_of_ble_eq_true rfl) dX3_init_31 (fun na_4 H hW => ?_)
  have hW : WD E _ s [(h0, .inr (2, [.ref na_1, .ref na_2, .ref na_3, .null, .int ((0 : Int32))])), (na_1, aI E 30 (fun _ => 0)), (na_2, aI E 10 (fun _ => 0)), (na_3, aI E 10 (fun _ => 0)), (na_4, aI E 10 (fun _ => 0))] H _ := hW
  refine x_putr C hW 0 2 3 (ty := .array .int) (Cn := RX3) (T := TX3) (N := 5) (w' := [(h0, .inr (2, [.ref na_1, .ref na_2, .ref na_3, .ref na_4, .int ((0 : Int32))])), (na_1, aI E 30 (fun _ => 0)), (na_2, aI E 10 (fun _ => 0)), (na_3, aI E 10 (fun _ => 0)), (na_4, aI E 10 (fun _ => 0))]) tyX3 tyX3_ok nmX3 rfl rfl (by decide) hinX3 hf21 rfl hnm rfl (by decide +kernel) rfl rfl (Nat.le_of_ble_eq_true rfl) dX3_init_33 rfl (fun H locs hW => ?_)
  exact x_vretC C hW ⟨na_1, na_2, na_3, na_4, rfl⟩ rfl rfl dX3_init_36

set_option maxHeartbeats 4000000 in
set_option maxRecDepth 100000 in
theorem met_X5_init (l : Launch) (E : EV) (h0 : Nat)  : MC l yX5_init wsX5_init { frames := 1, cells := 8, slots := 230, locals := 12 } E [.ref h0] [(h0, .inr (4, [.int ((0 : Int32)), .int ((0 : Int32)), .null, .null, .int ((0 : Int32)), .int ((0 : Int32)), .int ((0 : Int32)), .int ((0 : Int32)), .int ((0 : Int32)), .null, .null, .null, .null, .null, .null]))] 8 230 (fun u => ∃ k1 k2 k3 k4 k5 k6 k7 k8 : Nat, u = [(h0, .inr (4, [.int (0 : Int32), .int (nI 511), .ref k1, .ref k2, .int (nI 3), .int (0 : Int32), .int (0 : Int32), .int (0 : Int32), .int (0 : Int32), .ref k3, .ref k4, .ref k5, .ref k6, .ref k7, .ref k8])), (k1, aI E 9 (fun _ => 0)), (k2, aI E 5 (fun _ => 0)), (k3, aI E 4 (fun _ => 0)), (k4, aI E 120 (fun _ => 0)), (k5, aI E 44 (fun _ => 0)), (k6, aI E 4 (fun _ => 0)), (k7, aI E 4 (fun _ => 0)), (k8, aI E 40 (fun _ => 0))]) := by
  refine sC (own := RX5) (cc := cX5_init) (maxL := 1) rfl (by decide) rfl (Nat.le_of_ble_eq_true rfl) ?_
  intro p e s m below meth c C hnm ls hl hW
  have hl : lv_has ls 1 [(0, .ref h0)] := hl
  have hW : WD E _ s [(h0, .inr (4, [.int ((0 : Int32)), .int ((0 : Int32)), .null, .null, .int ((0 : Int32)), .int ((0 : Int32)), .int ((0 : Int32)), .int ((0 : Int32)), .int ((0 : Int32)), .null, .null, .null, .null, .null, .null]))] s.heap [] := hW
  have hinX5 : ∀ w ∈ u_ws RX5 TX5 15, w ∈ wsX5_init := by decide +kernel
  have hf9 : Cond.fieldLink RX5 9 (TX5 1).1 (TX5 1).2.1 (TX5 1).2.2.1 ∈ wsX5_init := by decide +kernel
  have hf13 : Cond.fieldLink RX5 13 (TX5 2).1 (TX5 2).2.1 (TX5 2).2.2.1 ∈ wsX5_init := by decide +kernel
  have hf17 : Cond.fieldLink RX5 17 (TX5 3).1 (TX5 3).2.1 (TX5 3).2.2.1 ∈ wsX5_init := by decide +kernel
  have hf20 : Cond.fieldLink RX5 20 (TX5 4).1 (TX5 4).2.1 (TX5 4).2.2.1 ∈ wsX5_init := by decide +kernel
  have hf23 : Cond.fieldLink RX5 23 (TX5 9).1 (TX5 9).2.1 (TX5 9).2.2.1 ∈ wsX5_init := by decide +kernel
  have hf26 : Cond.fieldLink RX5 26 (TX5 10).1 (TX5 10).2.1 (TX5 10).2.2.1 ∈ wsX5_init := by decide +kernel
  have hf29 : Cond.fieldLink RX5 29 (TX5 11).1 (TX5 11).2.1 (TX5 11).2.2.1 ∈ wsX5_init := by decide +kernel
  have hf32 : Cond.fieldLink RX5 32 (TX5 12).1 (TX5 12).2.1 (TX5 12).2.2.1 ∈ wsX5_init := by decide +kernel
  have hf35 : Cond.fieldLink RX5 35 (TX5 13).1 (TX5 13).2.1 (TX5 13).2.2.1 ∈ wsX5_init := by decide +kernel
  have hf38 : Cond.fieldLink RX5 38 (TX5 14).1 (TX5 14).2.1 (TX5 14).2.2.1 ∈ wsX5_init := by decide +kernel
  refine lv_aload_n C.x C.b dX5_init_0 rfl (lv_at hl 0 rfl) ?_
  refine x_obj C (idx := 1) (by decide +kernel) (by decide +kernel) (by decide +kernel) hl.1 rfl (Nat.le_of_ble_eq_true rfl) (Nat.le_of_ble_eq_true rfl) dX5_init_1 ?_
  refine lv_aload_n C.x C.b dX5_init_4 rfl (lv_at hl 0 rfl) ?_
  refine lv_sipush (v := nI 511) C.x C.b dX5_init_5 (by decide) ?_
  refine x_put C hW 0 4 1 (Cn := RX5) (T := TX5) (N := 15) (w' := [(h0, .inr (4, [.int ((0 : Int32)), .int (nI 511), .null, .null, .int ((0 : Int32)), .int ((0 : Int32)), .int ((0 : Int32)), .int ((0 : Int32)), .int ((0 : Int32)), .null, .null, .null, .null, .null, .null]))]) tyX5 tyX5_ok nmX5 rfl rfl (by decide) hinX5 hf9 rfl (by decide +kernel) (Nat.le_of_ble_eq_true rfl) dX5_init_8 rfl (fun H locs hW => ?_)
  refine lv_aload_n C.x C.b dX5_init_11 rfl (lv_at hl 0 rfl) ?_
  refine lv_bipush (v := nI 9) C.x C.b dX5_init_12 (by decide) ?_
  refine x_newa C hW (N' := 9) (by decide +kernel) rfl (by decide) (Nat.le_of_ble_eq_true rfl) (Nat.le_of_ble_eq_true rfl) dX5_init_14 (fun na_1 H hW => ?_)
  have hW : WD E _ s [(h0, .inr (4, [.int ((0 : Int32)), .int (nI 511), .null, .null, .int ((0 : Int32)), .int ((0 : Int32)), .int ((0 : Int32)), .int ((0 : Int32)), .int ((0 : Int32)), .null, .null, .null, .null, .null, .null])), (na_1, aI E 9 (fun _ => 0))] H _ := hW
  refine x_putr C hW 0 4 2 (ty := .array .int) (Cn := RX5) (T := TX5) (N := 15) (w' := [(h0, .inr (4, [.int ((0 : Int32)), .int (nI 511), .ref na_1, .null, .int ((0 : Int32)), .int ((0 : Int32)), .int ((0 : Int32)), .int ((0 : Int32)), .int ((0 : Int32)), .null, .null, .null, .null, .null, .null])), (na_1, aI E 9 (fun _ => 0))]) tyX5 tyX5_ok nmX5 rfl rfl (by decide) hinX5 hf13 rfl hnm rfl (by decide +kernel) rfl rfl (Nat.le_of_ble_eq_true rfl) dX5_init_16 rfl (fun H locs hW => ?_)
  refine lv_aload_n C.x C.b dX5_init_19 rfl (lv_at hl 0 rfl) ?_
  refine lv_iconst (v := nI 5) C.x C.b dX5_init_20 (by decide) ?_
  refine x_newa C hW (N' := 5) (by decide +kernel) rfl (by decide) (Nat.le_of_ble_eq_true rfl) (Nat.le_of_ble_eq_true rfl) dX5_init_21 (fun na_2 H hW => ?_)
  have hW : WD E _ s [(h0, .inr (4, [.int ((0 : Int32)), .int (nI 511), .ref na_1, .null, .int ((0 : Int32)), .int ((0 : Int32)), .int ((0 : Int32)), .int ((0 : Int32)), .int ((0 : Int32)), .null, .null, .null, .null, .null, .null])), (na_1, aI E 9 (fun _ => 0)), (na_2, aI E 5 (fun _ => 0))] H _ := hW
  refine x_putr C hW 0 4 3 (ty := .array .int) (Cn := RX5) (T := TX5) (N := 15) (w' := [(h0, .inr (4, [.int ((0 : Int32)), .int (nI 511), .ref na_1, .ref na_2, .int ((0 : Int32)), .int ((0 : Int32)), .int ((0 : Int32)), .int ((0 : Int32)), .int ((0 : Int32)), .null, .null, .null, .null, .null, .null])), (na_1, aI E 9 (fun _ => 0)), (na_2, aI E 5 (fun _ => 0))]) tyX5 tyX5_ok nmX5 rfl rfl (by decide) hinX5 hf17 rfl hnm rfl (by decide +kernel) rfl rfl (Nat.le_of_ble_eq_true rfl) dX5_init_23 rfl (fun H locs hW => ?_)
  refine lv_aload_n C.x C.b dX5_init_26 rfl (lv_at hl 0 rfl) ?_
  refine lv_iconst (v := nI 3) C.x C.b dX5_init_27 (by decide) ?_
  refine x_put C hW 0 4 4 (Cn := RX5) (T := TX5) (N := 15) (w' := [(h0, .inr (4, [.int ((0 : Int32)), .int (nI 511), .ref na_1, .ref na_2, .int (nI 3), .int ((0 : Int32)), .int ((0 : Int32)), .int ((0 : Int32)), .int ((0 : Int32)), .null, .null, .null, .null, .null, .null])), (na_1, aI E 9 (fun _ => 0)), (na_2, aI E 5 (fun _ => 0))]) tyX5 tyX5_ok nmX5 rfl rfl (by decide) hinX5 hf20 rfl (by decide +kernel) (Nat.le_of_ble_eq_true rfl) dX5_init_28 rfl (fun H locs hW => ?_)
  refine lv_aload_n C.x C.b dX5_init_31 rfl (lv_at hl 0 rfl) ?_
  refine lv_iconst (v := nI 4) C.x C.b dX5_init_32 (by decide) ?_
  refine x_newa C hW (N' := 4) (by decide +kernel) rfl (by decide) (Nat.le_of_ble_eq_true rfl) (Nat.le_of_ble_eq_true rfl) dX5_init_33 (fun na_3 H hW => ?_)
  have hW : WD E _ s [(h0, .inr (4, [.int ((0 : Int32)), .int (nI 511), .ref na_1, .ref na_2, .int (nI 3), .int ((0 : Int32)), .int ((0 : Int32)), .int ((0 : Int32)), .int ((0 : Int32)), .null, .null, .null, .null, .null, .null])), (na_1, aI E 9 (fun _ => 0)), (na_2, aI E 5 (fun _ => 0)), (na_3, aI E 4 (fun _ => 0))] H _ := hW
  refine x_putr C hW 0 4 9 (ty := .array .int) (Cn := RX5) (T := TX5) (N := 15) (w' := [(h0, .inr (4, [.int ((0 : Int32)), .int (nI 511), .ref na_1, .ref na_2, .int (nI 3), .int ((0 : Int32)), .int ((0 : Int32)), .int ((0 : Int32)), .int ((0 : Int32)), .ref na_3, .null, .null, .null, .null, .null])), (na_1, aI E 9 (fun _ => 0)), (na_2, aI E 5 (fun _ => 0)), (na_3, aI E 4 (fun _ => 0))]) tyX5 tyX5_ok nmX5 rfl rfl (by decide) hinX5 hf23 rfl hnm rfl (by decide +kernel) rfl rfl (Nat.le_of_ble_eq_true rfl) dX5_init_35 rfl (fun H locs hW => ?_)
  refine lv_aload_n C.x C.b dX5_init_38 rfl (lv_at hl 0 rfl) ?_
  refine lv_bipush (v := nI 120) C.x C.b dX5_init_39 (by decide) ?_
  refine x_newa C hW (N' := 120) (by decide +kernel) rfl (by decide) (Nat.le_of_ble_eq_true rfl) (Nat.le_of_ble_eq_true rfl) dX5_init_41 (fun na_4 H hW => ?_)
  have hW : WD E _ s [(h0, .inr (4, [.int ((0 : Int32)), .int (nI 511), .ref na_1, .ref na_2, .int (nI 3), .int ((0 : Int32)), .int ((0 : Int32)), .int ((0 : Int32)), .int ((0 : Int32)), .ref na_3, .null, .null, .null, .null, .null])), (na_1, aI E 9 (fun _ => 0)), (na_2, aI E 5 (fun _ => 0)), (na_3, aI E 4 (fun _ => 0)), (na_4, aI E 120 (fun _ => 0))] H _ := hW
  refine x_putr C hW 0 4 10 (ty := .array .int) (Cn := RX5) (T := TX5) (N := 15) (w' := [(h0, .inr (4, [.int ((0 : Int32)), .int (nI 511), .ref na_1, .ref na_2, .int (nI 3), .int ((0 : Int32)), .int ((0 : Int32)), .int ((0 : Int32)), .int ((0 : Int32)), .ref na_3, .ref na_4, .null, .null, .null, .null])), (na_1, aI E 9 (fun _ => 0)), (na_2, aI E 5 (fun _ => 0)), (na_3, aI E 4 (fun _ => 0)), (na_4, aI E 120 (fun _ => 0))]) tyX5 tyX5_ok nmX5 rfl rfl (by decide) hinX5 hf26 rfl hnm rfl (by decide +kernel) rfl rfl (Nat.le_of_ble_eq_true rfl) dX5_init_43 rfl (fun H locs hW => ?_)
  refine lv_aload_n C.x C.b dX5_init_46 rfl (lv_at hl 0 rfl) ?_
  refine lv_bipush (v := nI 44) C.x C.b dX5_init_47 (by decide) ?_
  refine x_newa C hW (N' := 44) (by decide +kernel) rfl (by decide) (Nat.le_of_ble_eq_true rfl) (Nat.le_of_ble_eq_true rfl) dX5_init_49 (fun na_5 H hW => ?_)
  have hW : WD E _ s [(h0, .inr (4, [.int ((0 : Int32)), .int (nI 511), .ref na_1, .ref na_2, .int (nI 3), .int ((0 : Int32)), .int ((0 : Int32)), .int ((0 : Int32)), .int ((0 : Int32)), .ref na_3, .ref na_4, .null, .null, .null, .null])), (na_1, aI E 9 (fun _ => 0)), (na_2, aI E 5 (fun _ => 0)), (na_3, aI E 4 (fun _ => 0)), (na_4, aI E 120 (fun _ => 0)), (na_5, aI E 44 (fun _ => 0))] H _ := hW
  refine x_putr C hW 0 4 11 (ty := .array .int) (Cn := RX5) (T := TX5) (N := 15) (w' := [(h0, .inr (4, [.int ((0 : Int32)), .int (nI 511), .ref na_1, .ref na_2, .int (nI 3), .int ((0 : Int32)), .int ((0 : Int32)), .int ((0 : Int32)), .int ((0 : Int32)), .ref na_3, .ref na_4, .ref na_5, .null, .null, .null])), (na_1, aI E 9 (fun _ => 0)), (na_2, aI E 5 (fun _ => 0)), (na_3, aI E 4 (fun _ => 0)), (na_4, aI E 120 (fun _ => 0)), (na_5, aI E 44 (fun _ => 0))]) tyX5 tyX5_ok nmX5 rfl rfl (by decide) hinX5 hf29 rfl hnm rfl (by decide +kernel) rfl rfl (Nat.le_of_ble_eq_true rfl) dX5_init_51 rfl (fun H locs hW => ?_)
  refine lv_aload_n C.x C.b dX5_init_54 rfl (lv_at hl 0 rfl) ?_
  refine lv_iconst (v := nI 4) C.x C.b dX5_init_55 (by decide) ?_
  refine x_newa C hW (N' := 4) (by decide +kernel) rfl (by decide) (Nat.le_of_ble_eq_true rfl) (Nat.le_of_ble_eq_true rfl) dX5_init_56 (fun na_6 H hW => ?_)
  have hW : WD E _ s [(h0, .inr (4, [.int ((0 : Int32)), .int (nI 511), .ref na_1, .ref na_2, .int (nI 3), .int ((0 : Int32)), .int ((0 : Int32)), .int ((0 : Int32)), .int ((0 : Int32)), .ref na_3, .ref na_4, .ref na_5, .null, .null, .null])), (na_1, aI E 9 (fun _ => 0)), (na_2, aI E 5 (fun _ => 0)), (na_3, aI E 4 (fun _ => 0)), (na_4, aI E 120 (fun _ => 0)), (na_5, aI E 44 (fun _ => 0)), (na_6, aI E 4 (fun _ => 0))] H _ := hW
  refine x_putr C hW 0 4 12 (ty := .array .int) (Cn := RX5) (T := TX5) (N := 15) (w' := [(h0, .inr (4, [.int ((0 : Int32)), .int (nI 511), .ref na_1, .ref na_2, .int (nI 3), .int ((0 : Int32)), .int ((0 : Int32)), .int ((0 : Int32)), .int ((0 : Int32)), .ref na_3, .ref na_4, .ref na_5, .ref na_6, .null, .null])), (na_1, aI E 9 (fun _ => 0)), (na_2, aI E 5 (fun _ => 0)), (na_3, aI E 4 (fun _ => 0)), (na_4, aI E 120 (fun _ => 0)), (na_5, aI E 44 (fun _ => 0)), (na_6, aI E 4 (fun _ => 0))]) tyX5 tyX5_ok nmX5 rfl rfl (by decide) hinX5 hf32 rfl hnm rfl (by decide +kernel) rfl rfl (Nat.le_of_ble_eq_true rfl) dX5_init_58 rfl (fun H locs hW => ?_)
  refine lv_aload_n C.x C.b dX5_init_61 rfl (lv_at hl 0 rfl) ?_
  refine lv_iconst (v := nI 4) C.x C.b dX5_init_62 (by decide) ?_
  refine x_newa C hW (N' := 4) (by decide +kernel) rfl (by decide) (Nat.le_of_ble_eq_true rfl) (Nat.le_of_ble_eq_true rfl) dX5_init_63 (fun na_7 H hW => ?_)
  have hW : WD E _ s [(h0, .inr (4, [.int ((0 : Int32)), .int (nI 511), .ref na_1, .ref na_2, .int (nI 3), .int ((0 : Int32)), .int ((0 : Int32)), .int ((0 : Int32)), .int ((0 : Int32)), .ref na_3, .ref na_4, .ref na_5, .ref na_6, .null, .null])), (na_1, aI E 9 (fun _ => 0)), (na_2, aI E 5 (fun _ => 0)), (na_3, aI E 4 (fun _ => 0)), (na_4, aI E 120 (fun _ => 0)), (na_5, aI E 44 (fun _ => 0)), (na_6, aI E 4 (fun _ => 0)), (na_7, aI E 4 (fun _ => 0))] H _ := hW
  refine x_putr C hW 0 4 13 (ty := .array .int) (Cn := RX5) (T := TX5) (N := 15) (w' := [(h0, .inr (4, [.int ((0 : Int32)), .int (nI 511), .ref na_1, .ref na_2, .int (nI 3), .int ((0 : Int32)), .int ((0 : Int32)), .int ((0 : Int32)), .int ((0 : Int32)), .ref na_3, .ref na_4, .ref na_5, .ref na_6, .ref na_7, .null])), (na_1, aI E 9 (fun _ => 0)), (na_2, aI E 5 (fun _ => 0)), (na_3, aI E 4 (fun _ => 0)), (na_4, aI E 120 (fun _ => 0)), (na_5, aI E 44 (fun _ => 0)), (na_6, aI E 4 (fun _ => 0)), (na_7, aI E 4 (fun _ => 0))]) tyX5 tyX5_ok nmX5 rfl rfl (by decide) hinX5 hf35 rfl hnm rfl (by decide +kernel) rfl rfl (Nat.le_of_ble_eq_true rfl) dX5_init_65 rfl (fun H locs hW => ?_)
  refine lv_aload_n C.x C.b dX5_init_68 rfl (lv_at hl 0 rfl) ?_
  refine lv_bipush (v := nI 40) C.x C.b dX5_init_69 (by decide) ?_
  refine x_newa C hW (N' := 40) (by decide +kernel) rfl (by decide) (Nat.le_of_ble_eq_true rfl) (Nat.le_of_ble_eq_true rfl) dX5_init_71 (fun na_8 H hW => ?_)
  have hW : WD E _ s [(h0, .inr (4, [.int ((0 : Int32)), .int (nI 511), .ref na_1, .ref na_2, .int (nI 3), .int ((0 : Int32)), .int ((0 : Int32)), .int ((0 : Int32)), .int ((0 : Int32)), .ref na_3, .ref na_4, .ref na_5, .ref na_6, .ref na_7, .null])), (na_1, aI E 9 (fun _ => 0)), (na_2, aI E 5 (fun _ => 0)), (na_3, aI E 4 (fun _ => 0)), (na_4, aI E 120 (fun _ => 0)), (na_5, aI E 44 (fun _ => 0)), (na_6, aI E 4 (fun _ => 0)), (na_7, aI E 4 (fun _ => 0)), (na_8, aI E 40 (fun _ => 0))] H _ := hW
  refine x_putr C hW 0 4 14 (ty := .array .int) (Cn := RX5) (T := TX5) (N := 15) (w' := [(h0, .inr (4, [.int ((0 : Int32)), .int (nI 511), .ref na_1, .ref na_2, .int (nI 3), .int ((0 : Int32)), .int ((0 : Int32)), .int ((0 : Int32)), .int ((0 : Int32)), .ref na_3, .ref na_4, .ref na_5, .ref na_6, .ref na_7, .ref na_8])), (na_1, aI E 9 (fun _ => 0)), (na_2, aI E 5 (fun _ => 0)), (na_3, aI E 4 (fun _ => 0)), (na_4, aI E 120 (fun _ => 0)), (na_5, aI E 44 (fun _ => 0)), (na_6, aI E 4 (fun _ => 0)), (na_7, aI E 4 (fun _ => 0)), (na_8, aI E 40 (fun _ => 0))]) tyX5 tyX5_ok nmX5 rfl rfl (by decide) hinX5 hf38 rfl hnm rfl (by decide +kernel) rfl rfl (Nat.le_of_ble_eq_true rfl) dX5_init_73 rfl (fun H locs hW => ?_)
  exact x_vretC C hW ⟨na_1, na_2, na_3, na_4, na_5, na_6, na_7, na_8, rfl⟩ rfl rfl dX5_init_76
