/-! PINS, 2 -/
set_option maxHeartbeats 4000000 in
set_option maxRecDepth 100000 in
theorem met_J6_bitCount_0f7a4 (l : Launch) (E : EV) (n : Nat) (hn : n < 512) : MI l yJ6_bitCount_0f7a4 wsJ6_bitCount_0f7a4 { frames := 0, cells := 0, slots := 0, locals := 0 } E [.int (nI n)] [] (nI (pcN n)) [] := by
  refine sI (own := RJ6) (cc := cJ6_bitCount_0f7a4) (maxL := 1) (ret := (some .int)) rfl (by decide) rfl (Nat.le_of_ble_eq_true rfl) ?_
  intro p e s m below meth c C hnm ls hl hW
  have hl : lv_has ls 1 [(0, .int (nI n))] := hl
  have hW : WD E _ s [] s.heap [] := hW
  have g1 := bc1_le hn
  have g2 := bc2_le g1
  have g3 := bc3_le g2
  have g4 : bc4 (bc3 (bc2 (bc1 n))) < 4096 := by unfold bc4; omega
  refine lv_iload_n C.x C.b dJ6_bitCount_0f7a4_0 rfl (lv_at hl 0 rfl) ?_
  refine lv_iload_n C.x C.b dJ6_bitCount_0f7a4_1 rfl (lv_at hl 0 rfl) ?_
  refine lv_iconst (v := nI 1) C.x C.b dJ6_bitCount_0f7a4_2 (by decide) ?_
  refine lv_iushr (v := nI (n / 2)) C.x C.b dJ6_bitCount_0f7a4_3 (pk_ushrN (by omega) _ 1 (by decide +kernel)) ?_
  refine lv_ldcw (v := nI 1431655765) C.x C.b C.ow (C.ts (.constant RJ6 265 (1431655765)) (by decide +kernel)) dJ6_bitCount_0f7a4_4 ?_
  refine x_iand C dJ6_bitCount_0f7a4_7 ?_
  refine lv_isub C.x C.b dJ6_bitCount_0f7a4_8 ?_
  refine x_toi (y := nI (bc1 n)) (pk_sub (Nat.le_trans Nat.and_le_left (Nat.div_le_self _ _))) ?_
  refine lv_istore_n (lv' := [(0, .int (nI (bc1 n)))]) C.x C.b dJ6_bitCount_0f7a4_9 rfl hl (by decide) rfl (fun ls hl => ?_)
  refine lv_iload_n C.x C.b dJ6_bitCount_0f7a4_10 rfl (lv_at hl 0 rfl) ?_
  refine lv_ldcw (v := nI 858993459) C.x C.b C.ow (C.ts (.constant RJ6 266 (858993459)) (by decide +kernel)) dJ6_bitCount_0f7a4_11 ?_
  refine x_iand C dJ6_bitCount_0f7a4_14 ?_
  refine lv_iload_n C.x C.b dJ6_bitCount_0f7a4_15 rfl (lv_at hl 0 rfl) ?_
  refine lv_iconst (v := nI 2) C.x C.b dJ6_bitCount_0f7a4_16 (by decide) ?_
  refine lv_iushr (v := nI ((bc1 n) / 4)) C.x C.b dJ6_bitCount_0f7a4_17 (pk_ushrN (by omega) _ 2 (by decide +kernel)) ?_
  refine lv_ldcw (v := nI 858993459) C.x C.b C.ow (C.ts (.constant RJ6 266 (858993459)) (by decide +kernel)) dJ6_bitCount_0f7a4_18 ?_
  refine x_iand C dJ6_bitCount_0f7a4_21 ?_
  refine lv_iadd C.x C.b dJ6_bitCount_0f7a4_22 ?_
  refine x_toi (y := nI (bc2 (bc1 n))) (nI_add _ _) ?_
  refine lv_istore_n (lv' := [(0, .int (nI (bc2 (bc1 n))))]) C.x C.b dJ6_bitCount_0f7a4_23 rfl hl (by decide) rfl (fun ls hl => ?_)
  refine lv_iload_n C.x C.b dJ6_bitCount_0f7a4_24 rfl (lv_at hl 0 rfl) ?_
  refine lv_iload_n C.x C.b dJ6_bitCount_0f7a4_25 rfl (lv_at hl 0 rfl) ?_
  refine lv_iconst (v := nI 4) C.x C.b dJ6_bitCount_0f7a4_26 (by decide) ?_
  refine lv_iushr (v := nI ((bc2 (bc1 n)) / 16)) C.x C.b dJ6_bitCount_0f7a4_27 (pk_ushrN (by omega) _ 4 (by decide +kernel)) ?_
  refine x_iadd C dJ6_bitCount_0f7a4_28 ?_
  refine lv_ldcw (v := nI 252645135) C.x C.b C.ow (C.ts (.constant RJ6 267 (252645135)) (by decide +kernel)) dJ6_bitCount_0f7a4_29 ?_
  refine lv_iand C.x C.b dJ6_bitCount_0f7a4_32 ?_
  refine x_toi (y := nI (bc3 (bc2 (bc1 n)))) (z_and _ _) ?_
  refine lv_istore_n (lv' := [(0, .int (nI (bc3 (bc2 (bc1 n)))))]) C.x C.b dJ6_bitCount_0f7a4_33 rfl hl (by decide) rfl (fun ls hl => ?_)
  refine lv_iload_n C.x C.b dJ6_bitCount_0f7a4_34 rfl (lv_at hl 0 rfl) ?_
  refine lv_iload_n C.x C.b dJ6_bitCount_0f7a4_35 rfl (lv_at hl 0 rfl) ?_
  refine lv_bipush (v := nI 8) C.x C.b dJ6_bitCount_0f7a4_36 (by decide) ?_
  refine lv_iushr (v := nI ((bc3 (bc2 (bc1 n))) / 256)) C.x C.b dJ6_bitCount_0f7a4_38 (pk_ushrN (by omega) _ 8 (by decide +kernel)) ?_
  refine lv_iadd C.x C.b dJ6_bitCount_0f7a4_39 ?_
  refine x_toi (y := nI (bc4 (bc3 (bc2 (bc1 n))))) (nI_add _ _) ?_
  refine lv_istore_n (lv' := [(0, .int (nI (bc4 (bc3 (bc2 (bc1 n))))))]) C.x C.b dJ6_bitCount_0f7a4_40 rfl hl (by decide) rfl (fun ls hl => ?_)
  refine lv_iload_n C.x C.b dJ6_bitCount_0f7a4_41 rfl (lv_at hl 0 rfl) ?_
  refine lv_iload_n C.x C.b dJ6_bitCount_0f7a4_42 rfl (lv_at hl 0 rfl) ?_
  refine lv_bipush (v := nI 16) C.x C.b dJ6_bitCount_0f7a4_43 (by decide) ?_
  refine lv_iushr (v := nI ((bc4 (bc3 (bc2 (bc1 n)))) / 65536)) C.x C.b dJ6_bitCount_0f7a4_45 (pk_ushrN (by omega) _ 16 (by decide +kernel)) ?_
  refine lv_iadd C.x C.b dJ6_bitCount_0f7a4_46 ?_
  refine x_toi (y := nI (bc5 (bc4 (bc3 (bc2 (bc1 n)))))) (nI_add _ _) ?_
  refine lv_istore_n (lv' := [(0, .int (nI (bc5 (bc4 (bc3 (bc2 (bc1 n)))))))]) C.x C.b dJ6_bitCount_0f7a4_47 rfl hl (by decide) rfl (fun ls hl => ?_)
  refine lv_iload_n C.x C.b dJ6_bitCount_0f7a4_48 rfl (lv_at hl 0 rfl) ?_
  refine lv_bipush (v := nI 63) C.x C.b dJ6_bitCount_0f7a4_49 (by decide) ?_
  refine x_iand C dJ6_bitCount_0f7a4_51 ?_
  exact x_iret C hW rfl (congrArg nI (bc_eq n hn)) rfl dJ6_bitCount_0f7a4_52

set_option maxHeartbeats 4000000 in
set_option maxRecDepth 100000 in
theorem met_X1_felled (l : Launch) (E : EV) (g b z : Nat) (hg : g < 512) (hb : b < 5) (hz : z < 5) : MI l yX1_felled wsX1_felled { frames := 5, cells := 0, slots := 0, locals := 121 } E [.int (nI g), .int (nI b), .int (nI z)] [] (nI (feN g b z)) [] := by
  refine sI (own := RX1) (cc := cX1_felled) (maxL := 7) (ret := (some .int)) rfl (by decide) rfl (Nat.le_of_ble_eq_true rfl) ?_
  intro p e s m below meth c C hnm ls hl hW
  have hl : lv_has ls 7 [(0, .int (nI g)), (1, .int (nI b)), (2, .int (nI z))] := hl
  have hW : WD E _ s [] s.heap [] := hW
  refine lv_iload_n C.x C.b dX1_felled_0 rfl (lv_at hl 0 rfl) ?_
  refine lv_istore_n (lv' := [(3, .int (nI g)), (0, .int (nI g)), (1, .int (nI b)), (2, .int (nI z))]) C.x C.b dX1_felled_1 rfl hl (by decide) rfl (fun ls hl => ?_)
  refine lv_iload_n C.x C.b dX1_felled_2 rfl (lv_at hl 2 rfl) ?_
  refine lv_iconst (v := nI 2) C.x C.b dX1_felled_3 (by decide) ?_
  refine x_iadd C dX1_felled_4 ?_
  refine lv_istore (lv' := [(4, .int (nI (b + 2))), (3, .int (nI g)), (0, .int (nI g)), (1, .int (nI b)), (2, .int (nI z))]) C.x C.b dX1_felled_5 hl (by decide) rfl (fun ls hl => ?_)
  refine lv_iconst (v := nI 0) C.x C.b dX1_felled_7 (by decide) ?_
  refine lv_istore (lv' := [(5, .int (nI 0)), (4, .int (nI (b + 2))), (3, .int (nI g)), (0, .int (nI g)), (1, .int (nI b)), (2, .int (nI z))]) C.x C.b dX1_felled_8 hl (by decide) rfl (fun ls hl => ?_)
  have lp_1 : ∀ (n1 i : Nat), i ≤ 5 → 5 + 1 ≤ i + n1 → ∀ (H : Heap) (locs : List Loc) (ls : Array Slot), WD E (va_A [] s.heap.size) s [] H locs → lv_has ls 7 [(5, .int (nI i)), (4, .int (nI ((roS g b z i).2))), (3, .int (nI ((roS g b z i).1))), (0, .int (nI g)), (1, .int (nI b)), (2, .int (nI z))] → W p l e ({ frames := 5, cells := 0, slots := 0, locals := 121 } : Room) s m ([.int (nI g), .int (nI b), .int (nI z)] : List Value).toArray below meth c H locs 0 0 (QI E [] (nI (feN g b z)) [] below ([.int (nI g), .int (nI b), .int (nI z)] : List Value).toArray s) (F0 m 10 ls []) := by
    intro n1
    induction n1 with
    | zero => intro i hi hn; exact absurd hn (by omega)
    | succ n1 ih1 =>
      intro i hi hn  H locs ls hW hl
      have hro := ro_le g b z i
      refine lv_iload C.x C.b dX1_felled_10 (lv_at hl 0 rfl) ?_
      refine lv_iconst (v := nI 5) C.x C.b dX1_felled_12 (by decide) ?_
      refine x_icmp_ge C (by omega) (by omega) (tgt := 50) dX1_felled_13 (by decide) (fun c_2 => ?_) (fun c_2 => ?_)
      · refine lv_iload_n C.x C.b dX1_felled_50 rfl (lv_at hl 3 rfl) ?_
        refine lv_iload_n C.x C.b dX1_felled_51 rfl (lv_at hl 2 rfl) ?_
        refine lv_iconst (v := nI 4294967295) C.x C.b dX1_felled_52 (by decide) ?_
        refine x_ixor C dX1_felled_53 ?_
        refine x_iand C dX1_felled_54 ?_
        exact x_iret C hW rfl (by first | (rw [feN, roN, ro_stop (i := i) (by omega) 5 (by omega)]; done) | (have h5 : i = 5 := (by omega); subst h5; rfl)) rfl dX1_felled_55
      · refine lv_iload C.x C.b dX1_felled_16 (lv_at hl 1 rfl) ?_
        refine x_if_le C (by omega) (tgt := 50) dX1_felled_18 (by decide) (fun c_3 => ?_) (fun c_3 => ?_)
        · refine lv_iload_n C.x C.b dX1_felled_50 rfl (lv_at hl 3 rfl) ?_
          refine lv_iload_n C.x C.b dX1_felled_51 rfl (lv_at hl 2 rfl) ?_
          refine lv_iconst (v := nI 4294967295) C.x C.b dX1_felled_52 (by decide) ?_
          refine x_ixor C dX1_felled_53 ?_
          refine x_iand C dX1_felled_54 ?_
          exact x_iret C hW rfl (by first | (rw [feN, roN, ro_stop (i := i) (by omega) 5 (by omega)]; done) | (have h5 : i = 5 := (by omega); subst h5; rfl)) rfl dX1_felled_55
        · refine lv_iload_n C.x C.b dX1_felled_21 rfl (lv_at hl 2 rfl) ?_
          refine lv_iload C.x C.b dX1_felled_22 (lv_at hl 0 rfl) ?_
          refine lv_iload_n C.x C.b dX1_felled_24 rfl (lv_at hl 5 rfl) ?_
          refine lv_iload C.x C.b dX1_felled_25 (lv_at hl 1 rfl) ?_
          refine x_cSI C hW (As := [.int (nI ((roS g b z i).1)), .int (nI i), .int (nI z), .int (nI ((roS g b z i).2))]) (rest := []) (wr := []) (wn := []) (met_X1_afterHit_3 l E ((roS g b z i).1) (nI i) (nI z) (nI ((roS g b z i).2)) (by omega) (by rw [nI_toInt (by omega)]; omega)) gX1_felled_X1_afterHit rfl 4 rfl ⟨rfl, rfl⟩ ⟨by decide +kernel, by decide +kernel, by decide +kernel⟩ ⟨Nat.le_of_ble_eq_true rfl, Nat.le_of_ble_eq_true rfl⟩ [] [] [] rfl (by decide) rfl (by decide) (by decide) rfl (by decide) hl.1 rfl (Nat.le_of_ble_eq_true rfl) dX1_felled_27 ⟨Nat.zero_le _, Nat.zero_le _⟩ (fun H locs hW => ?_)
          refine lv_istore (lv' := [(6, .int (nI (hiF 3 ((roS g b z i).1) (pinQ (nI i) (nI z)) (nI ((roS g b z i).2))))), (5, .int (nI i)), (4, .int (nI ((roS g b z i).2))), (3, .int (nI ((roS g b z i).1))), (0, .int (nI g)), (1, .int (nI b)), (2, .int (nI z))]) C.x C.b dX1_felled_30 hl (by decide) rfl (fun ls hl => ?_)
          refine lv_iload C.x C.b dX1_felled_32 (lv_at hl 0 rfl) ?_
          refine lv_iload_n C.x C.b dX1_felled_34 rfl (lv_at hl 3 rfl) ?_
          refine x_icmp_eq C (by have := hiF_le 3 (roS g b z i).1 (pinQ (nI i) (nI z)) (nI (roS g b z i).2); omega) (by omega) (tgt := 44) dX1_felled_35 (by decide) (fun c_4 => ?_) (fun c_4 => ?_)
          · refine lv_iinc (k := 1) (v := nI (i + 1)) (lv' := [(5, .int (nI (i + 1))), (6, .int (nI (hiF 3 ((roS g b z i).1) (pinQ (nI i) (nI z)) (nI ((roS g b z i).2))))), (4, .int (nI ((roS g b z i).2))), (3, .int (nI ((roS g b z i).1))), (0, .int (nI g)), (1, .int (nI b)), (2, .int (nI z))]) C.x C.b dX1_felled_44 hl rfl (z_inc i 1) (by decide) rfl (fun ls hl => ?_)
            refine lv_goto (tgt := 10) C.x C.b dX1_felled_47 (by decide) ?_
            exact ih1 (i + 1) (by omega) (by omega)  _ _ _ (hW.to rfl) (lv_to (lv_sub (l' := [(5, .int (nI (i + 1))), (4, .int (nI ((roS g b z i).2))), (3, .int (nI ((roS g b z i).1))), (0, .int (nI g)), (1, .int (nI b)), (2, .int (nI z))]) hl [0, 2, 3, 4, 5, 6] rfl) (by first | (rw [ro_same hb (by omega) (by assumption)]; done) | (rw [ro_diff hb (by omega) (by assumption)]; done)))
          · refine lv_iload C.x C.b dX1_felled_38 (lv_at hl 0 rfl) ?_
            refine lv_istore_n (lv' := [(3, .int (nI (hiF 3 ((roS g b z i).1) (pinQ (nI i) (nI z)) (nI ((roS g b z i).2))))), (6, .int (nI (hiF 3 ((roS g b z i).1) (pinQ (nI i) (nI z)) (nI ((roS g b z i).2))))), (5, .int (nI i)), (4, .int (nI ((roS g b z i).2))), (0, .int (nI g)), (1, .int (nI b)), (2, .int (nI z))]) C.x C.b dX1_felled_40 rfl hl (by decide) rfl (fun ls hl => ?_)
            refine lv_iinc (k := 3) (v := nI (((roS g b z i).2) - 1)) (lv' := [(4, .int (nI (((roS g b z i).2) - 1))), (3, .int (nI (hiF 3 ((roS g b z i).1) (pinQ (nI i) (nI z)) (nI ((roS g b z i).2))))), (6, .int (nI (hiF 3 ((roS g b z i).1) (pinQ (nI i) (nI z)) (nI ((roS g b z i).2))))), (5, .int (nI i)), (0, .int (nI g)), (1, .int (nI b)), (2, .int (nI z))]) C.x C.b dX1_felled_41 hl rfl (z_dec1 (by omega)) (by decide) rfl (fun ls hl => ?_)
            refine lv_iinc (k := 3) (v := nI (i + 1)) (lv' := [(5, .int (nI (i + 1))), (4, .int (nI (((roS g b z i).2) - 1))), (3, .int (nI (hiF 3 ((roS g b z i).1) (pinQ (nI i) (nI z)) (nI ((roS g b z i).2))))), (6, .int (nI (hiF 3 ((roS g b z i).1) (pinQ (nI i) (nI z)) (nI ((roS g b z i).2))))), (0, .int (nI g)), (1, .int (nI b)), (2, .int (nI z))]) C.x C.b dX1_felled_44 hl rfl (z_inc i 1) (by decide) rfl (fun ls hl => ?_)
            refine lv_goto (tgt := 10) C.x C.b dX1_felled_47 (by decide) ?_
            exact ih1 (i + 1) (by omega) (by omega)  _ _ _ (hW.to rfl) (lv_to (lv_sub (l' := [(5, .int (nI (i + 1))), (4, .int (nI (((roS g b z i).2) - 1))), (3, .int (nI (hiF 3 ((roS g b z i).1) (pinQ (nI i) (nI z)) (nI ((roS g b z i).2))))), (0, .int (nI g)), (1, .int (nI b)), (2, .int (nI z))]) hl [0, 1, 2, 4, 5, 6] rfl) (by first | (rw [ro_same hb (by omega) (by assumption)]; done) | (rw [ro_diff hb (by omega) (by assumption)]; done)))
  exact lp_1 (5 + 1) 0 (by omega) (by omega)  _ _ _ (hW.to rfl) (lv_to (lv_sub (l' := [(5, .int (nI 0)), (4, .int (nI (b + 2))), (3, .int (nI g)), (0, .int (nI g)), (1, .int (nI b)), (2, .int (nI z))]) hl [0, 1, 2, 3, 4, 5] rfl) rfl)

set_option maxHeartbeats 4000000 in
set_option maxRecDepth 100000 in
theorem met_X1_last (l : Launch) (E : EV) (g : Nat) (hg : g < 2 ^ 31) : MI l yX1_last wsX1_last { frames := 1, cells := 0, slots := 0, locals := 21 } E [.int (nI g)] [] (laF g 9) [] := by
  refine sI (own := RX1) (cc := cX1_last) (maxL := 2) (ret := (some .int)) rfl (by decide) rfl (Nat.le_of_ble_eq_true rfl) ?_
  intro p e s m below meth c C hnm ls hl hW
  have hl : lv_has ls 2 [(0, .int (nI g))] := hl
  have hW : WD E _ s [] s.heap [] := hW
  refine lv_bipush (v := nI 8) C.x C.b dX1_last_0 (by decide) ?_
  refine lv_istore_n (lv' := [(1, .int (nI 8)), (0, .int (nI g))]) C.x C.b dX1_last_2 rfl hl (by decide) rfl (fun ls hl => ?_)
  refine lv_iload_n C.x C.b dX1_last_3 rfl (lv_at hl 0 rfl) ?_
  refine x_if_lt C (by omega) (tgt := 23) dX1_last_4 (by decide) (fun c_1 => ?_) (fun c_1 => ?_)
  · exact absurd c_1 (by decide)
  · refine lv_iload_n C.x C.b dX1_last_7 rfl (lv_at hl 1 rfl) ?_
    refine lv_iload_n C.x C.b dX1_last_8 rfl (lv_at hl 0 rfl) ?_
    refine x_cSI C hW (As := [.int (nI g), .int (nI 8)]) (rest := []) (wr := []) (wn := []) (met_X1_holds l E g 8 (by omega) (by omega)) gX1_last_X1_holds rfl 2 rfl ⟨rfl, rfl⟩ ⟨by decide +kernel, by decide +kernel, by decide +kernel⟩ ⟨Nat.le_of_ble_eq_true rfl, Nat.le_of_ble_eq_true rfl⟩ [] [] [] rfl (by decide) rfl (by decide) (by decide) rfl (by decide) hl.1 rfl (Nat.le_of_ble_eq_true rfl) dX1_last_9 ⟨Nat.zero_le _, Nat.zero_le _⟩ (fun H locs hW => ?_)
    refine x_ifb_eq C (tgt := 17) dX1_last_12 (by decide) (fun c_2 => ?_) (fun c_2 => ?_)
    · refine lv_iinc (k := 0) (v := nI 7) (lv' := [(1, .int (nI 7)), (0, .int (nI g))]) C.x C.b dX1_last_17 hl rfl (by decide) (by decide) rfl (fun ls hl => ?_)
      refine lv_goto (tgt := 3) C.x C.b dX1_last_20 (by decide) ?_
      refine lv_iload_n C.x C.b dX1_last_3 rfl (lv_at hl 0 rfl) ?_
      refine x_if_lt C (by omega) (tgt := 23) dX1_last_4 (by decide) (fun c_3 => ?_) (fun c_3 => ?_)
      · exact absurd c_3 (by decide)
      · refine lv_iload_n C.x C.b dX1_last_7 rfl (lv_at hl 1 rfl) ?_
        refine lv_iload_n C.x C.b dX1_last_8 rfl (lv_at hl 0 rfl) ?_
        refine x_cSI C hW (As := [.int (nI g), .int (nI 7)]) (rest := []) (wr := []) (wn := []) (met_X1_holds l E g 7 (by omega) (by omega)) gX1_last_X1_holds rfl 2 rfl ⟨rfl, rfl⟩ ⟨by decide +kernel, by decide +kernel, by decide +kernel⟩ ⟨Nat.le_of_ble_eq_true rfl, Nat.le_of_ble_eq_true rfl⟩ [] [] [] rfl (by decide) rfl (by decide) (by decide) rfl (by decide) hl.1 rfl (Nat.le_of_ble_eq_true rfl) dX1_last_9 ⟨Nat.zero_le _, Nat.zero_le _⟩ (fun H locs hW => ?_)
        refine x_ifb_eq C (tgt := 17) dX1_last_12 (by decide) (fun c_4 => ?_) (fun c_4 => ?_)
        · refine lv_iinc (k := 0) (v := nI 6) (lv' := [(1, .int (nI 6)), (0, .int (nI g))]) C.x C.b dX1_last_17 hl rfl (by decide) (by decide) rfl (fun ls hl => ?_)
          refine lv_goto (tgt := 3) C.x C.b dX1_last_20 (by decide) ?_
          refine lv_iload_n C.x C.b dX1_last_3 rfl (lv_at hl 0 rfl) ?_
          refine x_if_lt C (by omega) (tgt := 23) dX1_last_4 (by decide) (fun c_5 => ?_) (fun c_5 => ?_)
          · exact absurd c_5 (by decide)
          · refine lv_iload_n C.x C.b dX1_last_7 rfl (lv_at hl 1 rfl) ?_
            refine lv_iload_n C.x C.b dX1_last_8 rfl (lv_at hl 0 rfl) ?_
            refine x_cSI C hW (As := [.int (nI g), .int (nI 6)]) (rest := []) (wr := []) (wn := []) (met_X1_holds l E g 6 (by omega) (by omega)) gX1_last_X1_holds rfl 2 rfl ⟨rfl, rfl⟩ ⟨by decide +kernel, by decide +kernel, by decide +kernel⟩ ⟨Nat.le_of_ble_eq_true rfl, Nat.le_of_ble_eq_true rfl⟩ [] [] [] rfl (by decide) rfl (by decide) (by decide) rfl (by decide) hl.1 rfl (Nat.le_of_ble_eq_true rfl) dX1_last_9 ⟨Nat.zero_le _, Nat.zero_le _⟩ (fun H locs hW => ?_)
            refine x_ifb_eq C (tgt := 17) dX1_last_12 (by decide) (fun c_6 => ?_) (fun c_6 => ?_)
            · refine lv_iinc (k := 0) (v := nI 5) (lv' := [(1, .int (nI 5)), (0, .int (nI g))]) C.x C.b dX1_last_17 hl rfl (by decide) (by decide) rfl (fun ls hl => ?_)
              refine lv_goto (tgt := 3) C.x C.b dX1_last_20 (by decide) ?_
              refine lv_iload_n C.x C.b dX1_last_3 rfl (lv_at hl 0 rfl) ?_
              refine x_if_lt C (by omega) (tgt := 23) dX1_last_4 (by decide) (fun c_7 => ?_) (fun c_7 => ?_)
              · exact absurd c_7 (by decide)
              · refine lv_iload_n C.x C.b dX1_last_7 rfl (lv_at hl 1 rfl) ?_
                refine lv_iload_n C.x C.b dX1_last_8 rfl (lv_at hl 0 rfl) ?_
                refine x_cSI C hW (As := [.int (nI g), .int (nI 5)]) (rest := []) (wr := []) (wn := []) (met_X1_holds l E g 5 (by omega) (by omega)) gX1_last_X1_holds rfl 2 rfl ⟨rfl, rfl⟩ ⟨by decide +kernel, by decide +kernel, by decide +kernel⟩ ⟨Nat.le_of_ble_eq_true rfl, Nat.le_of_ble_eq_true rfl⟩ [] [] [] rfl (by decide) rfl (by decide) (by decide) rfl (by decide) hl.1 rfl (Nat.le_of_ble_eq_true rfl) dX1_last_9 ⟨Nat.zero_le _, Nat.zero_le _⟩ (fun H locs hW => ?_)
                refine x_ifb_eq C (tgt := 17) dX1_last_12 (by decide) (fun c_8 => ?_) (fun c_8 => ?_)
                · refine lv_iinc (k := 0) (v := nI 4) (lv' := [(1, .int (nI 4)), (0, .int (nI g))]) C.x C.b dX1_last_17 hl rfl (by decide) (by decide) rfl (fun ls hl => ?_)
                  refine lv_goto (tgt := 3) C.x C.b dX1_last_20 (by decide) ?_
                  refine lv_iload_n C.x C.b dX1_last_3 rfl (lv_at hl 0 rfl) ?_
                  refine x_if_lt C (by omega) (tgt := 23) dX1_last_4 (by decide) (fun c_9 => ?_) (fun c_9 => ?_)
                  · exact absurd c_9 (by decide)
                  · refine lv_iload_n C.x C.b dX1_last_7 rfl (lv_at hl 1 rfl) ?_
                    refine lv_iload_n C.x C.b dX1_last_8 rfl (lv_at hl 0 rfl) ?_
                    refine x_cSI C hW (As := [.int (nI g), .int (nI 4)]) (rest := []) (wr := []) (wn := []) (met_X1_holds l E g 4 (by omega) (by omega)) gX1_last_X1_holds rfl 2 rfl ⟨rfl, rfl⟩ ⟨by decide +kernel, by decide +kernel, by decide +kernel⟩ ⟨Nat.le_of_ble_eq_true rfl, Nat.le_of_ble_eq_true rfl⟩ [] [] [] rfl (by decide) rfl (by decide) (by decide) rfl (by decide) hl.1 rfl (Nat.le_of_ble_eq_true rfl) dX1_last_9 ⟨Nat.zero_le _, Nat.zero_le _⟩ (fun H locs hW => ?_)
                    refine x_ifb_eq C (tgt := 17) dX1_last_12 (by decide) (fun c_10 => ?_) (fun c_10 => ?_)
                    · refine lv_iinc (k := 0) (v := nI 3) (lv' := [(1, .int (nI 3)), (0, .int (nI g))]) C.x C.b dX1_last_17 hl rfl (by decide) (by decide) rfl (fun ls hl => ?_)
                      refine lv_goto (tgt := 3) C.x C.b dX1_last_20 (by decide) ?_
                      refine lv_iload_n C.x C.b dX1_last_3 rfl (lv_at hl 0 rfl) ?_
                      refine x_if_lt C (by omega) (tgt := 23) dX1_last_4 (by decide) (fun c_11 => ?_) (fun c_11 => ?_)
                      · exact absurd c_11 (by decide)
                      · refine lv_iload_n C.x C.b dX1_last_7 rfl (lv_at hl 1 rfl) ?_
                        refine lv_iload_n C.x C.b dX1_last_8 rfl (lv_at hl 0 rfl) ?_
                        refine x_cSI C hW (As := [.int (nI g), .int (nI 3)]) (rest := []) (wr := []) (wn := []) (met_X1_holds l E g 3 (by omega) (by omega)) gX1_last_X1_holds rfl 2 rfl ⟨rfl, rfl⟩ ⟨by decide +kernel, by decide +kernel, by decide +kernel⟩ ⟨Nat.le_of_ble_eq_true rfl, Nat.le_of_ble_eq_true rfl⟩ [] [] [] rfl (by decide) rfl (by decide) (by decide) rfl (by decide) hl.1 rfl (Nat.le_of_ble_eq_true rfl) dX1_last_9 ⟨Nat.zero_le _, Nat.zero_le _⟩ (fun H locs hW => ?_)
                        refine x_ifb_eq C (tgt := 17) dX1_last_12 (by decide) (fun c_12 => ?_) (fun c_12 => ?_)
                        · refine lv_iinc (k := 0) (v := nI 2) (lv' := [(1, .int (nI 2)), (0, .int (nI g))]) C.x C.b dX1_last_17 hl rfl (by decide) (by decide) rfl (fun ls hl => ?_)
                          refine lv_goto (tgt := 3) C.x C.b dX1_last_20 (by decide) ?_
                          refine lv_iload_n C.x C.b dX1_last_3 rfl (lv_at hl 0 rfl) ?_
                          refine x_if_lt C (by omega) (tgt := 23) dX1_last_4 (by decide) (fun c_13 => ?_) (fun c_13 => ?_)
                          · exact absurd c_13 (by decide)
                          · refine lv_iload_n C.x C.b dX1_last_7 rfl (lv_at hl 1 rfl) ?_
                            refine lv_iload_n C.x C.b dX1_last_8 rfl (lv_at hl 0 rfl) ?_
                            refine x_cSI C hW (As := [.int (nI g), .int (nI 2)]) (rest := []) (wr := []) (wn := []) (met_X1_holds l E g 2 (by omega) (by omega)) gX1_last_X1_holds rfl 2 rfl ⟨rfl, rfl⟩ ⟨by decide +kernel, by decide +kernel, by decide +kernel⟩ ⟨Nat.le_of_ble_eq_true rfl, Nat.le_of_ble_eq_true rfl⟩ [] [] [] rfl (by decide) rfl (by decide) (by decide) rfl (by decide) hl.1 rfl (Nat.le_of_ble_eq_true rfl) dX1_last_9 ⟨Nat.zero_le _, Nat.zero_le _⟩ (fun H locs hW => ?_)
                            refine x_ifb_eq C (tgt := 17) dX1_last_12 (by decide) (fun c_14 => ?_) (fun c_14 => ?_)
                            · refine lv_iinc (k := 0) (v := nI 1) (lv' := [(1, .int (nI 1)), (0, .int (nI g))]) C.x C.b dX1_last_17 hl rfl (by decide) (by decide) rfl (fun ls hl => ?_)
                              refine lv_goto (tgt := 3) C.x C.b dX1_last_20 (by decide) ?_
                              refine lv_iload_n C.x C.b dX1_last_3 rfl (lv_at hl 0 rfl) ?_
                              refine x_if_lt C (by omega) (tgt := 23) dX1_last_4 (by decide) (fun c_15 => ?_) (fun c_15 => ?_)
                              · exact absurd c_15 (by decide)
                              · refine lv_iload_n C.x C.b dX1_last_7 rfl (lv_at hl 1 rfl) ?_
                                refine lv_iload_n C.x C.b dX1_last_8 rfl (lv_at hl 0 rfl) ?_
                                refine x_cSI C hW (As := [.int (nI g), .int (nI 1)]) (rest := []) (wr := []) (wn := []) (met_X1_holds l E g 1 (by omega) (by omega)) gX1_last_X1_holds rfl 2 rfl ⟨rfl, rfl⟩ ⟨by decide +kernel, by decide +kernel, by decide +kernel⟩ ⟨Nat.le_of_ble_eq_true rfl, Nat.le_of_ble_eq_true rfl⟩ [] [] [] rfl (by decide) rfl (by decide) (by decide) rfl (by decide) hl.1 rfl (Nat.le_of_ble_eq_true rfl) dX1_last_9 ⟨Nat.zero_le _, Nat.zero_le _⟩ (fun H locs hW => ?_)
                                refine x_ifb_eq C (tgt := 17) dX1_last_12 (by decide) (fun c_16 => ?_) (fun c_16 => ?_)
                                · refine lv_iinc (k := 0) (v := nI 0) (lv' := [(1, .int (nI 0)), (0, .int (nI g))]) C.x C.b dX1_last_17 hl rfl (by decide) (by decide) rfl (fun ls hl => ?_)
                                  refine lv_goto (tgt := 3) C.x C.b dX1_last_20 (by decide) ?_
                                  refine lv_iload_n C.x C.b dX1_last_3 rfl (lv_at hl 0 rfl) ?_
                                  refine x_if_lt C (by omega) (tgt := 23) dX1_last_4 (by decide) (fun c_17 => ?_) (fun c_17 => ?_)
                                  · exact absurd c_17 (by decide)
                                  · refine lv_iload_n C.x C.b dX1_last_7 rfl (lv_at hl 1 rfl) ?_
                                    refine lv_iload_n C.x C.b dX1_last_8 rfl (lv_at hl 0 rfl) ?_
                                    refine x_cSI C hW (As := [.int (nI g), .int (nI 0)]) (rest := []) (wr := []) (wn := []) (met_X1_holds l E g 0 (by omega) (by omega)) gX1_last_X1_holds rfl 2 rfl ⟨rfl, rfl⟩ ⟨by decide +kernel, by decide +kernel, by decide +kernel⟩ ⟨Nat.le_of_ble_eq_true rfl, Nat.le_of_ble_eq_true rfl⟩ [] [] [] rfl (by decide) rfl (by decide) (by decide) rfl (by decide) hl.1 rfl (Nat.le_of_ble_eq_true rfl) dX1_last_9 ⟨Nat.zero_le _, Nat.zero_le _⟩ (fun H locs hW => ?_)
                                    refine x_ifb_eq C (tgt := 17) dX1_last_12 (by decide) (fun c_18 => ?_) (fun c_18 => ?_)
                                    · refine lv_iinc (k := 0) (v := (-1)) (lv' := [(1, .int ((-1 : Int32))), (0, .int (nI g))]) C.x C.b dX1_last_17 hl rfl (by decide) (by decide) rfl (fun ls hl => ?_)
                                      refine lv_goto (tgt := 3) C.x C.b dX1_last_20 (by decide) ?_
                                      refine lv_iload_n C.x C.b dX1_last_3 rfl (lv_at hl 0 rfl) ?_
                                      refine lv_if_lt C.x C.b (tgt := 23) dX1_last_4 (by decide) (fun c_19 => ?_) (fun c_19 => ?_)
                                      · refine lv_iconst (v := (-1)) C.x C.b dX1_last_23 (by decide) ?_
                                        exact x_iret C hW rfl (by simp only [laF, c_1, c_2, c_3, c_4, c_5, c_6, c_7, c_8, c_9, c_10, c_11, c_12, c_13, c_14, c_15, c_16, c_17, c_18, c_19, if_true, if_false, ↓reduceIte]; done) rfl dX1_last_24
                                      · exact absurd (by decide) c_19
                                    · refine lv_iload_n C.x C.b dX1_last_15 rfl (lv_at hl 0 rfl) ?_
                                      exact x_iret C hW rfl (by simp only [laF, c_1, c_2, c_3, c_4, c_5, c_6, c_7, c_8, c_9, c_10, c_11, c_12, c_13, c_14, c_15, c_16, c_17, c_18, if_true, if_false, ↓reduceIte]; done) rfl dX1_last_16
                                · refine lv_iload_n C.x C.b dX1_last_15 rfl (lv_at hl 0 rfl) ?_
                                  exact x_iret C hW rfl (by simp only [laF, c_1, c_2, c_3, c_4, c_5, c_6, c_7, c_8, c_9, c_10, c_11, c_12, c_13, c_14, c_15, c_16, if_true, if_false, ↓reduceIte]; done) rfl dX1_last_16
                            · refine lv_iload_n C.x C.b dX1_last_15 rfl (lv_at hl 0 rfl) ?_
                              exact x_iret C hW rfl (by simp only [laF, c_1, c_2, c_3, c_4, c_5, c_6, c_7, c_8, c_9, c_10, c_11, c_12, c_13, c_14, if_true, if_false, ↓reduceIte]; done) rfl dX1_last_16
                        · refine lv_iload_n C.x C.b dX1_last_15 rfl (lv_at hl 0 rfl) ?_
                          exact x_iret C hW rfl (by simp only [laF, c_1, c_2, c_3, c_4, c_5, c_6, c_7, c_8, c_9, c_10, c_11, c_12, if_true, if_false, ↓reduceIte]; done) rfl dX1_last_16
                    · refine lv_iload_n C.x C.b dX1_last_15 rfl (lv_at hl 0 rfl) ?_
                      exact x_iret C hW rfl (by simp only [laF, c_1, c_2, c_3, c_4, c_5, c_6, c_7, c_8, c_9, c_10, if_true, if_false, ↓reduceIte]; done) rfl dX1_last_16
                · refine lv_iload_n C.x C.b dX1_last_15 rfl (lv_at hl 0 rfl) ?_
                  exact x_iret C hW rfl (by simp only [laF, c_1, c_2, c_3, c_4, c_5, c_6, c_7, c_8, if_true, if_false, ↓reduceIte]; done) rfl dX1_last_16
            · refine lv_iload_n C.x C.b dX1_last_15 rfl (lv_at hl 0 rfl) ?_
              exact x_iret C hW rfl (by simp only [laF, c_1, c_2, c_3, c_4, c_5, c_6, if_true, if_false, ↓reduceIte]; done) rfl dX1_last_16
        · refine lv_iload_n C.x C.b dX1_last_15 rfl (lv_at hl 0 rfl) ?_
          exact x_iret C hW rfl (by simp only [laF, c_1, c_2, c_3, c_4, if_true, if_false, ↓reduceIte]; done) rfl dX1_last_16
    · refine lv_iload_n C.x C.b dX1_last_15 rfl (lv_at hl 0 rfl) ?_
      exact x_iret C hW rfl (by simp only [laF, c_1, c_2, if_true, if_false, ↓reduceIte]; done) rfl dX1_last_16

set_option maxHeartbeats 4000000 in
set_option maxRecDepth 100000 in
theorem met_X1_canClear_0 (l : Launch) (E : EV) (g u : Nat) (hg : g < 512) (hu : u < 32) : MI l yX1_canClear wsX1_canClear { frames := 0, cells := 0, slots := 0, locals := 0 } E [.int (nI g), .int (nI u), .int (nI 0)] [] (nI (if ccB 0 g u = true then 1 else 0)) [] := by
  refine sI (own := RX1) (cc := cX1_canClear) (maxL := 6) (ret := (some .boolean)) rfl (by decide) rfl (Nat.le_of_ble_eq_true rfl) ?_
  intro p e s m below meth c C hnm ls hl hW
  have hl : lv_has ls 6 [(0, .int (nI g)), (1, .int (nI u)), (2, .int (nI 0))] := hl
  have hW : WD E _ s [] s.heap [] := hW
  refine lv_iload_n C.x C.b dX1_canClear_0 rfl (lv_at hl 0 rfl) ?_
  refine x_if_eq C (by omega) (tgt := 8) dX1_canClear_1 (by decide) (fun c_1 => ?_) (fun c_1 => ?_)
  · refine lv_iload_n C.x C.b dX1_canClear_8 rfl (lv_at hl 0 rfl) ?_
    refine x_if_ne C (by omega) (tgt := 16) dX1_canClear_9 (by decide) (fun c_2 => ?_) (fun c_2 => ?_)
    · refine lv_iconst (v := nI 0) C.x C.b dX1_canClear_16 (by decide) ?_
      exact x_iret C hW (by first | rfl | exact z_narb _) (by first | (simp [ccB, c_1, c_2]; done) | (exfalso; omega)) rfl dX1_canClear_17
    · refine lv_iconst (v := nI 1) C.x C.b dX1_canClear_12 (by decide) ?_
      refine lv_goto (tgt := 17) C.x C.b dX1_canClear_13 (by decide) ?_
      exact x_iret C hW (by first | rfl | exact z_narb _) (by first | (simp [ccB, c_1, c_2]; done) | (exfalso; omega)) rfl dX1_canClear_17
  · refine lv_iload_n C.x C.b dX1_canClear_4 rfl (lv_at hl 2 rfl) ?_
    refine x_if_gt C (by omega) (tgt := 18) dX1_canClear_5 (by decide) (fun c_3 => ?_) (fun c_3 => ?_)
    · exact absurd c_3 (by decide)
    · refine lv_iload_n C.x C.b dX1_canClear_8 rfl (lv_at hl 0 rfl) ?_
      refine x_if_ne C (by omega) (tgt := 16) dX1_canClear_9 (by decide) (fun c_4 => ?_) (fun c_4 => ?_)
      · refine lv_iconst (v := nI 0) C.x C.b dX1_canClear_16 (by decide) ?_
        exact x_iret C hW (by first | rfl | exact z_narb _) (by first | (simp [ccB, c_1, c_3, c_4]; done) | (exfalso; omega)) rfl dX1_canClear_17
      · refine lv_iconst (v := nI 1) C.x C.b dX1_canClear_12 (by decide) ?_
        refine lv_goto (tgt := 17) C.x C.b dX1_canClear_13 (by decide) ?_
        exact x_iret C hW (by first | rfl | exact z_narb _) (by first | (simp [ccB, c_1, c_3, c_4]; done) | (exfalso; omega)) rfl dX1_canClear_17

set_option maxHeartbeats 4000000 in
set_option maxRecDepth 100000 in
theorem met_X1_canClear_1 (l : Launch) (E : EV) (g u : Nat) (hg : g < 512) (hu : u < 32) : MI l yX1_canClear wsX1_canClear { frames := 6, cells := 0, slots := 0, locals := 147 } E [.int (nI g), .int (nI u), .int (nI 1)] [] (nI (if ccB 1 g u = true then 1 else 0)) [] := by
  refine sI (own := RX1) (cc := cX1_canClear) (maxL := 6) (ret := (some .boolean)) rfl (by decide) rfl (Nat.le_of_ble_eq_true rfl) ?_
  intro p e s m below meth c C hnm ls hl hW
  have hl : lv_has ls 6 [(0, .int (nI g)), (1, .int (nI u)), (2, .int (nI 1))] := hl
  have hW : WD E _ s [] s.heap [] := hW
  refine lv_iload_n C.x C.b dX1_canClear_0 rfl (lv_at hl 0 rfl) ?_
  refine x_if_eq C (by omega) (tgt := 8) dX1_canClear_1 (by decide) (fun c_1 => ?_) (fun c_1 => ?_)
  · refine lv_iload_n C.x C.b dX1_canClear_8 rfl (lv_at hl 0 rfl) ?_
    refine x_if_ne C (by omega) (tgt := 16) dX1_canClear_9 (by decide) (fun c_2 => ?_) (fun c_2 => ?_)
    · refine lv_iconst (v := nI 0) C.x C.b dX1_canClear_16 (by decide) ?_
      exact x_iret C hW (by first | rfl | exact z_narb _) (by first | (simp [ccB, c_1, c_2]; done) | (exfalso; omega)) rfl dX1_canClear_17
    · refine lv_iconst (v := nI 1) C.x C.b dX1_canClear_12 (by decide) ?_
      refine lv_goto (tgt := 17) C.x C.b dX1_canClear_13 (by decide) ?_
      exact x_iret C hW (by first | rfl | exact z_narb _) (by first | (simp [ccB, c_1, c_2]; done) | (exfalso; omega)) rfl dX1_canClear_17
  · refine lv_iload_n C.x C.b dX1_canClear_4 rfl (lv_at hl 2 rfl) ?_
    refine x_if_gt C (by omega) (tgt := 18) dX1_canClear_5 (by decide) (fun c_3 => ?_) (fun c_3 => ?_)
    · refine lv_iconst (v := nI 0) C.x C.b dX1_canClear_18 (by decide) ?_
      refine lv_istore_n (lv' := [(3, .int (nI 0)), (0, .int (nI g)), (1, .int (nI u)), (2, .int (nI 1))]) C.x C.b dX1_canClear_19 rfl hl (by decide) rfl (fun ls hl => ?_)
      have lp_4 : ∀ (n4 b : Nat), b ≤ 5 → 5 + 1 ≤ b + n4 → (∀ b', b' < b → ∀ z', z' < 5 → ccG (ccB 0) g u b' z' = false) → ∀ (H : Heap) (locs : List Loc) (ls : Array Slot), WD E (va_A [] s.heap.size) s [] H locs → lv_has ls 6 [(3, .int (nI b)), (0, .int (nI g)), (1, .int (nI u)), (2, .int (nI 1))] → W p l e ({ frames := 6, cells := 0, slots := 0, locals := 147 } : Room) s m ([.int (nI g), .int (nI u), .int (nI 1)] : List Value).toArray below meth c H locs 0 0 (QI E [] (nI (if ccB 1 g u = true then 1 else 0)) [] below ([.int (nI g), .int (nI u), .int (nI 1)] : List Value).toArray s) (F0 m 20 ls []) := by
        intro n4
        induction n4 with
        | zero => intro b hb hn; exact absurd hn (by omega)
        | succ n4 ih4 =>
          intro b hb hn hib H locs ls hW hl
          refine lv_iload_n C.x C.b dX1_canClear_20 rfl (lv_at hl 0 rfl) ?_
          refine lv_iconst (v := nI 5) C.x C.b dX1_canClear_21 (by decide) ?_
          refine x_icmp_ge C (by omega) (by omega) (tgt := 90) dX1_canClear_22 (by decide) (fun c_5 => ?_) (fun c_5 => ?_)
          · obtain rfl : b = 5 := by omega
            refine lv_iconst (v := nI 0) C.x C.b dX1_canClear_90 (by decide) ?_
            exact x_iret C hW (by first | rfl | exact z_narb _) (by rw [if_neg (ccB_f (by assumption) hib)]) rfl dX1_canClear_91
          · refine lv_iconst (v := nI 0) C.x C.b dX1_canClear_25 (by decide) ?_
            refine lv_istore (lv' := [(4, .int (nI 0)), (3, .int (nI b)), (0, .int (nI g)), (1, .int (nI u)), (2, .int (nI 1))]) C.x C.b dX1_canClear_26 hl (by decide) rfl (fun ls hl => ?_)
            have lp_6 : ∀ (n6 z : Nat), z ≤ 5 → 5 + 1 ≤ z + n6 → (∀ z', z' < z → ccG (ccB 0) g u b z' = false) → ∀ (H : Heap) (locs : List Loc) (ls : Array Slot), WD E (va_A [] s.heap.size) s [] H locs → lv_has ls 6 [(4, .int (nI z)), (3, .int (nI b)), (0, .int (nI g)), (1, .int (nI u)), (2, .int (nI 1))] → W p l e ({ frames := 6, cells := 0, slots := 0, locals := 147 } : Room) s m ([.int (nI g), .int (nI u), .int (nI 1)] : List Value).toArray below meth c H locs 0 0 (QI E [] (nI (if ccB 1 g u = true then 1 else 0)) [] below ([.int (nI g), .int (nI u), .int (nI 1)] : List Value).toArray s) (F0 m 28 ls []) := by
              intro n6
              induction n6 with
              | zero => intro z hz hn; exact absurd hn (by omega)
              | succ n6 ih6 =>
                intro z hz hn hiz H locs ls hW hl
                refine lv_iload C.x C.b dX1_canClear_28 (lv_at hl 0 rfl) ?_
                refine lv_iconst (v := nI 5) C.x C.b dX1_canClear_30 (by decide) ?_
                refine x_icmp_ge C (by omega) (by omega) (tgt := 84) dX1_canClear_31 (by decide) (fun c_7 => ?_) (fun c_7 => ?_)
                · refine lv_iinc (k := 1) (v := nI (b + 1)) (lv' := [(3, .int (nI (b + 1))), (4, .int (nI z)), (0, .int (nI g)), (1, .int (nI u)), (2, .int (nI 1))]) C.x C.b dX1_canClear_84 hl rfl (z_inc b 1) (by decide) rfl (fun ls hl => ?_)
                  refine lv_goto (tgt := 20) C.x C.b dX1_canClear_87 (by decide) ?_
                  exact ih4 (b + 1) (by omega) (by omega) (lt_s hib (by first | (intro z' hz'; exact hiz z' (by omega)) | (intro z' _; simp [ccG, c_1, c_3, c_5, c_7]))) _ _ _ (hW.to rfl) (lv_to (lv_sub (l' := [(3, .int (nI (b + 1))), (0, .int (nI g)), (1, .int (nI u)), (2, .int (nI 1))]) hl [0, 2, 3, 4] rfl) (by first | rfl | (simp [c_1, c_3, c_5, c_7]; done) | (rw [if_pos (by omega)]; done) | (rw [if_neg (by omega)]; done) | (exfalso; omega) | ((repeat' split) <;> first | rfl | contradiction | (exfalso; omega))))
                · refine lv_iload_n C.x C.b dX1_canClear_34 rfl (lv_at hl 3 rfl) ?_
                  refine lv_iload_n C.x C.b dX1_canClear_35 rfl (lv_at hl 1 rfl) ?_
                  refine x_cSI C hW (As := [.int (nI u), .int (nI b)]) (rest := []) (wr := []) (wn := []) (met_X1_holds l E u b (by omega) (by omega)) gX1_canClear_X1_holds rfl 2 rfl ⟨rfl, rfl⟩ ⟨by decide +kernel, by decide +kernel, by decide +kernel⟩ ⟨Nat.le_of_ble_eq_true rfl, Nat.le_of_ble_eq_true rfl⟩ [] [] [] rfl (by decide) rfl (by decide) (by decide) rfl (by decide) hl.1 rfl (Nat.le_of_ble_eq_true rfl) dX1_canClear_36 ⟨Nat.zero_le _, Nat.zero_le _⟩ (fun H locs hW => ?_)
                  refine x_ifb_ne C (tgt := 84) dX1_canClear_39 (by decide) (fun c_8 => ?_) (fun c_8 => ?_)
                  · refine lv_iinc (k := 1) (v := nI (b + 1)) (lv' := [(3, .int (nI (b + 1))), (4, .int (nI z)), (0, .int (nI g)), (1, .int (nI u)), (2, .int (nI 1))]) C.x C.b dX1_canClear_84 hl rfl (z_inc b 1) (by decide) rfl (fun ls hl => ?_)
                    refine lv_goto (tgt := 20) C.x C.b dX1_canClear_87 (by decide) ?_
                    exact ih4 (b + 1) (by omega) (by omega) (lt_s hib (by first | (intro z' hz'; exact hiz z' (by omega)) | (intro z' _; simp [ccG, c_1, c_3, c_5, c_7, c_8]))) _ _ _ (hW.to rfl) (lv_to (lv_sub (l' := [(3, .int (nI (b + 1))), (0, .int (nI g)), (1, .int (nI u)), (2, .int (nI 1))]) hl [0, 2, 3, 4] rfl) (by first | rfl | (simp [c_1, c_3, c_5, c_7, c_8]; done) | (rw [if_pos (by omega)]; done) | (rw [if_neg (by omega)]; done) | (exfalso; omega) | ((repeat' split) <;> first | rfl | contradiction | (exfalso; omega))))
                  · refine lv_iload_n C.x C.b dX1_canClear_42 rfl (lv_at hl 2 rfl) ?_
                    refine lv_iload_n C.x C.b dX1_canClear_43 rfl (lv_at hl 1 rfl) ?_
                    refine lv_iload C.x C.b dX1_canClear_44 (lv_at hl 0 rfl) ?_
                    refine x_cSI C hW (As := [.int (nI g), .int (nI b), .int (nI z)]) (rest := []) (wr := []) (wn := []) (met_X1_felled l E g b z (by omega) (by omega) (by omega)) gX1_canClear_X1_felled rfl 3 rfl ⟨rfl, rfl⟩ ⟨by decide +kernel, by decide +kernel, by decide +kernel⟩ ⟨Nat.le_of_ble_eq_true rfl, Nat.le_of_ble_eq_true rfl⟩ [] [] [] rfl (by decide) rfl (by decide) (by decide) rfl (by decide) hl.1 rfl (Nat.le_of_ble_eq_true rfl) dX1_canClear_46 ⟨Nat.zero_le _, Nat.zero_le _⟩ (fun H locs hW => ?_)
                    refine lv_istore (lv' := [(5, .int (nI (feN g b z))), (4, .int (nI z)), (3, .int (nI b)), (0, .int (nI g)), (1, .int (nI u)), (2, .int (nI 1))]) C.x C.b dX1_canClear_49 hl (by decide) rfl (fun ls hl => ?_)
                    refine lv_iload C.x C.b dX1_canClear_51 (lv_at hl 0 rfl) ?_
                    refine x_if_eq C (by have := fe_lt (b := b) (z := z) hg; omega) (tgt := 78) dX1_canClear_53 (by decide) (fun c_9 => ?_) (fun c_9 => ?_)
                    · refine lv_iinc (k := 1) (v := nI (z + 1)) (lv' := [(4, .int (nI (z + 1))), (5, .int (nI (feN g b z))), (3, .int (nI b)), (0, .int (nI g)), (1, .int (nI u)), (2, .int (nI 1))]) C.x C.b dX1_canClear_78 hl rfl (z_inc z 1) (by decide) rfl (fun ls hl => ?_)
                      refine lv_goto (tgt := 28) C.x C.b dX1_canClear_81 (by decide) ?_
                      exact ih6 (z + 1) (by omega) (by omega) (lt_s hiz (by first | (simp [ccG, hne, c_1, c_3, c_5, c_7, c_8, c_9]; done) | (have heq : roN g b z = g := ((fe_0 hg).mp (by assumption)); simp [ccG, heq]))) _ _ _ (hW.to rfl) (lv_to (lv_sub (l' := [(4, .int (nI (z + 1))), (3, .int (nI b)), (0, .int (nI g)), (1, .int (nI u)), (2, .int (nI 1))]) hl [0, 2, 3, 4, 5] rfl) (by first | rfl | (simp [c_1, c_3, c_5, c_7, c_8, c_9]; done) | (rw [if_pos (by omega)]; done) | (rw [if_neg (by omega)]; done) | (exfalso; omega) | ((repeat' split) <;> first | rfl | contradiction | (exfalso; omega))))
                    · have hne : ¬ roN g b z = g := fun q => absurd ((fe_0 hg).mpr q) (by assumption)
                      refine lv_iload_n C.x C.b dX1_canClear_56 rfl (lv_at hl 3 rfl) ?_
                      refine lv_iload C.x C.b dX1_canClear_57 (lv_at hl 0 rfl) ?_
                      refine lv_iconst (v := nI 4294967295) C.x C.b dX1_canClear_59 (by decide) ?_
                      refine x_ixor C dX1_canClear_60 ?_
                      refine lv_iand C.x C.b dX1_canClear_61 ?_
                      refine x_toi (y := nI (roN g b z)) ((z_and _ _).trans (congrArg nI (fe_rest hg))) ?_
                      refine lv_iload_n C.x C.b dX1_canClear_62 rfl (lv_at hl 4 rfl) ?_
                      refine lv_iconst (v := nI 1) C.x C.b dX1_canClear_63 (by decide) ?_
                      refine lv_iload_n C.x C.b dX1_canClear_64 rfl (lv_at hl 2 rfl) ?_
                      refine x_ishl1 C (by omega) dX1_canClear_65 ?_
                      refine x_ior C dX1_canClear_66 ?_
                      refine lv_iload_n C.x C.b dX1_canClear_67 rfl (lv_at hl 5 rfl) ?_
                      refine lv_iconst (v := nI 1) C.x C.b dX1_canClear_68 (by decide) ?_
                      refine lv_isub C.x C.b dX1_canClear_69 ?_
                      refine x_toi (y := nI 0) (by decide) ?_
                      refine x_cSI C hW (As := [.int (nI (roN g b z)), .int (nI (u ||| (2 ^ b))), .int (nI 0)]) (rest := []) (wr := []) (wn := []) (met_X1_canClear_0 l E (roN g b z) (u ||| (2 ^ b)) (ro_lt hg) (or_lt32 hu (by omega))) gX1_canClear_X1_canClear rfl 3 rfl ⟨rfl, rfl⟩ ⟨by decide +kernel, by decide +kernel, by decide +kernel⟩ ⟨Nat.le_of_ble_eq_true rfl, Nat.le_of_ble_eq_true rfl⟩ [] [] [] rfl (by decide) rfl (by decide) (by decide) rfl (by decide) hl.1 rfl (Nat.le_of_ble_eq_true rfl) dX1_canClear_70 ⟨Nat.zero_le _, Nat.zero_le _⟩ (fun H locs hW => ?_)
                      refine x_ifb_eq C (tgt := 78) dX1_canClear_73 (by decide) (fun c_10 => ?_) (fun c_10 => ?_)
                      · refine lv_iinc (k := 1) (v := nI (z + 1)) (lv' := [(4, .int (nI (z + 1))), (5, .int (nI (feN g b z))), (3, .int (nI b)), (0, .int (nI g)), (1, .int (nI u)), (2, .int (nI 1))]) C.x C.b dX1_canClear_78 hl rfl (z_inc z 1) (by decide) rfl (fun ls hl => ?_)
                        refine lv_goto (tgt := 28) C.x C.b dX1_canClear_81 (by decide) ?_
                        exact ih6 (z + 1) (by omega) (by omega) (lt_s hiz (by first | (simp [ccG, hne, c_1, c_3, c_5, c_7, c_8, c_9, c_10]; done) | (have heq : roN g b z = g := ((fe_0 hg).mp (by assumption)); simp [ccG, heq]))) _ _ _ (hW.to rfl) (lv_to (lv_sub (l' := [(4, .int (nI (z + 1))), (3, .int (nI b)), (0, .int (nI g)), (1, .int (nI u)), (2, .int (nI 1))]) hl [0, 2, 3, 4, 5] rfl) (by first | rfl | (simp [c_1, c_3, c_5, c_7, c_8, c_9, c_10]; done) | (rw [if_pos (by omega)]; done) | (rw [if_neg (by omega)]; done) | (exfalso; omega) | ((repeat' split) <;> first | rfl | contradiction | (exfalso; omega))))
                      · refine lv_iconst (v := nI 1) C.x C.b dX1_canClear_76 (by decide) ?_
                        exact x_iret C hW (by first | rfl | exact z_narb _) (by rw [if_pos (ccB_t (b := b) (z := z) (by omega) (by omega) (by simp [ccG, hne, c_1, c_3, c_5, c_7, c_8, c_9, c_10]))]) rfl dX1_canClear_77
            exact lp_6 (5 + 1) 0 (by omega) (by omega) (fun _ h => absurd h (Nat.not_lt_zero _)) _ _ _ (hW.to rfl) (lv_to (lv_sub (l' := [(4, .int (nI 0)), (3, .int (nI b)), (0, .int (nI g)), (1, .int (nI u)), (2, .int (nI 1))]) hl [0, 1, 2, 3, 4] rfl) rfl)
      exact lp_4 (5 + 1) 0 (by omega) (by omega) (fun _ h => absurd h (Nat.not_lt_zero _)) _ _ _ (hW.to rfl) (lv_to (lv_sub (l' := [(3, .int (nI 0)), (0, .int (nI g)), (1, .int (nI u)), (2, .int (nI 1))]) hl [0, 1, 2, 3] rfl) rfl)
    · exact absurd (by decide) c_3

set_option maxHeartbeats 4000000 in
set_option maxRecDepth 100000 in
theorem met_X1_canClear_2 (l : Launch) (E : EV) (g u : Nat) (hg : g < 512) (hu : u < 32) : MI l yX1_canClear wsX1_canClear { frames := 7, cells := 0, slots := 0, locals := 172 } E [.int (nI g), .int (nI u), .int (nI 2)] [] (nI (if ccB 2 g u = true then 1 else 0)) [] := by
  refine sI (own := RX1) (cc := cX1_canClear) (maxL := 6) (ret := (some .boolean)) rfl (by decide) rfl (Nat.le_of_ble_eq_true rfl) ?_
  intro p e s m below meth c C hnm ls hl hW
  have hl : lv_has ls 6 [(0, .int (nI g)), (1, .int (nI u)), (2, .int (nI 2))] := hl
  have hW : WD E _ s [] s.heap [] := hW
  refine lv_iload_n C.x C.b dX1_canClear_0 rfl (lv_at hl 0 rfl) ?_
  refine x_if_eq C (by omega) (tgt := 8) dX1_canClear_1 (by decide) (fun c_1 => ?_) (fun c_1 => ?_)
  · refine lv_iload_n C.x C.b dX1_canClear_8 rfl (lv_at hl 0 rfl) ?_
    refine x_if_ne C (by omega) (tgt := 16) dX1_canClear_9 (by decide) (fun c_2 => ?_) (fun c_2 => ?_)
    · refine lv_iconst (v := nI 0) C.x C.b dX1_canClear_16 (by decide) ?_
      exact x_iret C hW (by first | rfl | exact z_narb _) (by first | (simp [ccB, c_1, c_2]; done) | (exfalso; omega)) rfl dX1_canClear_17
    · refine lv_iconst (v := nI 1) C.x C.b dX1_canClear_12 (by decide) ?_
      refine lv_goto (tgt := 17) C.x C.b dX1_canClear_13 (by decide) ?_
      exact x_iret C hW (by first | rfl | exact z_narb _) (by first | (simp [ccB, c_1, c_2]; done) | (exfalso; omega)) rfl dX1_canClear_17
  · refine lv_iload_n C.x C.b dX1_canClear_4 rfl (lv_at hl 2 rfl) ?_
    refine x_if_gt C (by omega) (tgt := 18) dX1_canClear_5 (by decide) (fun c_3 => ?_) (fun c_3 => ?_)
    · refine lv_iconst (v := nI 0) C.x C.b dX1_canClear_18 (by decide) ?_
      refine lv_istore_n (lv' := [(3, .int (nI 0)), (0, .int (nI g)), (1, .int (nI u)), (2, .int (nI 2))]) C.x C.b dX1_canClear_19 rfl hl (by decide) rfl (fun ls hl => ?_)
      have lp_4 : ∀ (n4 b : Nat), b ≤ 5 → 5 + 1 ≤ b + n4 → (∀ b', b' < b → ∀ z', z' < 5 → ccG (ccB 1) g u b' z' = false) → ∀ (H : Heap) (locs : List Loc) (ls : Array Slot), WD E (va_A [] s.heap.size) s [] H locs → lv_has ls 6 [(3, .int (nI b)), (0, .int (nI g)), (1, .int (nI u)), (2, .int (nI 2))] → W p l e ({ frames := 7, cells := 0, slots := 0, locals := 172 } : Room) s m ([.int (nI g), .int (nI u), .int (nI 2)] : List Value).toArray below meth c H locs 0 0 (QI E [] (nI (if ccB 2 g u = true then 1 else 0)) [] below ([.int (nI g), .int (nI u), .int (nI 2)] : List Value).toArray s) (F0 m 20 ls []) := by
        intro n4
        induction n4 with
        | zero => intro b hb hn; exact absurd hn (by omega)
        | succ n4 ih4 =>
          intro b hb hn hib H locs ls hW hl
          refine lv_iload_n C.x C.b dX1_canClear_20 rfl (lv_at hl 0 rfl) ?_
          refine lv_iconst (v := nI 5) C.x C.b dX1_canClear_21 (by decide) ?_
          refine x_icmp_ge C (by omega) (by omega) (tgt := 90) dX1_canClear_22 (by decide) (fun c_5 => ?_) (fun c_5 => ?_)
          · obtain rfl : b = 5 := by omega
            refine lv_iconst (v := nI 0) C.x C.b dX1_canClear_90 (by decide) ?_
            exact x_iret C hW (by first | rfl | exact z_narb _) (by rw [if_neg (ccB_f (by assumption) hib)]) rfl dX1_canClear_91
          · refine lv_iconst (v := nI 0) C.x C.b dX1_canClear_25 (by decide) ?_
            refine lv_istore (lv' := [(4, .int (nI 0)), (3, .int (nI b)), (0, .int (nI g)), (1, .int (nI u)), (2, .int (nI 2))]) C.x C.b dX1_canClear_26 hl (by decide) rfl (fun ls hl => ?_)
            have lp_6 : ∀ (n6 z : Nat), z ≤ 5 → 5 + 1 ≤ z + n6 → (∀ z', z' < z → ccG (ccB 1) g u b z' = false) → ∀ (H : Heap) (locs : List Loc) (ls : Array Slot), WD E (va_A [] s.heap.size) s [] H locs → lv_has ls 6 [(4, .int (nI z)), (3, .int (nI b)), (0, .int (nI g)), (1, .int (nI u)), (2, .int (nI 2))] → W p l e ({ frames := 7, cells := 0, slots := 0, locals := 172 } : Room) s m ([.int (nI g), .int (nI u), .int (nI 2)] : List Value).toArray below meth c H locs 0 0 (QI E [] (nI (if ccB 2 g u = true then 1 else 0)) [] below ([.int (nI g), .int (nI u), .int (nI 2)] : List Value).toArray s) (F0 m 28 ls []) := by
              intro n6
              induction n6 with
              | zero => intro z hz hn; exact absurd hn (by omega)
              | succ n6 ih6 =>
                intro z hz hn hiz H locs ls hW hl
                refine lv_iload C.x C.b dX1_canClear_28 (lv_at hl 0 rfl) ?_
                refine lv_iconst (v := nI 5) C.x C.b dX1_canClear_30 (by decide) ?_
                refine x_icmp_ge C (by omega) (by omega) (tgt := 84) dX1_canClear_31 (by decide) (fun c_7 => ?_) (fun c_7 => ?_)
                · refine lv_iinc (k := 1) (v := nI (b + 1)) (lv' := [(3, .int (nI (b + 1))), (4, .int (nI z)), (0, .int (nI g)), (1, .int (nI u)), (2, .int (nI 2))]) C.x C.b dX1_canClear_84 hl rfl (z_inc b 1) (by decide) rfl (fun ls hl => ?_)
                  refine lv_goto (tgt := 20) C.x C.b dX1_canClear_87 (by decide) ?_
                  exact ih4 (b + 1) (by omega) (by omega) (lt_s hib (by first | (intro z' hz'; exact hiz z' (by omega)) | (intro z' _; simp [ccG, c_1, c_3, c_5, c_7]))) _ _ _ (hW.to rfl) (lv_to (lv_sub (l' := [(3, .int (nI (b + 1))), (0, .int (nI g)), (1, .int (nI u)), (2, .int (nI 2))]) hl [0, 2, 3, 4] rfl) (by first | rfl | (simp [c_1, c_3, c_5, c_7]; done) | (rw [if_pos (by omega)]; done) | (rw [if_neg (by omega)]; done) | (exfalso; omega) | ((repeat' split) <;> first | rfl | contradiction | (exfalso; omega))))
                · refine lv_iload_n C.x C.b dX1_canClear_34 rfl (lv_at hl 3 rfl) ?_
                  refine lv_iload_n C.x C.b dX1_canClear_35 rfl (lv_at hl 1 rfl) ?_
                  refine x_cSI C hW (As := [.int (nI u), .int (nI b)]) (rest := []) (wr := []) (wn := []) (met_X1_holds l E u b (by omega) (by omega)) gX1_canClear_X1_holds rfl 2 rfl ⟨rfl, rfl⟩ ⟨by decide +kernel, by decide +kernel, by decide +kernel⟩ ⟨Nat.le_of_ble_eq_true rfl, Nat.le_of_ble_eq_true rfl⟩ [] [] [] rfl (by decide) rfl (by decide) (by decide) rfl (by decide) hl.1 rfl (Nat.le_of_ble_eq_true rfl) dX1_canClear_36 ⟨Nat.zero_le _, Nat.zero_le _⟩ (fun H locs hW => ?_)
                  refine x_ifb_ne C (tgt := 84) dX1_canClear_39 (by decide) (fun c_8 => ?_) (fun c_8 => ?_)
                  · refine lv_iinc (k := 1) (v := nI (b + 1)) (lv' := [(3, .int (nI (b + 1))), (4, .int (nI z)), (0, .int (nI g)), (1, .int (nI u)), (2, .int (nI 2))]) C.x C.b dX1_canClear_84 hl rfl (z_inc b 1) (by decide) rfl (fun ls hl => ?_)
                    refine lv_goto (tgt := 20) C.x C.b dX1_canClear_87 (by decide) ?_
                    exact ih4 (b + 1) (by omega) (by omega) (lt_s hib (by first | (intro z' hz'; exact hiz z' (by omega)) | (intro z' _; simp [ccG, c_1, c_3, c_5, c_7, c_8]))) _ _ _ (hW.to rfl) (lv_to (lv_sub (l' := [(3, .int (nI (b + 1))), (0, .int (nI g)), (1, .int (nI u)), (2, .int (nI 2))]) hl [0, 2, 3, 4] rfl) (by first | rfl | (simp [c_1, c_3, c_5, c_7, c_8]; done) | (rw [if_pos (by omega)]; done) | (rw [if_neg (by omega)]; done) | (exfalso; omega) | ((repeat' split) <;> first | rfl | contradiction | (exfalso; omega))))
                  · refine lv_iload_n C.x C.b dX1_canClear_42 rfl (lv_at hl 2 rfl) ?_
                    refine lv_iload_n C.x C.b dX1_canClear_43 rfl (lv_at hl 1 rfl) ?_
                    refine lv_iload C.x C.b dX1_canClear_44 (lv_at hl 0 rfl) ?_
                    refine x_cSI C hW (As := [.int (nI g), .int (nI b), .int (nI z)]) (rest := []) (wr := []) (wn := []) (met_X1_felled l E g b z (by omega) (by omega) (by omega)) gX1_canClear_X1_felled rfl 3 rfl ⟨rfl, rfl⟩ ⟨by decide +kernel, by decide +kernel, by decide +kernel⟩ ⟨Nat.le_of_ble_eq_true rfl, Nat.le_of_ble_eq_true rfl⟩ [] [] [] rfl (by decide) rfl (by decide) (by decide) rfl (by decide) hl.1 rfl (Nat.le_of_ble_eq_true rfl) dX1_canClear_46 ⟨Nat.zero_le _, Nat.zero_le _⟩ (fun H locs hW => ?_)
                    refine lv_istore (lv' := [(5, .int (nI (feN g b z))), (4, .int (nI z)), (3, .int (nI b)), (0, .int (nI g)), (1, .int (nI u)), (2, .int (nI 2))]) C.x C.b dX1_canClear_49 hl (by decide) rfl (fun ls hl => ?_)
                    refine lv_iload C.x C.b dX1_canClear_51 (lv_at hl 0 rfl) ?_
                    refine x_if_eq C (by have := fe_lt (b := b) (z := z) hg; omega) (tgt := 78) dX1_canClear_53 (by decide) (fun c_9 => ?_) (fun c_9 => ?_)
                    · refine lv_iinc (k := 1) (v := nI (z + 1)) (lv' := [(4, .int (nI (z + 1))), (5, .int (nI (feN g b z))), (3, .int (nI b)), (0, .int (nI g)), (1, .int (nI u)), (2, .int (nI 2))]) C.x C.b dX1_canClear_78 hl rfl (z_inc z 1) (by decide) rfl (fun ls hl => ?_)
                      refine lv_goto (tgt := 28) C.x C.b dX1_canClear_81 (by decide) ?_
                      exact ih6 (z + 1) (by omega) (by omega) (lt_s hiz (by first | (simp [ccG, hne, c_1, c_3, c_5, c_7, c_8, c_9]; done) | (have heq : roN g b z = g := ((fe_0 hg).mp (by assumption)); simp [ccG, heq]))) _ _ _ (hW.to rfl) (lv_to (lv_sub (l' := [(4, .int (nI (z + 1))), (3, .int (nI b)), (0, .int (nI g)), (1, .int (nI u)), (2, .int (nI 2))]) hl [0, 2, 3, 4, 5] rfl) (by first | rfl | (simp [c_1, c_3, c_5, c_7, c_8, c_9]; done) | (rw [if_pos (by omega)]; done) | (rw [if_neg (by omega)]; done) | (exfalso; omega) | ((repeat' split) <;> first | rfl | contradiction | (exfalso; omega))))
                    · have hne : ¬ roN g b z = g := fun q => absurd ((fe_0 hg).mpr q) (by assumption)
                      refine lv_iload_n C.x C.b dX1_canClear_56 rfl (lv_at hl 3 rfl) ?_
                      refine lv_iload C.x C.b dX1_canClear_57 (lv_at hl 0 rfl) ?_
                      refine lv_iconst (v := nI 4294967295) C.x C.b dX1_canClear_59 (by decide) ?_
                      refine x_ixor C dX1_canClear_60 ?_
                      refine lv_iand C.x C.b dX1_canClear_61 ?_
                      refine x_toi (y := nI (roN g b z)) ((z_and _ _).trans (congrArg nI (fe_rest hg))) ?_
                      refine lv_iload_n C.x C.b dX1_canClear_62 rfl (lv_at hl 4 rfl) ?_
                      refine lv_iconst (v := nI 1) C.x C.b dX1_canClear_63 (by decide) ?_
                      refine lv_iload_n C.x C.b dX1_canClear_64 rfl (lv_at hl 2 rfl) ?_
                      refine x_ishl1 C (by omega) dX1_canClear_65 ?_
                      refine x_ior C dX1_canClear_66 ?_
                      refine lv_iload_n C.x C.b dX1_canClear_67 rfl (lv_at hl 5 rfl) ?_
                      refine lv_iconst (v := nI 1) C.x C.b dX1_canClear_68 (by decide) ?_
                      refine lv_isub C.x C.b dX1_canClear_69 ?_
                      refine x_toi (y := nI 1) (by decide) ?_
                      refine x_cSI C hW (As := [.int (nI (roN g b z)), .int (nI (u ||| (2 ^ b))), .int (nI 1)]) (rest := []) (wr := []) (wn := []) (met_X1_canClear_1 l E (roN g b z) (u ||| (2 ^ b)) (ro_lt hg) (or_lt32 hu (by omega))) gX1_canClear_X1_canClear rfl 3 rfl ⟨rfl, rfl⟩ ⟨by decide +kernel, by decide +kernel, by decide +kernel⟩ ⟨Nat.le_of_ble_eq_true rfl, Nat.le_of_ble_eq_true rfl⟩ [] [] [] rfl (by decide) rfl (by decide) (by decide) rfl (by decide) hl.1 rfl (Nat.le_of_ble_eq_true rfl) dX1_canClear_70 ⟨Nat.zero_le _, Nat.zero_le _⟩ (fun H locs hW => ?_)
                      refine x_ifb_eq C (tgt := 78) dX1_canClear_73 (by decide) (fun c_10 => ?_) (fun c_10 => ?_)
                      · refine lv_iinc (k := 1) (v := nI (z + 1)) (lv' := [(4, .int (nI (z + 1))), (5, .int (nI (feN g b z))), (3, .int (nI b)), (0, .int (nI g)), (1, .int (nI u)), (2, .int (nI 2))]) C.x C.b dX1_canClear_78 hl rfl (z_inc z 1) (by decide) rfl (fun ls hl => ?_)
                        refine lv_goto (tgt := 28) C.x C.b dX1_canClear_81 (by decide) ?_
                        exact ih6 (z + 1) (by omega) (by omega) (lt_s hiz (by first | (simp [ccG, hne, c_1, c_3, c_5, c_7, c_8, c_9, c_10]; done) | (have heq : roN g b z = g := ((fe_0 hg).mp (by assumption)); simp [ccG, heq]))) _ _ _ (hW.to rfl) (lv_to (lv_sub (l' := [(4, .int (nI (z + 1))), (3, .int (nI b)), (0, .int (nI g)), (1, .int (nI u)), (2, .int (nI 2))]) hl [0, 2, 3, 4, 5] rfl) (by first | rfl | (simp [c_1, c_3, c_5, c_7, c_8, c_9, c_10]; done) | (rw [if_pos (by omega)]; done) | (rw [if_neg (by omega)]; done) | (exfalso; omega) | ((repeat' split) <;> first | rfl | contradiction | (exfalso; omega))))
                      · refine lv_iconst (v := nI 1) C.x C.b dX1_canClear_76 (by decide) ?_
                        exact x_iret C hW (by first | rfl | exact z_narb _) (by rw [if_pos (ccB_t (b := b) (z := z) (by omega) (by omega) (by simp [ccG, hne, c_1, c_3, c_5, c_7, c_8, c_9, c_10]))]) rfl dX1_canClear_77
            exact lp_6 (5 + 1) 0 (by omega) (by omega) (fun _ h => absurd h (Nat.not_lt_zero _)) _ _ _ (hW.to rfl) (lv_to (lv_sub (l' := [(4, .int (nI 0)), (3, .int (nI b)), (0, .int (nI g)), (1, .int (nI u)), (2, .int (nI 2))]) hl [0, 1, 2, 3, 4] rfl) rfl)
      exact lp_4 (5 + 1) 0 (by omega) (by omega) (fun _ h => absurd h (Nat.not_lt_zero _)) _ _ _ (hW.to rfl) (lv_to (lv_sub (l' := [(3, .int (nI 0)), (0, .int (nI g)), (1, .int (nI u)), (2, .int (nI 2))]) hl [0, 1, 2, 3] rfl) rfl)
    · exact absurd (by decide) c_3

set_option maxHeartbeats 4000000 in
set_option maxRecDepth 100000 in
theorem met_X1_canClear_3 (l : Launch) (E : EV) (g u : Nat) (hg : g < 512) (hu : u < 32) : MI l yX1_canClear wsX1_canClear { frames := 8, cells := 0, slots := 0, locals := 197 } E [.int (nI g), .int (nI u), .int (nI 3)] [] (nI (if ccB 3 g u = true then 1 else 0)) [] := by
  refine sI (own := RX1) (cc := cX1_canClear) (maxL := 6) (ret := (some .boolean)) rfl (by decide) rfl (Nat.le_of_ble_eq_true rfl) ?_
  intro p e s m below meth c C hnm ls hl hW
  have hl : lv_has ls 6 [(0, .int (nI g)), (1, .int (nI u)), (2, .int (nI 3))] := hl
  have hW : WD E _ s [] s.heap [] := hW
  refine lv_iload_n C.x C.b dX1_canClear_0 rfl (lv_at hl 0 rfl) ?_
  refine x_if_eq C (by omega) (tgt := 8) dX1_canClear_1 (by decide) (fun c_1 => ?_) (fun c_1 => ?_)
  · refine lv_iload_n C.x C.b dX1_canClear_8 rfl (lv_at hl 0 rfl) ?_
    refine x_if_ne C (by omega) (tgt := 16) dX1_canClear_9 (by decide) (fun c_2 => ?_) (fun c_2 => ?_)
    · refine lv_iconst (v := nI 0) C.x C.b dX1_canClear_16 (by decide) ?_
      exact x_iret C hW (by first | rfl | exact z_narb _) (by first | (simp [ccB, c_1, c_2]; done) | (exfalso; omega)) rfl dX1_canClear_17
    · refine lv_iconst (v := nI 1) C.x C.b dX1_canClear_12 (by decide) ?_
      refine lv_goto (tgt := 17) C.x C.b dX1_canClear_13 (by decide) ?_
      exact x_iret C hW (by first | rfl | exact z_narb _) (by first | (simp [ccB, c_1, c_2]; done) | (exfalso; omega)) rfl dX1_canClear_17
  · refine lv_iload_n C.x C.b dX1_canClear_4 rfl (lv_at hl 2 rfl) ?_
    refine x_if_gt C (by omega) (tgt := 18) dX1_canClear_5 (by decide) (fun c_3 => ?_) (fun c_3 => ?_)
    · refine lv_iconst (v := nI 0) C.x C.b dX1_canClear_18 (by decide) ?_
      refine lv_istore_n (lv' := [(3, .int (nI 0)), (0, .int (nI g)), (1, .int (nI u)), (2, .int (nI 3))]) C.x C.b dX1_canClear_19 rfl hl (by decide) rfl (fun ls hl => ?_)
      have lp_4 : ∀ (n4 b : Nat), b ≤ 5 → 5 + 1 ≤ b + n4 → (∀ b', b' < b → ∀ z', z' < 5 → ccG (ccB 2) g u b' z' = false) → ∀ (H : Heap) (locs : List Loc) (ls : Array Slot), WD E (va_A [] s.heap.size) s [] H locs → lv_has ls 6 [(3, .int (nI b)), (0, .int (nI g)), (1, .int (nI u)), (2, .int (nI 3))] → W p l e ({ frames := 8, cells := 0, slots := 0, locals := 197 } : Room) s m ([.int (nI g), .int (nI u), .int (nI 3)] : List Value).toArray below meth c H locs 0 0 (QI E [] (nI (if ccB 3 g u = true then 1 else 0)) [] below ([.int (nI g), .int (nI u), .int (nI 3)] : List Value).toArray s) (F0 m 20 ls []) := by
        intro n4
        induction n4 with
        | zero => intro b hb hn; exact absurd hn (by omega)
        | succ n4 ih4 =>
          intro b hb hn hib H locs ls hW hl
          refine lv_iload_n C.x C.b dX1_canClear_20 rfl (lv_at hl 0 rfl) ?_
          refine lv_iconst (v := nI 5) C.x C.b dX1_canClear_21 (by decide) ?_
          refine x_icmp_ge C (by omega) (by omega) (tgt := 90) dX1_canClear_22 (by decide) (fun c_5 => ?_) (fun c_5 => ?_)
          · obtain rfl : b = 5 := by omega
            refine lv_iconst (v := nI 0) C.x C.b dX1_canClear_90 (by decide) ?_
            exact x_iret C hW (by first | rfl | exact z_narb _) (by rw [if_neg (ccB_f (by assumption) hib)]) rfl dX1_canClear_91
          · refine lv_iconst (v := nI 0) C.x C.b dX1_canClear_25 (by decide) ?_
            refine lv_istore (lv' := [(4, .int (nI 0)), (3, .int (nI b)), (0, .int (nI g)), (1, .int (nI u)), (2, .int (nI 3))]) C.x C.b dX1_canClear_26 hl (by decide) rfl (fun ls hl => ?_)
            have lp_6 : ∀ (n6 z : Nat), z ≤ 5 → 5 + 1 ≤ z + n6 → (∀ z', z' < z → ccG (ccB 2) g u b z' = false) → ∀ (H : Heap) (locs : List Loc) (ls : Array Slot), WD E (va_A [] s.heap.size) s [] H locs → lv_has ls 6 [(4, .int (nI z)), (3, .int (nI b)), (0, .int (nI g)), (1, .int (nI u)), (2, .int (nI 3))] → W p l e ({ frames := 8, cells := 0, slots := 0, locals := 197 } : Room) s m ([.int (nI g), .int (nI u), .int (nI 3)] : List Value).toArray below meth c H locs 0 0 (QI E [] (nI (if ccB 3 g u = true then 1 else 0)) [] below ([.int (nI g), .int (nI u), .int (nI 3)] : List Value).toArray s) (F0 m 28 ls []) := by
              intro n6
              induction n6 with
              | zero => intro z hz hn; exact absurd hn (by omega)
              | succ n6 ih6 =>
                intro z hz hn hiz H locs ls hW hl
                refine lv_iload C.x C.b dX1_canClear_28 (lv_at hl 0 rfl) ?_
                refine lv_iconst (v := nI 5) C.x C.b dX1_canClear_30 (by decide) ?_
                refine x_icmp_ge C (by omega) (by omega) (tgt := 84) dX1_canClear_31 (by decide) (fun c_7 => ?_) (fun c_7 => ?_)
                · refine lv_iinc (k := 1) (v := nI (b + 1)) (lv' := [(3, .int (nI (b + 1))), (4, .int (nI z)), (0, .int (nI g)), (1, .int (nI u)), (2, .int (nI 3))]) C.x C.b dX1_canClear_84 hl rfl (z_inc b 1) (by decide) rfl (fun ls hl => ?_)
                  refine lv_goto (tgt := 20) C.x C.b dX1_canClear_87 (by decide) ?_
                  exact ih4 (b + 1) (by omega) (by omega) (lt_s hib (by first | (intro z' hz'; exact hiz z' (by omega)) | (intro z' _; simp [ccG, c_1, c_3, c_5, c_7]))) _ _ _ (hW.to rfl) (lv_to (lv_sub (l' := [(3, .int (nI (b + 1))), (0, .int (nI g)), (1, .int (nI u)), (2, .int (nI 3))]) hl [0, 2, 3, 4] rfl) (by first | rfl | (simp [c_1, c_3, c_5, c_7]; done) | (rw [if_pos (by omega)]; done) | (rw [if_neg (by omega)]; done) | (exfalso; omega) | ((repeat' split) <;> first | rfl | contradiction | (exfalso; omega))))
                · refine lv_iload_n C.x C.b dX1_canClear_34 rfl (lv_at hl 3 rfl) ?_
                  refine lv_iload_n C.x C.b dX1_canClear_35 rfl (lv_at hl 1 rfl) ?_
                  refine x_cSI C hW (As := [.int (nI u), .int (nI b)]) (rest := []) (wr := []) (wn := []) (met_X1_holds l E u b (by omega) (by omega)) gX1_canClear_X1_holds rfl 2 rfl ⟨rfl, rfl⟩ ⟨by decide +kernel, by decide +kernel, by decide +kernel⟩ ⟨Nat.le_of_ble_eq_true rfl, Nat.le_of_ble_eq_true rfl⟩ [] [] [] rfl (by decide) rfl (by decide) (by decide) rfl (by decide) hl.1 rfl (Nat.le_of_ble_eq_true rfl) dX1_canClear_36 ⟨Nat.zero_le _, Nat.zero_le _⟩ (fun H locs hW => ?_)
                  refine x_ifb_ne C (tgt := 84) dX1_canClear_39 (by decide) (fun c_8 => ?_) (fun c_8 => ?_)
                  · refine lv_iinc (k := 1) (v := nI (b + 1)) (lv' := [(3, .int (nI (b + 1))), (4, .int (nI z)), (0, .int (nI g)), (1, .int (nI u)), (2, .int (nI 3))]) C.x C.b dX1_canClear_84 hl rfl (z_inc b 1) (by decide) rfl (fun ls hl => ?_)
                    refine lv_goto (tgt := 20) C.x C.b dX1_canClear_87 (by decide) ?_
                    exact ih4 (b + 1) (by omega) (by omega) (lt_s hib (by first | (intro z' hz'; exact hiz z' (by omega)) | (intro z' _; simp [ccG, c_1, c_3, c_5, c_7, c_8]))) _ _ _ (hW.to rfl) (lv_to (lv_sub (l' := [(3, .int (nI (b + 1))), (0, .int (nI g)), (1, .int (nI u)), (2, .int (nI 3))]) hl [0, 2, 3, 4] rfl) (by first | rfl | (simp [c_1, c_3, c_5, c_7, c_8]; done) | (rw [if_pos (by omega)]; done) | (rw [if_neg (by omega)]; done) | (exfalso; omega) | ((repeat' split) <;> first | rfl | contradiction | (exfalso; omega))))
                  · refine lv_iload_n C.x C.b dX1_canClear_42 rfl (lv_at hl 2 rfl) ?_
                    refine lv_iload_n C.x C.b dX1_canClear_43 rfl (lv_at hl 1 rfl) ?_
                    refine lv_iload C.x C.b dX1_canClear_44 (lv_at hl 0 rfl) ?_
                    refine x_cSI C hW (As := [.int (nI g), .int (nI b), .int (nI z)]) (rest := []) (wr := []) (wn := []) (met_X1_felled l E g b z (by omega) (by omega) (by omega)) gX1_canClear_X1_felled rfl 3 rfl ⟨rfl, rfl⟩ ⟨by decide +kernel, by decide +kernel, by decide +kernel⟩ ⟨Nat.le_of_ble_eq_true rfl, Nat.le_of_ble_eq_true rfl⟩ [] [] [] rfl (by decide) rfl (by decide) (by decide) rfl (by decide) hl.1 rfl (Nat.le_of_ble_eq_true rfl) dX1_canClear_46 ⟨Nat.zero_le _, Nat.zero_le _⟩ (fun H locs hW => ?_)
                    refine lv_istore (lv' := [(5, .int (nI (feN g b z))), (4, .int (nI z)), (3, .int (nI b)), (0, .int (nI g)), (1, .int (nI u)), (2, .int (nI 3))]) C.x C.b dX1_canClear_49 hl (by decide) rfl (fun ls hl => ?_)
                    refine lv_iload C.x C.b dX1_canClear_51 (lv_at hl 0 rfl) ?_
                    refine x_if_eq C (by have := fe_lt (b := b) (z := z) hg; omega) (tgt := 78) dX1_canClear_53 (by decide) (fun c_9 => ?_) (fun c_9 => ?_)
                    · refine lv_iinc (k := 1) (v := nI (z + 1)) (lv' := [(4, .int (nI (z + 1))), (5, .int (nI (feN g b z))), (3, .int (nI b)), (0, .int (nI g)), (1, .int (nI u)), (2, .int (nI 3))]) C.x C.b dX1_canClear_78 hl rfl (z_inc z 1) (by decide) rfl (fun ls hl => ?_)
                      refine lv_goto (tgt := 28) C.x C.b dX1_canClear_81 (by decide) ?_
                      exact ih6 (z + 1) (by omega) (by omega) (lt_s hiz (by first | (simp [ccG, hne, c_1, c_3, c_5, c_7, c_8, c_9]; done) | (have heq : roN g b z = g := ((fe_0 hg).mp (by assumption)); simp [ccG, heq]))) _ _ _ (hW.to rfl) (lv_to (lv_sub (l' := [(4, .int (nI (z + 1))), (3, .int (nI b)), (0, .int (nI g)), (1, .int (nI u)), (2, .int (nI 3))]) hl [0, 2, 3, 4, 5] rfl) (by first | rfl | (simp [c_1, c_3, c_5, c_7, c_8, c_9]; done) | (rw [if_pos (by omega)]; done) | (rw [if_neg (by omega)]; done) | (exfalso; omega) | ((repeat' split) <;> first | rfl | contradiction | (exfalso; omega))))
                    · have hne : ¬ roN g b z = g := fun q => absurd ((fe_0 hg).mpr q) (by assumption)
                      refine lv_iload_n C.x C.b dX1_canClear_56 rfl (lv_at hl 3 rfl) ?_
                      refine lv_iload C.x C.b dX1_canClear_57 (lv_at hl 0 rfl) ?_
                      refine lv_iconst (v := nI 4294967295) C.x C.b dX1_canClear_59 (by decide) ?_
                      refine x_ixor C dX1_canClear_60 ?_
                      refine lv_iand C.x C.b dX1_canClear_61 ?_
                      refine x_toi (y := nI (roN g b z)) ((z_and _ _).trans (congrArg nI (fe_rest hg))) ?_
                      refine lv_iload_n C.x C.b dX1_canClear_62 rfl (lv_at hl 4 rfl) ?_
                      refine lv_iconst (v := nI 1) C.x C.b dX1_canClear_63 (by decide) ?_
                      refine lv_iload_n C.x C.b dX1_canClear_64 rfl (lv_at hl 2 rfl) ?_
                      refine x_ishl1 C (by omega) dX1_canClear_65 ?_
                      refine x_ior C dX1_canClear_66 ?_
                      refine lv_iload_n C.x C.b dX1_canClear_67 rfl (lv_at hl 5 rfl) ?_
                      refine lv_iconst (v := nI 1) C.x C.b dX1_canClear_68 (by decide) ?_
                      refine lv_isub C.x C.b dX1_canClear_69 ?_
                      refine x_toi (y := nI 2) (by decide) ?_
                      refine x_cSI C hW (As := [.int (nI (roN g b z)), .int (nI (u ||| (2 ^ b))), .int (nI 2)]) (rest := []) (wr := []) (wn := []) (met_X1_canClear_2 l E (roN g b z) (u ||| (2 ^ b)) (ro_lt hg) (or_lt32 hu (by omega))) gX1_canClear_X1_canClear rfl 3 rfl ⟨rfl, rfl⟩ ⟨by decide +kernel, by decide +kernel, by decide +kernel⟩ ⟨Nat.le_of_ble_eq_true rfl, Nat.le_of_ble_eq_true rfl⟩ [] [] [] rfl (by decide) rfl (by decide) (by decide) rfl (by decide) hl.1 rfl (Nat.le_of_ble_eq_true rfl) dX1_canClear_70 ⟨Nat.zero_le _, Nat.zero_le _⟩ (fun H locs hW => ?_)
                      refine x_ifb_eq C (tgt := 78) dX1_canClear_73 (by decide) (fun c_10 => ?_) (fun c_10 => ?_)
                      · refine lv_iinc (k := 1) (v := nI (z + 1)) (lv' := [(4, .int (nI (z + 1))), (5, .int (nI (feN g b z))), (3, .int (nI b)), (0, .int (nI g)), (1, .int (nI u)), (2, .int (nI 3))]) C.x C.b dX1_canClear_78 hl rfl (z_inc z 1) (by decide) rfl (fun ls hl => ?_)
                        refine lv_goto (tgt := 28) C.x C.b dX1_canClear_81 (by decide) ?_
                        exact ih6 (z + 1) (by omega) (by omega) (lt_s hiz (by first | (simp [ccG, hne, c_1, c_3, c_5, c_7, c_8, c_9, c_10]; done) | (have heq : roN g b z = g := ((fe_0 hg).mp (by assumption)); simp [ccG, heq]))) _ _ _ (hW.to rfl) (lv_to (lv_sub (l' := [(4, .int (nI (z + 1))), (3, .int (nI b)), (0, .int (nI g)), (1, .int (nI u)), (2, .int (nI 3))]) hl [0, 2, 3, 4, 5] rfl) (by first | rfl | (simp [c_1, c_3, c_5, c_7, c_8, c_9, c_10]; done) | (rw [if_pos (by omega)]; done) | (rw [if_neg (by omega)]; done) | (exfalso; omega) | ((repeat' split) <;> first | rfl | contradiction | (exfalso; omega))))
                      · refine lv_iconst (v := nI 1) C.x C.b dX1_canClear_76 (by decide) ?_
                        exact x_iret C hW (by first | rfl | exact z_narb _) (by rw [if_pos (ccB_t (b := b) (z := z) (by omega) (by omega) (by simp [ccG, hne, c_1, c_3, c_5, c_7, c_8, c_9, c_10]))]) rfl dX1_canClear_77
            exact lp_6 (5 + 1) 0 (by omega) (by omega) (fun _ h => absurd h (Nat.not_lt_zero _)) _ _ _ (hW.to rfl) (lv_to (lv_sub (l' := [(4, .int (nI 0)), (3, .int (nI b)), (0, .int (nI g)), (1, .int (nI u)), (2, .int (nI 3))]) hl [0, 1, 2, 3, 4] rfl) rfl)
      exact lp_4 (5 + 1) 0 (by omega) (by omega) (fun _ h => absurd h (Nat.not_lt_zero _)) _ _ _ (hW.to rfl) (lv_to (lv_sub (l' := [(3, .int (nI 0)), (0, .int (nI g)), (1, .int (nI u)), (2, .int (nI 3))]) hl [0, 1, 2, 3] rfl) rfl)
    · exact absurd (by decide) c_3
