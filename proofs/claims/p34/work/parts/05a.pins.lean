/-! PINS -/
set_option maxHeartbeats 4000000 in
set_option maxRecDepth 100000 in
theorem met_X1_holds (l : Launch) (E : EV) (a b : Nat) (hb : b < 31) (ha : a < 2 ^ 31) : MI l yX1_holds wsX1_holds { frames := 0, cells := 0, slots := 0, locals := 0 } E [.int (nI a), .int (nI b)] [] (nI (if a / 2 ^ b % 2 = 1 then 1 else 0)) [] := by
  refine sI (own := RX1) (cc := cX1_holds) (maxL := 2) (ret := (some .boolean)) rfl (by decide) rfl (Nat.le_of_ble_eq_true rfl) ?_
  intro p e s m below meth c C hnm ls hl hW
  have hl : lv_has ls 2 [(0, .int (nI a)), (1, .int (nI b))] := hl
  have hW : WD E _ s [] s.heap [] := hW
  refine lv_iload_n C.x C.b dX1_holds_0 rfl (lv_at hl 0 rfl) ?_
  refine lv_iload_n C.x C.b dX1_holds_1 rfl (lv_at hl 1 rfl) ?_
  refine x_ishr C (by omega) (by omega) dX1_holds_2 ?_
  refine lv_iconst (v := nI 1) C.x C.b dX1_holds_3 (by decide) ?_
  refine x_iand C dX1_holds_4 ?_
  refine x_if_eq C (by rw [Nat.and_one_is_mod]; omega) (tgt := 12) dX1_holds_5 (by decide) (fun c_1 => ?_) (fun c_1 => ?_)
  · refine lv_iconst (v := nI 0) C.x C.b dX1_holds_12 (by decide) ?_
    exact x_iret C hW (by first | rfl | exact z_narb _) (by rw [Nat.and_one_is_mod] at c_1; first | (rw [if_pos (by omega)]; done) | (rw [if_neg (by omega)]; done)) rfl dX1_holds_13
  · refine lv_iconst (v := nI 1) C.x C.b dX1_holds_8 (by decide) ?_
    refine lv_goto (tgt := 13) C.x C.b dX1_holds_9 (by decide) ?_
    exact x_iret C hW (by first | rfl | exact z_narb _) (by rw [Nat.and_one_is_mod] at c_1; first | (rw [if_pos (by omega)]; done) | (rw [if_neg (by omega)]; done)) rfl dX1_holds_13

set_option maxHeartbeats 4000000 in
set_option maxRecDepth 100000 in
theorem met_X1_pinAt (l : Launch) (E : EV) (r z : Int32)  : MI l yX1_pinAt wsX1_pinAt { frames := 0, cells := 0, slots := 0, locals := 0 } E [.int r, .int z] [] (pinV (pinQ r z)) [] := by
  refine sI (own := RX1) (cc := cX1_pinAt) (maxL := 2) (ret := (some .int)) rfl (by decide) rfl (Nat.le_of_ble_eq_true rfl) ?_
  intro p e s m below meth c C hnm ls hl hW
  have hl : lv_has ls 2 [(0, .int r), (1, .int z)] := hl
  have hW : WD E _ s [] s.heap [] := hW
  refine lv_iload_n C.x C.b dX1_pinAt_0 rfl (lv_at hl 0 rfl) ?_
  refine lv_if_lt C.x C.b (tgt := 18) dX1_pinAt_1 (by decide) (fun c_1 => ?_) (fun c_1 => ?_)
  · refine lv_iconst (v := (-1)) C.x C.b dX1_pinAt_18 (by decide) ?_
    exact x_iret C hW rfl (by first | (simp [pinQ, pinV, c_1]; done) | (simp [pinQ, pinV, c_1, Int32.not_lt.mp c_4]; done)) rfl dX1_pinAt_19
  · refine lv_iload_n C.x C.b dX1_pinAt_4 rfl (lv_at hl 0 rfl) ?_
    refine lv_iconst (v := nI 5) C.x C.b dX1_pinAt_5 (by decide) ?_
    refine lv_icmp_ge C.x C.b (tgt := 18) dX1_pinAt_6 (by decide) (fun c_2 => ?_) (fun c_2 => ?_)
    · have c_2 : 5 ≤ r := c_2
      refine lv_iconst (v := (-1)) C.x C.b dX1_pinAt_18 (by decide) ?_
      exact x_iret C hW rfl (by first | (simp [pinQ, pinV, c_1, c_2]; done) | (simp [pinQ, pinV, c_1, c_2, Int32.not_lt.mp c_4]; done)) rfl dX1_pinAt_19
    · have c_2 : ¬ (5 ≤ r) := c_2
      refine lv_iload_n C.x C.b dX1_pinAt_9 rfl (lv_at hl 1 rfl) ?_
      refine lv_if_lt C.x C.b (tgt := 18) dX1_pinAt_10 (by decide) (fun c_3 => ?_) (fun c_3 => ?_)
      · refine lv_iconst (v := (-1)) C.x C.b dX1_pinAt_18 (by decide) ?_
        exact x_iret C hW rfl (by first | (simp [pinQ, pinV, c_1, c_2, c_3]; done) | (simp [pinQ, pinV, c_1, c_2, c_3, Int32.not_lt.mp c_4]; done)) rfl dX1_pinAt_19
      · refine lv_iload_n C.x C.b dX1_pinAt_13 rfl (lv_at hl 1 rfl) ?_
        refine lv_iconst (v := nI 5) C.x C.b dX1_pinAt_14 (by decide) ?_
        refine lv_icmp_lt C.x C.b (tgt := 20) dX1_pinAt_15 (by decide) (fun c_4 => ?_) (fun c_4 => ?_)
        · have c_4 : z < 5 := c_4
          obtain ⟨a, ha, rfl⟩ := z_in5 c_1 c_2
          obtain ⟨b, hb, rfl⟩ := z_in5 c_3 (Int32.not_le.mpr c_4)
          refine x_gets C hW C.G.1 (by decide +kernel) dX1_pinAt_20 (fun t_6 hT_5 => ?_)
          refine lv_iload_n C.x C.b dX1_pinAt_23 rfl (lv_at hl 0 rfl) ?_
          refine lv_iconst (v := nI 5) C.x C.b dX1_pinAt_24 (by decide) ?_
          refine lv_imul C.x C.b dX1_pinAt_25 ?_
          refine lv_iload_n C.x C.b dX1_pinAt_26 rfl (lv_at hl 1 rfl) ?_
          refine lv_iadd C.x C.b dX1_pinAt_27 ?_
          refine x_tab C hW hT_5 (a * 5 + b) (by rw [← nI_add, ← pk_mul] <;> rfl) (by omega) (by decide) dX1_pinAt_28 ?_
          exact x_iret C hW rfl (by rw [pinQ_nI ha hb]; exact tPL_eq _ (by omega)) rfl dX1_pinAt_29
        · have c_4 : ¬ (z < 5) := c_4
          refine lv_iconst (v := (-1)) C.x C.b dX1_pinAt_18 (by decide) ?_
          exact x_iret C hW rfl (by first | (simp [pinQ, pinV, c_1, c_2, c_3, c_4]; done) | (simp [pinQ, pinV, c_1, c_2, c_3, c_4, Int32.not_lt.mp c_4]; done)) rfl dX1_pinAt_19

set_option maxHeartbeats 4000000 in
set_option maxRecDepth 100000 in
theorem met_X1_afterHit_0 (l : Launch) (E : EV) (g : Nat) (r z f : Int32) (hs : g < 512) (hf : f.toInt ≤ 0) : MI l yX1_afterHit wsX1_afterHit { frames := 1, cells := 0, slots := 0, locals := 21 } E [.int (nI g), .int r, .int z, .int f] [] (nI (hiF 0 g (pinQ r z) f)) [] := by
  refine sI (own := RX1) (cc := cX1_afterHit) (maxL := 6) (ret := (some .int)) rfl (by decide) rfl (Nat.le_of_ble_eq_true rfl) ?_
  intro p e s m below meth c C hnm ls hl hW
  have hl : lv_has ls 6 [(0, .int (nI g)), (1, .int r), (2, .int z), (3, .int f)] := hl
  have hW : WD E _ s [] s.heap [] := hW
  refine lv_iload_n C.x C.b dX1_afterHit_0 rfl (lv_at hl 1 rfl) ?_
  refine lv_iload_n C.x C.b dX1_afterHit_1 rfl (lv_at hl 2 rfl) ?_
  refine x_cSI C hW (As := [.int r, .int z]) (rest := []) (wr := []) (wn := []) (met_X1_pinAt l E r z) gX1_afterHit_X1_pinAt rfl 2 rfl ⟨rfl, rfl⟩ ⟨by decide +kernel, by decide +kernel, by decide +kernel⟩ ⟨Nat.le_of_ble_eq_true rfl, Nat.le_of_ble_eq_true rfl⟩ [] [] [] rfl (by decide) rfl (by decide) (by decide) rfl (by decide) hl.1 rfl (Nat.le_of_ble_eq_true rfl) dX1_afterHit_2 ⟨Nat.zero_le _, Nat.zero_le _⟩ (fun H locs hW => ?_)
  by_cases hp : pinQ r z < 9
  · rw [show pinV (pinQ r z) = nI (pinQ r z) from if_pos hp]
    refine lv_istore (lv' := [(4, .int (nI (pinQ r z))), (0, .int (nI g)), (1, .int r), (2, .int z), (3, .int f)]) C.x C.b dX1_afterHit_5 hl (by decide) rfl (fun ls hl => ?_)
    refine lv_iload_n C.x C.b dX1_afterHit_7 rfl (lv_at hl 4 rfl) ?_
    refine lv_iconst (v := nI 1) C.x C.b dX1_afterHit_8 (by decide) ?_
    refine lv_icmp_lt C.x C.b (tgt := 27) dX1_afterHit_9 (by decide) (fun c_1 => ?_) (fun c_1 => ?_)
    · have c_1 : f < 1 := c_1
      refine lv_iload_n C.x C.b dX1_afterHit_27 rfl (lv_at hl 1 rfl) ?_
      exact x_iret C hW rfl (by rw [hiF_no (fun q => by simp_all)]) rfl dX1_afterHit_28
    · exact absurd (z_lt1 (by omega)) c_1
  · rw [show pinV (pinQ r z) = -1 from if_neg hp]
    refine lv_istore (lv' := [(4, .int ((-1 : Int32))), (0, .int (nI g)), (1, .int r), (2, .int z), (3, .int f)]) C.x C.b dX1_afterHit_5 hl (by decide) rfl (fun ls hl => ?_)
    refine lv_iload_n C.x C.b dX1_afterHit_7 rfl (lv_at hl 4 rfl) ?_
    refine lv_iconst (v := nI 1) C.x C.b dX1_afterHit_8 (by decide) ?_
    refine lv_icmp_lt C.x C.b (tgt := 27) dX1_afterHit_9 (by decide) (fun c_2 => ?_) (fun c_2 => ?_)
    · have c_2 : f < 1 := c_2
      refine lv_iload_n C.x C.b dX1_afterHit_27 rfl (lv_at hl 1 rfl) ?_
      exact x_iret C hW rfl (by rw [hiF_no (fun q => by simp_all)]) rfl dX1_afterHit_28
    · exact absurd (z_lt1 (by omega)) c_2

set_option maxHeartbeats 4000000 in
set_option maxRecDepth 100000 in
theorem met_X1_afterHit_1 (l : Launch) (E : EV) (g : Nat) (r z f : Int32) (hs : g < 512) (hf : f.toInt ≤ 2) : MI l yX1_afterHit wsX1_afterHit { frames := 2, cells := 0, slots := 0, locals := 46 } E [.int (nI g), .int r, .int z, .int f] [] (nI (hiF 1 g (pinQ r z) f)) [] := by
  refine sI (own := RX1) (cc := cX1_afterHit) (maxL := 6) (ret := (some .int)) rfl (by decide) rfl (Nat.le_of_ble_eq_true rfl) ?_
  intro p e s m below meth c C hnm ls hl hW
  have hl : lv_has ls 6 [(0, .int (nI g)), (1, .int r), (2, .int z), (3, .int f)] := hl
  have hW : WD E _ s [] s.heap [] := hW
  refine lv_iload_n C.x C.b dX1_afterHit_0 rfl (lv_at hl 1 rfl) ?_
  refine lv_iload_n C.x C.b dX1_afterHit_1 rfl (lv_at hl 2 rfl) ?_
  refine x_cSI C hW (As := [.int r, .int z]) (rest := []) (wr := []) (wn := []) (met_X1_pinAt l E r z) gX1_afterHit_X1_pinAt rfl 2 rfl ⟨rfl, rfl⟩ ⟨by decide +kernel, by decide +kernel, by decide +kernel⟩ ⟨Nat.le_of_ble_eq_true rfl, Nat.le_of_ble_eq_true rfl⟩ [] [] [] rfl (by decide) rfl (by decide) (by decide) rfl (by decide) hl.1 rfl (Nat.le_of_ble_eq_true rfl) dX1_afterHit_2 ⟨Nat.zero_le _, Nat.zero_le _⟩ (fun H locs hW => ?_)
  by_cases hp : pinQ r z < 9
  · rw [show pinV (pinQ r z) = nI (pinQ r z) from if_pos hp]
    refine lv_istore (lv' := [(4, .int (nI (pinQ r z))), (0, .int (nI g)), (1, .int r), (2, .int z), (3, .int f)]) C.x C.b dX1_afterHit_5 hl (by decide) rfl (fun ls hl => ?_)
    refine lv_iload_n C.x C.b dX1_afterHit_7 rfl (lv_at hl 4 rfl) ?_
    refine lv_iconst (v := nI 1) C.x C.b dX1_afterHit_8 (by decide) ?_
    refine lv_icmp_lt C.x C.b (tgt := 27) dX1_afterHit_9 (by decide) (fun c_1 => ?_) (fun c_1 => ?_)
    · have c_1 : f < 1 := c_1
      refine lv_iload_n C.x C.b dX1_afterHit_27 rfl (lv_at hl 1 rfl) ?_
      exact x_iret C hW rfl (by rw [hiF_no (fun q => by simp_all)]) rfl dX1_afterHit_28
    · have c_1 : ¬ (f < 1) := c_1
      refine lv_iload C.x C.b dX1_afterHit_12 (lv_at hl 0 rfl) ?_
      refine lv_iconst (v := (-1)) C.x C.b dX1_afterHit_14 (by decide) ?_
      refine lv_icmp_eq C.x C.b (tgt := 27) dX1_afterHit_15 (by decide) (fun c_2 => ?_) (fun c_2 => ?_)
      · exact absurd c_2 (z_nm1 hp)
      · have c_2 : ¬ (nI (pinQ r z) = (-1 : Int32)) := c_2
        refine lv_iload_n C.x C.b dX1_afterHit_18 rfl (lv_at hl 1 rfl) ?_
        refine lv_iload C.x C.b dX1_afterHit_19 (lv_at hl 0 rfl) ?_
        refine x_cSI C hW (As := [.int (nI g), .int (nI (pinQ r z))]) (rest := []) (wr := []) (wn := []) (met_X1_holds l E g (pinQ r z) (by omega) (by omega)) gX1_afterHit_X1_holds rfl 2 rfl ⟨rfl, rfl⟩ ⟨by decide +kernel, by decide +kernel, by decide +kernel⟩ ⟨Nat.le_of_ble_eq_true rfl, Nat.le_of_ble_eq_true rfl⟩ [] [] [] rfl (by decide) rfl (by decide) (by decide) rfl (by decide) hl.1 rfl (Nat.le_of_ble_eq_true rfl) dX1_afterHit_21 ⟨Nat.zero_le _, Nat.zero_le _⟩ (fun H locs hW => ?_)
        refine x_ifb_ne C (tgt := 29) dX1_afterHit_24 (by decide) (fun c_3 => ?_) (fun c_3 => ?_)
        · refine lv_iload_n C.x C.b dX1_afterHit_29 rfl (lv_at hl 1 rfl) ?_
          refine lv_iconst (v := nI 1) C.x C.b dX1_afterHit_30 (by decide) ?_
          refine lv_iload C.x C.b dX1_afterHit_31 (lv_at hl 0 rfl) ?_
          refine x_ishl1 C (by omega) dX1_afterHit_33 ?_
          refine lv_iconst (v := nI 4294967295) C.x C.b dX1_afterHit_34 (by decide) ?_
          refine x_ixor C dX1_afterHit_35 ?_
          refine lv_iand C.x C.b dX1_afterHit_36 ?_
          refine x_toi (y := nI (dropK g (pinQ r z))) (z_and _ _) ?_
          refine lv_istore (lv' := [(5, .int (nI (dropK g (pinQ r z)))), (4, .int (nI (pinQ r z))), (0, .int (nI g)), (1, .int r), (2, .int z), (3, .int f)]) C.x C.b dX1_afterHit_37 hl (by decide) rfl (fun ls hl => ?_)
          have hf2 : (f - 2).toInt ≤ 0 := z_sub2 c_1 (by omega)
          refine lv_iload C.x C.b dX1_afterHit_39 (lv_at hl 0 rfl) ?_
          refine lv_iload_n C.x C.b dX1_afterHit_41 rfl (lv_at hl 3 rfl) ?_
          refine lv_iconst (v := nI 1) C.x C.b dX1_afterHit_42 (by decide) ?_
          refine lv_iadd C.x C.b dX1_afterHit_43 ?_
          refine lv_iload_n C.x C.b dX1_afterHit_44 rfl (lv_at hl 4 rfl) ?_
          refine lv_iconst (v := nI 1) C.x C.b dX1_afterHit_45 (by decide) ?_
          refine lv_isub C.x C.b dX1_afterHit_46 ?_
          refine lv_iload_n C.x C.b dX1_afterHit_47 rfl (lv_at hl 5 rfl) ?_
          refine lv_iconst (v := nI 2) C.x C.b dX1_afterHit_48 (by decide) ?_
          refine lv_isub C.x C.b dX1_afterHit_49 ?_
          refine x_cSI C hW (As := [.int (nI (dropK g (pinQ r z))), .int (r + 1), .int (z - 1), .int (f - 2)]) (rest := []) (wr := []) (wn := []) (met_X1_afterHit_0 l E (dropK g (pinQ r z)) (r + 1) (z - 1) (f - 2) (Nat.lt_of_le_of_lt (dropK_le _ _) hs) hf2) gX1_afterHit_X1_afterHit rfl 4 rfl ⟨rfl, rfl⟩ ⟨by decide +kernel, by decide +kernel, by decide +kernel⟩ ⟨Nat.le_of_ble_eq_true rfl, Nat.le_of_ble_eq_true rfl⟩ [] [] [] rfl (by decide) rfl (by decide) (by decide) rfl (by decide) hl.1 rfl (Nat.le_of_ble_eq_true rfl) dX1_afterHit_50 ⟨Nat.zero_le _, Nat.zero_le _⟩ (fun H locs hW => ?_)
          refine lv_istore (lv' := [(5, .int (nI (hiF 0 (dropK g (pinQ r z)) (pinQ (r + 1) (z - 1)) (f - 2)))), (4, .int (nI (pinQ r z))), (0, .int (nI g)), (1, .int r), (2, .int z), (3, .int f)]) C.x C.b dX1_afterHit_53 hl (by decide) rfl (fun ls hl => ?_)
          refine lv_iload C.x C.b dX1_afterHit_55 (lv_at hl 0 rfl) ?_
          refine lv_iload_n C.x C.b dX1_afterHit_57 rfl (lv_at hl 3 rfl) ?_
          refine lv_iconst (v := nI 1) C.x C.b dX1_afterHit_58 (by decide) ?_
          refine lv_iadd C.x C.b dX1_afterHit_59 ?_
          refine lv_iload_n C.x C.b dX1_afterHit_60 rfl (lv_at hl 4 rfl) ?_
          refine lv_iconst (v := nI 1) C.x C.b dX1_afterHit_61 (by decide) ?_
          refine lv_iadd C.x C.b dX1_afterHit_62 ?_
          refine lv_iload_n C.x C.b dX1_afterHit_63 rfl (lv_at hl 5 rfl) ?_
          refine lv_iconst (v := nI 2) C.x C.b dX1_afterHit_64 (by decide) ?_
          refine lv_isub C.x C.b dX1_afterHit_65 ?_
          refine x_cSI C hW (As := [.int (nI (hiF 0 (dropK g (pinQ r z)) (pinQ (r + 1) (z - 1)) (f - 2))), .int (r + 1), .int (z + 1), .int (f - 2)]) (rest := []) (wr := []) (wn := []) (met_X1_afterHit_0 l E (hiF 0 (dropK g (pinQ r z)) (pinQ (r + 1) (z - 1)) (f - 2)) (r + 1) (z + 1) (f - 2) (Nat.lt_of_le_of_lt (hiF_le _ _ _ _) (Nat.lt_of_le_of_lt (dropK_le _ _) hs)) hf2) gX1_afterHit_X1_afterHit rfl 4 rfl ⟨rfl, rfl⟩ ⟨by decide +kernel, by decide +kernel, by decide +kernel⟩ ⟨Nat.le_of_ble_eq_true rfl, Nat.le_of_ble_eq_true rfl⟩ [] [] [] rfl (by decide) rfl (by decide) (by decide) rfl (by decide) hl.1 rfl (Nat.le_of_ble_eq_true rfl) dX1_afterHit_66 ⟨Nat.zero_le _, Nat.zero_le _⟩ (fun H locs hW => ?_)
          exact x_iret C hW rfl (by rw [hiF_step hp (by assumption) (by assumption)]) rfl dX1_afterHit_69
        · refine lv_iload_n C.x C.b dX1_afterHit_27 rfl (lv_at hl 1 rfl) ?_
          exact x_iret C hW rfl (by rw [hiF_no (fun q => by simp_all)]) rfl dX1_afterHit_28
  · rw [show pinV (pinQ r z) = -1 from if_neg hp]
    refine lv_istore (lv' := [(4, .int ((-1 : Int32))), (0, .int (nI g)), (1, .int r), (2, .int z), (3, .int f)]) C.x C.b dX1_afterHit_5 hl (by decide) rfl (fun ls hl => ?_)
    refine lv_iload_n C.x C.b dX1_afterHit_7 rfl (lv_at hl 4 rfl) ?_
    refine lv_iconst (v := nI 1) C.x C.b dX1_afterHit_8 (by decide) ?_
    refine lv_icmp_lt C.x C.b (tgt := 27) dX1_afterHit_9 (by decide) (fun c_4 => ?_) (fun c_4 => ?_)
    · have c_4 : f < 1 := c_4
      refine lv_iload_n C.x C.b dX1_afterHit_27 rfl (lv_at hl 1 rfl) ?_
      exact x_iret C hW rfl (by rw [hiF_no (fun q => by simp_all)]) rfl dX1_afterHit_28
    · have c_4 : ¬ (f < 1) := c_4
      refine lv_iload C.x C.b dX1_afterHit_12 (lv_at hl 0 rfl) ?_
      refine lv_iconst (v := (-1)) C.x C.b dX1_afterHit_14 (by decide) ?_
      refine lv_icmp_eq C.x C.b (tgt := 27) dX1_afterHit_15 (by decide) (fun c_5 => ?_) (fun c_5 => ?_)
      · have c_5 : (-1 : Int32) = (-1 : Int32) := c_5
        refine lv_iload_n C.x C.b dX1_afterHit_27 rfl (lv_at hl 1 rfl) ?_
        exact x_iret C hW rfl (by rw [hiF_no (fun q => by simp_all)]) rfl dX1_afterHit_28
      · exact absurd (by decide) c_5

set_option maxHeartbeats 4000000 in
set_option maxRecDepth 100000 in
theorem met_X1_afterHit_2 (l : Launch) (E : EV) (g : Nat) (r z f : Int32) (hs : g < 512) (hf : f.toInt ≤ 4) : MI l yX1_afterHit wsX1_afterHit { frames := 3, cells := 0, slots := 0, locals := 71 } E [.int (nI g), .int r, .int z, .int f] [] (nI (hiF 2 g (pinQ r z) f)) [] := by
  refine sI (own := RX1) (cc := cX1_afterHit) (maxL := 6) (ret := (some .int)) rfl (by decide) rfl (Nat.le_of_ble_eq_true rfl) ?_
  intro p e s m below meth c C hnm ls hl hW
  have hl : lv_has ls 6 [(0, .int (nI g)), (1, .int r), (2, .int z), (3, .int f)] := hl
  have hW : WD E _ s [] s.heap [] := hW
  refine lv_iload_n C.x C.b dX1_afterHit_0 rfl (lv_at hl 1 rfl) ?_
  refine lv_iload_n C.x C.b dX1_afterHit_1 rfl (lv_at hl 2 rfl) ?_
  refine x_cSI C hW (As := [.int r, .int z]) (rest := []) (wr := []) (wn := []) (met_X1_pinAt l E r z) gX1_afterHit_X1_pinAt rfl 2 rfl ⟨rfl, rfl⟩ ⟨by decide +kernel, by decide +kernel, by decide +kernel⟩ ⟨Nat.le_of_ble_eq_true rfl, Nat.le_of_ble_eq_true rfl⟩ [] [] [] rfl (by decide) rfl (by decide) (by decide) rfl (by decide) hl.1 rfl (Nat.le_of_ble_eq_true rfl) dX1_afterHit_2 ⟨Nat.zero_le _, Nat.zero_le _⟩ (fun H locs hW => ?_)
  by_cases hp : pinQ r z < 9
  · rw [show pinV (pinQ r z) = nI (pinQ r z) from if_pos hp]
    refine lv_istore (lv' := [(4, .int (nI (pinQ r z))), (0, .int (nI g)), (1, .int r), (2, .int z), (3, .int f)]) C.x C.b dX1_afterHit_5 hl (by decide) rfl (fun ls hl => ?_)
    refine lv_iload_n C.x C.b dX1_afterHit_7 rfl (lv_at hl 4 rfl) ?_
    refine lv_iconst (v := nI 1) C.x C.b dX1_afterHit_8 (by decide) ?_
    refine lv_icmp_lt C.x C.b (tgt := 27) dX1_afterHit_9 (by decide) (fun c_1 => ?_) (fun c_1 => ?_)
    · have c_1 : f < 1 := c_1
      refine lv_iload_n C.x C.b dX1_afterHit_27 rfl (lv_at hl 1 rfl) ?_
      exact x_iret C hW rfl (by rw [hiF_no (fun q => by simp_all)]) rfl dX1_afterHit_28
    · have c_1 : ¬ (f < 1) := c_1
      refine lv_iload C.x C.b dX1_afterHit_12 (lv_at hl 0 rfl) ?_
      refine lv_iconst (v := (-1)) C.x C.b dX1_afterHit_14 (by decide) ?_
      refine lv_icmp_eq C.x C.b (tgt := 27) dX1_afterHit_15 (by decide) (fun c_2 => ?_) (fun c_2 => ?_)
      · exact absurd c_2 (z_nm1 hp)
      · have c_2 : ¬ (nI (pinQ r z) = (-1 : Int32)) := c_2
        refine lv_iload_n C.x C.b dX1_afterHit_18 rfl (lv_at hl 1 rfl) ?_
        refine lv_iload C.x C.b dX1_afterHit_19 (lv_at hl 0 rfl) ?_
        refine x_cSI C hW (As := [.int (nI g), .int (nI (pinQ r z))]) (rest := []) (wr := []) (wn := []) (met_X1_holds l E g (pinQ r z) (by omega) (by omega)) gX1_afterHit_X1_holds rfl 2 rfl ⟨rfl, rfl⟩ ⟨by decide +kernel, by decide +kernel, by decide +kernel⟩ ⟨Nat.le_of_ble_eq_true rfl, Nat.le_of_ble_eq_true rfl⟩ [] [] [] rfl (by decide) rfl (by decide) (by decide) rfl (by decide) hl.1 rfl (Nat.le_of_ble_eq_true rfl) dX1_afterHit_21 ⟨Nat.zero_le _, Nat.zero_le _⟩ (fun H locs hW => ?_)
        refine x_ifb_ne C (tgt := 29) dX1_afterHit_24 (by decide) (fun c_3 => ?_) (fun c_3 => ?_)
        · refine lv_iload_n C.x C.b dX1_afterHit_29 rfl (lv_at hl 1 rfl) ?_
          refine lv_iconst (v := nI 1) C.x C.b dX1_afterHit_30 (by decide) ?_
          refine lv_iload C.x C.b dX1_afterHit_31 (lv_at hl 0 rfl) ?_
          refine x_ishl1 C (by omega) dX1_afterHit_33 ?_
          refine lv_iconst (v := nI 4294967295) C.x C.b dX1_afterHit_34 (by decide) ?_
          refine x_ixor C dX1_afterHit_35 ?_
          refine lv_iand C.x C.b dX1_afterHit_36 ?_
          refine x_toi (y := nI (dropK g (pinQ r z))) (z_and _ _) ?_
          refine lv_istore (lv' := [(5, .int (nI (dropK g (pinQ r z)))), (4, .int (nI (pinQ r z))), (0, .int (nI g)), (1, .int r), (2, .int z), (3, .int f)]) C.x C.b dX1_afterHit_37 hl (by decide) rfl (fun ls hl => ?_)
          have hf2 : (f - 2).toInt ≤ 2 := z_sub2 c_1 (by omega)
          refine lv_iload C.x C.b dX1_afterHit_39 (lv_at hl 0 rfl) ?_
          refine lv_iload_n C.x C.b dX1_afterHit_41 rfl (lv_at hl 3 rfl) ?_
          refine lv_iconst (v := nI 1) C.x C.b dX1_afterHit_42 (by decide) ?_
          refine lv_iadd C.x C.b dX1_afterHit_43 ?_
          refine lv_iload_n C.x C.b dX1_afterHit_44 rfl (lv_at hl 4 rfl) ?_
          refine lv_iconst (v := nI 1) C.x C.b dX1_afterHit_45 (by decide) ?_
          refine lv_isub C.x C.b dX1_afterHit_46 ?_
          refine lv_iload_n C.x C.b dX1_afterHit_47 rfl (lv_at hl 5 rfl) ?_
          refine lv_iconst (v := nI 2) C.x C.b dX1_afterHit_48 (by decide) ?_
          refine lv_isub C.x C.b dX1_afterHit_49 ?_
          refine x_cSI C hW (As := [.int (nI (dropK g (pinQ r z))), .int (r + 1), .int (z - 1), .int (f - 2)]) (rest := []) (wr := []) (wn := []) (met_X1_afterHit_1 l E (dropK g (pinQ r z)) (r + 1) (z - 1) (f - 2) (Nat.lt_of_le_of_lt (dropK_le _ _) hs) hf2) gX1_afterHit_X1_afterHit rfl 4 rfl ⟨rfl, rfl⟩ ⟨by decide +kernel, by decide +kernel, by decide +kernel⟩ ⟨Nat.le_of_ble_eq_true rfl, Nat.le_of_ble_eq_true rfl⟩ [] [] [] rfl (by decide) rfl (by decide) (by decide) rfl (by decide) hl.1 rfl (Nat.le_of_ble_eq_true rfl) dX1_afterHit_50 ⟨Nat.zero_le _, Nat.zero_le _⟩ (fun H locs hW => ?_)
          refine lv_istore (lv' := [(5, .int (nI (hiF 1 (dropK g (pinQ r z)) (pinQ (r + 1) (z - 1)) (f - 2)))), (4, .int (nI (pinQ r z))), (0, .int (nI g)), (1, .int r), (2, .int z), (3, .int f)]) C.x C.b dX1_afterHit_53 hl (by decide) rfl (fun ls hl => ?_)
          refine lv_iload C.x C.b dX1_afterHit_55 (lv_at hl 0 rfl) ?_
          refine lv_iload_n C.x C.b dX1_afterHit_57 rfl (lv_at hl 3 rfl) ?_
          refine lv_iconst (v := nI 1) C.x C.b dX1_afterHit_58 (by decide) ?_
          refine lv_iadd C.x C.b dX1_afterHit_59 ?_
          refine lv_iload_n C.x C.b dX1_afterHit_60 rfl (lv_at hl 4 rfl) ?_
          refine lv_iconst (v := nI 1) C.x C.b dX1_afterHit_61 (by decide) ?_
          refine lv_iadd C.x C.b dX1_afterHit_62 ?_
          refine lv_iload_n C.x C.b dX1_afterHit_63 rfl (lv_at hl 5 rfl) ?_
          refine lv_iconst (v := nI 2) C.x C.b dX1_afterHit_64 (by decide) ?_
          refine lv_isub C.x C.b dX1_afterHit_65 ?_
          refine x_cSI C hW (As := [.int (nI (hiF 1 (dropK g (pinQ r z)) (pinQ (r + 1) (z - 1)) (f - 2))), .int (r + 1), .int (z + 1), .int (f - 2)]) (rest := []) (wr := []) (wn := []) (met_X1_afterHit_1 l E (hiF 1 (dropK g (pinQ r z)) (pinQ (r + 1) (z - 1)) (f - 2)) (r + 1) (z + 1) (f - 2) (Nat.lt_of_le_of_lt (hiF_le _ _ _ _) (Nat.lt_of_le_of_lt (dropK_le _ _) hs)) hf2) gX1_afterHit_X1_afterHit rfl 4 rfl ⟨rfl, rfl⟩ ⟨by decide +kernel, by decide +kernel, by decide +kernel⟩ ⟨Nat.le_of_ble_eq_true rfl, Nat.le_of_ble_eq_true rfl⟩ [] [] [] rfl (by decide) rfl (by decide) (by decide) rfl (by decide) hl.1 rfl (Nat.le_of_ble_eq_true rfl) dX1_afterHit_66 ⟨Nat.zero_le _, Nat.zero_le _⟩ (fun H locs hW => ?_)
          exact x_iret C hW rfl (by rw [hiF_step hp (by assumption) (by assumption)]) rfl dX1_afterHit_69
        · refine lv_iload_n C.x C.b dX1_afterHit_27 rfl (lv_at hl 1 rfl) ?_
          exact x_iret C hW rfl (by rw [hiF_no (fun q => by simp_all)]) rfl dX1_afterHit_28
  · rw [show pinV (pinQ r z) = -1 from if_neg hp]
    refine lv_istore (lv' := [(4, .int ((-1 : Int32))), (0, .int (nI g)), (1, .int r), (2, .int z), (3, .int f)]) C.x C.b dX1_afterHit_5 hl (by decide) rfl (fun ls hl => ?_)
    refine lv_iload_n C.x C.b dX1_afterHit_7 rfl (lv_at hl 4 rfl) ?_
    refine lv_iconst (v := nI 1) C.x C.b dX1_afterHit_8 (by decide) ?_
    refine lv_icmp_lt C.x C.b (tgt := 27) dX1_afterHit_9 (by decide) (fun c_4 => ?_) (fun c_4 => ?_)
    · have c_4 : f < 1 := c_4
      refine lv_iload_n C.x C.b dX1_afterHit_27 rfl (lv_at hl 1 rfl) ?_
      exact x_iret C hW rfl (by rw [hiF_no (fun q => by simp_all)]) rfl dX1_afterHit_28
    · have c_4 : ¬ (f < 1) := c_4
      refine lv_iload C.x C.b dX1_afterHit_12 (lv_at hl 0 rfl) ?_
      refine lv_iconst (v := (-1)) C.x C.b dX1_afterHit_14 (by decide) ?_
      refine lv_icmp_eq C.x C.b (tgt := 27) dX1_afterHit_15 (by decide) (fun c_5 => ?_) (fun c_5 => ?_)
      · have c_5 : (-1 : Int32) = (-1 : Int32) := c_5
        refine lv_iload_n C.x C.b dX1_afterHit_27 rfl (lv_at hl 1 rfl) ?_
        exact x_iret C hW rfl (by rw [hiF_no (fun q => by simp_all)]) rfl dX1_afterHit_28
      · exact absurd (by decide) c_5

set_option maxHeartbeats 4000000 in
set_option maxRecDepth 100000 in
theorem met_X1_afterHit_3 (l : Launch) (E : EV) (g : Nat) (r z f : Int32) (hs : g < 512) (hf : f.toInt ≤ 6) : MI l yX1_afterHit wsX1_afterHit { frames := 4, cells := 0, slots := 0, locals := 96 } E [.int (nI g), .int r, .int z, .int f] [] (nI (hiF 3 g (pinQ r z) f)) [] := by
  refine sI (own := RX1) (cc := cX1_afterHit) (maxL := 6) (ret := (some .int)) rfl (by decide) rfl (Nat.le_of_ble_eq_true rfl) ?_
  intro p e s m below meth c C hnm ls hl hW
  have hl : lv_has ls 6 [(0, .int (nI g)), (1, .int r), (2, .int z), (3, .int f)] := hl
  have hW : WD E _ s [] s.heap [] := hW
  refine lv_iload_n C.x C.b dX1_afterHit_0 rfl (lv_at hl 1 rfl) ?_
  refine lv_iload_n C.x C.b dX1_afterHit_1 rfl (lv_at hl 2 rfl) ?_
  refine x_cSI C hW (As := [.int r, .int z]) (rest := []) (wr := []) (wn := []) (met_X1_pinAt l E r z) gX1_afterHit_X1_pinAt rfl 2 rfl ⟨rfl, rfl⟩ ⟨by decide +kernel, by decide +kernel, by decide +kernel⟩ ⟨Nat.le_of_ble_eq_true rfl, Nat.le_of_ble_eq_true rfl⟩ [] [] [] rfl (by decide) rfl (by decide) (by decide) rfl (by decide) hl.1 rfl (Nat.le_of_ble_eq_true rfl) dX1_afterHit_2 ⟨Nat.zero_le _, Nat.zero_le _⟩ (fun H locs hW => ?_)
  by_cases hp : pinQ r z < 9
  · rw [show pinV (pinQ r z) = nI (pinQ r z) from if_pos hp]
    refine lv_istore (lv' := [(4, .int (nI (pinQ r z))), (0, .int (nI g)), (1, .int r), (2, .int z), (3, .int f)]) C.x C.b dX1_afterHit_5 hl (by decide) rfl (fun ls hl => ?_)
    refine lv_iload_n C.x C.b dX1_afterHit_7 rfl (lv_at hl 4 rfl) ?_
    refine lv_iconst (v := nI 1) C.x C.b dX1_afterHit_8 (by decide) ?_
    refine lv_icmp_lt C.x C.b (tgt := 27) dX1_afterHit_9 (by decide) (fun c_1 => ?_) (fun c_1 => ?_)
    · have c_1 : f < 1 := c_1
      refine lv_iload_n C.x C.b dX1_afterHit_27 rfl (lv_at hl 1 rfl) ?_
      exact x_iret C hW rfl (by rw [hiF_no (fun q => by simp_all)]) rfl dX1_afterHit_28
    · have c_1 : ¬ (f < 1) := c_1
      refine lv_iload C.x C.b dX1_afterHit_12 (lv_at hl 0 rfl) ?_
      refine lv_iconst (v := (-1)) C.x C.b dX1_afterHit_14 (by decide) ?_
      refine lv_icmp_eq C.x C.b (tgt := 27) dX1_afterHit_15 (by decide) (fun c_2 => ?_) (fun c_2 => ?_)
      · exact absurd c_2 (z_nm1 hp)
      · have c_2 : ¬ (nI (pinQ r z) = (-1 : Int32)) := c_2
        refine lv_iload_n C.x C.b dX1_afterHit_18 rfl (lv_at hl 1 rfl) ?_
        refine lv_iload C.x C.b dX1_afterHit_19 (lv_at hl 0 rfl) ?_
        refine x_cSI C hW (As := [.int (nI g), .int (nI (pinQ r z))]) (rest := []) (wr := []) (wn := []) (met_X1_holds l E g (pinQ r z) (by omega) (by omega)) gX1_afterHit_X1_holds rfl 2 rfl ⟨rfl, rfl⟩ ⟨by decide +kernel, by decide +kernel, by decide +kernel⟩ ⟨Nat.le_of_ble_eq_true rfl, Nat.le_of_ble_eq_true rfl⟩ [] [] [] rfl (by decide) rfl (by decide) (by decide) rfl (by decide) hl.1 rfl (Nat.le_of_ble_eq_true rfl) dX1_afterHit_21 ⟨Nat.zero_le _, Nat.zero_le _⟩ (fun H locs hW => ?_)
        refine x_ifb_ne C (tgt := 29) dX1_afterHit_24 (by decide) (fun c_3 => ?_) (fun c_3 => ?_)
        · refine lv_iload_n C.x C.b dX1_afterHit_29 rfl (lv_at hl 1 rfl) ?_
          refine lv_iconst (v := nI 1) C.x C.b dX1_afterHit_30 (by decide) ?_
          refine lv_iload C.x C.b dX1_afterHit_31 (lv_at hl 0 rfl) ?_
          refine x_ishl1 C (by omega) dX1_afterHit_33 ?_
          refine lv_iconst (v := nI 4294967295) C.x C.b dX1_afterHit_34 (by decide) ?_
          refine x_ixor C dX1_afterHit_35 ?_
          refine lv_iand C.x C.b dX1_afterHit_36 ?_
          refine x_toi (y := nI (dropK g (pinQ r z))) (z_and _ _) ?_
          refine lv_istore (lv' := [(5, .int (nI (dropK g (pinQ r z)))), (4, .int (nI (pinQ r z))), (0, .int (nI g)), (1, .int r), (2, .int z), (3, .int f)]) C.x C.b dX1_afterHit_37 hl (by decide) rfl (fun ls hl => ?_)
          have hf2 : (f - 2).toInt ≤ 4 := z_sub2 c_1 (by omega)
          refine lv_iload C.x C.b dX1_afterHit_39 (lv_at hl 0 rfl) ?_
          refine lv_iload_n C.x C.b dX1_afterHit_41 rfl (lv_at hl 3 rfl) ?_
          refine lv_iconst (v := nI 1) C.x C.b dX1_afterHit_42 (by decide) ?_
          refine lv_iadd C.x C.b dX1_afterHit_43 ?_
          refine lv_iload_n C.x C.b dX1_afterHit_44 rfl (lv_at hl 4 rfl) ?_
          refine lv_iconst (v := nI 1) C.x C.b dX1_afterHit_45 (by decide) ?_
          refine lv_isub C.x C.b dX1_afterHit_46 ?_
          refine lv_iload_n C.x C.b dX1_afterHit_47 rfl (lv_at hl 5 rfl) ?_
          refine lv_iconst (v := nI 2) C.x C.b dX1_afterHit_48 (by decide) ?_
          refine lv_isub C.x C.b dX1_afterHit_49 ?_
          refine x_cSI C hW (As := [.int (nI (dropK g (pinQ r z))), .int (r + 1), .int (z - 1), .int (f - 2)]) (rest := []) (wr := []) (wn := []) (met_X1_afterHit_2 l E (dropK g (pinQ r z)) (r + 1) (z - 1) (f - 2) (Nat.lt_of_le_of_lt (dropK_le _ _) hs) hf2) gX1_afterHit_X1_afterHit rfl 4 rfl ⟨rfl, rfl⟩ ⟨by decide +kernel, by decide +kernel, by decide +kernel⟩ ⟨Nat.le_of_ble_eq_true rfl, Nat.le_of_ble_eq_true rfl⟩ [] [] [] rfl (by decide) rfl (by decide) (by decide) rfl (by decide) hl.1 rfl (Nat.le_of_ble_eq_true rfl) dX1_afterHit_50 ⟨Nat.zero_le _, Nat.zero_le _⟩ (fun H locs hW => ?_)
          refine lv_istore (lv' := [(5, .int (nI (hiF 2 (dropK g (pinQ r z)) (pinQ (r + 1) (z - 1)) (f - 2)))), (4, .int (nI (pinQ r z))), (0, .int (nI g)), (1, .int r), (2, .int z), (3, .int f)]) C.x C.b dX1_afterHit_53 hl (by decide) rfl (fun ls hl => ?_)
          refine lv_iload C.x C.b dX1_afterHit_55 (lv_at hl 0 rfl) ?_
          refine lv_iload_n C.x C.b dX1_afterHit_57 rfl (lv_at hl 3 rfl) ?_
          refine lv_iconst (v := nI 1) C.x C.b dX1_afterHit_58 (by decide) ?_
          refine lv_iadd C.x C.b dX1_afterHit_59 ?_
          refine lv_iload_n C.x C.b dX1_afterHit_60 rfl (lv_at hl 4 rfl) ?_
          refine lv_iconst (v := nI 1) C.x C.b dX1_afterHit_61 (by decide) ?_
          refine lv_iadd C.x C.b dX1_afterHit_62 ?_
          refine lv_iload_n C.x C.b dX1_afterHit_63 rfl (lv_at hl 5 rfl) ?_
          refine lv_iconst (v := nI 2) C.x C.b dX1_afterHit_64 (by decide) ?_
          refine lv_isub C.x C.b dX1_afterHit_65 ?_
          refine x_cSI C hW (As := [.int (nI (hiF 2 (dropK g (pinQ r z)) (pinQ (r + 1) (z - 1)) (f - 2))), .int (r + 1), .int (z + 1), .int (f - 2)]) (rest := []) (wr := []) (wn := []) (met_X1_afterHit_2 l E (hiF 2 (dropK g (pinQ r z)) (pinQ (r + 1) (z - 1)) (f - 2)) (r + 1) (z + 1) (f - 2) (Nat.lt_of_le_of_lt (hiF_le _ _ _ _) (Nat.lt_of_le_of_lt (dropK_le _ _) hs)) hf2) gX1_afterHit_X1_afterHit rfl 4 rfl ⟨rfl, rfl⟩ ⟨by decide +kernel, by decide +kernel, by decide +kernel⟩ ⟨Nat.le_of_ble_eq_true rfl, Nat.le_of_ble_eq_true rfl⟩ [] [] [] rfl (by decide) rfl (by decide) (by decide) rfl (by decide) hl.1 rfl (Nat.le_of_ble_eq_true rfl) dX1_afterHit_66 ⟨Nat.zero_le _, Nat.zero_le _⟩ (fun H locs hW => ?_)
          exact x_iret C hW rfl (by rw [hiF_step hp (by assumption) (by assumption)]) rfl dX1_afterHit_69
        · refine lv_iload_n C.x C.b dX1_afterHit_27 rfl (lv_at hl 1 rfl) ?_
          exact x_iret C hW rfl (by rw [hiF_no (fun q => by simp_all)]) rfl dX1_afterHit_28
  · rw [show pinV (pinQ r z) = -1 from if_neg hp]
    refine lv_istore (lv' := [(4, .int ((-1 : Int32))), (0, .int (nI g)), (1, .int r), (2, .int z), (3, .int f)]) C.x C.b dX1_afterHit_5 hl (by decide) rfl (fun ls hl => ?_)
    refine lv_iload_n C.x C.b dX1_afterHit_7 rfl (lv_at hl 4 rfl) ?_
    refine lv_iconst (v := nI 1) C.x C.b dX1_afterHit_8 (by decide) ?_
    refine lv_icmp_lt C.x C.b (tgt := 27) dX1_afterHit_9 (by decide) (fun c_4 => ?_) (fun c_4 => ?_)
    · have c_4 : f < 1 := c_4
      refine lv_iload_n C.x C.b dX1_afterHit_27 rfl (lv_at hl 1 rfl) ?_
      exact x_iret C hW rfl (by rw [hiF_no (fun q => by simp_all)]) rfl dX1_afterHit_28
    · have c_4 : ¬ (f < 1) := c_4
      refine lv_iload C.x C.b dX1_afterHit_12 (lv_at hl 0 rfl) ?_
      refine lv_iconst (v := (-1)) C.x C.b dX1_afterHit_14 (by decide) ?_
      refine lv_icmp_eq C.x C.b (tgt := 27) dX1_afterHit_15 (by decide) (fun c_5 => ?_) (fun c_5 => ?_)
      · have c_5 : (-1 : Int32) = (-1 : Int32) := c_5
        refine lv_iload_n C.x C.b dX1_afterHit_27 rfl (lv_at hl 1 rfl) ?_
        exact x_iret C hW rfl (by rw [hiF_no (fun q => by simp_all)]) rfl dX1_afterHit_28
      · exact absurd (by decide) c_5
