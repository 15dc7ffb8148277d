/-! ALLEY, RACK, SHEET -/
set_option maxHeartbeats 4000000 in
set_option maxRecDepth 100000 in
theorem met_X0_standingPins (l : Launch) (E : EV) (h0 h1 : Nat) (g sp : Nat) (w : Nat → Nat)  : MI l yX0_standingPins wsX0_standingPins { frames := 0, cells := 0, slots := 0, locals := 0 } E [.ref h0] [(h0, .inr (0, [.ref h1, .int (nI g), .int (nI sp)])), (h1, aI E 9 w)] (nI g) [(h0, .inr (0, [.ref h1, .int (nI g), .int (nI sp)])), (h1, aI E 9 w)] := by
  refine sI (own := RX0) (cc := cX0_standingPins) (maxL := 1) (ret := (some .int)) rfl (by decide) rfl (Nat.le_of_ble_eq_true rfl) ?_
  intro p e s m below meth c C hnm ls hl hW
  have hl : lv_has ls 1 [(0, .ref h0)] := hl
  have hW : WD E _ s [(h0, .inr (0, [.ref h1, .int (nI g), .int (nI sp)])), (h1, aI E 9 w)] s.heap [] := hW
  have hinX0 : ∀ w ∈ u_ws RX0 TX0 3, w ∈ wsX0_standingPins := by decide +kernel
  have hf17 : Cond.fieldLink RX0 17 (TX0 1).1 (TX0 1).2.1 (TX0 1).2.2.1 ∈ wsX0_standingPins := by decide +kernel
  refine lv_aload_n C.x C.b dX0_standingPins_0 rfl (lv_at hl 0 rfl) ?_
  refine x_get C hW 0 0 1 (Cn := RX0) (T := TX0) (N := 3) rfl rfl (by decide) hinX0 hf17 rfl dX0_standingPins_1 ?_
  exact x_iret C hW rfl rfl rfl dX0_standingPins_4

set_option maxHeartbeats 4000000 in
set_option maxRecDepth 100000 in
theorem met_X0_spares (l : Launch) (E : EV) (h0 h1 : Nat) (g sp : Nat) (w : Nat → Nat)  : MI l yX0_spares wsX0_spares { frames := 0, cells := 0, slots := 0, locals := 0 } E [.ref h0] [(h0, .inr (0, [.ref h1, .int (nI g), .int (nI sp)])), (h1, aI E 9 w)] (nI sp) [(h0, .inr (0, [.ref h1, .int (nI g), .int (nI sp)])), (h1, aI E 9 w)] := by
  refine sI (own := RX0) (cc := cX0_spares) (maxL := 1) (ret := (some .int)) rfl (by decide) rfl (Nat.le_of_ble_eq_true rfl) ?_
  intro p e s m below meth c C hnm ls hl hW
  have hl : lv_has ls 1 [(0, .ref h0)] := hl
  have hW : WD E _ s [(h0, .inr (0, [.ref h1, .int (nI g), .int (nI sp)])), (h1, aI E 9 w)] s.heap [] := hW
  have hinX0 : ∀ w ∈ u_ws RX0 TX0 3, w ∈ wsX0_spares := by decide +kernel
  have hf21 : Cond.fieldLink RX0 21 (TX0 2).1 (TX0 2).2.1 (TX0 2).2.2.1 ∈ wsX0_spares := by decide +kernel
  refine lv_aload_n C.x C.b dX0_spares_0 rfl (lv_at hl 0 rfl) ?_
  refine x_get C hW 0 0 2 (Cn := RX0) (T := TX0) (N := 3) rfl rfl (by decide) hinX0 hf21 rfl dX0_spares_1 ?_
  exact x_iret C hW rfl rfl rfl dX0_spares_4

set_option maxHeartbeats 4000000 in
set_option maxRecDepth 100000 in
theorem met_X0_wear (l : Launch) (E : EV) (h0 h1 : Nat) (g sp : Nat) (w : Nat → Nat) (q : Nat) (hq : q < 9) : MI l yX0_wear wsX0_wear { frames := 0, cells := 0, slots := 0, locals := 0 } E [.ref h0, .int (nI q)] [(h0, .inr (0, [.ref h1, .int (nI g), .int (nI sp)])), (h1, aI E 9 w)] (nI (w q)) [(h0, .inr (0, [.ref h1, .int (nI g), .int (nI sp)])), (h1, aI E 9 w)] := by
  refine sI (own := RX0) (cc := cX0_wear) (maxL := 2) (ret := (some .int)) rfl (by decide) rfl (Nat.le_of_ble_eq_true rfl) ?_
  intro p e s m below meth c C hnm ls hl hW
  have hl : lv_has ls 2 [(0, .ref h0), (1, .int (nI q))] := hl
  have hW : WD E _ s [(h0, .inr (0, [.ref h1, .int (nI g), .int (nI sp)])), (h1, aI E 9 w)] s.heap [] := hW
  have hinX0 : ∀ w ∈ u_ws RX0 TX0 3, w ∈ wsX0_wear := by decide +kernel
  have hf9 : Cond.fieldLink RX0 9 (TX0 0).1 (TX0 0).2.1 (TX0 0).2.2.1 ∈ wsX0_wear := by decide +kernel
  refine lv_aload_n C.x C.b dX0_wear_0 rfl (lv_at hl 0 rfl) ?_
  refine x_get C hW 0 0 0 (Cn := RX0) (T := TX0) (N := 3) rfl rfl (by decide) hinX0 hf9 rfl dX0_wear_1 ?_
  refine lv_iload_n C.x C.b dX0_wear_4 rfl (lv_at hl 1 rfl) ?_
  refine x_ald C hW 1 q rfl rfl (by omega) (by decide) dX0_wear_5 ?_
  exact x_iret C hW rfl rfl rfl dX0_wear_6

set_option maxHeartbeats 4000000 in
set_option maxRecDepth 100000 in
theorem met_X0_broken (l : Launch) (E : EV) (h0 h1 : Nat) (g sp : Nat) (w : Nat → Nat) (q : Nat) (hq : q < 9) (hw : ∀ i, w i ≤ 12) : MI l yX0_broken wsX0_broken { frames := 0, cells := 0, slots := 0, locals := 0 } E [.ref h0, .int (nI q)] [(h0, .inr (0, [.ref h1, .int (nI g), .int (nI sp)])), (h1, aI E 9 w)] (nI (if 12 ≤ w q then 1 else 0)) [(h0, .inr (0, [.ref h1, .int (nI g), .int (nI sp)])), (h1, aI E 9 w)] := by
  refine sI (own := RX0) (cc := cX0_broken) (maxL := 2) (ret := (some .boolean)) rfl (by decide) rfl (Nat.le_of_ble_eq_true rfl) ?_
  intro p e s m below meth c C hnm ls hl hW
  have hl : lv_has ls 2 [(0, .ref h0), (1, .int (nI q))] := hl
  have hW : WD E _ s [(h0, .inr (0, [.ref h1, .int (nI g), .int (nI sp)])), (h1, aI E 9 w)] s.heap [] := hW
  have hinX0 : ∀ w ∈ u_ws RX0 TX0 3, w ∈ wsX0_broken := by decide +kernel
  have hf9 : Cond.fieldLink RX0 9 (TX0 0).1 (TX0 0).2.1 (TX0 0).2.2.1 ∈ wsX0_broken := by decide +kernel
  refine lv_aload_n C.x C.b dX0_broken_0 rfl (lv_at hl 0 rfl) ?_
  refine x_get C hW 0 0 0 (Cn := RX0) (T := TX0) (N := 3) rfl rfl (by decide) hinX0 hf9 rfl dX0_broken_1 ?_
  refine lv_iload_n C.x C.b dX0_broken_4 rfl (lv_at hl 1 rfl) ?_
  refine x_ald C hW 1 q rfl rfl (by omega) (by decide) dX0_broken_5 ?_
  refine lv_bipush (v := nI 12) C.x C.b dX0_broken_6 (by decide) ?_
  refine x_icmp_lt C (by have := hw q; omega) (by omega) (tgt := 15) dX0_broken_8 (by decide) (fun c_1 => ?_) (fun c_1 => ?_)
  · refine lv_iconst (v := nI 0) C.x C.b dX0_broken_15 (by decide) ?_
    exact x_iret C hW (by first | rfl | exact z_narb _) (by first | rfl | (simp [c_1]; done) | (rw [if_pos (by omega)]; done) | (rw [if_neg (by omega)]; done) | (exfalso; omega) | ((repeat' split) <;> first | rfl | contradiction | (exfalso; omega))) rfl dX0_broken_16
  · refine lv_iconst (v := nI 1) C.x C.b dX0_broken_11 (by decide) ?_
    refine lv_goto (tgt := 16) C.x C.b dX0_broken_12 (by decide) ?_
    exact x_iret C hW (by first | rfl | exact z_narb _) (by first | rfl | (simp [c_1]; done) | (rw [if_pos (by omega)]; done) | (rw [if_neg (by omega)]; done) | (exfalso; omega) | ((repeat' split) <;> first | rfl | contradiction | (exfalso; omega))) rfl dX0_broken_16

set_option maxHeartbeats 4000000 in
set_option maxRecDepth 100000 in
theorem met_X0_setUp (l : Launch) (E : EV) (h0 h1 : Nat) (g sp : Nat) (w : Nat → Nat) (hw : ∀ i, w i ≤ 12) : MV l yX0_setUp wsX0_setUp { frames := 1, cells := 0, slots := 0, locals := 21 } E [.ref h0] [(h0, .inr (0, [.ref h1, .int (nI g), .int (nI sp)])), (h1, aI E 9 w)] [(h0, .inr (0, [.ref h1, .int (nI (suN w 9)), .int (nI sp)])), (h1, aI E 9 w)] := by
  refine sV (own := RX0) (cc := cX0_setUp) (maxL := 2) rfl (by decide) rfl (Nat.le_of_ble_eq_true rfl) ?_
  intro p e s m below meth c C hnm ls hl hW
  have hl : lv_has ls 2 [(0, .ref h0)] := hl
  have hW : WD E _ s [(h0, .inr (0, [.ref h1, .int (nI g), .int (nI sp)])), (h1, aI E 9 w)] s.heap [] := hW
  have hinX0 : ∀ w ∈ u_ws RX0 TX0 3, w ∈ wsX0_setUp := by decide +kernel
  have hf17 : Cond.fieldLink RX0 17 (TX0 1).1 (TX0 1).2.1 (TX0 1).2.2.1 ∈ wsX0_setUp := by decide +kernel
  refine lv_aload_n C.x C.b dX0_setUp_0 rfl (lv_at hl 0 rfl) ?_
  refine lv_iconst (v := nI 0) C.x C.b dX0_setUp_1 (by decide) ?_
  refine x_put C hW 0 0 1 (Cn := RX0) (T := TX0) (N := 3) (w' := [(h0, .inr (0, [.ref h1, .int (nI 0), .int (nI sp)])), (h1, aI E 9 w)]) tyX0 tyX0_ok nmX0 rfl rfl (by decide) hinX0 hf17 rfl (by decide +kernel) (Nat.le_of_ble_eq_true rfl) dX0_setUp_2 rfl (fun H locs hW => ?_)
  refine lv_iconst (v := nI 0) C.x C.b dX0_setUp_5 (by decide) ?_
  refine lv_istore_n (lv' := [(1, .int (nI 0)), (0, .ref h0)]) C.x C.b dX0_setUp_6 rfl hl (by decide) rfl (fun ls hl => ?_)
  have lp_1 : ∀ (n1 i : Nat), i ≤ 9 → 9 + 1 ≤ i + n1 → ∀ (H : Heap) (locs : List Loc) (ls : Array Slot), WD E (va_A [(h0, .inr (0, [.ref h1, .int (nI g), .int (nI sp)])), (h1, aI E 9 w)] s.heap.size) s [(h0, .inr (0, [.ref h1, .int (nI (suN w i)), .int (nI sp)])), (h1, aI E 9 w)] H locs → lv_has ls 2 [(1, .int (nI i)), (0, .ref h0)] → W p l e ({ frames := 1, cells := 0, slots := 0, locals := 21 } : Room) s m ([.ref h0] : List Value).toArray below meth c H locs 0 0 (QV E [(h0, .inr (0, [.ref h1, .int (nI g), .int (nI sp)])), (h1, aI E 9 w)] [(h0, .inr (0, [.ref h1, .int (nI (suN w 9)), .int (nI sp)])), (h1, aI E 9 w)] below ([.ref h0] : List Value).toArray s) (F0 m 7 ls []) := by
    intro n1
    induction n1 with
    | zero => intro i hi hn; exact absurd hn (by omega)
    | succ n1 ih1 =>
      intro i hi hn  H locs ls hW hl
      refine lv_iload_n C.x C.b dX0_setUp_7 rfl (lv_at hl 0 rfl) ?_
      refine lv_bipush (v := nI 9) C.x C.b dX0_setUp_8 (by decide) ?_
      refine x_icmp_ge C (by omega) (by omega) (tgt := 39) dX0_setUp_10 (by decide) (fun c_2 => ?_) (fun c_2 => ?_)
      · obtain rfl : i = 9 := by omega
        exact x_vret C hW rfl dX0_setUp_39
      · refine lv_aload_n C.x C.b dX0_setUp_13 rfl (lv_at hl 1 rfl) ?_
        refine lv_iload_n C.x C.b dX0_setUp_14 rfl (lv_at hl 0 rfl) ?_
        refine x_cVI C hW (As := [.int (nI i)]) (rest := []) (wr := []) (wn := [(h0, .inr (0, [.ref h1, .int (nI ((suN w i))), .int (nI sp)])), (h1, aI E 9 w)]) (Cn := RX0) (met_X0_broken l E h0 h1 (suN w i) sp w i (by omega) hw) gX0_setUp_X0_broken rfl 1 rfl ⟨rfl, rfl⟩ ⟨rfl, by decide +kernel, by decide +kernel, by decide +kernel⟩ ⟨Nat.le_of_ble_eq_true rfl, Nat.le_of_ble_eq_true rfl⟩ [0, 1] [] [0, 1] rfl (by decide) rfl (by decide) (by decide) rfl (by decide) 0 0 rfl rfl hl.1 rfl (Nat.le_of_ble_eq_true rfl) dX0_setUp_15 ⟨Nat.zero_le _, Nat.zero_le _⟩ (fun H locs hW => ?_)
        refine x_ifb_ne C (tgt := 33) dX0_setUp_18 (by decide) (fun c_3 => ?_) (fun c_3 => ?_)
        · refine lv_iinc (k := 0) (v := nI (i + 1)) (lv' := [(1, .int (nI (i + 1))), (0, .ref h0)]) C.x C.b dX0_setUp_33 hl rfl (z_inc i 1) (by decide) rfl (fun ls hl => ?_)
          refine lv_goto (tgt := 7) C.x C.b dX0_setUp_36 (by decide) ?_
          exact ih1 (i + 1) (by omega) (by omega)  _ _ _ (hW.to (by first | rfl | (simp [suN, c_2, c_3]; done) | (rw [if_pos (by omega)]; done) | (rw [if_neg (by omega)]; done) | (exfalso; omega) | (simp only [suN]; (repeat' split) <;> first | rfl | contradiction | (exfalso; omega)))) (lv_to (lv_sub (l' := [(1, .int (nI (i + 1))), (0, .ref h0)]) hl [0, 1] rfl) (by first | rfl | (simp [suN, c_2, c_3]; done) | (rw [if_pos (by omega)]; done) | (rw [if_neg (by omega)]; done) | (exfalso; omega) | (simp only [suN]; (repeat' split) <;> first | rfl | contradiction | (exfalso; omega))))
        · refine lv_aload_n C.x C.b dX0_setUp_21 rfl (lv_at hl 1 rfl) ?_
          refine lv_dup C.x C.b dX0_setUp_22 rfl ?_
          refine x_get C hW 0 0 1 (Cn := RX0) (T := TX0) (N := 3) rfl rfl (by decide) hinX0 hf17 rfl dX0_setUp_23 ?_
          refine lv_iconst (v := nI 1) C.x C.b dX0_setUp_26 (by decide) ?_
          refine lv_iload_n C.x C.b dX0_setUp_27 rfl (lv_at hl 0 rfl) ?_
          refine x_ishl1 C (by omega) dX0_setUp_28 ?_
          refine x_ior C dX0_setUp_29 ?_
          refine x_put C hW 0 0 1 (Cn := RX0) (T := TX0) (N := 3) (w' := [(h0, .inr (0, [.ref h1, .int (nI (((suN w i)) ||| (2 ^ i))), .int (nI sp)])), (h1, aI E 9 w)]) tyX0 tyX0_ok nmX0 rfl rfl (by decide) hinX0 hf17 rfl (by decide +kernel) (Nat.le_of_ble_eq_true rfl) dX0_setUp_30 rfl (fun H locs hW => ?_)
          refine lv_iinc (k := 0) (v := nI (i + 1)) (lv' := [(1, .int (nI (i + 1))), (0, .ref h0)]) C.x C.b dX0_setUp_33 hl rfl (z_inc i 1) (by decide) rfl (fun ls hl => ?_)
          refine lv_goto (tgt := 7) C.x C.b dX0_setUp_36 (by decide) ?_
          exact ih1 (i + 1) (by omega) (by omega)  _ _ _ (hW.to (by first | rfl | (simp [suN, c_2, c_3]; done) | (rw [if_pos (by omega)]; done) | (rw [if_neg (by omega)]; done) | (exfalso; omega) | (simp only [suN]; (repeat' split) <;> first | rfl | contradiction | (exfalso; omega)))) (lv_to (lv_sub (l' := [(1, .int (nI (i + 1))), (0, .ref h0)]) hl [0, 1] rfl) (by first | rfl | (simp [suN, c_2, c_3]; done) | (rw [if_pos (by omega)]; done) | (rw [if_neg (by omega)]; done) | (exfalso; omega) | (simp only [suN]; (repeat' split) <;> first | rfl | contradiction | (exfalso; omega))))
  exact lp_1 (9 + 1) 0 (by omega) (by omega)  _ _ _ (hW.to rfl) (lv_to (lv_sub (l' := [(1, .int (nI 0)), (0, .ref h0)]) hl [0, 1] rfl) rfl)

set_option maxHeartbeats 4000000 in
set_option maxRecDepth 100000 in
theorem met_X0_roll (l : Launch) (E : EV) (h0 h1 : Nat) (g sp : Nat) (w : Nat → Nat) (b z : Nat) (hg : g < 512) (hb : b < 5) (hz : z < 5) : MI l yX0_roll wsX0_roll { frames := 6, cells := 0, slots := 0, locals := 147 } E [.ref h0, .int (nI b), .int (nI z)] [(h0, .inr (0, [.ref h1, .int (nI g), .int (nI sp)])), (h1, aI E 9 w)] (nI (pcN (feN g b z))) [(h0, .inr (0, [.ref h1, .int (nI (roN g b z)), .int (nI sp)])), (h1, aI E 9 (rwW (feN g b z) w 9))] := by
  refine sI (own := RX0) (cc := cX0_roll) (maxL := 5) (ret := (some .int)) rfl (by decide) rfl (Nat.le_of_ble_eq_true rfl) ?_
  intro p e s m below meth c C hnm ls hl hW
  have hl : lv_has ls 5 [(0, .ref h0), (1, .int (nI b)), (2, .int (nI z))] := hl
  have hW : WD E _ s [(h0, .inr (0, [.ref h1, .int (nI g), .int (nI sp)])), (h1, aI E 9 w)] s.heap [] := hW
  have hinX0 : ∀ w ∈ u_ws RX0 TX0 3, w ∈ wsX0_roll := by decide +kernel
  have hf9 : Cond.fieldLink RX0 9 (TX0 0).1 (TX0 0).2.1 (TX0 0).2.2.1 ∈ wsX0_roll := by decide +kernel
  have hf17 : Cond.fieldLink RX0 17 (TX0 1).1 (TX0 1).2.1 (TX0 1).2.2.1 ∈ wsX0_roll := by decide +kernel
  refine lv_aload_n C.x C.b dX0_roll_0 rfl (lv_at hl 0 rfl) ?_
  refine x_get C hW 0 0 1 (Cn := RX0) (T := TX0) (N := 3) rfl rfl (by decide) hinX0 hf17 rfl dX0_roll_1 ?_
  refine lv_iload_n C.x C.b dX0_roll_4 rfl (lv_at hl 1 rfl) ?_
  refine lv_iload_n C.x C.b dX0_roll_5 rfl (lv_at hl 2 rfl) ?_
  refine x_cSI C hW (As := [.int (nI g), .int (nI b), .int (nI z)]) (rest := []) (wr := [(h0, .inr (0, [.ref h1, .int (nI g), .int (nI sp)])), (h1, aI E 9 w)]) (wn := [(h0, .inr (0, [.ref h1, .int (nI g), .int (nI sp)])), (h1, aI E 9 w)]) (met_X1_felled l E g b z (by omega) (by omega) (by omega)) gX0_roll_X1_felled rfl 3 rfl ⟨rfl, rfl⟩ ⟨by decide +kernel, by decide +kernel, by decide +kernel⟩ ⟨Nat.le_of_ble_eq_true rfl, Nat.le_of_ble_eq_true rfl⟩ [] [0, 1] [0, 1] rfl (by decide) rfl (by decide) (by decide) rfl (by decide) hl.1 rfl (Nat.le_of_ble_eq_true rfl) dX0_roll_6 ⟨Nat.zero_le _, Nat.zero_le _⟩ (fun H locs hW => ?_)
  refine lv_istore_n (lv' := [(3, .int (nI (feN g b z))), (0, .ref h0), (1, .int (nI b)), (2, .int (nI z))]) C.x C.b dX0_roll_9 rfl hl (by decide) rfl (fun ls hl => ?_)
  refine lv_iconst (v := nI 0) C.x C.b dX0_roll_10 (by decide) ?_
  refine lv_istore (lv' := [(4, .int (nI 0)), (3, .int (nI (feN g b z))), (0, .ref h0), (1, .int (nI b)), (2, .int (nI z))]) C.x C.b dX0_roll_11 hl (by decide) rfl (fun ls hl => ?_)
  have lp_1 : ∀ (n1 i : Nat), i ≤ 9 → 9 + 1 ≤ i + n1 → ∀ (H : Heap) (locs : List Loc) (ls : Array Slot), WD E (va_A [(h0, .inr (0, [.ref h1, .int (nI g), .int (nI sp)])), (h1, aI E 9 w)] s.heap.size) s [(h0, .inr (0, [.ref h1, .int (nI g), .int (nI sp)])), (h1, aI E 9 (rwW (feN g b z) w i))] H locs → lv_has ls 5 [(4, .int (nI i)), (3, .int (nI (feN g b z))), (0, .ref h0), (1, .int (nI b)), (2, .int (nI z))] → W p l e ({ frames := 6, cells := 0, slots := 0, locals := 147 } : Room) s m ([.ref h0, .int (nI b), .int (nI z)] : List Value).toArray below meth c H locs 0 0 (QI E [(h0, .inr (0, [.ref h1, .int (nI g), .int (nI sp)])), (h1, aI E 9 w)] (nI (pcN (feN g b z))) [(h0, .inr (0, [.ref h1, .int (nI (roN g b z)), .int (nI sp)])), (h1, aI E 9 (rwW (feN g b z) w 9))] below ([.ref h0, .int (nI b), .int (nI z)] : List Value).toArray s) (F0 m 13 ls []) := by
    intro n1
    induction n1 with
    | zero => intro i hi hn; exact absurd hn (by omega)
    | succ n1 ih1 =>
      intro i hi hn  H locs ls hW hl
      refine lv_iload C.x C.b dX0_roll_13 (lv_at hl 0 rfl) ?_
      refine lv_bipush (v := nI 9) C.x C.b dX0_roll_15 (by decide) ?_
      refine x_icmp_ge C (by omega) (by omega) (tgt := 46) dX0_roll_17 (by decide) (fun c_2 => ?_) (fun c_2 => ?_)
      · obtain rfl : i = 9 := by omega
        refine lv_aload_n C.x C.b dX0_roll_46 rfl (lv_at hl 2 rfl) ?_
        refine lv_dup C.x C.b dX0_roll_47 rfl ?_
        refine x_get C hW 0 0 1 (Cn := RX0) (T := TX0) (N := 3) rfl rfl (by decide) hinX0 hf17 rfl dX0_roll_48 ?_
        refine lv_iload_n C.x C.b dX0_roll_51 rfl (lv_at hl 1 rfl) ?_
        refine lv_iconst (v := nI 4294967295) C.x C.b dX0_roll_52 (by decide) ?_
        refine x_ixor C dX0_roll_53 ?_
        refine lv_iand C.x C.b dX0_roll_54 ?_
        refine x_toi (y := nI (roN g b z)) ((z_and _ _).trans (congrArg nI (fe_rest hg))) ?_
        refine x_put C hW 0 0 1 (Cn := RX0) (T := TX0) (N := 3) (w' := [(h0, .inr (0, [.ref h1, .int (nI (roN g b z)), .int (nI sp)])), (h1, aI E 9 (rwW (feN g b z) w 9))]) tyX0 tyX0_ok nmX0 rfl rfl (by decide) hinX0 hf17 rfl (by decide +kernel) (Nat.le_of_ble_eq_true rfl) dX0_roll_55 rfl (fun H locs hW => ?_)
        refine lv_iload_n C.x C.b dX0_roll_58 rfl (lv_at hl 1 rfl) ?_
        refine x_cSI C hW (As := [.int (nI (feN g b z))]) (rest := []) (wr := [(h0, .inr (0, [.ref h1, .int (nI (roN g b z)), .int (nI sp)])), (h1, aI E 9 (rwW (feN g b z) w 9))]) (wn := [(h0, .inr (0, [.ref h1, .int (nI (roN g b z)), .int (nI sp)])), (h1, aI E 9 (rwW (feN g b z) w 9))]) (met_J6_bitCount_0f7a4 l E (feN g b z) (fe_lt hg)) gX0_roll_J6_bitCount_0f7a4 rfl 1 rfl ⟨rfl, rfl⟩ ⟨by decide +kernel, by decide +kernel, by decide +kernel⟩ ⟨Nat.le_of_ble_eq_true rfl, Nat.le_of_ble_eq_true rfl⟩ [] [0, 1] [0, 1] rfl (by decide) rfl (by decide) (by decide) rfl (by decide) hl.1 rfl (Nat.le_of_ble_eq_true rfl) dX0_roll_59 ⟨Nat.zero_le _, Nat.zero_le _⟩ (fun H locs hW => ?_)
        exact x_iret C hW rfl rfl rfl dX0_roll_62
      · refine lv_iload_n C.x C.b dX0_roll_20 rfl (lv_at hl 1 rfl) ?_
        refine lv_iload C.x C.b dX0_roll_21 (lv_at hl 0 rfl) ?_
        refine x_cSI C hW (As := [.int (nI (feN g b z)), .int (nI i)]) (rest := []) (wr := [(h0, .inr (0, [.ref h1, .int (nI g), .int (nI sp)])), (h1, aI E 9 (rwW (feN g b z) w i))]) (wn := [(h0, .inr (0, [.ref h1, .int (nI g), .int (nI sp)])), (h1, aI E 9 (rwW (feN g b z) w i))]) (met_X1_holds l E (feN g b z) i (by omega) (by have := fe_lt (b := b) (z := z) hg; omega)) gX0_roll_X1_holds rfl 2 rfl ⟨rfl, rfl⟩ ⟨by decide +kernel, by decide +kernel, by decide +kernel⟩ ⟨Nat.le_of_ble_eq_true rfl, Nat.le_of_ble_eq_true rfl⟩ [] [0, 1] [0, 1] rfl (by decide) rfl (by decide) (by decide) rfl (by decide) hl.1 rfl (Nat.le_of_ble_eq_true rfl) dX0_roll_23 ⟨Nat.zero_le _, Nat.zero_le _⟩ (fun H locs hW => ?_)
        refine x_ifb_eq C (tgt := 40) dX0_roll_26 (by decide) (fun c_3 => ?_) (fun c_3 => ?_)
        · refine lv_iinc (k := 0) (v := nI (i + 1)) (lv' := [(4, .int (nI (i + 1))), (3, .int (nI (feN g b z))), (0, .ref h0), (1, .int (nI b)), (2, .int (nI z))]) C.x C.b dX0_roll_40 hl rfl (z_inc i 1) (by decide) rfl (fun ls hl => ?_)
          refine lv_goto (tgt := 13) C.x C.b dX0_roll_43 (by decide) ?_
          exact ih1 (i + 1) (by omega) (by omega)  _ _ _ (hW.to (by first | rfl | (simp [rwW, c_2, c_3]; done) | (rw [if_pos (by omega)]; done) | (rw [if_neg (by omega)]; done) | (exfalso; omega) | (simp only [rwW]; (repeat' split) <;> first | rfl | contradiction | (exfalso; omega)))) (lv_to (lv_sub (l' := [(4, .int (nI (i + 1))), (3, .int (nI (feN g b z))), (0, .ref h0), (1, .int (nI b)), (2, .int (nI z))]) hl [0, 1, 2, 3, 4] rfl) (by first | rfl | (simp [rwW, c_2, c_3]; done) | (rw [if_pos (by omega)]; done) | (rw [if_neg (by omega)]; done) | (exfalso; omega) | (simp only [rwW]; (repeat' split) <;> first | rfl | contradiction | (exfalso; omega))))
        · refine lv_aload_n C.x C.b dX0_roll_29 rfl (lv_at hl 2 rfl) ?_
          refine x_get C hW 0 0 0 (Cn := RX0) (T := TX0) (N := 3) rfl rfl (by decide) hinX0 hf9 rfl dX0_roll_30 ?_
          refine lv_iload C.x C.b dX0_roll_33 (lv_at hl 0 rfl) ?_
          refine lv_dup2_11 C.x C.b dX0_roll_35 rfl rfl ?_
          refine x_ald C hW 1 i rfl rfl (by omega) (by decide) dX0_roll_36 ?_
          refine lv_iconst (v := nI 1) C.x C.b dX0_roll_37 (by decide) ?_
          refine x_iadd C dX0_roll_38 ?_
          refine x_ast C hW 1 i (((rwW (feN g b z) w i) i) + 1) rfl rfl rfl (by omega) (by decide) dX0_roll_39 (w' := [(h0, .inr (0, [.ref h1, .int (nI g), .int (nI sp)])), (h1, aI E 9 (upN (rwW (feN g b z) w i) i (((rwW (feN g b z) w i) i) + 1)))]) rfl (fun H locs hW => ?_)
          refine lv_iinc (k := 0) (v := nI (i + 1)) (lv' := [(4, .int (nI (i + 1))), (3, .int (nI (feN g b z))), (0, .ref h0), (1, .int (nI b)), (2, .int (nI z))]) C.x C.b dX0_roll_40 hl rfl (z_inc i 1) (by decide) rfl (fun ls hl => ?_)
          refine lv_goto (tgt := 13) C.x C.b dX0_roll_43 (by decide) ?_
          exact ih1 (i + 1) (by omega) (by omega)  _ _ _ (hW.to (by first | rfl | (simp [rwW, c_2, c_3]; done) | (rw [if_pos (by omega)]; done) | (rw [if_neg (by omega)]; done) | (exfalso; omega) | (simp only [rwW]; (repeat' split) <;> first | rfl | contradiction | (exfalso; omega)))) (lv_to (lv_sub (l' := [(4, .int (nI (i + 1))), (3, .int (nI (feN g b z))), (0, .ref h0), (1, .int (nI b)), (2, .int (nI z))]) hl [0, 1, 2, 3, 4] rfl) (by first | rfl | (simp [rwW, c_2, c_3]; done) | (rw [if_pos (by omega)]; done) | (rw [if_neg (by omega)]; done) | (exfalso; omega) | (simp only [rwW]; (repeat' split) <;> first | rfl | contradiction | (exfalso; omega))))
  exact lp_1 (9 + 1) 0 (by omega) (by omega)  _ _ _ (hW.to rfl) (lv_to (lv_sub (l' := [(4, .int (nI 0)), (3, .int (nI (feN g b z))), (0, .ref h0), (1, .int (nI b)), (2, .int (nI z))]) hl [0, 1, 2, 3, 4] rfl) rfl)

set_option maxHeartbeats 4000000 in
set_option maxRecDepth 100000 in
theorem met_X0_replace (l : Launch) (E : EV) (h0 h1 : Nat) (g sp : Nat) (w : Nat → Nat) (q : Nat) (hq : q < 9) (hs : 1 ≤ sp) : MV l yX0_replace wsX0_replace { frames := 0, cells := 0, slots := 0, locals := 0 } E [.ref h0, .int (nI q)] [(h0, .inr (0, [.ref h1, .int (nI g), .int (nI sp)])), (h1, aI E 9 w)] [(h0, .inr (0, [.ref h1, .int (nI g), .int (nI (sp - 1))])), (h1, aI E 9 (upN w q 0))] := by
  refine sV (own := RX0) (cc := cX0_replace) (maxL := 2) rfl (by decide) rfl (Nat.le_of_ble_eq_true rfl) ?_
  intro p e s m below meth c C hnm ls hl hW
  have hl : lv_has ls 2 [(0, .ref h0), (1, .int (nI q))] := hl
  have hW : WD E _ s [(h0, .inr (0, [.ref h1, .int (nI g), .int (nI sp)])), (h1, aI E 9 w)] s.heap [] := hW
  have hinX0 : ∀ w ∈ u_ws RX0 TX0 3, w ∈ wsX0_replace := by decide +kernel
  have hf9 : Cond.fieldLink RX0 9 (TX0 0).1 (TX0 0).2.1 (TX0 0).2.2.1 ∈ wsX0_replace := by decide +kernel
  have hf21 : Cond.fieldLink RX0 21 (TX0 2).1 (TX0 2).2.1 (TX0 2).2.2.1 ∈ wsX0_replace := by decide +kernel
  refine lv_aload_n C.x C.b dX0_replace_0 rfl (lv_at hl 0 rfl) ?_
  refine lv_dup C.x C.b dX0_replace_1 rfl ?_
  refine x_get C hW 0 0 2 (Cn := RX0) (T := TX0) (N := 3) rfl rfl (by decide) hinX0 hf21 rfl dX0_replace_2 ?_
  refine lv_iconst (v := nI 1) C.x C.b dX0_replace_5 (by decide) ?_
  refine x_isub C (by omega) dX0_replace_6 ?_
  refine x_put C hW 0 0 2 (Cn := RX0) (T := TX0) (N := 3) (w' := [(h0, .inr (0, [.ref h1, .int (nI g), .int (nI (sp - 1))])), (h1, aI E 9 w)]) tyX0 tyX0_ok nmX0 rfl rfl (by decide) hinX0 hf21 rfl (by decide +kernel) (Nat.le_of_ble_eq_true rfl) dX0_replace_7 rfl (fun H locs hW => ?_)
  refine lv_aload_n C.x C.b dX0_replace_10 rfl (lv_at hl 0 rfl) ?_
  refine x_get C hW 0 0 0 (Cn := RX0) (T := TX0) (N := 3) rfl rfl (by decide) hinX0 hf9 rfl dX0_replace_11 ?_
  refine lv_iload_n C.x C.b dX0_replace_14 rfl (lv_at hl 1 rfl) ?_
  refine lv_iconst (v := nI 0) C.x C.b dX0_replace_15 (by decide) ?_
  refine x_ast C hW 1 q 0 rfl rfl rfl (by omega) (by decide) dX0_replace_16 (w' := [(h0, .inr (0, [.ref h1, .int (nI g), .int (nI (sp - 1))])), (h1, aI E 9 (upN w q 0))]) rfl (fun H locs hW => ?_)
  exact x_vret C hW rfl dX0_replace_17

set_option maxHeartbeats 4000000 in
set_option maxRecDepth 100000 in
theorem met_X0_stock (l : Launch) (E : EV) (h0 h1 : Nat) (g sp : Nat) (w : Nat → Nat) (k : Nat)  : MV l yX0_stock wsX0_stock { frames := 0, cells := 0, slots := 0, locals := 0 } E [.ref h0, .int (nI k)] [(h0, .inr (0, [.ref h1, .int (nI g), .int (nI sp)])), (h1, aI E 9 w)] [(h0, .inr (0, [.ref h1, .int (nI g), .int (nI (sp + k))])), (h1, aI E 9 w)] := by
  refine sV (own := RX0) (cc := cX0_stock) (maxL := 2) rfl (by decide) rfl (Nat.le_of_ble_eq_true rfl) ?_
  intro p e s m below meth c C hnm ls hl hW
  have hl : lv_has ls 2 [(0, .ref h0), (1, .int (nI k))] := hl
  have hW : WD E _ s [(h0, .inr (0, [.ref h1, .int (nI g), .int (nI sp)])), (h1, aI E 9 w)] s.heap [] := hW
  have hinX0 : ∀ w ∈ u_ws RX0 TX0 3, w ∈ wsX0_stock := by decide +kernel
  have hf21 : Cond.fieldLink RX0 21 (TX0 2).1 (TX0 2).2.1 (TX0 2).2.2.1 ∈ wsX0_stock := by decide +kernel
  refine lv_aload_n C.x C.b dX0_stock_0 rfl (lv_at hl 0 rfl) ?_
  refine lv_dup C.x C.b dX0_stock_1 rfl ?_
  refine x_get C hW 0 0 2 (Cn := RX0) (T := TX0) (N := 3) rfl rfl (by decide) hinX0 hf21 rfl dX0_stock_2 ?_
  refine lv_iload_n C.x C.b dX0_stock_5 rfl (lv_at hl 1 rfl) ?_
  refine x_iadd C dX0_stock_6 ?_
  refine x_put C hW 0 0 2 (Cn := RX0) (T := TX0) (N := 3) (w' := [(h0, .inr (0, [.ref h1, .int (nI g), .int (nI (sp + k))])), (h1, aI E 9 w)]) tyX0 tyX0_ok nmX0 rfl rfl (by decide) hinX0 hf21 rfl (by decide +kernel) (Nat.le_of_ble_eq_true rfl) dX0_stock_7 rfl (fun H locs hW => ?_)
  exact x_vret C hW rfl dX0_stock_10

set_option maxHeartbeats 4000000 in
set_option maxRecDepth 100000 in
theorem met_X0_brokenCount (l : Launch) (E : EV) (h0 h1 : Nat) (g sp : Nat) (w : Nat → Nat) (hw : ∀ i, w i ≤ 12) : MI l yX0_brokenCount wsX0_brokenCount { frames := 1, cells := 0, slots := 0, locals := 21 } E [.ref h0] [(h0, .inr (0, [.ref h1, .int (nI g), .int (nI sp)])), (h1, aI E 9 w)] (nI (bkN w 9)) [(h0, .inr (0, [.ref h1, .int (nI g), .int (nI sp)])), (h1, aI E 9 w)] := by
  refine sI (own := RX0) (cc := cX0_brokenCount) (maxL := 3) (ret := (some .int)) rfl (by decide) rfl (Nat.le_of_ble_eq_true rfl) ?_
  intro p e s m below meth c C hnm ls hl hW
  have hl : lv_has ls 3 [(0, .ref h0)] := hl
  have hW : WD E _ s [(h0, .inr (0, [.ref h1, .int (nI g), .int (nI sp)])), (h1, aI E 9 w)] s.heap [] := hW
  refine lv_iconst (v := nI 0) C.x C.b dX0_brokenCount_0 (by decide) ?_
  refine lv_istore_n (lv' := [(1, .int (nI 0)), (0, .ref h0)]) C.x C.b dX0_brokenCount_1 rfl hl (by decide) rfl (fun ls hl => ?_)
  refine lv_iconst (v := nI 0) C.x C.b dX0_brokenCount_2 (by decide) ?_
  refine lv_istore_n (lv' := [(2, .int (nI 0)), (1, .int (nI 0)), (0, .ref h0)]) C.x C.b dX0_brokenCount_3 rfl hl (by decide) rfl (fun ls hl => ?_)
  have lp_1 : ∀ (n1 i : Nat), i ≤ 9 → 9 + 1 ≤ i + n1 → ∀ (H : Heap) (locs : List Loc) (ls : Array Slot), WD E (va_A [(h0, .inr (0, [.ref h1, .int (nI g), .int (nI sp)])), (h1, aI E 9 w)] s.heap.size) s [(h0, .inr (0, [.ref h1, .int (nI g), .int (nI sp)])), (h1, aI E 9 w)] H locs → lv_has ls 3 [(2, .int (nI i)), (1, .int (nI (bkN w i))), (0, .ref h0)] → W p l e ({ frames := 1, cells := 0, slots := 0, locals := 21 } : Room) s m ([.ref h0] : List Value).toArray below meth c H locs 0 0 (QI E [(h0, .inr (0, [.ref h1, .int (nI g), .int (nI sp)])), (h1, aI E 9 w)] (nI (bkN w 9)) [(h0, .inr (0, [.ref h1, .int (nI g), .int (nI sp)])), (h1, aI E 9 w)] below ([.ref h0] : List Value).toArray s) (F0 m 4 ls []) := by
    intro n1
    induction n1 with
    | zero => intro i hi hn; exact absurd hn (by omega)
    | succ n1 ih1 =>
      intro i hi hn  H locs ls hW hl
      refine lv_iload_n C.x C.b dX0_brokenCount_4 rfl (lv_at hl 0 rfl) ?_
      refine lv_bipush (v := nI 9) C.x C.b dX0_brokenCount_5 (by decide) ?_
      refine x_icmp_ge C (by omega) (by omega) (tgt := 27) dX0_brokenCount_7 (by decide) (fun c_2 => ?_) (fun c_2 => ?_)
      · obtain rfl : i = 9 := by omega
        refine lv_iload_n C.x C.b dX0_brokenCount_27 rfl (lv_at hl 1 rfl) ?_
        exact x_iret C hW rfl rfl rfl dX0_brokenCount_28
      · refine lv_aload_n C.x C.b dX0_brokenCount_10 rfl (lv_at hl 2 rfl) ?_
        refine lv_iload_n C.x C.b dX0_brokenCount_11 rfl (lv_at hl 0 rfl) ?_
        refine x_cVI C hW (As := [.int (nI i)]) (rest := []) (wr := []) (wn := [(h0, .inr (0, [.ref h1, .int (nI g), .int (nI sp)])), (h1, aI E 9 w)]) (Cn := RX0) (met_X0_broken l E h0 h1 g sp w i (by omega) hw) gX0_brokenCount_X0_broken rfl 1 rfl ⟨rfl, rfl⟩ ⟨rfl, by decide +kernel, by decide +kernel, by decide +kernel⟩ ⟨Nat.le_of_ble_eq_true rfl, Nat.le_of_ble_eq_true rfl⟩ [0, 1] [] [0, 1] rfl (by decide) rfl (by decide) (by decide) rfl (by decide) 0 0 rfl rfl hl.1 rfl (Nat.le_of_ble_eq_true rfl) dX0_brokenCount_12 ⟨Nat.zero_le _, Nat.zero_le _⟩ (fun H locs hW => ?_)
        refine x_ifb_eq C (tgt := 21) dX0_brokenCount_15 (by decide) (fun c_3 => ?_) (fun c_3 => ?_)
        · refine lv_iinc (k := 0) (v := nI (i + 1)) (lv' := [(2, .int (nI (i + 1))), (1, .int (nI (bkN w i))), (0, .ref h0)]) C.x C.b dX0_brokenCount_21 hl rfl (z_inc i 1) (by decide) rfl (fun ls hl => ?_)
          refine lv_goto (tgt := 4) C.x C.b dX0_brokenCount_24 (by decide) ?_
          exact ih1 (i + 1) (by omega) (by omega)  _ _ _ (hW.to rfl) (lv_to (lv_sub (l' := [(2, .int (nI (i + 1))), (1, .int (nI (bkN w i))), (0, .ref h0)]) hl [0, 1, 2] rfl) (by first | rfl | (simp [bkN, c_2, c_3]; done) | (rw [if_pos (by omega)]; done) | (rw [if_neg (by omega)]; done) | (exfalso; omega) | (simp only [bkN]; (repeat' split) <;> first | rfl | contradiction | (exfalso; omega))))
        · refine lv_iinc (k := 1) (v := nI ((bkN w i) + 1)) (lv' := [(1, .int (nI ((bkN w i) + 1))), (2, .int (nI i)), (0, .ref h0)]) C.x C.b dX0_brokenCount_18 hl rfl (z_inc (bkN w i) 1) (by decide) rfl (fun ls hl => ?_)
          refine lv_iinc (k := 1) (v := nI (i + 1)) (lv' := [(2, .int (nI (i + 1))), (1, .int (nI ((bkN w i) + 1))), (0, .ref h0)]) C.x C.b dX0_brokenCount_21 hl rfl (z_inc i 1) (by decide) rfl (fun ls hl => ?_)
          refine lv_goto (tgt := 4) C.x C.b dX0_brokenCount_24 (by decide) ?_
          exact ih1 (i + 1) (by omega) (by omega)  _ _ _ (hW.to rfl) (lv_to (lv_sub (l' := [(2, .int (nI (i + 1))), (1, .int (nI ((bkN w i) + 1))), (0, .ref h0)]) hl [0, 1, 2] rfl) (by first | rfl | (simp [bkN, c_2, c_3]; done) | (rw [if_pos (by omega)]; done) | (rw [if_neg (by omega)]; done) | (exfalso; omega) | (simp only [bkN]; (repeat' split) <;> first | rfl | contradiction | (exfalso; omega))))
  exact lp_1 (9 + 1) 0 (by omega) (by omega)  _ _ _ (hW.to rfl) (lv_to (lv_sub (l' := [(2, .int (nI 0)), (1, .int (nI 0)), (0, .ref h0)]) hl [0, 1, 2] rfl) rfl)

set_option maxHeartbeats 4000000 in
set_option maxRecDepth 100000 in
theorem met_X0_brokenIfAllFell (l : Launch) (E : EV) (h0 h1 : Nat) (g sp : Nat) (w : Nat → Nat) (hw : ∀ i, w i ≤ 12) (hg : g < 512) : MI l yX0_brokenIfAllFell wsX0_brokenIfAllFell { frames := 1, cells := 0, slots := 0, locals := 21 } E [.ref h0] [(h0, .inr (0, [.ref h1, .int (nI g), .int (nI sp)])), (h1, aI E 9 w)] (nI (biN g w 9)) [(h0, .inr (0, [.ref h1, .int (nI g), .int (nI sp)])), (h1, aI E 9 w)] := by
  refine sI (own := RX0) (cc := cX0_brokenIfAllFell) (maxL := 4) (ret := (some .int)) rfl (by decide) rfl (Nat.le_of_ble_eq_true rfl) ?_
  intro p e s m below meth c C hnm ls hl hW
  have hl : lv_has ls 4 [(0, .ref h0)] := hl
  have hW : WD E _ s [(h0, .inr (0, [.ref h1, .int (nI g), .int (nI sp)])), (h1, aI E 9 w)] s.heap [] := hW
  have hinX0 : ∀ w ∈ u_ws RX0 TX0 3, w ∈ wsX0_brokenIfAllFell := by decide +kernel
  have hf9 : Cond.fieldLink RX0 9 (TX0 0).1 (TX0 0).2.1 (TX0 0).2.2.1 ∈ wsX0_brokenIfAllFell := by decide +kernel
  have hf17 : Cond.fieldLink RX0 17 (TX0 1).1 (TX0 1).2.1 (TX0 1).2.2.1 ∈ wsX0_brokenIfAllFell := by decide +kernel
  refine lv_iconst (v := nI 0) C.x C.b dX0_brokenIfAllFell_0 (by decide) ?_
  refine lv_istore_n (lv' := [(1, .int (nI 0)), (0, .ref h0)]) C.x C.b dX0_brokenIfAllFell_1 rfl hl (by decide) rfl (fun ls hl => ?_)
  refine lv_iconst (v := nI 0) C.x C.b dX0_brokenIfAllFell_2 (by decide) ?_
  refine lv_istore_n (lv' := [(2, .int (nI 0)), (1, .int (nI 0)), (0, .ref h0)]) C.x C.b dX0_brokenIfAllFell_3 rfl hl (by decide) rfl (fun ls hl => ?_)
  have lp_1 : ∀ (n1 i : Nat), i ≤ 9 → 9 + 1 ≤ i + n1 → ∀ (H : Heap) (locs : List Loc) (ls : Array Slot), WD E (va_A [(h0, .inr (0, [.ref h1, .int (nI g), .int (nI sp)])), (h1, aI E 9 w)] s.heap.size) s [(h0, .inr (0, [.ref h1, .int (nI g), .int (nI sp)])), (h1, aI E 9 w)] H locs → lv_has ls 4 [(2, .int (nI i)), (1, .int (nI (biN g w i))), (0, .ref h0)] → W p l e ({ frames := 1, cells := 0, slots := 0, locals := 21 } : Room) s m ([.ref h0] : List Value).toArray below meth c H locs 0 0 (QI E [(h0, .inr (0, [.ref h1, .int (nI g), .int (nI sp)])), (h1, aI E 9 w)] (nI (biN g w 9)) [(h0, .inr (0, [.ref h1, .int (nI g), .int (nI sp)])), (h1, aI E 9 w)] below ([.ref h0] : List Value).toArray s) (F0 m 4 ls []) := by
    intro n1
    induction n1 with
    | zero => intro i hi hn; exact absurd hn (by omega)
    | succ n1 ih1 =>
      intro i hi hn  H locs ls hW hl
      refine lv_iload_n C.x C.b dX0_brokenIfAllFell_4 rfl (lv_at hl 0 rfl) ?_
      refine lv_bipush (v := nI 9) C.x C.b dX0_brokenIfAllFell_5 (by decide) ?_
      refine x_icmp_ge C (by omega) (by omega) (tgt := 49) dX0_brokenIfAllFell_7 (by decide) (fun c_2 => ?_) (fun c_2 => ?_)
      · obtain rfl : i = 9 := by omega
        refine lv_iload_n C.x C.b dX0_brokenIfAllFell_49 rfl (lv_at hl 1 rfl) ?_
        exact x_iret C hW rfl rfl rfl dX0_brokenIfAllFell_50
      · refine lv_aload_n C.x C.b dX0_brokenIfAllFell_10 rfl (lv_at hl 2 rfl) ?_
        refine x_get C hW 0 0 1 (Cn := RX0) (T := TX0) (N := 3) rfl rfl (by decide) hinX0 hf17 rfl dX0_brokenIfAllFell_11 ?_
        refine lv_iload_n C.x C.b dX0_brokenIfAllFell_14 rfl (lv_at hl 0 rfl) ?_
        refine x_cSI C hW (As := [.int (nI g), .int (nI i)]) (rest := []) (wr := [(h0, .inr (0, [.ref h1, .int (nI g), .int (nI sp)])), (h1, aI E 9 w)]) (wn := [(h0, .inr (0, [.ref h1, .int (nI g), .int (nI sp)])), (h1, aI E 9 w)]) (met_X1_holds l E g i (by omega) (by omega)) gX0_brokenIfAllFell_X1_holds rfl 2 rfl ⟨rfl, rfl⟩ ⟨by decide +kernel, by decide +kernel, by decide +kernel⟩ ⟨Nat.le_of_ble_eq_true rfl, Nat.le_of_ble_eq_true rfl⟩ [] [0, 1] [0, 1] rfl (by decide) rfl (by decide) (by decide) rfl (by decide) hl.1 rfl (Nat.le_of_ble_eq_true rfl) dX0_brokenIfAllFell_15 ⟨Nat.zero_le _, Nat.zero_le _⟩ (fun H locs hW => ?_)
        refine x_ifb_eq C (tgt := 25) dX0_brokenIfAllFell_18 (by decide) (fun c_3 => ?_) (fun c_3 => ?_)
        · refine lv_iconst (v := nI 0) C.x C.b dX0_brokenIfAllFell_25 (by decide) ?_
          refine lv_istore_n (lv' := [(3, .int (nI 0)), (2, .int (nI i)), (1, .int (nI (biN g w i))), (0, .ref h0)]) C.x C.b dX0_brokenIfAllFell_26 rfl hl (by decide) rfl (fun ls hl => ?_)
          refine lv_aload_n C.x C.b dX0_brokenIfAllFell_27 rfl (lv_at hl 3 rfl) ?_
          refine x_get C hW 0 0 0 (Cn := RX0) (T := TX0) (N := 3) rfl rfl (by decide) hinX0 hf9 rfl dX0_brokenIfAllFell_28 ?_
          refine lv_iload_n C.x C.b dX0_brokenIfAllFell_31 rfl (lv_at hl 1 rfl) ?_
          refine x_ald C hW 1 i rfl rfl (by omega) (by decide) dX0_brokenIfAllFell_32 ?_
          refine lv_iload_n C.x C.b dX0_brokenIfAllFell_33 rfl (lv_at hl 0 rfl) ?_
          refine x_iadd C dX0_brokenIfAllFell_34 ?_
          refine lv_bipush (v := nI 12) C.x C.b dX0_brokenIfAllFell_35 (by decide) ?_
          have h9 := hw i
          refine x_icmp_lt C (by omega) (by omega) (tgt := 43) dX0_brokenIfAllFell_37 (by decide) (fun c_4 => ?_) (fun c_4 => ?_)
          · refine lv_iinc (k := 1) (v := nI (i + 1)) (lv' := [(2, .int (nI (i + 1))), (3, .int (nI 0)), (1, .int (nI (biN g w i))), (0, .ref h0)]) C.x C.b dX0_brokenIfAllFell_43 hl rfl (z_inc i 1) (by decide) rfl (fun ls hl => ?_)
            refine lv_goto (tgt := 4) C.x C.b dX0_brokenIfAllFell_46 (by decide) ?_
            exact ih1 (i + 1) (by omega) (by omega)  _ _ _ (hW.to rfl) (lv_to (lv_sub (l' := [(2, .int (nI (i + 1))), (1, .int (nI (biN g w i))), (0, .ref h0)]) hl [0, 2, 3] rfl) (by first | rfl | (simp [biN, c_2, c_3, c_4]; done) | (rw [if_pos (by omega)]; done) | (rw [if_neg (by omega)]; done) | (exfalso; omega) | (simp only [biN]; (repeat' split) <;> first | rfl | contradiction | (exfalso; omega))))
          · refine lv_iinc (k := 2) (v := nI ((biN g w i) + 1)) (lv' := [(1, .int (nI ((biN g w i) + 1))), (3, .int (nI 0)), (2, .int (nI i)), (0, .ref h0)]) C.x C.b dX0_brokenIfAllFell_40 hl rfl (z_inc (biN g w i) 1) (by decide) rfl (fun ls hl => ?_)
            refine lv_iinc (k := 2) (v := nI (i + 1)) (lv' := [(2, .int (nI (i + 1))), (1, .int (nI ((biN g w i) + 1))), (3, .int (nI 0)), (0, .ref h0)]) C.x C.b dX0_brokenIfAllFell_43 hl rfl (z_inc i 1) (by decide) rfl (fun ls hl => ?_)
            refine lv_goto (tgt := 4) C.x C.b dX0_brokenIfAllFell_46 (by decide) ?_
            exact ih1 (i + 1) (by omega) (by omega)  _ _ _ (hW.to rfl) (lv_to (lv_sub (l' := [(2, .int (nI (i + 1))), (1, .int (nI ((biN g w i) + 1))), (0, .ref h0)]) hl [0, 1, 3] rfl) (by first | rfl | (simp [biN, c_2, c_3, c_4]; done) | (rw [if_pos (by omega)]; done) | (rw [if_neg (by omega)]; done) | (exfalso; omega) | (simp only [biN]; (repeat' split) <;> first | rfl | contradiction | (exfalso; omega))))
        · refine lv_iconst (v := nI 1) C.x C.b dX0_brokenIfAllFell_21 (by decide) ?_
          refine lv_goto (tgt := 26) C.x C.b dX0_brokenIfAllFell_22 (by decide) ?_
          refine lv_istore_n (lv' := [(3, .int (nI 1)), (2, .int (nI i)), (1, .int (nI (biN g w i))), (0, .ref h0)]) C.x C.b dX0_brokenIfAllFell_26 rfl hl (by decide) rfl (fun ls hl => ?_)
          refine lv_aload_n C.x C.b dX0_brokenIfAllFell_27 rfl (lv_at hl 3 rfl) ?_
          refine x_get C hW 0 0 0 (Cn := RX0) (T := TX0) (N := 3) rfl rfl (by decide) hinX0 hf9 rfl dX0_brokenIfAllFell_28 ?_
          refine lv_iload_n C.x C.b dX0_brokenIfAllFell_31 rfl (lv_at hl 1 rfl) ?_
          refine x_ald C hW 1 i rfl rfl (by omega) (by decide) dX0_brokenIfAllFell_32 ?_
          refine lv_iload_n C.x C.b dX0_brokenIfAllFell_33 rfl (lv_at hl 0 rfl) ?_
          refine x_iadd C dX0_brokenIfAllFell_34 ?_
          refine lv_bipush (v := nI 12) C.x C.b dX0_brokenIfAllFell_35 (by decide) ?_
          have h9 := hw i
          refine x_icmp_lt C (by omega) (by omega) (tgt := 43) dX0_brokenIfAllFell_37 (by decide) (fun c_5 => ?_) (fun c_5 => ?_)
          · refine lv_iinc (k := 1) (v := nI (i + 1)) (lv' := [(2, .int (nI (i + 1))), (3, .int (nI 1)), (1, .int (nI (biN g w i))), (0, .ref h0)]) C.x C.b dX0_brokenIfAllFell_43 hl rfl (z_inc i 1) (by decide) rfl (fun ls hl => ?_)
            refine lv_goto (tgt := 4) C.x C.b dX0_brokenIfAllFell_46 (by decide) ?_
            exact ih1 (i + 1) (by omega) (by omega)  _ _ _ (hW.to rfl) (lv_to (lv_sub (l' := [(2, .int (nI (i + 1))), (1, .int (nI (biN g w i))), (0, .ref h0)]) hl [0, 2, 3] rfl) (by first | rfl | (simp [biN, c_2, c_3, c_5]; done) | (rw [if_pos (by omega)]; done) | (rw [if_neg (by omega)]; done) | (exfalso; omega) | (simp only [biN]; (repeat' split) <;> first | rfl | contradiction | (exfalso; omega))))
          · refine lv_iinc (k := 2) (v := nI ((biN g w i) + 1)) (lv' := [(1, .int (nI ((biN g w i) + 1))), (3, .int (nI 1)), (2, .int (nI i)), (0, .ref h0)]) C.x C.b dX0_brokenIfAllFell_40 hl rfl (z_inc (biN g w i) 1) (by decide) rfl (fun ls hl => ?_)
            refine lv_iinc (k := 2) (v := nI (i + 1)) (lv' := [(2, .int (nI (i + 1))), (1, .int (nI ((biN g w i) + 1))), (3, .int (nI 1)), (0, .ref h0)]) C.x C.b dX0_brokenIfAllFell_43 hl rfl (z_inc i 1) (by decide) rfl (fun ls hl => ?_)
            refine lv_goto (tgt := 4) C.x C.b dX0_brokenIfAllFell_46 (by decide) ?_
            exact ih1 (i + 1) (by omega) (by omega)  _ _ _ (hW.to rfl) (lv_to (lv_sub (l' := [(2, .int (nI (i + 1))), (1, .int (nI ((biN g w i) + 1))), (0, .ref h0)]) hl [0, 1, 3] rfl) (by first | rfl | (simp [biN, c_2, c_3, c_5]; done) | (rw [if_pos (by omega)]; done) | (rw [if_neg (by omega)]; done) | (exfalso; omega) | (simp only [biN]; (repeat' split) <;> first | rfl | contradiction | (exfalso; omega))))
  exact lp_1 (9 + 1) 0 (by omega) (by omega)  _ _ _ (hW.to rfl) (lv_to (lv_sub (l' := [(2, .int (nI 0)), (1, .int (nI 0)), (0, .ref h0)]) hl [0, 1, 2] rfl) rfl)

set_option maxHeartbeats 4000000 in
set_option maxRecDepth 100000 in
theorem met_X0_mostWornPin (l : Launch) (E : EV) (h0 h1 : Nat) (g sp : Nat) (w : Nat → Nat) (hw : ∀ i, w i ≤ 12) : MI l yX0_mostWornPin wsX0_mostWornPin { frames := 1, cells := 0, slots := 0, locals := 21 } E [.ref h0] [(h0, .inr (0, [.ref h1, .int (nI g), .int (nI sp)])), (h1, aI E 9 w)] (mwF w 9) [(h0, .inr (0, [.ref h1, .int (nI g), .int (nI sp)])), (h1, aI E 9 w)] := by
  refine sI (own := RX0) (cc := cX0_mostWornPin) (maxL := 4) (ret := (some .int)) rfl (by decide) rfl (Nat.le_of_ble_eq_true rfl) ?_
  intro p e s m below meth c C hnm ls hl hW
  have hl : lv_has ls 4 [(0, .ref h0)] := hl
  have hW : WD E _ s [(h0, .inr (0, [.ref h1, .int (nI g), .int (nI sp)])), (h1, aI E 9 w)] s.heap [] := hW
  have hinX0 : ∀ w ∈ u_ws RX0 TX0 3, w ∈ wsX0_mostWornPin := by decide +kernel
  have hf9 : Cond.fieldLink RX0 9 (TX0 0).1 (TX0 0).2.1 (TX0 0).2.2.1 ∈ wsX0_mostWornPin := by decide +kernel
  refine lv_iconst (v := (-1)) C.x C.b dX0_mostWornPin_0 (by decide) ?_
  refine lv_istore_n (lv' := [(1, .int ((-1 : Int32))), (0, .ref h0)]) C.x C.b dX0_mostWornPin_1 rfl hl (by decide) rfl (fun ls hl => ?_)
  refine lv_iconst (v := (-1)) C.x C.b dX0_mostWornPin_2 (by decide) ?_
  refine lv_istore_n (lv' := [(2, .int ((-1 : Int32))), (1, .int ((-1 : Int32))), (0, .ref h0)]) C.x C.b dX0_mostWornPin_3 rfl hl (by decide) rfl (fun ls hl => ?_)
  refine lv_iconst (v := nI 0) C.x C.b dX0_mostWornPin_4 (by decide) ?_
  refine lv_istore_n (lv' := [(3, .int (nI 0)), (2, .int ((-1 : Int32))), (1, .int ((-1 : Int32))), (0, .ref h0)]) C.x C.b dX0_mostWornPin_5 rfl hl (by decide) rfl (fun ls hl => ?_)
  have lp_1 : ∀ (n1 i : Nat), i ≤ 9 → 9 + 1 ≤ i + n1 → ∀ (H : Heap) (locs : List Loc) (ls : Array Slot), WD E (va_A [(h0, .inr (0, [.ref h1, .int (nI g), .int (nI sp)])), (h1, aI E 9 w)] s.heap.size) s [(h0, .inr (0, [.ref h1, .int (nI g), .int (nI sp)])), (h1, aI E 9 w)] H locs → lv_has ls 4 [(3, .int (nI i)), (2, .int (mwM w i)), (1, .int (mwF w i)), (0, .ref h0)] → W p l e ({ frames := 1, cells := 0, slots := 0, locals := 21 } : Room) s m ([.ref h0] : List Value).toArray below meth c H locs 0 0 (QI E [(h0, .inr (0, [.ref h1, .int (nI g), .int (nI sp)])), (h1, aI E 9 w)] (mwF w 9) [(h0, .inr (0, [.ref h1, .int (nI g), .int (nI sp)])), (h1, aI E 9 w)] below ([.ref h0] : List Value).toArray s) (F0 m 6 ls []) := by
    intro n1
    induction n1 with
    | zero => intro i hi hn; exact absurd hn (by omega)
    | succ n1 ih1 =>
      intro i hi hn  H locs ls hW hl
      refine lv_iload_n C.x C.b dX0_mostWornPin_6 rfl (lv_at hl 0 rfl) ?_
      refine lv_bipush (v := nI 9) C.x C.b dX0_mostWornPin_7 (by decide) ?_
      refine x_icmp_ge C (by omega) (by omega) (tgt := 45) dX0_mostWornPin_9 (by decide) (fun c_2 => ?_) (fun c_2 => ?_)
      · obtain rfl : i = 9 := by omega
        refine lv_iload_n C.x C.b dX0_mostWornPin_45 rfl (lv_at hl 2 rfl) ?_
        exact x_iret C hW rfl rfl rfl dX0_mostWornPin_46
      · refine lv_aload_n C.x C.b dX0_mostWornPin_12 rfl (lv_at hl 3 rfl) ?_
        refine lv_iload_n C.x C.b dX0_mostWornPin_13 rfl (lv_at hl 0 rfl) ?_
        refine x_cVI C hW (As := [.int (nI i)]) (rest := []) (wr := []) (wn := [(h0, .inr (0, [.ref h1, .int (nI g), .int (nI sp)])), (h1, aI E 9 w)]) (Cn := RX0) (met_X0_broken l E h0 h1 g sp w i (by omega) hw) gX0_mostWornPin_X0_broken rfl 1 rfl ⟨rfl, rfl⟩ ⟨rfl, by decide +kernel, by decide +kernel, by decide +kernel⟩ ⟨Nat.le_of_ble_eq_true rfl, Nat.le_of_ble_eq_true rfl⟩ [0, 1] [] [0, 1] rfl (by decide) rfl (by decide) (by decide) rfl (by decide) 0 0 rfl rfl hl.1 rfl (Nat.le_of_ble_eq_true rfl) dX0_mostWornPin_14 ⟨Nat.zero_le _, Nat.zero_le _⟩ (fun H locs hW => ?_)
        refine x_ifb_ne C (tgt := 39) dX0_mostWornPin_17 (by decide) (fun c_3 => ?_) (fun c_3 => ?_)
        · refine lv_iinc (k := 0) (v := nI (i + 1)) (lv' := [(3, .int (nI (i + 1))), (2, .int (mwM w i)), (1, .int (mwF w i)), (0, .ref h0)]) C.x C.b dX0_mostWornPin_39 hl rfl (z_inc i 1) (by decide) rfl (fun ls hl => ?_)
          refine lv_goto (tgt := 6) C.x C.b dX0_mostWornPin_42 (by decide) ?_
          exact ih1 (i + 1) (by omega) (by omega)  _ _ _ (hW.to rfl) (lv_to (lv_sub (l' := [(3, .int (nI (i + 1))), (2, .int (mwM w i)), (1, .int (mwF w i)), (0, .ref h0)]) hl [0, 1, 2, 3] rfl) (by first | rfl | (simp [mwF, mwM, c_2, c_3]; done) | (rw [if_pos (by omega)]; done) | (rw [if_neg (by omega)]; done) | (exfalso; omega) | (simp only [mwF, mwM]; (repeat' split) <;> first | rfl | contradiction | (exfalso; omega))))
        · refine lv_aload_n C.x C.b dX0_mostWornPin_20 rfl (lv_at hl 3 rfl) ?_
          refine x_get C hW 0 0 0 (Cn := RX0) (T := TX0) (N := 3) rfl rfl (by decide) hinX0 hf9 rfl dX0_mostWornPin_21 ?_
          refine lv_iload_n C.x C.b dX0_mostWornPin_24 rfl (lv_at hl 0 rfl) ?_
          refine x_ald C hW 1 i rfl rfl (by omega) (by decide) dX0_mostWornPin_25 ?_
          refine lv_iload_n C.x C.b dX0_mostWornPin_26 rfl (lv_at hl 1 rfl) ?_
          refine lv_icmp_le C.x C.b (tgt := 39) dX0_mostWornPin_27 (by decide) (fun c_4 => ?_) (fun c_4 => ?_)
          · have c_4 : nI (w i) ≤ mwM w i := c_4
            refine lv_iinc (k := 0) (v := nI (i + 1)) (lv' := [(3, .int (nI (i + 1))), (2, .int (mwM w i)), (1, .int (mwF w i)), (0, .ref h0)]) C.x C.b dX0_mostWornPin_39 hl rfl (z_inc i 1) (by decide) rfl (fun ls hl => ?_)
            refine lv_goto (tgt := 6) C.x C.b dX0_mostWornPin_42 (by decide) ?_
            exact ih1 (i + 1) (by omega) (by omega)  _ _ _ (hW.to rfl) (lv_to (lv_sub (l' := [(3, .int (nI (i + 1))), (2, .int (mwM w i)), (1, .int (mwF w i)), (0, .ref h0)]) hl [0, 1, 2, 3] rfl) (by first | rfl | (simp [mwF, mwM, c_2, c_3, c_4]; done) | (rw [if_pos (by omega)]; done) | (rw [if_neg (by omega)]; done) | (exfalso; omega) | (simp only [mwF, mwM]; (repeat' split) <;> first | rfl | contradiction | (exfalso; omega))))
          · have c_4 : ¬ (nI (w i) ≤ mwM w i) := c_4
            refine lv_iload_n C.x C.b dX0_mostWornPin_30 rfl (lv_at hl 0 rfl) ?_
            refine lv_istore_n (lv' := [(1, .int (nI i)), (3, .int (nI i)), (2, .int (mwM w i)), (0, .ref h0)]) C.x C.b dX0_mostWornPin_31 rfl hl (by decide) rfl (fun ls hl => ?_)
            refine lv_aload_n C.x C.b dX0_mostWornPin_32 rfl (lv_at hl 3 rfl) ?_
            refine x_get C hW 0 0 0 (Cn := RX0) (T := TX0) (N := 3) rfl rfl (by decide) hinX0 hf9 rfl dX0_mostWornPin_33 ?_
            refine lv_iload_n C.x C.b dX0_mostWornPin_36 rfl (lv_at hl 1 rfl) ?_
            refine x_ald C hW 1 i rfl rfl (by omega) (by decide) dX0_mostWornPin_37 ?_
            refine lv_istore_n (lv' := [(2, .int (nI (w i))), (1, .int (nI i)), (3, .int (nI i)), (0, .ref h0)]) C.x C.b dX0_mostWornPin_38 rfl hl (by decide) rfl (fun ls hl => ?_)
            refine lv_iinc (k := 2) (v := nI (i + 1)) (lv' := [(3, .int (nI (i + 1))), (2, .int (nI (w i))), (1, .int (nI i)), (0, .ref h0)]) C.x C.b dX0_mostWornPin_39 hl rfl (z_inc i 1) (by decide) rfl (fun ls hl => ?_)
            refine lv_goto (tgt := 6) C.x C.b dX0_mostWornPin_42 (by decide) ?_
            exact ih1 (i + 1) (by omega) (by omega)  _ _ _ (hW.to rfl) (lv_to (lv_sub (l' := [(3, .int (nI (i + 1))), (2, .int (nI (w i))), (1, .int (nI i)), (0, .ref h0)]) hl [0, 1, 2, 3] rfl) (by first | rfl | (simp [mwF, mwM, c_2, c_3, c_4]; done) | (rw [if_pos (by omega)]; done) | (rw [if_neg (by omega)]; done) | (exfalso; omega) | (simp only [mwF, mwM]; (repeat' split) <;> first | rfl | contradiction | (exfalso; omega))))
  exact lp_1 (9 + 1) 0 (by omega) (by omega)  _ _ _ (hW.to rfl) (lv_to (lv_sub (l' := [(3, .int (nI 0)), (2, .int ((-1 : Int32))), (1, .int ((-1 : Int32))), (0, .ref h0)]) hl [0, 1, 2, 3] rfl) rfl)

set_option maxHeartbeats 4000000 in
set_option maxRecDepth 100000 in
theorem met_X0_digestOn (l : Launch) (E : EV) (h0 h1 : Nat) (g sp : Nat) (w : Nat → Nat) (d : Int64) (hw : ∀ i, w i ≤ 12) (hg : g < 512) : ML l yX0_digestOn wsX0_digestOn { frames := 1, cells := 0, slots := 0, locals := 21 } E [.ref h0, .long d] [(h0, .inr (0, [.ref h1, .int (nI g), .int (nI sp)])), (h1, aI E 9 w)] (dgA d g w 9) [(h0, .inr (0, [.ref h1, .int (nI g), .int (nI sp)])), (h1, aI E 9 w)] := by
  refine sL (own := RX0) (cc := cX0_digestOn) (maxL := 6) rfl (by decide) rfl (Nat.le_of_ble_eq_true rfl) ?_
  intro p e s m below meth c C hnm ls hl hW
  have hl : lv_has ls 6 [(0, .ref h0), (1, .long d)] := hl
  have hW : WD E _ s [(h0, .inr (0, [.ref h1, .int (nI g), .int (nI sp)])), (h1, aI E 9 w)] s.heap [] := hW
  have hinX0 : ∀ w ∈ u_ws RX0 TX0 3, w ∈ wsX0_digestOn := by decide +kernel
  have hf9 : Cond.fieldLink RX0 9 (TX0 0).1 (TX0 0).2.1 (TX0 0).2.2.1 ∈ wsX0_digestOn := by decide +kernel
  have hf17 : Cond.fieldLink RX0 17 (TX0 1).1 (TX0 1).2.1 (TX0 1).2.2.1 ∈ wsX0_digestOn := by decide +kernel
  refine lv_lload_n C.x C.b dX0_digestOn_0 rfl (lv_at hl 1 rfl) ?_
  refine lv_lstore_n (lv' := [(3, .long d), (0, .ref h0), (1, .long d)]) C.x C.b dX0_digestOn_1 rfl hl (by decide) rfl (fun ls hl => ?_)
  refine lv_iconst (v := nI 0) C.x C.b dX0_digestOn_2 (by decide) ?_
  refine lv_istore (lv' := [(5, .int (nI 0)), (3, .long d), (0, .ref h0), (1, .long d)]) C.x C.b dX0_digestOn_3 hl (by decide) rfl (fun ls hl => ?_)
  have lp_1 : ∀ (n1 i : Nat), i ≤ 9 → 9 + 1 ≤ i + n1 → ∀ (H : Heap) (locs : List Loc) (ls : Array Slot), WD E (va_A [(h0, .inr (0, [.ref h1, .int (nI g), .int (nI sp)])), (h1, aI E 9 w)] s.heap.size) s [(h0, .inr (0, [.ref h1, .int (nI g), .int (nI sp)])), (h1, aI E 9 w)] H locs → lv_has ls 6 [(5, .int (nI i)), (3, .long (dgA d g w i)), (0, .ref h0), (1, .long d)] → W p l e ({ frames := 1, cells := 0, slots := 0, locals := 21 } : Room) s m ([.ref h0, .long d] : List Value).toArray below meth c H locs 0 0 (QL E [(h0, .inr (0, [.ref h1, .int (nI g), .int (nI sp)])), (h1, aI E 9 w)] (dgA d g w 9) [(h0, .inr (0, [.ref h1, .int (nI g), .int (nI sp)])), (h1, aI E 9 w)] below ([.ref h0, .long d] : List Value).toArray s) (F0 m 5 ls []) := by
    intro n1
    induction n1 with
    | zero => intro i hi hn; exact absurd hn (by omega)
    | succ n1 ih1 =>
      intro i hi hn  H locs ls hW hl
      refine lv_iload C.x C.b dX0_digestOn_5 (lv_at hl 0 rfl) ?_
      refine lv_bipush (v := nI 9) C.x C.b dX0_digestOn_7 (by decide) ?_
      refine x_icmp_ge C (by omega) (by omega) (tgt := 58) dX0_digestOn_9 (by decide) (fun c_2 => ?_) (fun c_2 => ?_)
      · obtain rfl : i = 9 := by omega
        refine lv_lload_n C.x C.b dX0_digestOn_58 rfl (lv_at hl 1 rfl) ?_
        exact x_lret C hW rfl rfl dX0_digestOn_59
      · refine lv_lload_n C.x C.b dX0_digestOn_12 rfl (lv_at hl 1 rfl) ?_
        refine lv_ldc2 (v := (31)) C.x C.b C.ow (C.ts (.constantLong RX0 42 (31)) (by decide +kernel)) dX0_digestOn_13 ?_
        refine lv_lmul C.x C.b dX0_digestOn_16 ?_
        refine lv_aload_n C.x C.b dX0_digestOn_17 rfl (lv_at hl 2 rfl) ?_
        refine x_get C hW 0 0 1 (Cn := RX0) (T := TX0) (N := 3) rfl rfl (by decide) hinX0 hf17 rfl dX0_digestOn_18 ?_
        refine lv_iload C.x C.b dX0_digestOn_21 (lv_at hl 0 rfl) ?_
        refine x_cSI C hW (As := [.int (nI g), .int (nI i)]) (rest := [.long ((dgA d g w i) * ((31 : Int64)))]) (wr := [(h0, .inr (0, [.ref h1, .int (nI g), .int (nI sp)])), (h1, aI E 9 w)]) (wn := [(h0, .inr (0, [.ref h1, .int (nI g), .int (nI sp)])), (h1, aI E 9 w)]) (met_X1_holds l E g i (by omega) (by omega)) gX0_digestOn_X1_holds rfl 2 rfl ⟨rfl, rfl⟩ ⟨by decide +kernel, by decide +kernel, by decide +kernel⟩ ⟨Nat.le_of_ble_eq_true rfl, Nat.le_of_ble_eq_true rfl⟩ [] [0, 1] [0, 1] rfl (by decide) rfl (by decide) (by decide) rfl (by decide) hl.1 rfl (Nat.le_of_ble_eq_true rfl) dX0_digestOn_23 ⟨Nat.zero_le _, Nat.zero_le _⟩ (fun H locs hW => ?_)
        refine x_ifb_eq C (tgt := 33) dX0_digestOn_26 (by decide) (fun c_3 => ?_) (fun c_3 => ?_)
        · refine lv_iconst (v := nI 0) C.x C.b dX0_digestOn_33 (by decide) ?_
          refine lv_i2l (v := lN 0) C.x C.b dX0_digestOn_34 (nI_l (by omega)) ?_
          refine lv_ladd C.x C.b dX0_digestOn_35 ?_
          refine lv_lstore_n (lv' := [(3, .long (((dgA d g w i) * ((31 : Int64))) + (lN 0))), (5, .int (nI i)), (0, .ref h0), (1, .long d)]) C.x C.b dX0_digestOn_36 rfl hl (by decide) rfl (fun ls hl => ?_)
          refine lv_lload_n C.x C.b dX0_digestOn_37 rfl (lv_at hl 0 rfl) ?_
          refine lv_ldc2 (v := (31)) C.x C.b C.ow (C.ts (.constantLong RX0 42 (31)) (by decide +kernel)) dX0_digestOn_38 ?_
          refine lv_lmul C.x C.b dX0_digestOn_41 ?_
          refine lv_aload_n C.x C.b dX0_digestOn_42 rfl (lv_at hl 2 rfl) ?_
          refine x_get C hW 0 0 0 (Cn := RX0) (T := TX0) (N := 3) rfl rfl (by decide) hinX0 hf9 rfl dX0_digestOn_43 ?_
          refine lv_iload C.x C.b dX0_digestOn_46 (lv_at hl 1 rfl) ?_
          refine x_ald C hW 1 i rfl rfl (by omega) (by decide) dX0_digestOn_48 ?_
          have h9 := hw i
          refine lv_i2l (v := lN (w i)) C.x C.b dX0_digestOn_49 (nI_l (by omega)) ?_
          refine lv_ladd C.x C.b dX0_digestOn_50 ?_
          refine lv_lstore_n (lv' := [(3, .long (((((dgA d g w i) * ((31 : Int64))) + (lN 0)) * ((31 : Int64))) + (lN (w i)))), (5, .int (nI i)), (0, .ref h0), (1, .long d)]) C.x C.b dX0_digestOn_51 rfl hl (by decide) rfl (fun ls hl => ?_)
          refine lv_iinc (k := 1) (v := nI (i + 1)) (lv' := [(5, .int (nI (i + 1))), (3, .long (((((dgA d g w i) * ((31 : Int64))) + (lN 0)) * ((31 : Int64))) + (lN (w i)))), (0, .ref h0), (1, .long d)]) C.x C.b dX0_digestOn_52 hl rfl (z_inc i 1) (by decide) rfl (fun ls hl => ?_)
          refine lv_goto (tgt := 5) C.x C.b dX0_digestOn_55 (by decide) ?_
          exact ih1 (i + 1) (by omega) (by omega)  _ _ _ (hW.to rfl) (lv_to (lv_sub (l' := [(5, .int (nI (i + 1))), (3, .long (((((dgA d g w i) * ((31 : Int64))) + (lN 0)) * ((31 : Int64))) + (lN (w i)))), (0, .ref h0), (1, .long d)]) hl [0, 1, 2, 3] rfl) (by first | rfl | (simp [dgA, c_2, c_3]; done) | (rw [if_pos (by omega)]; done) | (rw [if_neg (by omega)]; done) | (exfalso; omega) | (simp only [dgA]; (repeat' split) <;> first | rfl | contradiction | (exfalso; omega))))
        · refine lv_iconst (v := nI 1) C.x C.b dX0_digestOn_29 (by decide) ?_
          refine lv_goto (tgt := 34) C.x C.b dX0_digestOn_30 (by decide) ?_
          refine lv_i2l (v := lN 1) C.x C.b dX0_digestOn_34 (nI_l (by omega)) ?_
          refine lv_ladd C.x C.b dX0_digestOn_35 ?_
          refine lv_lstore_n (lv' := [(3, .long (((dgA d g w i) * ((31 : Int64))) + (lN 1))), (5, .int (nI i)), (0, .ref h0), (1, .long d)]) C.x C.b dX0_digestOn_36 rfl hl (by decide) rfl (fun ls hl => ?_)
          refine lv_lload_n C.x C.b dX0_digestOn_37 rfl (lv_at hl 0 rfl) ?_
          refine lv_ldc2 (v := (31)) C.x C.b C.ow (C.ts (.constantLong RX0 42 (31)) (by decide +kernel)) dX0_digestOn_38 ?_
          refine lv_lmul C.x C.b dX0_digestOn_41 ?_
          refine lv_aload_n C.x C.b dX0_digestOn_42 rfl (lv_at hl 2 rfl) ?_
          refine x_get C hW 0 0 0 (Cn := RX0) (T := TX0) (N := 3) rfl rfl (by decide) hinX0 hf9 rfl dX0_digestOn_43 ?_
          refine lv_iload C.x C.b dX0_digestOn_46 (lv_at hl 1 rfl) ?_
          refine x_ald C hW 1 i rfl rfl (by omega) (by decide) dX0_digestOn_48 ?_
          have h9 := hw i
          refine lv_i2l (v := lN (w i)) C.x C.b dX0_digestOn_49 (nI_l (by omega)) ?_
          refine lv_ladd C.x C.b dX0_digestOn_50 ?_
          refine lv_lstore_n (lv' := [(3, .long (((((dgA d g w i) * ((31 : Int64))) + (lN 1)) * ((31 : Int64))) + (lN (w i)))), (5, .int (nI i)), (0, .ref h0), (1, .long d)]) C.x C.b dX0_digestOn_51 rfl hl (by decide) rfl (fun ls hl => ?_)
          refine lv_iinc (k := 1) (v := nI (i + 1)) (lv' := [(5, .int (nI (i + 1))), (3, .long (((((dgA d g w i) * ((31 : Int64))) + (lN 1)) * ((31 : Int64))) + (lN (w i)))), (0, .ref h0), (1, .long d)]) C.x C.b dX0_digestOn_52 hl rfl (z_inc i 1) (by decide) rfl (fun ls hl => ?_)
          refine lv_goto (tgt := 5) C.x C.b dX0_digestOn_55 (by decide) ?_
          exact ih1 (i + 1) (by omega) (by omega)  _ _ _ (hW.to rfl) (lv_to (lv_sub (l' := [(5, .int (nI (i + 1))), (3, .long (((((dgA d g w i) * ((31 : Int64))) + (lN 1)) * ((31 : Int64))) + (lN (w i)))), (0, .ref h0), (1, .long d)]) hl [0, 1, 2, 3] rfl) (by first | rfl | (simp [dgA, c_2, c_3]; done) | (rw [if_pos (by omega)]; done) | (rw [if_neg (by omega)]; done) | (exfalso; omega) | (simp only [dgA]; (repeat' split) <;> first | rfl | contradiction | (exfalso; omega))))
  exact lp_1 (9 + 1) 0 (by omega) (by omega)  _ _ _ (hW.to rfl) (lv_to (lv_sub (l' := [(5, .int (nI 0)), (3, .long d), (0, .ref h0), (1, .long d)]) hl [0, 1, 2, 3] rfl) rfl)

set_option maxHeartbeats 4000000 in
set_option maxRecDepth 100000 in
theorem met_X2_throwsAway (l : Launch) (E : EV) (h0 h1 : Nat) (aw : Nat → Nat) (b : Nat) (hb : b < 5) : MI l yX2_throwsAway wsX2_throwsAway { frames := 0, cells := 0, slots := 0, locals := 0 } E [.ref h0, .int (nI b)] [(h0, .inr (1, [.ref h1])), (h1, aI E 5 aw)] (nI (aw b)) [(h0, .inr (1, [.ref h1])), (h1, aI E 5 aw)] := by
  refine sI (own := RX2) (cc := cX2_throwsAway) (maxL := 2) (ret := (some .int)) rfl (by decide) rfl (Nat.le_of_ble_eq_true rfl) ?_
  intro p e s m below meth c C hnm ls hl hW
  have hl : lv_has ls 2 [(0, .ref h0), (1, .int (nI b))] := hl
  have hW : WD E _ s [(h0, .inr (1, [.ref h1])), (h1, aI E 5 aw)] s.heap [] := hW
  have hinX2 : ∀ w ∈ u_ws RX2 TX2 1, w ∈ wsX2_throwsAway := by decide +kernel
  have hf9 : Cond.fieldLink RX2 9 (TX2 0).1 (TX2 0).2.1 (TX2 0).2.2.1 ∈ wsX2_throwsAway := by decide +kernel
  refine lv_aload_n C.x C.b dX2_throwsAway_0 rfl (lv_at hl 0 rfl) ?_
  refine x_get C hW 0 1 0 (Cn := RX2) (T := TX2) (N := 1) rfl rfl (by decide) hinX2 hf9 rfl dX2_throwsAway_1 ?_
  refine lv_iload_n C.x C.b dX2_throwsAway_4 rfl (lv_at hl 1 rfl) ?_
  refine x_ald C hW 1 b rfl rfl (by omega) (by decide) dX2_throwsAway_5 ?_
  exact x_iret C hW rfl rfl rfl dX2_throwsAway_6

set_option maxHeartbeats 4000000 in
set_option maxRecDepth 100000 in
theorem met_X2_send (l : Launch) (E : EV) (h0 h1 : Nat) (aw : Nat → Nat) (b : Nat) (hb : b < 5) (ha : ∀ i, aw i ≤ 2) : MV l yX2_send wsX2_send { frames := 1, cells := 0, slots := 0, locals := 21 } E [.ref h0, .int (nI b)] [(h0, .inr (1, [.ref h1])), (h1, aI E 5 aw)] [(h0, .inr (1, [.ref h1])), (h1, aI E 5 (upN (snW aw 5) b 2))] := by
  refine sV (own := RX2) (cc := cX2_send) (maxL := 3) rfl (by decide) rfl (Nat.le_of_ble_eq_true rfl) ?_
  intro p e s m below meth c C hnm ls hl hW
  have hl : lv_has ls 3 [(0, .ref h0), (1, .int (nI b))] := hl
  have hW : WD E _ s [(h0, .inr (1, [.ref h1])), (h1, aI E 5 aw)] s.heap [] := hW
  have hinX2 : ∀ w ∈ u_ws RX2 TX2 1, w ∈ wsX2_send := by decide +kernel
  have hf9 : Cond.fieldLink RX2 9 (TX2 0).1 (TX2 0).2.1 (TX2 0).2.2.1 ∈ wsX2_send := by decide +kernel
  refine lv_iconst (v := nI 0) C.x C.b dX2_send_0 (by decide) ?_
  refine lv_istore_n (lv' := [(2, .int (nI 0)), (0, .ref h0), (1, .int (nI b))]) C.x C.b dX2_send_1 rfl hl (by decide) rfl (fun ls hl => ?_)
  have lp_1 : ∀ (n1 i : Nat), i ≤ 5 → 5 + 1 ≤ i + n1 → ∀ (H : Heap) (locs : List Loc) (ls : Array Slot), WD E (va_A [(h0, .inr (1, [.ref h1])), (h1, aI E 5 aw)] s.heap.size) s [(h0, .inr (1, [.ref h1])), (h1, aI E 5 (snW aw i))] H locs → lv_has ls 3 [(2, .int (nI i)), (0, .ref h0), (1, .int (nI b))] → W p l e ({ frames := 1, cells := 0, slots := 0, locals := 21 } : Room) s m ([.ref h0, .int (nI b)] : List Value).toArray below meth c H locs 0 0 (QV E [(h0, .inr (1, [.ref h1])), (h1, aI E 5 aw)] [(h0, .inr (1, [.ref h1])), (h1, aI E 5 (upN (snW aw 5) b 2))] below ([.ref h0, .int (nI b)] : List Value).toArray s) (F0 m 2 ls []) := by
    intro n1
    induction n1 with
    | zero => intro i hi hn; exact absurd hn (by omega)
    | succ n1 ih1 =>
      intro i hi hn  H locs ls hW hl
      refine lv_iload_n C.x C.b dX2_send_2 rfl (lv_at hl 0 rfl) ?_
      refine lv_iconst (v := nI 5) C.x C.b dX2_send_3 (by decide) ?_
      refine x_icmp_ge C (by omega) (by omega) (tgt := 31) dX2_send_4 (by decide) (fun c_2 => ?_) (fun c_2 => ?_)
      · obtain rfl : i = 5 := by omega
        refine lv_aload_n C.x C.b dX2_send_31 rfl (lv_at hl 1 rfl) ?_
        refine x_get C hW 0 1 0 (Cn := RX2) (T := TX2) (N := 1) rfl rfl (by decide) hinX2 hf9 rfl dX2_send_32 ?_
        refine lv_iload_n C.x C.b dX2_send_35 rfl (lv_at hl 2 rfl) ?_
        refine lv_iconst (v := nI 2) C.x C.b dX2_send_36 (by decide) ?_
        refine x_ast C hW 1 b 2 rfl rfl rfl (by omega) (by decide) dX2_send_37 (w' := [(h0, .inr (1, [.ref h1])), (h1, aI E 5 (upN (snW aw 5) b 2))]) rfl (fun H locs hW => ?_)
        exact x_vret C hW rfl dX2_send_38
      · refine lv_aload_n C.x C.b dX2_send_7 rfl (lv_at hl 1 rfl) ?_
        refine x_get C hW 0 1 0 (Cn := RX2) (T := TX2) (N := 1) rfl rfl (by decide) hinX2 hf9 rfl dX2_send_8 ?_
        refine lv_iload_n C.x C.b dX2_send_11 rfl (lv_at hl 0 rfl) ?_
        refine lv_iconst (v := nI 0) C.x C.b dX2_send_12 (by decide) ?_
        refine lv_aload_n C.x C.b dX2_send_13 rfl (lv_at hl 1 rfl) ?_
        refine x_get C hW 0 1 0 (Cn := RX2) (T := TX2) (N := 1) rfl rfl (by decide) hinX2 hf9 rfl dX2_send_14 ?_
        refine lv_iload_n C.x C.b dX2_send_17 rfl (lv_at hl 0 rfl) ?_
        refine x_ald C hW 1 i rfl rfl (by omega) (by decide) dX2_send_18 ?_
        refine lv_iconst (v := nI 1) C.x C.b dX2_send_19 (by decide) ?_
        refine lv_isub C.x C.b dX2_send_20 ?_
        refine va_mmax C.x C.b (C.2.2.1.trans hl.1.symm) C.ow (C.ts (.methodLink RX2 15 Lib.Math.max.name) (by decide +kernel)) (C.ts (.static Lib.Math.max.name) (by decide +kernel)) (C.ts (.initialized "java/lang/Math") (by decide +kernel)) (C.ts (.code Lib.Math.max.name Lib.Math.max.code 2 (some .int)) (by decide +kernel)) (Nat.le_of_ble_eq_true rfl) (Nat.le_of_ble_eq_true rfl) (Nat.zero_le _) (Nat.zero_le _) dX2_send_21 ?_
        refine x_toi (y := nI (snW aw i i - 1)) (z_max0 (by have := snW_le ha i i; omega)) ?_
        refine x_ast C hW 1 i (snW aw i i - 1) rfl rfl rfl (by omega) (by decide) dX2_send_24 (w' := [(h0, .inr (1, [.ref h1])), (h1, aI E 5 (upN (snW aw i) i (snW aw i i - 1)))]) rfl (fun H locs hW => ?_)
        refine lv_iinc (k := 0) (v := nI (i + 1)) (lv' := [(2, .int (nI (i + 1))), (0, .ref h0), (1, .int (nI b))]) C.x C.b dX2_send_25 hl rfl (z_inc i 1) (by decide) rfl (fun ls hl => ?_)
        refine lv_goto (tgt := 2) C.x C.b dX2_send_28 (by decide) ?_
        exact ih1 (i + 1) (by omega) (by omega)  _ _ _ (hW.to (by first | rfl | (simp [snW, c_2]; done) | (rw [if_pos (by omega)]; done) | (rw [if_neg (by omega)]; done) | (exfalso; omega) | (simp only [snW]; (repeat' split) <;> first | rfl | contradiction | (exfalso; omega)))) (lv_to (lv_sub (l' := [(2, .int (nI (i + 1))), (0, .ref h0), (1, .int (nI b))]) hl [0, 1, 2] rfl) (by first | rfl | (simp [snW, c_2]; done) | (rw [if_pos (by omega)]; done) | (rw [if_neg (by omega)]; done) | (exfalso; omega) | (simp only [snW]; (repeat' split) <;> first | rfl | contradiction | (exfalso; omega))))
  exact lp_1 (5 + 1) 0 (by omega) (by omega)  _ _ _ (hW.to rfl) (lv_to (lv_sub (l' := [(2, .int (nI 0)), (0, .ref h0), (1, .int (nI b))]) hl [0, 1, 2] rfl) rfl)

set_option maxHeartbeats 4000000 in
set_option maxRecDepth 100000 in
theorem met_X2_returnAll (l : Launch) (E : EV) (h0 h1 : Nat) (aw : Nat → Nat)  : MV l yX2_returnAll wsX2_returnAll { frames := 0, cells := 0, slots := 0, locals := 0 } E [.ref h0] [(h0, .inr (1, [.ref h1])), (h1, aI E 5 aw)] [(h0, .inr (1, [.ref h1])), (h1, aI E 5 (zeW aw 5))] := by
  refine sV (own := RX2) (cc := cX2_returnAll) (maxL := 2) rfl (by decide) rfl (Nat.le_of_ble_eq_true rfl) ?_
  intro p e s m below meth c C hnm ls hl hW
  have hl : lv_has ls 2 [(0, .ref h0)] := hl
  have hW : WD E _ s [(h0, .inr (1, [.ref h1])), (h1, aI E 5 aw)] s.heap [] := hW
  have hinX2 : ∀ w ∈ u_ws RX2 TX2 1, w ∈ wsX2_returnAll := by decide +kernel
  have hf9 : Cond.fieldLink RX2 9 (TX2 0).1 (TX2 0).2.1 (TX2 0).2.2.1 ∈ wsX2_returnAll := by decide +kernel
  refine lv_iconst (v := nI 0) C.x C.b dX2_returnAll_0 (by decide) ?_
  refine lv_istore_n (lv' := [(1, .int (nI 0)), (0, .ref h0)]) C.x C.b dX2_returnAll_1 rfl hl (by decide) rfl (fun ls hl => ?_)
  have lp_1 : ∀ (n1 i : Nat), i ≤ 5 → 5 + 1 ≤ i + n1 → ∀ (H : Heap) (locs : List Loc) (ls : Array Slot), WD E (va_A [(h0, .inr (1, [.ref h1])), (h1, aI E 5 aw)] s.heap.size) s [(h0, .inr (1, [.ref h1])), (h1, aI E 5 (zeW aw i))] H locs → lv_has ls 2 [(1, .int (nI i)), (0, .ref h0)] → W p l e ({ frames := 0, cells := 0, slots := 0, locals := 0 } : Room) s m ([.ref h0] : List Value).toArray below meth c H locs 0 0 (QV E [(h0, .inr (1, [.ref h1])), (h1, aI E 5 aw)] [(h0, .inr (1, [.ref h1])), (h1, aI E 5 (zeW aw 5))] below ([.ref h0] : List Value).toArray s) (F0 m 2 ls []) := by
    intro n1
    induction n1 with
    | zero => intro i hi hn; exact absurd hn (by omega)
    | succ n1 ih1 =>
      intro i hi hn  H locs ls hW hl
      refine lv_iload_n C.x C.b dX2_returnAll_2 rfl (lv_at hl 0 rfl) ?_
      refine lv_iconst (v := nI 5) C.x C.b dX2_returnAll_3 (by decide) ?_
      refine x_icmp_ge C (by omega) (by omega) (tgt := 20) dX2_returnAll_4 (by decide) (fun c_2 => ?_) (fun c_2 => ?_)
      · obtain rfl : i = 5 := by omega
        exact x_vret C hW rfl dX2_returnAll_20
      · refine lv_aload_n C.x C.b dX2_returnAll_7 rfl (lv_at hl 1 rfl) ?_
        refine x_get C hW 0 1 0 (Cn := RX2) (T := TX2) (N := 1) rfl rfl (by decide) hinX2 hf9 rfl dX2_returnAll_8 ?_
        refine lv_iload_n C.x C.b dX2_returnAll_11 rfl (lv_at hl 0 rfl) ?_
        refine lv_iconst (v := nI 0) C.x C.b dX2_returnAll_12 (by decide) ?_
        refine x_ast C hW 1 i 0 rfl rfl rfl (by omega) (by decide) dX2_returnAll_13 (w' := [(h0, .inr (1, [.ref h1])), (h1, aI E 5 (upN (zeW aw i) i 0))]) rfl (fun H locs hW => ?_)
        refine lv_iinc (k := 0) (v := nI (i + 1)) (lv' := [(1, .int (nI (i + 1))), (0, .ref h0)]) C.x C.b dX2_returnAll_14 hl rfl (z_inc i 1) (by decide) rfl (fun ls hl => ?_)
        refine lv_goto (tgt := 2) C.x C.b dX2_returnAll_17 (by decide) ?_
        exact ih1 (i + 1) (by omega) (by omega)  _ _ _ (hW.to (by first | rfl | (simp [zeW, c_2]; done) | (rw [if_pos (by omega)]; done) | (rw [if_neg (by omega)]; done) | (exfalso; omega) | (simp only [zeW]; (repeat' split) <;> first | rfl | contradiction | (exfalso; omega)))) (lv_to (lv_sub (l' := [(1, .int (nI (i + 1))), (0, .ref h0)]) hl [0, 1] rfl) (by first | rfl | (simp [zeW, c_2]; done) | (rw [if_pos (by omega)]; done) | (rw [if_neg (by omega)]; done) | (exfalso; omega) | (simp only [zeW]; (repeat' split) <;> first | rfl | contradiction | (exfalso; omega))))
  exact lp_1 (5 + 1) 0 (by omega) (by omega)  _ _ _ (hW.to rfl) (lv_to (lv_sub (l' := [(1, .int (nI 0)), (0, .ref h0)]) hl [0, 1] rfl) rfl)

set_option maxHeartbeats 4000000 in
set_option maxRecDepth 100000 in
theorem met_X2_digestOn (l : Launch) (E : EV) (h0 h1 : Nat) (aw : Nat → Nat) (d : Int64) (ha : ∀ i, aw i ≤ 2) : ML l yX2_digestOn wsX2_digestOn { frames := 0, cells := 0, slots := 0, locals := 0 } E [.ref h0, .long d] [(h0, .inr (1, [.ref h1])), (h1, aI E 5 aw)] (dgR d aw 5) [(h0, .inr (1, [.ref h1])), (h1, aI E 5 aw)] := by
  refine sL (own := RX2) (cc := cX2_digestOn) (maxL := 6) rfl (by decide) rfl (Nat.le_of_ble_eq_true rfl) ?_
  intro p e s m below meth c C hnm ls hl hW
  have hl : lv_has ls 6 [(0, .ref h0), (1, .long d)] := hl
  have hW : WD E _ s [(h0, .inr (1, [.ref h1])), (h1, aI E 5 aw)] s.heap [] := hW
  have hinX2 : ∀ w ∈ u_ws RX2 TX2 1, w ∈ wsX2_digestOn := by decide +kernel
  have hf9 : Cond.fieldLink RX2 9 (TX2 0).1 (TX2 0).2.1 (TX2 0).2.2.1 ∈ wsX2_digestOn := by decide +kernel
  refine lv_lload_n C.x C.b dX2_digestOn_0 rfl (lv_at hl 1 rfl) ?_
  refine lv_lstore_n (lv' := [(3, .long d), (0, .ref h0), (1, .long d)]) C.x C.b dX2_digestOn_1 rfl hl (by decide) rfl (fun ls hl => ?_)
  refine lv_iconst (v := nI 0) C.x C.b dX2_digestOn_2 (by decide) ?_
  refine lv_istore (lv' := [(5, .int (nI 0)), (3, .long d), (0, .ref h0), (1, .long d)]) C.x C.b dX2_digestOn_3 hl (by decide) rfl (fun ls hl => ?_)
  have lp_1 : ∀ (n1 i : Nat), i ≤ 5 → 5 + 1 ≤ i + n1 → ∀ (H : Heap) (locs : List Loc) (ls : Array Slot), WD E (va_A [(h0, .inr (1, [.ref h1])), (h1, aI E 5 aw)] s.heap.size) s [(h0, .inr (1, [.ref h1])), (h1, aI E 5 aw)] H locs → lv_has ls 6 [(5, .int (nI i)), (3, .long (dgR d aw i)), (0, .ref h0), (1, .long d)] → W p l e ({ frames := 0, cells := 0, slots := 0, locals := 0 } : Room) s m ([.ref h0, .long d] : List Value).toArray below meth c H locs 0 0 (QL E [(h0, .inr (1, [.ref h1])), (h1, aI E 5 aw)] (dgR d aw 5) [(h0, .inr (1, [.ref h1])), (h1, aI E 5 aw)] below ([.ref h0, .long d] : List Value).toArray s) (F0 m 5 ls []) := by
    intro n1
    induction n1 with
    | zero => intro i hi hn; exact absurd hn (by omega)
    | succ n1 ih1 =>
      intro i hi hn  H locs ls hW hl
      refine lv_iload C.x C.b dX2_digestOn_5 (lv_at hl 0 rfl) ?_
      refine lv_iconst (v := nI 5) C.x C.b dX2_digestOn_7 (by decide) ?_
      refine x_icmp_ge C (by omega) (by omega) (tgt := 32) dX2_digestOn_8 (by decide) (fun c_2 => ?_) (fun c_2 => ?_)
      · obtain rfl : i = 5 := by omega
        refine lv_lload_n C.x C.b dX2_digestOn_32 rfl (lv_at hl 1 rfl) ?_
        exact x_lret C hW rfl rfl dX2_digestOn_33
      · refine lv_lload_n C.x C.b dX2_digestOn_11 rfl (lv_at hl 1 rfl) ?_
        refine lv_ldc2 (v := (31)) C.x C.b C.ow (C.ts (.constantLong RX2 21 (31)) (by decide +kernel)) dX2_digestOn_12 ?_
        refine lv_lmul C.x C.b dX2_digestOn_15 ?_
        refine lv_aload_n C.x C.b dX2_digestOn_16 rfl (lv_at hl 2 rfl) ?_
        refine x_get C hW 0 1 0 (Cn := RX2) (T := TX2) (N := 1) rfl rfl (by decide) hinX2 hf9 rfl dX2_digestOn_17 ?_
        refine lv_iload C.x C.b dX2_digestOn_20 (lv_at hl 0 rfl) ?_
        refine x_ald C hW 1 i rfl rfl (by omega) (by decide) dX2_digestOn_22 ?_
        have h9 := ha i
        refine lv_i2l (v := lN (aw i)) C.x C.b dX2_digestOn_23 (nI_l (by omega)) ?_
        refine lv_ladd C.x C.b dX2_digestOn_24 ?_
        refine lv_lstore_n (lv' := [(3, .long (((dgR d aw i) * ((31 : Int64))) + (lN (aw i)))), (5, .int (nI i)), (0, .ref h0), (1, .long d)]) C.x C.b dX2_digestOn_25 rfl hl (by decide) rfl (fun ls hl => ?_)
        refine lv_iinc (k := 1) (v := nI (i + 1)) (lv' := [(5, .int (nI (i + 1))), (3, .long (((dgR d aw i) * ((31 : Int64))) + (lN (aw i)))), (0, .ref h0), (1, .long d)]) C.x C.b dX2_digestOn_26 hl rfl (z_inc i 1) (by decide) rfl (fun ls hl => ?_)
        refine lv_goto (tgt := 5) C.x C.b dX2_digestOn_29 (by decide) ?_
        exact ih1 (i + 1) (by omega) (by omega)  _ _ _ (hW.to rfl) (lv_to (lv_sub (l' := [(5, .int (nI (i + 1))), (3, .long (((dgR d aw i) * ((31 : Int64))) + (lN (aw i)))), (0, .ref h0), (1, .long d)]) hl [0, 1, 2, 3] rfl) (by first | rfl | (simp [dgR, c_2]; done) | (rw [if_pos (by omega)]; done) | (rw [if_neg (by omega)]; done) | (exfalso; omega) | (simp only [dgR]; (repeat' split) <;> first | rfl | contradiction | (exfalso; omega))))
  exact lp_1 (5 + 1) 0 (by omega) (by omega)  _ _ _ (hW.to rfl) (lv_to (lv_sub (l' := [(5, .int (nI 0)), (3, .long d), (0, .ref h0), (1, .long d)]) hl [0, 1, 2, 3] rfl) rfl)

set_option maxHeartbeats 4000000 in
set_option maxRecDepth 100000 in
theorem met_X3_thrown (l : Launch) (E : EV) (h0 a1 a2 a3 a4 : Nat) (pt ft ti bt : Nat → Nat) (th : Nat)  : MI l yX3_thrown wsX3_thrown { frames := 0, cells := 0, slots := 0, locals := 0 } E [.ref h0] [(h0, .inr (2, [.ref a1, .ref a2, .ref a3, .ref a4, .int (nI th)])), (a1, aI E 30 pt), (a2, aI E 10 ft), (a3, aI E 10 ti), (a4, aI E 10 bt)] (nI th) [(h0, .inr (2, [.ref a1, .ref a2, .ref a3, .ref a4, .int (nI th)])), (a1, aI E 30 pt), (a2, aI E 10 ft), (a3, aI E 10 ti), (a4, aI E 10 bt)] := by
  refine sI (own := RX3) (cc := cX3_thrown) (maxL := 1) (ret := (some .int)) rfl (by decide) rfl (Nat.le_of_ble_eq_true rfl) ?_
  intro p e s m below meth c C hnm ls hl hW
  have hl : lv_has ls 1 [(0, .ref h0)] := hl
  have hW : WD E _ s [(h0, .inr (2, [.ref a1, .ref a2, .ref a3, .ref a4, .int (nI th)])), (a1, aI E 30 pt), (a2, aI E 10 ft), (a3, aI E 10 ti), (a4, aI E 10 bt)] s.heap [] := hW
  have hinX3 : ∀ w ∈ u_ws RX3 TX3 5, w ∈ wsX3_thrown := by decide +kernel
  have hf24 : Cond.fieldLink RX3 24 (TX3 4).1 (TX3 4).2.1 (TX3 4).2.2.1 ∈ wsX3_thrown := by decide +kernel
  refine lv_aload_n C.x C.b dX3_thrown_0 rfl (lv_at hl 0 rfl) ?_
  refine x_get C hW 0 2 4 (Cn := RX3) (T := TX3) (N := 5) rfl rfl (by decide) hinX3 hf24 rfl dX3_thrown_1 ?_
  exact x_iret C hW rfl rfl rfl dX3_thrown_4

set_option maxHeartbeats 4000000 in
set_option maxRecDepth 100000 in
theorem met_X3_clear (l : Launch) (E : EV) (h0 a1 a2 a3 a4 : Nat) (pt ft ti bt : Nat → Nat) (th : Nat)  : MV l yX3_clear wsX3_clear { frames := 0, cells := 0, slots := 0, locals := 0 } E [.ref h0] [(h0, .inr (2, [.ref a1, .ref a2, .ref a3, .ref a4, .int (nI th)])), (a1, aI E 30 pt), (a2, aI E 10 ft), (a3, aI E 10 ti), (a4, aI E 10 bt)] [(h0, .inr (2, [.ref a1, .ref a2, .ref a3, .ref a4, .int (nI 0)])), (a1, aI E 30 pt), (a2, aI E 10 (zeW ft 10)), (a3, aI E 10 (zeW ti 10)), (a4, aI E 10 (zeW bt 10))] := by
  refine sV (own := RX3) (cc := cX3_clear) (maxL := 2) rfl (by decide) rfl (Nat.le_of_ble_eq_true rfl) ?_
  intro p e s m below meth c C hnm ls hl hW
  have hl : lv_has ls 2 [(0, .ref h0)] := hl
  have hW : WD E _ s [(h0, .inr (2, [.ref a1, .ref a2, .ref a3, .ref a4, .int (nI th)])), (a1, aI E 30 pt), (a2, aI E 10 ft), (a3, aI E 10 ti), (a4, aI E 10 bt)] s.heap [] := hW
  have hinX3 : ∀ w ∈ u_ws RX3 TX3 5, w ∈ wsX3_clear := by decide +kernel
  have hf15 : Cond.fieldLink RX3 15 (TX3 1).1 (TX3 1).2.1 (TX3 1).2.2.1 ∈ wsX3_clear := by decide +kernel
  have hf18 : Cond.fieldLink RX3 18 (TX3 2).1 (TX3 2).2.1 (TX3 2).2.2.1 ∈ wsX3_clear := by decide +kernel
  have hf21 : Cond.fieldLink RX3 21 (TX3 3).1 (TX3 3).2.1 (TX3 3).2.2.1 ∈ wsX3_clear := by decide +kernel
  have hf24 : Cond.fieldLink RX3 24 (TX3 4).1 (TX3 4).2.1 (TX3 4).2.2.1 ∈ wsX3_clear := by decide +kernel
  refine lv_aload_n C.x C.b dX3_clear_0 rfl (lv_at hl 0 rfl) ?_
  refine lv_iconst (v := nI 0) C.x C.b dX3_clear_1 (by decide) ?_
  refine x_put C hW 0 2 4 (Cn := RX3) (T := TX3) (N := 5) (w' := [(h0, .inr (2, [.ref a1, .ref a2, .ref a3, .ref a4, .int (nI 0)])), (a1, aI E 30 pt), (a2, aI E 10 ft), (a3, aI E 10 ti), (a4, aI E 10 bt)]) tyX3 tyX3_ok nmX3 rfl rfl (by decide) hinX3 hf24 rfl (by decide +kernel) (Nat.le_of_ble_eq_true rfl) dX3_clear_2 rfl (fun H locs hW => ?_)
  refine lv_iconst (v := nI 0) C.x C.b dX3_clear_5 (by decide) ?_
  refine lv_istore_n (lv' := [(1, .int (nI 0)), (0, .ref h0)]) C.x C.b dX3_clear_6 rfl hl (by decide) rfl (fun ls hl => ?_)
  have lp_1 : ∀ (n1 i : Nat), i ≤ 10 → 10 + 1 ≤ i + n1 → ∀ (H : Heap) (locs : List Loc) (ls : Array Slot), WD E (va_A [(h0, .inr (2, [.ref a1, .ref a2, .ref a3, .ref a4, .int (nI th)])), (a1, aI E 30 pt), (a2, aI E 10 ft), (a3, aI E 10 ti), (a4, aI E 10 bt)] s.heap.size) s [(h0, .inr (2, [.ref a1, .ref a2, .ref a3, .ref a4, .int (nI 0)])), (a1, aI E 30 pt), (a2, aI E 10 (zeW ft i)), (a3, aI E 10 (zeW ti i)), (a4, aI E 10 (zeW bt i))] H locs → lv_has ls 2 [(1, .int (nI i)), (0, .ref h0)] → W p l e ({ frames := 0, cells := 0, slots := 0, locals := 0 } : Room) s m ([.ref h0] : List Value).toArray below meth c H locs 0 0 (QV E [(h0, .inr (2, [.ref a1, .ref a2, .ref a3, .ref a4, .int (nI th)])), (a1, aI E 30 pt), (a2, aI E 10 ft), (a3, aI E 10 ti), (a4, aI E 10 bt)] [(h0, .inr (2, [.ref a1, .ref a2, .ref a3, .ref a4, .int (nI 0)])), (a1, aI E 30 pt), (a2, aI E 10 (zeW ft 10)), (a3, aI E 10 (zeW ti 10)), (a4, aI E 10 (zeW bt 10))] below ([.ref h0] : List Value).toArray s) (F0 m 7 ls []) := by
    intro n1
    induction n1 with
    | zero => intro i hi hn; exact absurd hn (by omega)
    | succ n1 ih1 =>
      intro i hi hn  H locs ls hW hl
      refine lv_iload_n C.x C.b dX3_clear_7 rfl (lv_at hl 0 rfl) ?_
      refine lv_bipush (v := nI 10) C.x C.b dX3_clear_8 (by decide) ?_
      refine x_icmp_ge C (by omega) (by omega) (tgt := 40) dX3_clear_10 (by decide) (fun c_2 => ?_) (fun c_2 => ?_)
      · obtain rfl : i = 10 := by omega
        exact x_vret C hW rfl dX3_clear_40
      · refine lv_aload_n C.x C.b dX3_clear_13 rfl (lv_at hl 1 rfl) ?_
        refine x_get C hW 0 2 1 (Cn := RX3) (T := TX3) (N := 5) rfl rfl (by decide) hinX3 hf15 rfl dX3_clear_14 ?_
        refine lv_iload_n C.x C.b dX3_clear_17 rfl (lv_at hl 0 rfl) ?_
        refine lv_iconst (v := nI 0) C.x C.b dX3_clear_18 (by decide) ?_
        refine x_ast C hW 2 i 0 rfl rfl rfl (by omega) (by decide) dX3_clear_19 (w' := [(h0, .inr (2, [.ref a1, .ref a2, .ref a3, .ref a4, .int (nI 0)])), (a1, aI E 30 pt), (a2, aI E 10 (upN (zeW ft i) i 0)), (a3, aI E 10 (zeW ti i)), (a4, aI E 10 (zeW bt i))]) rfl (fun H locs hW => ?_)
        refine lv_aload_n C.x C.b dX3_clear_20 rfl (lv_at hl 1 rfl) ?_
        refine x_get C hW 0 2 2 (Cn := RX3) (T := TX3) (N := 5) rfl rfl (by decide) hinX3 hf18 rfl dX3_clear_21 ?_
        refine lv_iload_n C.x C.b dX3_clear_24 rfl (lv_at hl 0 rfl) ?_
        refine lv_iconst (v := nI 0) C.x C.b dX3_clear_25 (by decide) ?_
        refine x_ast C hW 3 i 0 rfl rfl rfl (by omega) (by decide) dX3_clear_26 (w' := [(h0, .inr (2, [.ref a1, .ref a2, .ref a3, .ref a4, .int (nI 0)])), (a1, aI E 30 pt), (a2, aI E 10 (upN (zeW ft i) i 0)), (a3, aI E 10 (upN (zeW ti i) i 0)), (a4, aI E 10 (zeW bt i))]) rfl (fun H locs hW => ?_)
        refine lv_aload_n C.x C.b dX3_clear_27 rfl (lv_at hl 1 rfl) ?_
        refine x_get C hW 0 2 3 (Cn := RX3) (T := TX3) (N := 5) rfl rfl (by decide) hinX3 hf21 rfl dX3_clear_28 ?_
        refine lv_iload_n C.x C.b dX3_clear_31 rfl (lv_at hl 0 rfl) ?_
        refine lv_iconst (v := nI 0) C.x C.b dX3_clear_32 (by decide) ?_
        refine x_ast C hW 4 i 0 rfl rfl rfl (by omega) (by decide) dX3_clear_33 (w' := [(h0, .inr (2, [.ref a1, .ref a2, .ref a3, .ref a4, .int (nI 0)])), (a1, aI E 30 pt), (a2, aI E 10 (upN (zeW ft i) i 0)), (a3, aI E 10 (upN (zeW ti i) i 0)), (a4, aI E 10 (upN (zeW bt i) i 0))]) rfl (fun H locs hW => ?_)
        refine lv_iinc (k := 0) (v := nI (i + 1)) (lv' := [(1, .int (nI (i + 1))), (0, .ref h0)]) C.x C.b dX3_clear_34 hl rfl (z_inc i 1) (by decide) rfl (fun ls hl => ?_)
        refine lv_goto (tgt := 7) C.x C.b dX3_clear_37 (by decide) ?_
        exact ih1 (i + 1) (by omega) (by omega)  _ _ _ (hW.to (by first | rfl | (simp [zeW, c_2]; done) | (rw [if_pos (by omega)]; done) | (rw [if_neg (by omega)]; done) | (exfalso; omega) | (simp only [zeW]; (repeat' split) <;> first | rfl | contradiction | (exfalso; omega)))) (lv_to (lv_sub (l' := [(1, .int (nI (i + 1))), (0, .ref h0)]) hl [0, 1] rfl) (by first | rfl | (simp [zeW, c_2]; done) | (rw [if_pos (by omega)]; done) | (rw [if_neg (by omega)]; done) | (exfalso; omega) | (simp only [zeW]; (repeat' split) <;> first | rfl | contradiction | (exfalso; omega))))
  exact lp_1 (10 + 1) 0 (by omega) (by omega)  _ _ _ (hW.to rfl) (lv_to (lv_sub (l' := [(1, .int (nI 0)), (0, .ref h0)]) hl [0, 1] rfl) rfl)

set_option maxHeartbeats 4000000 in
set_option maxRecDepth 100000 in
theorem met_X3_enter_0 (l : Launch) (E : EV) (h0 a1 a2 a3 a4 : Nat) (pt ft ti bt : Nat → Nat) (th : Nat) (f n : Nat) (hf : f < 10) (hth : th < 30) (hti : ∀ j, ti j ≤ 3) (hn : n ≤ 9) : MV l yX3_enter wsX3_enter { frames := 0, cells := 0, slots := 0, locals := 0 } E [.ref h0, .int (nI f), .int (nI n), .int (nI 0)] [(h0, .inr (2, [.ref a1, .ref a2, .ref a3, .ref a4, .int (nI th)])), (a1, aI E 30 pt), (a2, aI E 10 ft), (a3, aI E 10 ti), (a4, aI E 10 bt)] [(h0, .inr (2, [.ref a1, .ref a2, .ref a3, .ref a4, .int (nI (th + 1))])), (a1, aI E 30 (upN pt th n)), (a2, aI E 10 (if ti f = 0 then upN ft f th else ft)), (a3, aI E 10 (upN ti f (ti f + 1))), (a4, aI E 10 bt)] := by
  refine sV (own := RX3) (cc := cX3_enter) (maxL := 4) rfl (by decide) rfl (Nat.le_of_ble_eq_true rfl) ?_
  intro p e s m below meth c C hnm ls hl hW
  have hl : lv_has ls 4 [(0, .ref h0), (1, .int (nI f)), (2, .int (nI n)), (3, .int (nI 0))] := hl
  have hW : WD E _ s [(h0, .inr (2, [.ref a1, .ref a2, .ref a3, .ref a4, .int (nI th)])), (a1, aI E 30 pt), (a2, aI E 10 ft), (a3, aI E 10 ti), (a4, aI E 10 bt)] s.heap [] := hW
  have hinX3 : ∀ w ∈ u_ws RX3 TX3 5, w ∈ wsX3_enter := by decide +kernel
  have hf9 : Cond.fieldLink RX3 9 (TX3 0).1 (TX3 0).2.1 (TX3 0).2.2.1 ∈ wsX3_enter := by decide +kernel
  have hf15 : Cond.fieldLink RX3 15 (TX3 1).1 (TX3 1).2.1 (TX3 1).2.2.1 ∈ wsX3_enter := by decide +kernel
  have hf18 : Cond.fieldLink RX3 18 (TX3 2).1 (TX3 2).2.1 (TX3 2).2.2.1 ∈ wsX3_enter := by decide +kernel
  have hf24 : Cond.fieldLink RX3 24 (TX3 4).1 (TX3 4).2.1 (TX3 4).2.2.1 ∈ wsX3_enter := by decide +kernel
  refine lv_iload_n C.x C.b dX3_enter_0 rfl (lv_at hl 1 rfl) ?_
  refine x_if_lt C (by omega) (tgt := 22) dX3_enter_1 (by decide) (fun c_1 => ?_) (fun c_1 => ?_)
  · exact absurd c_1 (by omega)
  · refine lv_iload_n C.x C.b dX3_enter_4 rfl (lv_at hl 1 rfl) ?_
    refine lv_bipush (v := nI 10) C.x C.b dX3_enter_5 (by decide) ?_
    refine x_icmp_ge C (by omega) (by omega) (tgt := 22) dX3_enter_7 (by decide) (fun c_2 => ?_) (fun c_2 => ?_)
    · exact absurd c_2 (by omega)
    · refine lv_aload_n C.x C.b dX3_enter_10 rfl (lv_at hl 0 rfl) ?_
      refine x_get C hW 0 2 4 (Cn := RX3) (T := TX3) (N := 5) rfl rfl (by decide) hinX3 hf24 rfl dX3_enter_11 ?_
      refine lv_aload_n C.x C.b dX3_enter_14 rfl (lv_at hl 0 rfl) ?_
      refine x_get C hW 0 2 0 (Cn := RX3) (T := TX3) (N := 5) rfl rfl (by decide) hinX3 hf9 rfl dX3_enter_15 ?_
      refine x_alen C hW 1 0 rfl rfl dX3_enter_18 ?_
      refine x_icmp_lt C (by omega) (by omega) (tgt := 23) dX3_enter_19 (by decide) (fun c_3 => ?_) (fun c_3 => ?_)
      · have h9 := hti f
        refine lv_aload_n C.x C.b dX3_enter_23 rfl (lv_at hl 0 rfl) ?_
        refine x_get C hW 0 2 2 (Cn := RX3) (T := TX3) (N := 5) rfl rfl (by decide) hinX3 hf18 rfl dX3_enter_24 ?_
        refine lv_iload_n C.x C.b dX3_enter_27 rfl (lv_at hl 1 rfl) ?_
        refine x_ald C hW 3 f rfl rfl (by omega) (by decide) dX3_enter_28 ?_
        refine x_if_ne C (by omega) (tgt := 42) dX3_enter_29 (by decide) (fun c_4 => ?_) (fun c_4 => ?_)
        · refine lv_aload_n C.x C.b dX3_enter_42 rfl (lv_at hl 0 rfl) ?_
          refine x_get C hW 0 2 0 (Cn := RX3) (T := TX3) (N := 5) rfl rfl (by decide) hinX3 hf9 rfl dX3_enter_43 ?_
          refine lv_aload_n C.x C.b dX3_enter_46 rfl (lv_at hl 0 rfl) ?_
          refine x_get C hW 0 2 4 (Cn := RX3) (T := TX3) (N := 5) rfl rfl (by decide) hinX3 hf24 rfl dX3_enter_47 ?_
          refine lv_iload_n C.x C.b dX3_enter_50 rfl (lv_at hl 2 rfl) ?_
          refine x_ast C hW 1 th n rfl rfl rfl (by omega) (by decide) dX3_enter_51 (w' := [(h0, .inr (2, [.ref a1, .ref a2, .ref a3, .ref a4, .int (nI th)])), (a1, aI E 30 (upN pt th n)), (a2, aI E 10 ft), (a3, aI E 10 ti), (a4, aI E 10 bt)]) rfl (fun H locs hW => ?_)
          refine lv_aload_n C.x C.b dX3_enter_52 rfl (lv_at hl 0 rfl) ?_
          refine lv_dup C.x C.b dX3_enter_53 rfl ?_
          refine x_get C hW 0 2 4 (Cn := RX3) (T := TX3) (N := 5) rfl rfl (by decide) hinX3 hf24 rfl dX3_enter_54 ?_
          refine lv_iconst (v := nI 1) C.x C.b dX3_enter_57 (by decide) ?_
          refine x_iadd C dX3_enter_58 ?_
          refine x_put C hW 0 2 4 (Cn := RX3) (T := TX3) (N := 5) (w' := [(h0, .inr (2, [.ref a1, .ref a2, .ref a3, .ref a4, .int (nI (th + 1))])), (a1, aI E 30 (upN pt th n)), (a2, aI E 10 ft), (a3, aI E 10 ti), (a4, aI E 10 bt)]) tyX3 tyX3_ok nmX3 rfl rfl (by decide) hinX3 hf24 rfl (by decide +kernel) (Nat.le_of_ble_eq_true rfl) dX3_enter_59 rfl (fun H locs hW => ?_)
          refine lv_aload_n C.x C.b dX3_enter_62 rfl (lv_at hl 0 rfl) ?_
          refine x_get C hW 0 2 2 (Cn := RX3) (T := TX3) (N := 5) rfl rfl (by decide) hinX3 hf18 rfl dX3_enter_63 ?_
          refine lv_iload_n C.x C.b dX3_enter_66 rfl (lv_at hl 1 rfl) ?_
          refine lv_dup2_11 C.x C.b dX3_enter_67 rfl rfl ?_
          refine x_ald C hW 3 f rfl rfl (by omega) (by decide) dX3_enter_68 ?_
          refine lv_iconst (v := nI 1) C.x C.b dX3_enter_69 (by decide) ?_
          refine x_iadd C dX3_enter_70 ?_
          refine x_ast C hW 3 f ((ti f) + 1) rfl rfl rfl (by omega) (by decide) dX3_enter_71 (w' := [(h0, .inr (2, [.ref a1, .ref a2, .ref a3, .ref a4, .int (nI (th + 1))])), (a1, aI E 30 (upN pt th n)), (a2, aI E 10 ft), (a3, aI E 10 (upN ti f ((ti f) + 1))), (a4, aI E 10 bt)]) rfl (fun H locs hW => ?_)
          refine lv_iload_n C.x C.b dX3_enter_72 rfl (lv_at hl 3 rfl) ?_
          refine x_if_eq C (by omega) (tgt := 101) dX3_enter_73 (by decide) (fun c_5 => ?_) (fun c_5 => ?_)
          · exact x_vret C hW (by first | rfl | (simp [c_1, c_2, c_3, c_4, c_5]; done) | (rw [if_pos (by omega)]; done) | (rw [if_neg (by omega)]; done) | (exfalso; omega) | ((repeat' split) <;> first | rfl | contradiction | (exfalso; omega))) dX3_enter_101
          · exact absurd (by decide) c_5
        · refine lv_aload_n C.x C.b dX3_enter_32 rfl (lv_at hl 0 rfl) ?_
          refine x_get C hW 0 2 1 (Cn := RX3) (T := TX3) (N := 5) rfl rfl (by decide) hinX3 hf15 rfl dX3_enter_33 ?_
          refine lv_iload_n C.x C.b dX3_enter_36 rfl (lv_at hl 1 rfl) ?_
          refine lv_aload_n C.x C.b dX3_enter_37 rfl (lv_at hl 0 rfl) ?_
          refine x_get C hW 0 2 4 (Cn := RX3) (T := TX3) (N := 5) rfl rfl (by decide) hinX3 hf24 rfl dX3_enter_38 ?_
          refine x_ast C hW 2 f th rfl rfl rfl (by omega) (by decide) dX3_enter_41 (w' := [(h0, .inr (2, [.ref a1, .ref a2, .ref a3, .ref a4, .int (nI th)])), (a1, aI E 30 pt), (a2, aI E 10 (upN ft f th)), (a3, aI E 10 ti), (a4, aI E 10 bt)]) rfl (fun H locs hW => ?_)
          refine lv_aload_n C.x C.b dX3_enter_42 rfl (lv_at hl 0 rfl) ?_
          refine x_get C hW 0 2 0 (Cn := RX3) (T := TX3) (N := 5) rfl rfl (by decide) hinX3 hf9 rfl dX3_enter_43 ?_
          refine lv_aload_n C.x C.b dX3_enter_46 rfl (lv_at hl 0 rfl) ?_
          refine x_get C hW 0 2 4 (Cn := RX3) (T := TX3) (N := 5) rfl rfl (by decide) hinX3 hf24 rfl dX3_enter_47 ?_
          refine lv_iload_n C.x C.b dX3_enter_50 rfl (lv_at hl 2 rfl) ?_
          refine x_ast C hW 1 th n rfl rfl rfl (by omega) (by decide) dX3_enter_51 (w' := [(h0, .inr (2, [.ref a1, .ref a2, .ref a3, .ref a4, .int (nI th)])), (a1, aI E 30 (upN pt th n)), (a2, aI E 10 (upN ft f th)), (a3, aI E 10 ti), (a4, aI E 10 bt)]) rfl (fun H locs hW => ?_)
          refine lv_aload_n C.x C.b dX3_enter_52 rfl (lv_at hl 0 rfl) ?_
          refine lv_dup C.x C.b dX3_enter_53 rfl ?_
          refine x_get C hW 0 2 4 (Cn := RX3) (T := TX3) (N := 5) rfl rfl (by decide) hinX3 hf24 rfl dX3_enter_54 ?_
          refine lv_iconst (v := nI 1) C.x C.b dX3_enter_57 (by decide) ?_
          refine x_iadd C dX3_enter_58 ?_
          refine x_put C hW 0 2 4 (Cn := RX3) (T := TX3) (N := 5) (w' := [(h0, .inr (2, [.ref a1, .ref a2, .ref a3, .ref a4, .int (nI (th + 1))])), (a1, aI E 30 (upN pt th n)), (a2, aI E 10 (upN ft f th)), (a3, aI E 10 ti), (a4, aI E 10 bt)]) tyX3 tyX3_ok nmX3 rfl rfl (by decide) hinX3 hf24 rfl (by decide +kernel) (Nat.le_of_ble_eq_true rfl) dX3_enter_59 rfl (fun H locs hW => ?_)
          refine lv_aload_n C.x C.b dX3_enter_62 rfl (lv_at hl 0 rfl) ?_
          refine x_get C hW 0 2 2 (Cn := RX3) (T := TX3) (N := 5) rfl rfl (by decide) hinX3 hf18 rfl dX3_enter_63 ?_
          refine lv_iload_n C.x C.b dX3_enter_66 rfl (lv_at hl 1 rfl) ?_
          refine lv_dup2_11 C.x C.b dX3_enter_67 rfl rfl ?_
          refine x_ald C hW 3 f rfl rfl (by omega) (by decide) dX3_enter_68 ?_
          refine lv_iconst (v := nI 1) C.x C.b dX3_enter_69 (by decide) ?_
          refine x_iadd C dX3_enter_70 ?_
          refine x_ast C hW 3 f ((ti f) + 1) rfl rfl rfl (by omega) (by decide) dX3_enter_71 (w' := [(h0, .inr (2, [.ref a1, .ref a2, .ref a3, .ref a4, .int (nI (th + 1))])), (a1, aI E 30 (upN pt th n)), (a2, aI E 10 (upN ft f th)), (a3, aI E 10 (upN ti f ((ti f) + 1))), (a4, aI E 10 bt)]) rfl (fun H locs hW => ?_)
          refine lv_iload_n C.x C.b dX3_enter_72 rfl (lv_at hl 3 rfl) ?_
          refine x_if_eq C (by omega) (tgt := 101) dX3_enter_73 (by decide) (fun c_6 => ?_) (fun c_6 => ?_)
          · exact x_vret C hW (by first | rfl | (simp [c_1, c_2, c_3, c_4, c_6]; done) | (rw [if_pos (by omega)]; done) | (rw [if_neg (by omega)]; done) | (exfalso; omega) | ((repeat' split) <;> first | rfl | contradiction | (exfalso; omega))) dX3_enter_101
          · exact absurd (by decide) c_6
      · exact absurd hth c_3

set_option maxHeartbeats 4000000 in
set_option maxRecDepth 100000 in
theorem met_X3_enter_1 (l : Launch) (E : EV) (h0 a1 a2 a3 a4 : Nat) (pt ft ti bt : Nat → Nat) (th : Nat) (f n : Nat) (hf : f < 10) (hth : th < 30) (hti : ∀ j, ti j ≤ 3) (hn : n ≤ 9) : MV l yX3_enter wsX3_enter { frames := 0, cells := 0, slots := 0, locals := 0 } E [.ref h0, .int (nI f), .int (nI n), .int (nI 1)] [(h0, .inr (2, [.ref a1, .ref a2, .ref a3, .ref a4, .int (nI th)])), (a1, aI E 30 pt), (a2, aI E 10 ft), (a3, aI E 10 ti), (a4, aI E 10 bt)] [(h0, .inr (2, [.ref a1, .ref a2, .ref a3, .ref a4, .int (nI (th + 1))])), (a1, aI E 30 (upN pt th n)), (a2, aI E 10 (if ti f = 0 then upN ft f th else ft)), (a3, aI E 10 (upN ti f (ti f + 1))), (a4, aI E 10 (if 0 < n then upN bt f (if ti f + 1 = 1 then 2 else 1) else bt))] := by
  refine sV (own := RX3) (cc := cX3_enter) (maxL := 4) rfl (by decide) rfl (Nat.le_of_ble_eq_true rfl) ?_
  intro p e s m below meth c C hnm ls hl hW
  have hl : lv_has ls 4 [(0, .ref h0), (1, .int (nI f)), (2, .int (nI n)), (3, .int (nI 1))] := hl
  have hW : WD E _ s [(h0, .inr (2, [.ref a1, .ref a2, .ref a3, .ref a4, .int (nI th)])), (a1, aI E 30 pt), (a2, aI E 10 ft), (a3, aI E 10 ti), (a4, aI E 10 bt)] s.heap [] := hW
  have hinX3 : ∀ w ∈ u_ws RX3 TX3 5, w ∈ wsX3_enter := by decide +kernel
  have hf9 : Cond.fieldLink RX3 9 (TX3 0).1 (TX3 0).2.1 (TX3 0).2.2.1 ∈ wsX3_enter := by decide +kernel
  have hf15 : Cond.fieldLink RX3 15 (TX3 1).1 (TX3 1).2.1 (TX3 1).2.2.1 ∈ wsX3_enter := by decide +kernel
  have hf18 : Cond.fieldLink RX3 18 (TX3 2).1 (TX3 2).2.1 (TX3 2).2.2.1 ∈ wsX3_enter := by decide +kernel
  have hf21 : Cond.fieldLink RX3 21 (TX3 3).1 (TX3 3).2.1 (TX3 3).2.2.1 ∈ wsX3_enter := by decide +kernel
  have hf24 : Cond.fieldLink RX3 24 (TX3 4).1 (TX3 4).2.1 (TX3 4).2.2.1 ∈ wsX3_enter := by decide +kernel
  refine lv_iload_n C.x C.b dX3_enter_0 rfl (lv_at hl 1 rfl) ?_
  refine x_if_lt C (by omega) (tgt := 22) dX3_enter_1 (by decide) (fun c_1 => ?_) (fun c_1 => ?_)
  · exact absurd c_1 (by omega)
  · refine lv_iload_n C.x C.b dX3_enter_4 rfl (lv_at hl 1 rfl) ?_
    refine lv_bipush (v := nI 10) C.x C.b dX3_enter_5 (by decide) ?_
    refine x_icmp_ge C (by omega) (by omega) (tgt := 22) dX3_enter_7 (by decide) (fun c_2 => ?_) (fun c_2 => ?_)
    · exact absurd c_2 (by omega)
    · refine lv_aload_n C.x C.b dX3_enter_10 rfl (lv_at hl 0 rfl) ?_
      refine x_get C hW 0 2 4 (Cn := RX3) (T := TX3) (N := 5) rfl rfl (by decide) hinX3 hf24 rfl dX3_enter_11 ?_
      refine lv_aload_n C.x C.b dX3_enter_14 rfl (lv_at hl 0 rfl) ?_
      refine x_get C hW 0 2 0 (Cn := RX3) (T := TX3) (N := 5) rfl rfl (by decide) hinX3 hf9 rfl dX3_enter_15 ?_
      refine x_alen C hW 1 0 rfl rfl dX3_enter_18 ?_
      refine x_icmp_lt C (by omega) (by omega) (tgt := 23) dX3_enter_19 (by decide) (fun c_3 => ?_) (fun c_3 => ?_)
      · have h9 := hti f
        refine lv_aload_n C.x C.b dX3_enter_23 rfl (lv_at hl 0 rfl) ?_
        refine x_get C hW 0 2 2 (Cn := RX3) (T := TX3) (N := 5) rfl rfl (by decide) hinX3 hf18 rfl dX3_enter_24 ?_
        refine lv_iload_n C.x C.b dX3_enter_27 rfl (lv_at hl 1 rfl) ?_
        refine x_ald C hW 3 f rfl rfl (by omega) (by decide) dX3_enter_28 ?_
        refine x_if_ne C (by omega) (tgt := 42) dX3_enter_29 (by decide) (fun c_4 => ?_) (fun c_4 => ?_)
        · refine lv_aload_n C.x C.b dX3_enter_42 rfl (lv_at hl 0 rfl) ?_
          refine x_get C hW 0 2 0 (Cn := RX3) (T := TX3) (N := 5) rfl rfl (by decide) hinX3 hf9 rfl dX3_enter_43 ?_
          refine lv_aload_n C.x C.b dX3_enter_46 rfl (lv_at hl 0 rfl) ?_
          refine x_get C hW 0 2 4 (Cn := RX3) (T := TX3) (N := 5) rfl rfl (by decide) hinX3 hf24 rfl dX3_enter_47 ?_
          refine lv_iload_n C.x C.b dX3_enter_50 rfl (lv_at hl 2 rfl) ?_
          refine x_ast C hW 1 th n rfl rfl rfl (by omega) (by decide) dX3_enter_51 (w' := [(h0, .inr (2, [.ref a1, .ref a2, .ref a3, .ref a4, .int (nI th)])), (a1, aI E 30 (upN pt th n)), (a2, aI E 10 ft), (a3, aI E 10 ti), (a4, aI E 10 bt)]) rfl (fun H locs hW => ?_)
          refine lv_aload_n C.x C.b dX3_enter_52 rfl (lv_at hl 0 rfl) ?_
          refine lv_dup C.x C.b dX3_enter_53 rfl ?_
          refine x_get C hW 0 2 4 (Cn := RX3) (T := TX3) (N := 5) rfl rfl (by decide) hinX3 hf24 rfl dX3_enter_54 ?_
          refine lv_iconst (v := nI 1) C.x C.b dX3_enter_57 (by decide) ?_
          refine x_iadd C dX3_enter_58 ?_
          refine x_put C hW 0 2 4 (Cn := RX3) (T := TX3) (N := 5) (w' := [(h0, .inr (2, [.ref a1, .ref a2, .ref a3, .ref a4, .int (nI (th + 1))])), (a1, aI E 30 (upN pt th n)), (a2, aI E 10 ft), (a3, aI E 10 ti), (a4, aI E 10 bt)]) tyX3 tyX3_ok nmX3 rfl rfl (by decide) hinX3 hf24 rfl (by decide +kernel) (Nat.le_of_ble_eq_true rfl) dX3_enter_59 rfl (fun H locs hW => ?_)
          refine lv_aload_n C.x C.b dX3_enter_62 rfl (lv_at hl 0 rfl) ?_
          refine x_get C hW 0 2 2 (Cn := RX3) (T := TX3) (N := 5) rfl rfl (by decide) hinX3 hf18 rfl dX3_enter_63 ?_
          refine lv_iload_n C.x C.b dX3_enter_66 rfl (lv_at hl 1 rfl) ?_
          refine lv_dup2_11 C.x C.b dX3_enter_67 rfl rfl ?_
          refine x_ald C hW 3 f rfl rfl (by omega) (by decide) dX3_enter_68 ?_
          refine lv_iconst (v := nI 1) C.x C.b dX3_enter_69 (by decide) ?_
          refine x_iadd C dX3_enter_70 ?_
          refine x_ast C hW 3 f ((ti f) + 1) rfl rfl rfl (by omega) (by decide) dX3_enter_71 (w' := [(h0, .inr (2, [.ref a1, .ref a2, .ref a3, .ref a4, .int (nI (th + 1))])), (a1, aI E 30 (upN pt th n)), (a2, aI E 10 ft), (a3, aI E 10 (upN ti f ((ti f) + 1))), (a4, aI E 10 bt)]) rfl (fun H locs hW => ?_)
          refine lv_iload_n C.x C.b dX3_enter_72 rfl (lv_at hl 3 rfl) ?_
          refine x_if_eq C (by omega) (tgt := 101) dX3_enter_73 (by decide) (fun c_5 => ?_) (fun c_5 => ?_)
          · exact absurd c_5 (by decide)
          · refine lv_iload_n C.x C.b dX3_enter_76 rfl (lv_at hl 2 rfl) ?_
            refine x_if_le C (by omega) (tgt := 101) dX3_enter_77 (by decide) (fun c_6 => ?_) (fun c_6 => ?_)
            · exact x_vret C hW (by first | rfl | (simp [c_1, c_2, c_3, c_4, c_5, c_6]; done) | (rw [if_pos (by omega)]; done) | (rw [if_neg (by omega)]; done) | (exfalso; omega) | ((repeat' split) <;> first | rfl | contradiction | (exfalso; omega))) dX3_enter_101
            · refine lv_aload_n C.x C.b dX3_enter_80 rfl (lv_at hl 0 rfl) ?_
              refine x_get C hW 0 2 3 (Cn := RX3) (T := TX3) (N := 5) rfl rfl (by decide) hinX3 hf21 rfl dX3_enter_81 ?_
              refine lv_iload_n C.x C.b dX3_enter_84 rfl (lv_at hl 1 rfl) ?_
              refine lv_aload_n C.x C.b dX3_enter_85 rfl (lv_at hl 0 rfl) ?_
              refine x_get C hW 0 2 2 (Cn := RX3) (T := TX3) (N := 5) rfl rfl (by decide) hinX3 hf18 rfl dX3_enter_86 ?_
              refine lv_iload_n C.x C.b dX3_enter_89 rfl (lv_at hl 1 rfl) ?_
              refine x_ald C hW 3 f rfl rfl (by omega) (by decide) dX3_enter_90 ?_
              refine lv_iconst (v := nI 1) C.x C.b dX3_enter_91 (by decide) ?_
              refine x_icmp_ne C (by rw [upN_s]; omega) (by omega) (tgt := 99) dX3_enter_92 (by decide) (fun c_7 => ?_) (fun c_7 => ?_)
              · have c9 : ¬ ti f + 1 = 1 := by have h8 := ‹upN ti f (ti f + 1) f ≠ 1›; rw [upN_s] at h8; exact h8
                refine lv_iconst (v := nI 1) C.x C.b dX3_enter_99 (by decide) ?_
                refine x_ast C hW 4 f 1 rfl rfl rfl (by omega) (by decide) dX3_enter_100 (w' := [(h0, .inr (2, [.ref a1, .ref a2, .ref a3, .ref a4, .int (nI (th + 1))])), (a1, aI E 30 (upN pt th n)), (a2, aI E 10 ft), (a3, aI E 10 (upN ti f ((ti f) + 1))), (a4, aI E 10 (upN bt f 1))]) rfl (fun H locs hW => ?_)
                exact x_vret C hW (by first | rfl | (simp [c_1, c_2, c_3, c_4, c_5, c_6, c_7]; done) | (rw [if_pos (by omega)]; done) | (rw [if_neg (by omega)]; done) | (exfalso; omega) | ((repeat' split) <;> first | rfl | contradiction | (exfalso; omega))) dX3_enter_101
              · have c9 : ti f + 1 = 1 := by have h8 := ‹upN ti f (ti f + 1) f = 1›; rw [upN_s] at h8; exact h8
                refine lv_iconst (v := nI 2) C.x C.b dX3_enter_95 (by decide) ?_
                refine lv_goto (tgt := 100) C.x C.b dX3_enter_96 (by decide) ?_
                refine x_ast C hW 4 f 2 rfl rfl rfl (by omega) (by decide) dX3_enter_100 (w' := [(h0, .inr (2, [.ref a1, .ref a2, .ref a3, .ref a4, .int (nI (th + 1))])), (a1, aI E 30 (upN pt th n)), (a2, aI E 10 ft), (a3, aI E 10 (upN ti f ((ti f) + 1))), (a4, aI E 10 (upN bt f 2))]) rfl (fun H locs hW => ?_)
                exact x_vret C hW (by first | rfl | (simp [c_1, c_2, c_3, c_4, c_5, c_6, c_7]; done) | (rw [if_pos (by omega)]; done) | (rw [if_neg (by omega)]; done) | (exfalso; omega) | ((repeat' split) <;> first | rfl | contradiction | (exfalso; omega))) dX3_enter_101
        · refine lv_aload_n C.x C.b dX3_enter_32 rfl (lv_at hl 0 rfl) ?_
          refine x_get C hW 0 2 1 (Cn := RX3) (T := TX3) (N := 5) rfl rfl (by decide) hinX3 hf15 rfl dX3_enter_33 ?_
          refine lv_iload_n C.x C.b dX3_enter_36 rfl (lv_at hl 1 rfl) ?_
          refine lv_aload_n C.x C.b dX3_enter_37 rfl (lv_at hl 0 rfl) ?_
          refine x_get C hW 0 2 4 (Cn := RX3) (T := TX3) (N := 5) rfl rfl (by decide) hinX3 hf24 rfl dX3_enter_38 ?_
          refine x_ast C hW 2 f th rfl rfl rfl (by omega) (by decide) dX3_enter_41 (w' := [(h0, .inr (2, [.ref a1, .ref a2, .ref a3, .ref a4, .int (nI th)])), (a1, aI E 30 pt), (a2, aI E 10 (upN ft f th)), (a3, aI E 10 ti), (a4, aI E 10 bt)]) rfl (fun H locs hW => ?_)
          refine lv_aload_n C.x C.b dX3_enter_42 rfl (lv_at hl 0 rfl) ?_
          refine x_get C hW 0 2 0 (Cn := RX3) (T := TX3) (N := 5) rfl rfl (by decide) hinX3 hf9 rfl dX3_enter_43 ?_
          refine lv_aload_n C.x C.b dX3_enter_46 rfl (lv_at hl 0 rfl) ?_
          refine x_get C hW 0 2 4 (Cn := RX3) (T := TX3) (N := 5) rfl rfl (by decide) hinX3 hf24 rfl dX3_enter_47 ?_
          refine lv_iload_n C.x C.b dX3_enter_50 rfl (lv_at hl 2 rfl) ?_
          refine x_ast C hW 1 th n rfl rfl rfl (by omega) (by decide) dX3_enter_51 (w' := [(h0, .inr (2, [.ref a1, .ref a2, .ref a3, .ref a4, .int (nI th)])), (a1, aI E 30 (upN pt th n)), (a2, aI E 10 (upN ft f th)), (a3, aI E 10 ti), (a4, aI E 10 bt)]) rfl (fun H locs hW => ?_)
          refine lv_aload_n C.x C.b dX3_enter_52 rfl (lv_at hl 0 rfl) ?_
          refine lv_dup C.x C.b dX3_enter_53 rfl ?_
          refine x_get C hW 0 2 4 (Cn := RX3) (T := TX3) (N := 5) rfl rfl (by decide) hinX3 hf24 rfl dX3_enter_54 ?_
          refine lv_iconst (v := nI 1) C.x C.b dX3_enter_57 (by decide) ?_
          refine x_iadd C dX3_enter_58 ?_
          refine x_put C hW 0 2 4 (Cn := RX3) (T := TX3) (N := 5) (w' := [(h0, .inr (2, [.ref a1, .ref a2, .ref a3, .ref a4, .int (nI (th + 1))])), (a1, aI E 30 (upN pt th n)), (a2, aI E 10 (upN ft f th)), (a3, aI E 10 ti), (a4, aI E 10 bt)]) tyX3 tyX3_ok nmX3 rfl rfl (by decide) hinX3 hf24 rfl (by decide +kernel) (Nat.le_of_ble_eq_true rfl) dX3_enter_59 rfl (fun H locs hW => ?_)
          refine lv_aload_n C.x C.b dX3_enter_62 rfl (lv_at hl 0 rfl) ?_
          refine x_get C hW 0 2 2 (Cn := RX3) (T := TX3) (N := 5) rfl rfl (by decide) hinX3 hf18 rfl dX3_enter_63 ?_
          refine lv_iload_n C.x C.b dX3_enter_66 rfl (lv_at hl 1 rfl) ?_
          refine lv_dup2_11 C.x C.b dX3_enter_67 rfl rfl ?_
          refine x_ald C hW 3 f rfl rfl (by omega) (by decide) dX3_enter_68 ?_
          refine lv_iconst (v := nI 1) C.x C.b dX3_enter_69 (by decide) ?_
          refine x_iadd C dX3_enter_70 ?_
          refine x_ast C hW 3 f ((ti f) + 1) rfl rfl rfl (by omega) (by decide) dX3_enter_71 (w' := [(h0, .inr (2, [.ref a1, .ref a2, .ref a3, .ref a4, .int (nI (th + 1))])), (a1, aI E 30 (upN pt th n)), (a2, aI E 10 (upN ft f th)), (a3, aI E 10 (upN ti f ((ti f) + 1))), (a4, aI E 10 bt)]) rfl (fun H locs hW => ?_)
          refine lv_iload_n C.x C.b dX3_enter_72 rfl (lv_at hl 3 rfl) ?_
          refine x_if_eq C (by omega) (tgt := 101) dX3_enter_73 (by decide) (fun c_8 => ?_) (fun c_8 => ?_)
          · exact absurd c_8 (by decide)
          · refine lv_iload_n C.x C.b dX3_enter_76 rfl (lv_at hl 2 rfl) ?_
            refine x_if_le C (by omega) (tgt := 101) dX3_enter_77 (by decide) (fun c_9 => ?_) (fun c_9 => ?_)
            · exact x_vret C hW (by first | rfl | (simp [c_1, c_2, c_3, c_4, c_8, c_9]; done) | (rw [if_pos (by omega)]; done) | (rw [if_neg (by omega)]; done) | (exfalso; omega) | ((repeat' split) <;> first | rfl | contradiction | (exfalso; omega))) dX3_enter_101
            · refine lv_aload_n C.x C.b dX3_enter_80 rfl (lv_at hl 0 rfl) ?_
              refine x_get C hW 0 2 3 (Cn := RX3) (T := TX3) (N := 5) rfl rfl (by decide) hinX3 hf21 rfl dX3_enter_81 ?_
              refine lv_iload_n C.x C.b dX3_enter_84 rfl (lv_at hl 1 rfl) ?_
              refine lv_aload_n C.x C.b dX3_enter_85 rfl (lv_at hl 0 rfl) ?_
              refine x_get C hW 0 2 2 (Cn := RX3) (T := TX3) (N := 5) rfl rfl (by decide) hinX3 hf18 rfl dX3_enter_86 ?_
              refine lv_iload_n C.x C.b dX3_enter_89 rfl (lv_at hl 1 rfl) ?_
              refine x_ald C hW 3 f rfl rfl (by omega) (by decide) dX3_enter_90 ?_
              refine lv_iconst (v := nI 1) C.x C.b dX3_enter_91 (by decide) ?_
              refine x_icmp_ne C (by rw [upN_s]; omega) (by omega) (tgt := 99) dX3_enter_92 (by decide) (fun c_10 => ?_) (fun c_10 => ?_)
              · have c9 : ¬ ti f + 1 = 1 := by have h8 := ‹upN ti f (ti f + 1) f ≠ 1›; rw [upN_s] at h8; exact h8
                refine lv_iconst (v := nI 1) C.x C.b dX3_enter_99 (by decide) ?_
                refine x_ast C hW 4 f 1 rfl rfl rfl (by omega) (by decide) dX3_enter_100 (w' := [(h0, .inr (2, [.ref a1, .ref a2, .ref a3, .ref a4, .int (nI (th + 1))])), (a1, aI E 30 (upN pt th n)), (a2, aI E 10 (upN ft f th)), (a3, aI E 10 (upN ti f ((ti f) + 1))), (a4, aI E 10 (upN bt f 1))]) rfl (fun H locs hW => ?_)
                exact x_vret C hW (by first | rfl | (simp [c_1, c_2, c_3, c_4, c_8, c_9, c_10]; done) | (rw [if_pos (by omega)]; done) | (rw [if_neg (by omega)]; done) | (exfalso; omega) | ((repeat' split) <;> first | rfl | contradiction | (exfalso; omega))) dX3_enter_101
              · have c9 : ti f + 1 = 1 := by have h8 := ‹upN ti f (ti f + 1) f = 1›; rw [upN_s] at h8; exact h8
                refine lv_iconst (v := nI 2) C.x C.b dX3_enter_95 (by decide) ?_
                refine lv_goto (tgt := 100) C.x C.b dX3_enter_96 (by decide) ?_
                refine x_ast C hW 4 f 2 rfl rfl rfl (by omega) (by decide) dX3_enter_100 (w' := [(h0, .inr (2, [.ref a1, .ref a2, .ref a3, .ref a4, .int (nI (th + 1))])), (a1, aI E 30 (upN pt th n)), (a2, aI E 10 (upN ft f th)), (a3, aI E 10 (upN ti f ((ti f) + 1))), (a4, aI E 10 (upN bt f 2))]) rfl (fun H locs hW => ?_)
                exact x_vret C hW (by first | rfl | (simp [c_1, c_2, c_3, c_4, c_8, c_9, c_10]; done) | (rw [if_pos (by omega)]; done) | (rw [if_neg (by omega)]; done) | (exfalso; omega) | ((repeat' split) <;> first | rfl | contradiction | (exfalso; omega))) dX3_enter_101
      · exact absurd hth c_3

set_option maxHeartbeats 4000000 in
set_option maxRecDepth 100000 in
theorem met_X3_points (l : Launch) (E : EV) (h0 a1 a2 a3 a4 : Nat) (pt ft ti bt : Nat → Nat) (th : Nat) (f : Nat) (hf : f < 10) (ht : th ≤ 30) (hft : ∀ j, ft j ≤ 30) (hti : ∀ j, ti j ≤ 3) (hbt : ∀ j, bt j ≤ 2) : MI l yX3_points wsX3_points { frames := 1, cells := 0, slots := 0, locals := 21 } E [.ref h0, .int (nI f)] [(h0, .inr (2, [.ref a1, .ref a2, .ref a3, .ref a4, .int (nI th)])), (a1, aI E 30 pt), (a2, aI E 10 ft), (a3, aI E 10 ti), (a4, aI E 10 bt)] (nI (poN pt ft ti bt th f)) [(h0, .inr (2, [.ref a1, .ref a2, .ref a3, .ref a4, .int (nI th)])), (a1, aI E 30 pt), (a2, aI E 10 ft), (a3, aI E 10 ti), (a4, aI E 10 bt)] := by
  refine sI (own := RX3) (cc := cX3_points) (maxL := 5) (ret := (some .int)) rfl (by decide) rfl (Nat.le_of_ble_eq_true rfl) ?_
  intro p e s m below meth c C hnm ls hl hW
  have hl : lv_has ls 5 [(0, .ref h0), (1, .int (nI f))] := hl
  have hW : WD E _ s [(h0, .inr (2, [.ref a1, .ref a2, .ref a3, .ref a4, .int (nI th)])), (a1, aI E 30 pt), (a2, aI E 10 ft), (a3, aI E 10 ti), (a4, aI E 10 bt)] s.heap [] := hW
  have hinX3 : ∀ w ∈ u_ws RX3 TX3 5, w ∈ wsX3_points := by decide +kernel
  have hf9 : Cond.fieldLink RX3 9 (TX3 0).1 (TX3 0).2.1 (TX3 0).2.2.1 ∈ wsX3_points := by decide +kernel
  have hf15 : Cond.fieldLink RX3 15 (TX3 1).1 (TX3 1).2.1 (TX3 1).2.2.1 ∈ wsX3_points := by decide +kernel
  have hf18 : Cond.fieldLink RX3 18 (TX3 2).1 (TX3 2).2.1 (TX3 2).2.2.1 ∈ wsX3_points := by decide +kernel
  have hf21 : Cond.fieldLink RX3 21 (TX3 3).1 (TX3 3).2.1 (TX3 3).2.2.1 ∈ wsX3_points := by decide +kernel
  have hf24 : Cond.fieldLink RX3 24 (TX3 4).1 (TX3 4).2.1 (TX3 4).2.2.1 ∈ wsX3_points := by decide +kernel
  have f1 := hft f
  have f2 := hti f
  have f3 := hbt f
  refine lv_aload_n C.x C.b dX3_points_0 rfl (lv_at hl 0 rfl) ?_
  refine x_get C hW 0 2 4 (Cn := RX3) (T := TX3) (N := 5) rfl rfl (by decide) hinX3 hf24 rfl dX3_points_1 ?_
  refine lv_aload_n C.x C.b dX3_points_4 rfl (lv_at hl 0 rfl) ?_
  refine x_get C hW 0 2 1 (Cn := RX3) (T := TX3) (N := 5) rfl rfl (by decide) hinX3 hf15 rfl dX3_points_5 ?_
  refine lv_iload_n C.x C.b dX3_points_8 rfl (lv_at hl 1 rfl) ?_
  refine x_ald C hW 2 f rfl rfl (by omega) (by decide) dX3_points_9 ?_
  refine lv_aload_n C.x C.b dX3_points_10 rfl (lv_at hl 0 rfl) ?_
  refine x_get C hW 0 2 2 (Cn := RX3) (T := TX3) (N := 5) rfl rfl (by decide) hinX3 hf18 rfl dX3_points_11 ?_
  refine lv_iload_n C.x C.b dX3_points_14 rfl (lv_at hl 1 rfl) ?_
  refine x_ald C hW 3 f rfl rfl (by omega) (by decide) dX3_points_15 ?_
  refine x_iadd C dX3_points_16 ?_
  refine lv_aload_n C.x C.b dX3_points_17 rfl (lv_at hl 0 rfl) ?_
  refine x_get C hW 0 2 3 (Cn := RX3) (T := TX3) (N := 5) rfl rfl (by decide) hinX3 hf21 rfl dX3_points_18 ?_
  refine lv_iload_n C.x C.b dX3_points_21 rfl (lv_at hl 1 rfl) ?_
  refine x_ald C hW 4 f rfl rfl (by omega) (by decide) dX3_points_22 ?_
  refine x_iadd C dX3_points_23 ?_
  refine va_mmin C.x C.b (C.2.2.1.trans hl.1.symm) C.ow (C.ts (.methodLink RX3 28 Lib.Math.min.name) (by decide +kernel)) (C.ts (.static Lib.Math.min.name) (by decide +kernel)) (C.ts (.initialized "java/lang/Math") (by decide +kernel)) (C.ts (.code Lib.Math.min.name Lib.Math.min.code 2 (some .int)) (by decide +kernel)) (Nat.le_of_ble_eq_true rfl) (Nat.le_of_ble_eq_true rfl) (Nat.zero_le _) (Nat.zero_le _) dX3_points_24 ?_
  refine x_toi (y := nI (min th (((ft f) + (ti f)) + (bt f)))) (z_min (by omega) (by omega)) ?_
  refine lv_istore_n (lv' := [(2, .int (nI (min th (((ft f) + (ti f)) + (bt f))))), (0, .ref h0), (1, .int (nI f))]) C.x C.b dX3_points_27 rfl hl (by decide) rfl (fun ls hl => ?_)
  refine lv_iconst (v := nI 0) C.x C.b dX3_points_28 (by decide) ?_
  refine lv_istore_n (lv' := [(3, .int (nI 0)), (2, .int (nI (min th (((ft f) + (ti f)) + (bt f))))), (0, .ref h0), (1, .int (nI f))]) C.x C.b dX3_points_29 rfl hl (by decide) rfl (fun ls hl => ?_)
  refine lv_aload_n C.x C.b dX3_points_30 rfl (lv_at hl 2 rfl) ?_
  refine x_get C hW 0 2 1 (Cn := RX3) (T := TX3) (N := 5) rfl rfl (by decide) hinX3 hf15 rfl dX3_points_31 ?_
  refine lv_iload_n C.x C.b dX3_points_34 rfl (lv_at hl 3 rfl) ?_
  refine x_ald C hW 2 f rfl rfl (by omega) (by decide) dX3_points_35 ?_
  refine lv_istore (lv' := [(4, .int (nI (ft f))), (3, .int (nI 0)), (2, .int (nI (min th (((ft f) + (ti f)) + (bt f))))), (0, .ref h0), (1, .int (nI f))]) C.x C.b dX3_points_36 hl (by decide) rfl (fun ls hl => ?_)
  have lp_1 : ∀ (n1 k : Nat), k ≤ (min th (ft f + ti f + bt f) - ft f) → (min th (ft f + ti f + bt f) - ft f) + 1 ≤ k + n1 → ∀ (H : Heap) (locs : List Loc) (ls : Array Slot), WD E (va_A [(h0, .inr (2, [.ref a1, .ref a2, .ref a3, .ref a4, .int (nI th)])), (a1, aI E 30 pt), (a2, aI E 10 ft), (a3, aI E 10 ti), (a4, aI E 10 bt)] s.heap.size) s [(h0, .inr (2, [.ref a1, .ref a2, .ref a3, .ref a4, .int (nI th)])), (a1, aI E 30 pt), (a2, aI E 10 ft), (a3, aI E 10 ti), (a4, aI E 10 bt)] H locs → lv_has ls 5 [(4, .int (nI (ft f + k))), (3, .int (nI (smN pt (ft f) k))), (2, .int (nI (min th (((ft f) + (ti f)) + (bt f))))), (0, .ref h0), (1, .int (nI f))] → W p l e ({ frames := 1, cells := 0, slots := 0, locals := 21 } : Room) s m ([.ref h0, .int (nI f)] : List Value).toArray below meth c H locs 0 0 (QI E [(h0, .inr (2, [.ref a1, .ref a2, .ref a3, .ref a4, .int (nI th)])), (a1, aI E 30 pt), (a2, aI E 10 ft), (a3, aI E 10 ti), (a4, aI E 10 bt)] (nI (poN pt ft ti bt th f)) [(h0, .inr (2, [.ref a1, .ref a2, .ref a3, .ref a4, .int (nI th)])), (a1, aI E 30 pt), (a2, aI E 10 ft), (a3, aI E 10 ti), (a4, aI E 10 bt)] below ([.ref h0, .int (nI f)] : List Value).toArray s) (F0 m 38 ls []) := by
    intro n1
    induction n1 with
    | zero => intro k hk hn; exact absurd hn (by omega)
    | succ n1 ih1 =>
      intro k hk hn  H locs ls hW hl
      refine lv_iload C.x C.b dX3_points_38 (lv_at hl 0 rfl) ?_
      refine lv_iload_n C.x C.b dX3_points_40 rfl (lv_at hl 2 rfl) ?_
      refine x_icmp_ge C (by omega) (by omega) (tgt := 60) dX3_points_41 (by decide) (fun c_2 => ?_) (fun c_2 => ?_)
      · obtain rfl : k = min th (ft f + ti f + bt f) - ft f := by omega
        refine lv_iload_n C.x C.b dX3_points_60 rfl (lv_at hl 1 rfl) ?_
        exact x_iret C hW rfl (by first | rfl | (simp [smN, c_2]; done) | (rw [if_pos (by omega)]; done) | (rw [if_neg (by omega)]; done) | (exfalso; omega) | (simp only [smN]; (repeat' split) <;> first | rfl | contradiction | (exfalso; omega))) rfl dX3_points_61
      · refine lv_iload_n C.x C.b dX3_points_44 rfl (lv_at hl 1 rfl) ?_
        refine lv_aload_n C.x C.b dX3_points_45 rfl (lv_at hl 3 rfl) ?_
        refine x_get C hW 0 2 0 (Cn := RX3) (T := TX3) (N := 5) rfl rfl (by decide) hinX3 hf9 rfl dX3_points_46 ?_
        refine lv_iload C.x C.b dX3_points_49 (lv_at hl 0 rfl) ?_
        refine x_ald C hW 1 (ft f + k) rfl rfl (by omega) (by decide) dX3_points_51 ?_
        refine x_iadd C dX3_points_52 ?_
        refine lv_istore_n (lv' := [(3, .int (nI ((smN pt (ft f) k) + (pt (ft f + k))))), (4, .int (nI (ft f + k))), (2, .int (nI (min th (((ft f) + (ti f)) + (bt f))))), (0, .ref h0), (1, .int (nI f))]) C.x C.b dX3_points_53 rfl hl (by decide) rfl (fun ls hl => ?_)
        refine lv_iinc (k := 1) (v := nI ((ft f + k) + 1)) (lv' := [(4, .int (nI ((ft f + k) + 1))), (3, .int (nI ((smN pt (ft f) k) + (pt (ft f + k))))), (2, .int (nI (min th (((ft f) + (ti f)) + (bt f))))), (0, .ref h0), (1, .int (nI f))]) C.x C.b dX3_points_54 hl rfl (z_inc (ft f + k) 1) (by decide) rfl (fun ls hl => ?_)
        refine lv_goto (tgt := 38) C.x C.b dX3_points_57 (by decide) ?_
        exact ih1 (k + 1) (by omega) (by omega)  _ _ _ (hW.to rfl) (lv_to (lv_sub (l' := [(4, .int (nI ((ft f + k) + 1))), (3, .int (nI ((smN pt (ft f) k) + (pt (ft f + k))))), (2, .int (nI (min th (((ft f) + (ti f)) + (bt f))))), (0, .ref h0), (1, .int (nI f))]) hl [0, 1, 2, 3, 4] rfl) (by first | rfl | (simp [smN, c_2]; done) | (rw [if_pos (by omega)]; done) | (rw [if_neg (by omega)]; done) | (exfalso; omega) | (simp only [smN]; (repeat' split) <;> first | rfl | contradiction | (exfalso; omega))))
  exact lp_1 ((min th (ft f + ti f + bt f) - ft f) + 1) 0 (by omega) (by omega)  _ _ _ (hW.to rfl) (lv_to (lv_sub (l' := [(4, .int (nI (ft f))), (3, .int (nI 0)), (2, .int (nI (min th (((ft f) + (ti f)) + (bt f))))), (0, .ref h0), (1, .int (nI f))]) hl [0, 1, 2, 3, 4] rfl) rfl)

set_option maxHeartbeats 4000000 in
set_option maxRecDepth 100000 in
theorem met_X3_score (l : Launch) (E : EV) (h0 a1 a2 a3 a4 : Nat) (pt ft ti bt : Nat → Nat) (th : Nat) (ht : th ≤ 30) (hft : ∀ j, ft j ≤ 30) (hti : ∀ j, ti j ≤ 3) (hbt : ∀ j, bt j ≤ 2) : MI l yX3_score wsX3_score { frames := 2, cells := 0, slots := 0, locals := 45 } E [.ref h0] [(h0, .inr (2, [.ref a1, .ref a2, .ref a3, .ref a4, .int (nI th)])), (a1, aI E 30 pt), (a2, aI E 10 ft), (a3, aI E 10 ti), (a4, aI E 10 bt)] (nI (scN pt ft ti bt th 10)) [(h0, .inr (2, [.ref a1, .ref a2, .ref a3, .ref a4, .int (nI th)])), (a1, aI E 30 pt), (a2, aI E 10 ft), (a3, aI E 10 ti), (a4, aI E 10 bt)] := by
  refine sI (own := RX3) (cc := cX3_score) (maxL := 3) (ret := (some .int)) rfl (by decide) rfl (Nat.le_of_ble_eq_true rfl) ?_
  intro p e s m below meth c C hnm ls hl hW
  have hl : lv_has ls 3 [(0, .ref h0)] := hl
  have hW : WD E _ s [(h0, .inr (2, [.ref a1, .ref a2, .ref a3, .ref a4, .int (nI th)])), (a1, aI E 30 pt), (a2, aI E 10 ft), (a3, aI E 10 ti), (a4, aI E 10 bt)] s.heap [] := hW
  refine lv_iconst (v := nI 0) C.x C.b dX3_score_0 (by decide) ?_
  refine lv_istore_n (lv' := [(1, .int (nI 0)), (0, .ref h0)]) C.x C.b dX3_score_1 rfl hl (by decide) rfl (fun ls hl => ?_)
  refine lv_iconst (v := nI 0) C.x C.b dX3_score_2 (by decide) ?_
  refine lv_istore_n (lv' := [(2, .int (nI 0)), (1, .int (nI 0)), (0, .ref h0)]) C.x C.b dX3_score_3 rfl hl (by decide) rfl (fun ls hl => ?_)
  have lp_1 : ∀ (n1 i : Nat), i ≤ 10 → 10 + 1 ≤ i + n1 → ∀ (H : Heap) (locs : List Loc) (ls : Array Slot), WD E (va_A [(h0, .inr (2, [.ref a1, .ref a2, .ref a3, .ref a4, .int (nI th)])), (a1, aI E 30 pt), (a2, aI E 10 ft), (a3, aI E 10 ti), (a4, aI E 10 bt)] s.heap.size) s [(h0, .inr (2, [.ref a1, .ref a2, .ref a3, .ref a4, .int (nI th)])), (a1, aI E 30 pt), (a2, aI E 10 ft), (a3, aI E 10 ti), (a4, aI E 10 bt)] H locs → lv_has ls 3 [(2, .int (nI i)), (1, .int (nI (scN pt ft ti bt th i))), (0, .ref h0)] → W p l e ({ frames := 2, cells := 0, slots := 0, locals := 45 } : Room) s m ([.ref h0] : List Value).toArray below meth c H locs 0 0 (QI E [(h0, .inr (2, [.ref a1, .ref a2, .ref a3, .ref a4, .int (nI th)])), (a1, aI E 30 pt), (a2, aI E 10 ft), (a3, aI E 10 ti), (a4, aI E 10 bt)] (nI (scN pt ft ti bt th 10)) [(h0, .inr (2, [.ref a1, .ref a2, .ref a3, .ref a4, .int (nI th)])), (a1, aI E 30 pt), (a2, aI E 10 ft), (a3, aI E 10 ti), (a4, aI E 10 bt)] below ([.ref h0] : List Value).toArray s) (F0 m 4 ls []) := by
    intro n1
    induction n1 with
    | zero => intro i hi hn; exact absurd hn (by omega)
    | succ n1 ih1 =>
      intro i hi hn  H locs ls hW hl
      refine lv_iload_n C.x C.b dX3_score_4 rfl (lv_at hl 0 rfl) ?_
      refine lv_bipush (v := nI 10) C.x C.b dX3_score_5 (by decide) ?_
      refine x_icmp_ge C (by omega) (by omega) (tgt := 24) dX3_score_7 (by decide) (fun c_2 => ?_) (fun c_2 => ?_)
      · obtain rfl : i = 10 := by omega
        refine lv_iload_n C.x C.b dX3_score_24 rfl (lv_at hl 1 rfl) ?_
        exact x_iret C hW rfl rfl rfl dX3_score_25
      · refine lv_iload_n C.x C.b dX3_score_10 rfl (lv_at hl 1 rfl) ?_
        refine lv_aload_n C.x C.b dX3_score_11 rfl (lv_at hl 2 rfl) ?_
        refine lv_iload_n C.x C.b dX3_score_12 rfl (lv_at hl 0 rfl) ?_
        refine x_cVI C hW (As := [.int (nI i)]) (rest := [.int (nI (scN pt ft ti bt th i))]) (wr := []) (wn := [(h0, .inr (2, [.ref a1, .ref a2, .ref a3, .ref a4, .int (nI th)])), (a1, aI E 30 pt), (a2, aI E 10 ft), (a3, aI E 10 ti), (a4, aI E 10 bt)]) (Cn := RX3) (met_X3_points l E h0 a1 a2 a3 a4 pt ft ti bt th i (by omega) (by omega) hft hti hbt) gX3_score_X3_points rfl 1 rfl ⟨rfl, rfl⟩ ⟨rfl, by decide +kernel, by decide +kernel, by decide +kernel⟩ ⟨Nat.le_of_ble_eq_true rfl, Nat.le_of_ble_eq_true rfl⟩ [0, 1, 2, 3, 4] [] [0, 1, 2, 3, 4] rfl (by decide) rfl (by decide) (by decide) rfl (by decide) 0 2 rfl rfl hl.1 rfl (Nat.le_of_ble_eq_true rfl) dX3_score_13 ⟨Nat.zero_le _, Nat.zero_le _⟩ (fun H locs hW => ?_)
        refine x_iadd C dX3_score_16 ?_
        refine lv_istore_n (lv' := [(1, .int (nI ((scN pt ft ti bt th i) + (poN pt ft ti bt th i)))), (2, .int (nI i)), (0, .ref h0)]) C.x C.b dX3_score_17 rfl hl (by decide) rfl (fun ls hl => ?_)
        refine lv_iinc (k := 1) (v := nI (i + 1)) (lv' := [(2, .int (nI (i + 1))), (1, .int (nI ((scN pt ft ti bt th i) + (poN pt ft ti bt th i)))), (0, .ref h0)]) C.x C.b dX3_score_18 hl rfl (z_inc i 1) (by decide) rfl (fun ls hl => ?_)
        refine lv_goto (tgt := 4) C.x C.b dX3_score_21 (by decide) ?_
        exact ih1 (i + 1) (by omega) (by omega)  _ _ _ (hW.to rfl) (lv_to (lv_sub (l' := [(2, .int (nI (i + 1))), (1, .int (nI ((scN pt ft ti bt th i) + (poN pt ft ti bt th i)))), (0, .ref h0)]) hl [0, 1, 2] rfl) (by first | rfl | (simp [scN, c_2]; done) | (rw [if_pos (by omega)]; done) | (rw [if_neg (by omega)]; done) | (exfalso; omega) | (simp only [scN]; (repeat' split) <;> first | rfl | contradiction | (exfalso; omega))))
  exact lp_1 (10 + 1) 0 (by omega) (by omega)  _ _ _ (hW.to rfl) (lv_to (lv_sub (l' := [(2, .int (nI 0)), (1, .int (nI 0)), (0, .ref h0)]) hl [0, 1, 2] rfl) rfl)

set_option maxHeartbeats 4000000 in
set_option maxRecDepth 100000 in
theorem met_X3_framesWithBonus (l : Launch) (E : EV) (h0 a1 a2 a3 a4 : Nat) (pt ft ti bt : Nat → Nat) (th : Nat) (v : Nat) (hv : v ≤ 2) (hbt : ∀ j, bt j ≤ 2) : MI l yX3_framesWithBonus wsX3_framesWithBonus { frames := 0, cells := 0, slots := 0, locals := 0 } E [.ref h0, .int (nI v)] [(h0, .inr (2, [.ref a1, .ref a2, .ref a3, .ref a4, .int (nI th)])), (a1, aI E 30 pt), (a2, aI E 10 ft), (a3, aI E 10 ti), (a4, aI E 10 bt)] (nI (fbN bt v 10)) [(h0, .inr (2, [.ref a1, .ref a2, .ref a3, .ref a4, .int (nI th)])), (a1, aI E 30 pt), (a2, aI E 10 ft), (a3, aI E 10 ti), (a4, aI E 10 bt)] := by
  refine sI (own := RX3) (cc := cX3_framesWithBonus) (maxL := 4) (ret := (some .int)) rfl (by decide) rfl (Nat.le_of_ble_eq_true rfl) ?_
  intro p e s m below meth c C hnm ls hl hW
  have hl : lv_has ls 4 [(0, .ref h0), (1, .int (nI v))] := hl
  have hW : WD E _ s [(h0, .inr (2, [.ref a1, .ref a2, .ref a3, .ref a4, .int (nI th)])), (a1, aI E 30 pt), (a2, aI E 10 ft), (a3, aI E 10 ti), (a4, aI E 10 bt)] s.heap [] := hW
  have hinX3 : ∀ w ∈ u_ws RX3 TX3 5, w ∈ wsX3_framesWithBonus := by decide +kernel
  have hf21 : Cond.fieldLink RX3 21 (TX3 3).1 (TX3 3).2.1 (TX3 3).2.2.1 ∈ wsX3_framesWithBonus := by decide +kernel
  refine lv_iconst (v := nI 0) C.x C.b dX3_framesWithBonus_0 (by decide) ?_
  refine lv_istore_n (lv' := [(2, .int (nI 0)), (0, .ref h0), (1, .int (nI v))]) C.x C.b dX3_framesWithBonus_1 rfl hl (by decide) rfl (fun ls hl => ?_)
  refine lv_iconst (v := nI 0) C.x C.b dX3_framesWithBonus_2 (by decide) ?_
  refine lv_istore_n (lv' := [(3, .int (nI 0)), (2, .int (nI 0)), (0, .ref h0), (1, .int (nI v))]) C.x C.b dX3_framesWithBonus_3 rfl hl (by decide) rfl (fun ls hl => ?_)
  have lp_1 : ∀ (n1 i : Nat), i ≤ 10 → 10 + 1 ≤ i + n1 → ∀ (H : Heap) (locs : List Loc) (ls : Array Slot), WD E (va_A [(h0, .inr (2, [.ref a1, .ref a2, .ref a3, .ref a4, .int (nI th)])), (a1, aI E 30 pt), (a2, aI E 10 ft), (a3, aI E 10 ti), (a4, aI E 10 bt)] s.heap.size) s [(h0, .inr (2, [.ref a1, .ref a2, .ref a3, .ref a4, .int (nI th)])), (a1, aI E 30 pt), (a2, aI E 10 ft), (a3, aI E 10 ti), (a4, aI E 10 bt)] H locs → lv_has ls 4 [(3, .int (nI i)), (2, .int (nI (fbN bt v i))), (0, .ref h0), (1, .int (nI v))] → W p l e ({ frames := 0, cells := 0, slots := 0, locals := 0 } : Room) s m ([.ref h0, .int (nI v)] : List Value).toArray below meth c H locs 0 0 (QI E [(h0, .inr (2, [.ref a1, .ref a2, .ref a3, .ref a4, .int (nI th)])), (a1, aI E 30 pt), (a2, aI E 10 ft), (a3, aI E 10 ti), (a4, aI E 10 bt)] (nI (fbN bt v 10)) [(h0, .inr (2, [.ref a1, .ref a2, .ref a3, .ref a4, .int (nI th)])), (a1, aI E 30 pt), (a2, aI E 10 ft), (a3, aI E 10 ti), (a4, aI E 10 bt)] below ([.ref h0, .int (nI v)] : List Value).toArray s) (F0 m 4 ls []) := by
    intro n1
    induction n1 with
    | zero => intro i hi hn; exact absurd hn (by omega)
    | succ n1 ih1 =>
      intro i hi hn  H locs ls hW hl
      refine lv_iload_n C.x C.b dX3_framesWithBonus_4 rfl (lv_at hl 0 rfl) ?_
      refine lv_bipush (v := nI 10) C.x C.b dX3_framesWithBonus_5 (by decide) ?_
      refine x_icmp_ge C (by omega) (by omega) (tgt := 29) dX3_framesWithBonus_7 (by decide) (fun c_2 => ?_) (fun c_2 => ?_)
      · obtain rfl : i = 10 := by omega
        refine lv_iload_n C.x C.b dX3_framesWithBonus_29 rfl (lv_at hl 1 rfl) ?_
        exact x_iret C hW rfl rfl rfl dX3_framesWithBonus_30
      · refine lv_aload_n C.x C.b dX3_framesWithBonus_10 rfl (lv_at hl 2 rfl) ?_
        refine x_get C hW 0 2 3 (Cn := RX3) (T := TX3) (N := 5) rfl rfl (by decide) hinX3 hf21 rfl dX3_framesWithBonus_11 ?_
        refine lv_iload_n C.x C.b dX3_framesWithBonus_14 rfl (lv_at hl 0 rfl) ?_
        refine x_ald C hW 4 i rfl rfl (by omega) (by decide) dX3_framesWithBonus_15 ?_
        refine lv_iload_n C.x C.b dX3_framesWithBonus_16 rfl (lv_at hl 3 rfl) ?_
        have h9 := hbt i
        refine x_icmp_ne C (by omega) (by omega) (tgt := 23) dX3_framesWithBonus_17 (by decide) (fun c_3 => ?_) (fun c_3 => ?_)
        · refine lv_iinc (k := 0) (v := nI (i + 1)) (lv' := [(3, .int (nI (i + 1))), (2, .int (nI (fbN bt v i))), (0, .ref h0), (1, .int (nI v))]) C.x C.b dX3_framesWithBonus_23 hl rfl (z_inc i 1) (by decide) rfl (fun ls hl => ?_)
          refine lv_goto (tgt := 4) C.x C.b dX3_framesWithBonus_26 (by decide) ?_
          exact ih1 (i + 1) (by omega) (by omega)  _ _ _ (hW.to rfl) (lv_to (lv_sub (l' := [(3, .int (nI (i + 1))), (2, .int (nI (fbN bt v i))), (0, .ref h0), (1, .int (nI v))]) hl [0, 1, 2, 3] rfl) (by first | rfl | (simp [fbN, c_2, c_3]; done) | (rw [if_pos (by omega)]; done) | (rw [if_neg (by omega)]; done) | (exfalso; omega) | (simp only [fbN]; (repeat' split) <;> first | rfl | contradiction | (exfalso; omega))))
        · refine lv_iinc (k := 1) (v := nI ((fbN bt v i) + 1)) (lv' := [(2, .int (nI ((fbN bt v i) + 1))), (3, .int (nI i)), (0, .ref h0), (1, .int (nI v))]) C.x C.b dX3_framesWithBonus_20 hl rfl (z_inc (fbN bt v i) 1) (by decide) rfl (fun ls hl => ?_)
          refine lv_iinc (k := 1) (v := nI (i + 1)) (lv' := [(3, .int (nI (i + 1))), (2, .int (nI ((fbN bt v i) + 1))), (0, .ref h0), (1, .int (nI v))]) C.x C.b dX3_framesWithBonus_23 hl rfl (z_inc i 1) (by decide) rfl (fun ls hl => ?_)
          refine lv_goto (tgt := 4) C.x C.b dX3_framesWithBonus_26 (by decide) ?_
          exact ih1 (i + 1) (by omega) (by omega)  _ _ _ (hW.to rfl) (lv_to (lv_sub (l' := [(3, .int (nI (i + 1))), (2, .int (nI ((fbN bt v i) + 1))), (0, .ref h0), (1, .int (nI v))]) hl [0, 1, 2, 3] rfl) (by first | rfl | (simp [fbN, c_2, c_3]; done) | (rw [if_pos (by omega)]; done) | (rw [if_neg (by omega)]; done) | (exfalso; omega) | (simp only [fbN]; (repeat' split) <;> first | rfl | contradiction | (exfalso; omega))))
  exact lp_1 (10 + 1) 0 (by omega) (by omega)  _ _ _ (hW.to rfl) (lv_to (lv_sub (l' := [(3, .int (nI 0)), (2, .int (nI 0)), (0, .ref h0), (1, .int (nI v))]) hl [0, 1, 2, 3] rfl) rfl)

set_option maxHeartbeats 4000000 in
set_option maxRecDepth 100000 in
theorem met_X3_strikes (l : Launch) (E : EV) (h0 a1 a2 a3 a4 : Nat) (pt ft ti bt : Nat → Nat) (th : Nat) (hbt : ∀ j, bt j ≤ 2) : MI l yX3_strikes wsX3_strikes { frames := 1, cells := 0, slots := 0, locals := 23 } E [.ref h0] [(h0, .inr (2, [.ref a1, .ref a2, .ref a3, .ref a4, .int (nI th)])), (a1, aI E 30 pt), (a2, aI E 10 ft), (a3, aI E 10 ti), (a4, aI E 10 bt)] (nI (fbN bt 2 10)) [(h0, .inr (2, [.ref a1, .ref a2, .ref a3, .ref a4, .int (nI th)])), (a1, aI E 30 pt), (a2, aI E 10 ft), (a3, aI E 10 ti), (a4, aI E 10 bt)] := by
  refine sI (own := RX3) (cc := cX3_strikes) (maxL := 1) (ret := (some .int)) rfl (by decide) rfl (Nat.le_of_ble_eq_true rfl) ?_
  intro p e s m below meth c C hnm ls hl hW
  have hl : lv_has ls 1 [(0, .ref h0)] := hl
  have hW : WD E _ s [(h0, .inr (2, [.ref a1, .ref a2, .ref a3, .ref a4, .int (nI th)])), (a1, aI E 30 pt), (a2, aI E 10 ft), (a3, aI E 10 ti), (a4, aI E 10 bt)] s.heap [] := hW
  refine lv_aload_n C.x C.b dX3_strikes_0 rfl (lv_at hl 0 rfl) ?_
  refine lv_iconst (v := nI 2) C.x C.b dX3_strikes_1 (by decide) ?_
  refine x_cVI C hW (As := [.int (nI 2)]) (rest := []) (wr := []) (wn := [(h0, .inr (2, [.ref a1, .ref a2, .ref a3, .ref a4, .int (nI th)])), (a1, aI E 30 pt), (a2, aI E 10 ft), (a3, aI E 10 ti), (a4, aI E 10 bt)]) (Cn := RX3) (met_X3_framesWithBonus l E h0 a1 a2 a3 a4 pt ft ti bt th 2 (by omega) hbt) gX3_strikes_X3_framesWithBonus rfl 1 rfl ⟨rfl, rfl⟩ ⟨rfl, by decide +kernel, by decide +kernel, by decide +kernel⟩ ⟨Nat.le_of_ble_eq_true rfl, Nat.le_of_ble_eq_true rfl⟩ [0, 1, 2, 3, 4] [] [0, 1, 2, 3, 4] rfl (by decide) rfl (by decide) (by decide) rfl (by decide) 0 2 rfl rfl hl.1 rfl (Nat.le_of_ble_eq_true rfl) dX3_strikes_2 ⟨Nat.zero_le _, Nat.zero_le _⟩ (fun H locs hW => ?_)
  exact x_iret C hW rfl rfl rfl dX3_strikes_5

set_option maxHeartbeats 4000000 in
set_option maxRecDepth 100000 in
theorem met_X3_spares (l : Launch) (E : EV) (h0 a1 a2 a3 a4 : Nat) (pt ft ti bt : Nat → Nat) (th : Nat) (hbt : ∀ j, bt j ≤ 2) : MI l yX3_spares wsX3_spares { frames := 1, cells := 0, slots := 0, locals := 23 } E [.ref h0] [(h0, .inr (2, [.ref a1, .ref a2, .ref a3, .ref a4, .int (nI th)])), (a1, aI E 30 pt), (a2, aI E 10 ft), (a3, aI E 10 ti), (a4, aI E 10 bt)] (nI (fbN bt 1 10)) [(h0, .inr (2, [.ref a1, .ref a2, .ref a3, .ref a4, .int (nI th)])), (a1, aI E 30 pt), (a2, aI E 10 ft), (a3, aI E 10 ti), (a4, aI E 10 bt)] := by
  refine sI (own := RX3) (cc := cX3_spares) (maxL := 1) (ret := (some .int)) rfl (by decide) rfl (Nat.le_of_ble_eq_true rfl) ?_
  intro p e s m below meth c C hnm ls hl hW
  have hl : lv_has ls 1 [(0, .ref h0)] := hl
  have hW : WD E _ s [(h0, .inr (2, [.ref a1, .ref a2, .ref a3, .ref a4, .int (nI th)])), (a1, aI E 30 pt), (a2, aI E 10 ft), (a3, aI E 10 ti), (a4, aI E 10 bt)] s.heap [] := hW
  refine lv_aload_n C.x C.b dX3_spares_0 rfl (lv_at hl 0 rfl) ?_
  refine lv_iconst (v := nI 1) C.x C.b dX3_spares_1 (by decide) ?_
  refine x_cVI C hW (As := [.int (nI 1)]) (rest := []) (wr := []) (wn := [(h0, .inr (2, [.ref a1, .ref a2, .ref a3, .ref a4, .int (nI th)])), (a1, aI E 30 pt), (a2, aI E 10 ft), (a3, aI E 10 ti), (a4, aI E 10 bt)]) (Cn := RX3) (met_X3_framesWithBonus l E h0 a1 a2 a3 a4 pt ft ti bt th 1 (by omega) hbt) gX3_spares_X3_framesWithBonus rfl 1 rfl ⟨rfl, rfl⟩ ⟨rfl, by decide +kernel, by decide +kernel, by decide +kernel⟩ ⟨Nat.le_of_ble_eq_true rfl, Nat.le_of_ble_eq_true rfl⟩ [0, 1, 2, 3, 4] [] [0, 1, 2, 3, 4] rfl (by decide) rfl (by decide) (by decide) rfl (by decide) 0 2 rfl rfl hl.1 rfl (Nat.le_of_ble_eq_true rfl) dX3_spares_2 ⟨Nat.zero_le _, Nat.zero_le _⟩ (fun H locs hW => ?_)
  exact x_iret C hW rfl rfl rfl dX3_spares_5

set_option maxHeartbeats 4000000 in
set_option maxRecDepth 100000 in
theorem met_X3_digestOn (l : Launch) (E : EV) (h0 a1 a2 a3 a4 : Nat) (pt ft ti bt : Nat → Nat) (th : Nat) (d : Int64) (ht : th ≤ 30) (hft : ∀ j, ft j ≤ 30) (hti : ∀ j, ti j ≤ 3) (hbt : ∀ j, bt j ≤ 2) (hpt : ∀ j, pt j ≤ 9) : ML l yX3_digestOn wsX3_digestOn { frames := 3, cells := 0, slots := 0, locals := 67 } E [.ref h0, .long d] [(h0, .inr (2, [.ref a1, .ref a2, .ref a3, .ref a4, .int (nI th)])), (a1, aI E 30 pt), (a2, aI E 10 ft), (a3, aI E 10 ti), (a4, aI E 10 bt)] (dgS d pt ft ti bt th) [(h0, .inr (2, [.ref a1, .ref a2, .ref a3, .ref a4, .int (nI th)])), (a1, aI E 30 pt), (a2, aI E 10 ft), (a3, aI E 10 ti), (a4, aI E 10 bt)] := by
  refine sL (own := RX3) (cc := cX3_digestOn) (maxL := 6) rfl (by decide) rfl (Nat.le_of_ble_eq_true rfl) ?_
  intro p e s m below meth c C hnm ls hl hW
  have hl : lv_has ls 6 [(0, .ref h0), (1, .long d)] := hl
  have hW : WD E _ s [(h0, .inr (2, [.ref a1, .ref a2, .ref a3, .ref a4, .int (nI th)])), (a1, aI E 30 pt), (a2, aI E 10 ft), (a3, aI E 10 ti), (a4, aI E 10 bt)] s.heap [] := hW
  have hinX3 : ∀ w ∈ u_ws RX3 TX3 5, w ∈ wsX3_digestOn := by decide +kernel
  have hf24 : Cond.fieldLink RX3 24 (TX3 4).1 (TX3 4).2.1 (TX3 4).2.2.1 ∈ wsX3_digestOn := by decide +kernel
  refine lv_lload_n C.x C.b dX3_digestOn_0 rfl (lv_at hl 1 rfl) ?_
  refine lv_ldc2 (v := (31)) C.x C.b C.ow (C.ts (.constantLong RX3 41 (31)) (by decide +kernel)) dX3_digestOn_1 ?_
  refine lv_lmul C.x C.b dX3_digestOn_4 ?_
  refine lv_aload_n C.x C.b dX3_digestOn_5 rfl (lv_at hl 0 rfl) ?_
  refine x_get C hW 0 2 4 (Cn := RX3) (T := TX3) (N := 5) rfl rfl (by decide) hinX3 hf24 rfl dX3_digestOn_6 ?_
  refine lv_i2l (v := lN th) C.x C.b dX3_digestOn_9 (nI_l (by omega)) ?_
  refine lv_ladd C.x C.b dX3_digestOn_10 ?_
  refine lv_lstore_n (lv' := [(3, .long ((d * ((31 : Int64))) + (lN th))), (0, .ref h0), (1, .long d)]) C.x C.b dX3_digestOn_11 rfl hl (by decide) rfl (fun ls hl => ?_)
  refine lv_lload_n C.x C.b dX3_digestOn_12 rfl (lv_at hl 0 rfl) ?_
  refine lv_ldc2 (v := (31)) C.x C.b C.ow (C.ts (.constantLong RX3 41 (31)) (by decide +kernel)) dX3_digestOn_13 ?_
  refine lv_lmul C.x C.b dX3_digestOn_16 ?_
  refine lv_aload_n C.x C.b dX3_digestOn_17 rfl (lv_at hl 1 rfl) ?_
  refine x_cVI C hW (As := []) (rest := [.long (((d * ((31 : Int64))) + (lN th)) * ((31 : Int64)))]) (wr := []) (wn := [(h0, .inr (2, [.ref a1, .ref a2, .ref a3, .ref a4, .int (nI th)])), (a1, aI E 30 pt), (a2, aI E 10 ft), (a3, aI E 10 ti), (a4, aI E 10 bt)]) (Cn := RX3) (met_X3_score l E h0 a1 a2 a3 a4 pt ft ti bt th (by omega) hft hti hbt) gX3_digestOn_X3_score rfl 0 rfl ⟨rfl, rfl⟩ ⟨rfl, by decide +kernel, by decide +kernel, by decide +kernel⟩ ⟨Nat.le_of_ble_eq_true rfl, Nat.le_of_ble_eq_true rfl⟩ [0, 1, 2, 3, 4] [] [0, 1, 2, 3, 4] rfl (by decide) rfl (by decide) (by decide) rfl (by decide) 0 2 rfl rfl hl.1 rfl (Nat.le_of_ble_eq_true rfl) dX3_digestOn_18 ⟨Nat.zero_le _, Nat.zero_le _⟩ (fun H locs hW => ?_)
  have g1 := scN_le (ft := ft) (ti := ti) (bt := bt) hpt ht 10
  refine lv_i2l (v := lN (scN pt ft ti bt th 10)) C.x C.b dX3_digestOn_21 (nI_l (by omega)) ?_
  refine lv_ladd C.x C.b dX3_digestOn_22 ?_
  refine lv_lstore_n (lv' := [(3, .long ((((d * ((31 : Int64))) + (lN th)) * ((31 : Int64))) + (lN (scN pt ft ti bt th 10)))), (0, .ref h0), (1, .long d)]) C.x C.b dX3_digestOn_23 rfl hl (by decide) rfl (fun ls hl => ?_)
  refine lv_lload_n C.x C.b dX3_digestOn_24 rfl (lv_at hl 0 rfl) ?_
  refine lv_ldc2 (v := (31)) C.x C.b C.ow (C.ts (.constantLong RX3 41 (31)) (by decide +kernel)) dX3_digestOn_25 ?_
  refine lv_lmul C.x C.b dX3_digestOn_28 ?_
  refine lv_aload_n C.x C.b dX3_digestOn_29 rfl (lv_at hl 1 rfl) ?_
  refine x_cVI C hW (As := []) (rest := [.long (((((d * ((31 : Int64))) + (lN th)) * ((31 : Int64))) + (lN (scN pt ft ti bt th 10))) * ((31 : Int64)))]) (wr := []) (wn := [(h0, .inr (2, [.ref a1, .ref a2, .ref a3, .ref a4, .int (nI th)])), (a1, aI E 30 pt), (a2, aI E 10 ft), (a3, aI E 10 ti), (a4, aI E 10 bt)]) (Cn := RX3) (met_X3_strikes l E h0 a1 a2 a3 a4 pt ft ti bt th hbt) gX3_digestOn_X3_strikes rfl 0 rfl ⟨rfl, rfl⟩ ⟨rfl, by decide +kernel, by decide +kernel, by decide +kernel⟩ ⟨Nat.le_of_ble_eq_true rfl, Nat.le_of_ble_eq_true rfl⟩ [0, 1, 2, 3, 4] [] [0, 1, 2, 3, 4] rfl (by decide) rfl (by decide) (by decide) rfl (by decide) 0 2 rfl rfl hl.1 rfl (Nat.le_of_ble_eq_true rfl) dX3_digestOn_30 ⟨Nat.zero_le _, Nat.zero_le _⟩ (fun H locs hW => ?_)
  have g2 := fbN_le bt 2 10
  refine lv_i2l (v := lN (fbN bt 2 10)) C.x C.b dX3_digestOn_33 (nI_l (by omega)) ?_
  refine lv_ladd C.x C.b dX3_digestOn_34 ?_
  refine lv_lstore_n (lv' := [(3, .long ((((((d * ((31 : Int64))) + (lN th)) * ((31 : Int64))) + (lN (scN pt ft ti bt th 10))) * ((31 : Int64))) + (lN (fbN bt 2 10)))), (0, .ref h0), (1, .long d)]) C.x C.b dX3_digestOn_35 rfl hl (by decide) rfl (fun ls hl => ?_)
  refine lv_lload_n C.x C.b dX3_digestOn_36 rfl (lv_at hl 0 rfl) ?_
  refine lv_ldc2 (v := (31)) C.x C.b C.ow (C.ts (.constantLong RX3 41 (31)) (by decide +kernel)) dX3_digestOn_37 ?_
  refine lv_lmul C.x C.b dX3_digestOn_40 ?_
  refine lv_aload_n C.x C.b dX3_digestOn_41 rfl (lv_at hl 1 rfl) ?_
  refine x_cVI C hW (As := []) (rest := [.long (((((((d * ((31 : Int64))) + (lN th)) * ((31 : Int64))) + (lN (scN pt ft ti bt th 10))) * ((31 : Int64))) + (lN (fbN bt 2 10))) * ((31 : Int64)))]) (wr := []) (wn := [(h0, .inr (2, [.ref a1, .ref a2, .ref a3, .ref a4, .int (nI th)])), (a1, aI E 30 pt), (a2, aI E 10 ft), (a3, aI E 10 ti), (a4, aI E 10 bt)]) (Cn := RX3) (met_X3_spares l E h0 a1 a2 a3 a4 pt ft ti bt th hbt) gX3_digestOn_X3_spares rfl 0 rfl ⟨rfl, rfl⟩ ⟨rfl, by decide +kernel, by decide +kernel, by decide +kernel⟩ ⟨Nat.le_of_ble_eq_true rfl, Nat.le_of_ble_eq_true rfl⟩ [0, 1, 2, 3, 4] [] [0, 1, 2, 3, 4] rfl (by decide) rfl (by decide) (by decide) rfl (by decide) 0 2 rfl rfl hl.1 rfl (Nat.le_of_ble_eq_true rfl) dX3_digestOn_42 ⟨Nat.zero_le _, Nat.zero_le _⟩ (fun H locs hW => ?_)
  have g3 := fbN_le bt 1 10
  refine lv_i2l (v := lN (fbN bt 1 10)) C.x C.b dX3_digestOn_45 (nI_l (by omega)) ?_
  refine lv_ladd C.x C.b dX3_digestOn_46 ?_
  refine lv_lstore_n (lv' := [(3, .long ((((((((d * ((31 : Int64))) + (lN th)) * ((31 : Int64))) + (lN (scN pt ft ti bt th 10))) * ((31 : Int64))) + (lN (fbN bt 2 10))) * ((31 : Int64))) + (lN (fbN bt 1 10)))), (0, .ref h0), (1, .long d)]) C.x C.b dX3_digestOn_47 rfl hl (by decide) rfl (fun ls hl => ?_)
  refine lv_iconst (v := nI 0) C.x C.b dX3_digestOn_48 (by decide) ?_
  refine lv_istore (lv' := [(5, .int (nI 0)), (3, .long ((((((((d * ((31 : Int64))) + (lN th)) * ((31 : Int64))) + (lN (scN pt ft ti bt th 10))) * ((31 : Int64))) + (lN (fbN bt 2 10))) * ((31 : Int64))) + (lN (fbN bt 1 10)))), (0, .ref h0), (1, .long d)]) C.x C.b dX3_digestOn_49 hl (by decide) rfl (fun ls hl => ?_)
  have lp_1 : ∀ (n1 i : Nat), i ≤ 10 → 10 + 1 ≤ i + n1 → ∀ (H : Heap) (locs : List Loc) (ls : Array Slot), WD E (va_A [(h0, .inr (2, [.ref a1, .ref a2, .ref a3, .ref a4, .int (nI th)])), (a1, aI E 30 pt), (a2, aI E 10 ft), (a3, aI E 10 ti), (a4, aI E 10 bt)] s.heap.size) s [(h0, .inr (2, [.ref a1, .ref a2, .ref a3, .ref a4, .int (nI th)])), (a1, aI E 30 pt), (a2, aI E 10 ft), (a3, aI E 10 ti), (a4, aI E 10 bt)] H locs → lv_has ls 6 [(5, .int (nI i)), (3, .long (dgP ((((d * (31 : Int64) + lN th) * (31 : Int64) + lN (scN pt ft ti bt th 10)) * (31 : Int64) + lN (fbN bt 2 10)) * (31 : Int64) + lN (fbN bt 1 10)) (poN pt ft ti bt th) i)), (0, .ref h0), (1, .long d)] → W p l e ({ frames := 3, cells := 0, slots := 0, locals := 67 } : Room) s m ([.ref h0, .long d] : List Value).toArray below meth c H locs 0 0 (QL E [(h0, .inr (2, [.ref a1, .ref a2, .ref a3, .ref a4, .int (nI th)])), (a1, aI E 30 pt), (a2, aI E 10 ft), (a3, aI E 10 ti), (a4, aI E 10 bt)] (dgS d pt ft ti bt th) [(h0, .inr (2, [.ref a1, .ref a2, .ref a3, .ref a4, .int (nI th)])), (a1, aI E 30 pt), (a2, aI E 10 ft), (a3, aI E 10 ti), (a4, aI E 10 bt)] below ([.ref h0, .long d] : List Value).toArray s) (F0 m 51 ls []) := by
    intro n1
    induction n1 with
    | zero => intro i hi hn; exact absurd hn (by omega)
    | succ n1 ih1 =>
      intro i hi hn  H locs ls hW hl
      refine lv_iload C.x C.b dX3_digestOn_51 (lv_at hl 0 rfl) ?_
      refine lv_bipush (v := nI 10) C.x C.b dX3_digestOn_53 (by decide) ?_
      refine x_icmp_ge C (by omega) (by omega) (tgt := 78) dX3_digestOn_55 (by decide) (fun c_2 => ?_) (fun c_2 => ?_)
      · obtain rfl : i = 10 := by omega
        refine lv_lload_n C.x C.b dX3_digestOn_78 rfl (lv_at hl 1 rfl) ?_
        exact x_lret C hW (by first | rfl | (simp [dgP, c_2]; done) | (rw [if_pos (by omega)]; done) | (rw [if_neg (by omega)]; done) | (exfalso; omega) | (simp only [dgP]; (repeat' split) <;> first | rfl | contradiction | (exfalso; omega))) rfl dX3_digestOn_79
      · refine lv_lload_n C.x C.b dX3_digestOn_58 rfl (lv_at hl 1 rfl) ?_
        refine lv_ldc2 (v := (31)) C.x C.b C.ow (C.ts (.constantLong RX3 41 (31)) (by decide +kernel)) dX3_digestOn_59 ?_
        refine lv_lmul C.x C.b dX3_digestOn_62 ?_
        refine lv_aload_n C.x C.b dX3_digestOn_63 rfl (lv_at hl 2 rfl) ?_
        refine lv_iload C.x C.b dX3_digestOn_64 (lv_at hl 0 rfl) ?_
        refine x_cVI C hW (As := [.int (nI i)]) (rest := [.long ((dgP ((((d * (31 : Int64) + lN th) * (31 : Int64) + lN (scN pt ft ti bt th 10)) * (31 : Int64) + lN (fbN bt 2 10)) * (31 : Int64) + lN (fbN bt 1 10)) (poN pt ft ti bt th) i) * ((31 : Int64)))]) (wr := []) (wn := [(h0, .inr (2, [.ref a1, .ref a2, .ref a3, .ref a4, .int (nI th)])), (a1, aI E 30 pt), (a2, aI E 10 ft), (a3, aI E 10 ti), (a4, aI E 10 bt)]) (Cn := RX3) (met_X3_points l E h0 a1 a2 a3 a4 pt ft ti bt th i (by omega) (by omega) hft hti hbt) gX3_digestOn_X3_points rfl 1 rfl ⟨rfl, rfl⟩ ⟨rfl, by decide +kernel, by decide +kernel, by decide +kernel⟩ ⟨Nat.le_of_ble_eq_true rfl, Nat.le_of_ble_eq_true rfl⟩ [0, 1, 2, 3, 4] [] [0, 1, 2, 3, 4] rfl (by decide) rfl (by decide) (by decide) rfl (by decide) 0 2 rfl rfl hl.1 rfl (Nat.le_of_ble_eq_true rfl) dX3_digestOn_66 ⟨Nat.zero_le _, Nat.zero_le _⟩ (fun H locs hW => ?_)
        have g4 := poN_le (ft := ft) (ti := ti) (bt := bt) hpt ht i
        refine lv_i2l (v := lN (poN pt ft ti bt th i)) C.x C.b dX3_digestOn_69 (nI_l (by omega)) ?_
        refine lv_ladd C.x C.b dX3_digestOn_70 ?_
        refine lv_lstore_n (lv' := [(3, .long (((dgP ((((d * (31 : Int64) + lN th) * (31 : Int64) + lN (scN pt ft ti bt th 10)) * (31 : Int64) + lN (fbN bt 2 10)) * (31 : Int64) + lN (fbN bt 1 10)) (poN pt ft ti bt th) i) * ((31 : Int64))) + (lN (poN pt ft ti bt th i)))), (5, .int (nI i)), (0, .ref h0), (1, .long d)]) C.x C.b dX3_digestOn_71 rfl hl (by decide) rfl (fun ls hl => ?_)
        refine lv_iinc (k := 1) (v := nI (i + 1)) (lv' := [(5, .int (nI (i + 1))), (3, .long (((dgP ((((d * (31 : Int64) + lN th) * (31 : Int64) + lN (scN pt ft ti bt th 10)) * (31 : Int64) + lN (fbN bt 2 10)) * (31 : Int64) + lN (fbN bt 1 10)) (poN pt ft ti bt th) i) * ((31 : Int64))) + (lN (poN pt ft ti bt th i)))), (0, .ref h0), (1, .long d)]) C.x C.b dX3_digestOn_72 hl rfl (z_inc i 1) (by decide) rfl (fun ls hl => ?_)
        refine lv_goto (tgt := 51) C.x C.b dX3_digestOn_75 (by decide) ?_
        exact ih1 (i + 1) (by omega) (by omega)  _ _ _ (hW.to rfl) (lv_to (lv_sub (l' := [(5, .int (nI (i + 1))), (3, .long (((dgP ((((d * (31 : Int64) + lN th) * (31 : Int64) + lN (scN pt ft ti bt th 10)) * (31 : Int64) + lN (fbN bt 2 10)) * (31 : Int64) + lN (fbN bt 1 10)) (poN pt ft ti bt th) i) * ((31 : Int64))) + (lN (poN pt ft ti bt th i)))), (0, .ref h0), (1, .long d)]) hl [0, 1, 2, 3] rfl) (by first | rfl | (simp [dgP, c_2]; done) | (rw [if_pos (by omega)]; done) | (rw [if_neg (by omega)]; done) | (exfalso; omega) | (simp only [dgP]; (repeat' split) <;> first | rfl | contradiction | (exfalso; omega))))
  exact lp_1 (10 + 1) 0 (by omega) (by omega)  _ _ _ (hW.to rfl) (lv_to (lv_sub (l' := [(5, .int (nI 0)), (3, .long ((((((((d * ((31 : Int64))) + (lN th)) * ((31 : Int64))) + (lN (scN pt ft ti bt th 10))) * ((31 : Int64))) + (lN (fbN bt 2 10))) * ((31 : Int64))) + (lN (fbN bt 1 10)))), (0, .ref h0), (1, .long d)]) hl [0, 1, 2, 3] rfl) rfl)
