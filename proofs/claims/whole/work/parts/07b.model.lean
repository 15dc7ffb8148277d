/-! THE REFERENCE, 2 -/
set_option maxHeartbeats 4000000 in
set_option maxRecDepth 100000 in
theorem met_X5_broken (l : Launch) (E : EV) (h0 k1 k2 k3 k4 k5 k6 k7 k8 : Nat) (x : Int32) (g sp pl tu fr nf : Nat) (w aw my fe be sk cl ex : Nat → Nat) (q : Nat) (hq : q < 9) (hw : ∀ i, w i ≤ 12) : MI l yX5_broken wsX5_broken { frames := 0, cells := 0, slots := 0, locals := 0 } E [.ref h0, .int (nI q)] [(h0, .inr (4, [.int x, .int (nI g), .ref k1, .ref k2, .int (nI sp), .int (nI pl), .int (nI tu), .int (nI fr), .int (nI nf), .ref k3, .ref k4, .ref k5, .ref k6, .ref k7, .ref k8])), (k1, aI E 9 w), (k2, aI E 5 aw), (k3, aI E 4 my), (k4, aI E 120 fe), (k5, aI E 44 be), (k6, aI E 4 sk), (k7, aI E 4 cl), (k8, aI E 40 ex)] (nI (if w q = 12 then 1 else 0)) [(h0, .inr (4, [.int x, .int (nI g), .ref k1, .ref k2, .int (nI sp), .int (nI pl), .int (nI tu), .int (nI fr), .int (nI nf), .ref k3, .ref k4, .ref k5, .ref k6, .ref k7, .ref k8])), (k1, aI E 9 w), (k2, aI E 5 aw), (k3, aI E 4 my), (k4, aI E 120 fe), (k5, aI E 44 be), (k6, aI E 4 sk), (k7, aI E 4 cl), (k8, aI E 40 ex)] := by
  refine sI (own := RX5) (cc := cX5_broken) (maxL := 2) (ret := (some .boolean)) rfl (by decide) rfl (Nat.le_of_ble_eq_true rfl) ?_
  intro p e s m below meth c C hnm ls hl hW
  have hl : lv_has ls 2 [(0, .ref h0), (1, .int (nI q))] := hl
  have hW : WD E _ s [(h0, .inr (4, [.int x, .int (nI g), .ref k1, .ref k2, .int (nI sp), .int (nI pl), .int (nI tu), .int (nI fr), .int (nI nf), .ref k3, .ref k4, .ref k5, .ref k6, .ref k7, .ref k8])), (k1, aI E 9 w), (k2, aI E 5 aw), (k3, aI E 4 my), (k4, aI E 120 fe), (k5, aI E 44 be), (k6, aI E 4 sk), (k7, aI E 4 cl), (k8, aI E 40 ex)] s.heap [] := hW
  have hinX5 : ∀ w ∈ u_ws RX5 TX5 15, w ∈ wsX5_broken := by decide +kernel
  have hf13 : Cond.fieldLink RX5 13 (TX5 2).1 (TX5 2).2.1 (TX5 2).2.2.1 ∈ wsX5_broken := by decide +kernel
  refine lv_aload_n C.x C.b dX5_broken_0 rfl (lv_at hl 0 rfl) ?_
  refine x_get C hW 0 4 2 (Cn := RX5) (T := TX5) (N := 15) rfl rfl (by decide) hinX5 hf13 rfl dX5_broken_1 ?_
  refine lv_iload_n C.x C.b dX5_broken_4 rfl (lv_at hl 1 rfl) ?_
  refine x_ald C hW 1 q rfl rfl (by omega) (by decide) dX5_broken_5 ?_
  refine lv_bipush (v := nI 12) C.x C.b dX5_broken_6 (by decide) ?_
  refine x_icmp_ne C (by have := hw q; omega) (by omega) (tgt := 15) dX5_broken_8 (by decide) (fun c_1 => ?_) (fun c_1 => ?_)
  · refine lv_iconst (v := nI 0) C.x C.b dX5_broken_15 (by decide) ?_
    exact x_iret C hW (by first | rfl | exact z_narb _) (by first | rfl | (simp [c_1]; done) | (rw [if_pos (by omega)]; done) | (rw [if_neg (by omega)]; done) | (exfalso; omega) | ((repeat' split) <;> first | rfl | contradiction | (exfalso; omega))) rfl dX5_broken_16
  · refine lv_iconst (v := nI 1) C.x C.b dX5_broken_11 (by decide) ?_
    refine lv_goto (tgt := 16) C.x C.b dX5_broken_12 (by decide) ?_
    exact x_iret C hW (by first | rfl | exact z_narb _) (by first | rfl | (simp [c_1]; done) | (rw [if_pos (by omega)]; done) | (rw [if_neg (by omega)]; done) | (exfalso; omega) | ((repeat' split) <;> first | rfl | contradiction | (exfalso; omega))) rfl dX5_broken_16

set_option maxHeartbeats 4000000 in
set_option maxRecDepth 100000 in
theorem met_X5_putUp (l : Launch) (E : EV) (h0 k1 k2 k3 k4 k5 k6 k7 k8 : Nat) (x : Int32) (g sp pl tu fr nf : Nat) (w aw my fe be sk cl ex : Nat → Nat) (hw : ∀ i, w i ≤ 12) : MV l yX5_putUp wsX5_putUp { frames := 1, cells := 0, slots := 0, locals := 21 } E [.ref h0] [(h0, .inr (4, [.int x, .int (nI g), .ref k1, .ref k2, .int (nI sp), .int (nI pl), .int (nI tu), .int (nI fr), .int (nI nf), .ref k3, .ref k4, .ref k5, .ref k6, .ref k7, .ref k8])), (k1, aI E 9 w), (k2, aI E 5 aw), (k3, aI E 4 my), (k4, aI E 120 fe), (k5, aI E 44 be), (k6, aI E 4 sk), (k7, aI E 4 cl), (k8, aI E 40 ex)] [(h0, .inr (4, [.int x, .int (nI (suN w 9)), .ref k1, .ref k2, .int (nI sp), .int (nI pl), .int (nI tu), .int (nI fr), .int (nI nf), .ref k3, .ref k4, .ref k5, .ref k6, .ref k7, .ref k8])), (k1, aI E 9 w), (k2, aI E 5 aw), (k3, aI E 4 my), (k4, aI E 120 fe), (k5, aI E 44 be), (k6, aI E 4 sk), (k7, aI E 4 cl), (k8, aI E 40 ex)] := by
  refine sV (own := RX5) (cc := cX5_putUp) (maxL := 2) rfl (by decide) rfl (Nat.le_of_ble_eq_true rfl) ?_
  intro p e s m below meth c C hnm ls hl hW
  have hl : lv_has ls 2 [(0, .ref h0)] := hl
  have hW : WD E _ s [(h0, .inr (4, [.int x, .int (nI g), .ref k1, .ref k2, .int (nI sp), .int (nI pl), .int (nI tu), .int (nI fr), .int (nI nf), .ref k3, .ref k4, .ref k5, .ref k6, .ref k7, .ref k8])), (k1, aI E 9 w), (k2, aI E 5 aw), (k3, aI E 4 my), (k4, aI E 120 fe), (k5, aI E 44 be), (k6, aI E 4 sk), (k7, aI E 4 cl), (k8, aI E 40 ex)] s.heap [] := hW
  have hinX5 : ∀ w ∈ u_ws RX5 TX5 15, w ∈ wsX5_putUp := by decide +kernel
  have hf9 : Cond.fieldLink RX5 9 (TX5 1).1 (TX5 1).2.1 (TX5 1).2.2.1 ∈ wsX5_putUp := by decide +kernel
  refine lv_aload_n C.x C.b dX5_putUp_0 rfl (lv_at hl 0 rfl) ?_
  refine lv_iconst (v := nI 0) C.x C.b dX5_putUp_1 (by decide) ?_
  refine x_put C hW 0 4 1 (Cn := RX5) (T := TX5) (N := 15) (w' := [(h0, .inr (4, [.int x, .int (nI 0), .ref k1, .ref k2, .int (nI sp), .int (nI pl), .int (nI tu), .int (nI fr), .int (nI nf), .ref k3, .ref k4, .ref k5, .ref k6, .ref k7, .ref k8])), (k1, aI E 9 w), (k2, aI E 5 aw), (k3, aI E 4 my), (k4, aI E 120 fe), (k5, aI E 44 be), (k6, aI E 4 sk), (k7, aI E 4 cl), (k8, aI E 40 ex)]) tyX5 tyX5_ok nmX5 rfl rfl (by decide) hinX5 hf9 rfl (by decide +kernel) (Nat.le_of_ble_eq_true rfl) dX5_putUp_2 rfl (fun H locs hW => ?_)
  refine lv_iconst (v := nI 0) C.x C.b dX5_putUp_5 (by decide) ?_
  refine lv_istore_n (lv' := [(1, .int (nI 0)), (0, .ref h0)]) C.x C.b dX5_putUp_6 rfl hl (by decide) rfl (fun ls hl => ?_)
  have lp_1 : ∀ (n1 i : Nat), i ≤ 9 → 9 + 1 ≤ i + n1 → ∀ (H : Heap) (locs : List Loc) (ls : Array Slot), WD E (va_A [(h0, .inr (4, [.int x, .int (nI g), .ref k1, .ref k2, .int (nI sp), .int (nI pl), .int (nI tu), .int (nI fr), .int (nI nf), .ref k3, .ref k4, .ref k5, .ref k6, .ref k7, .ref k8])), (k1, aI E 9 w), (k2, aI E 5 aw), (k3, aI E 4 my), (k4, aI E 120 fe), (k5, aI E 44 be), (k6, aI E 4 sk), (k7, aI E 4 cl), (k8, aI E 40 ex)] s.heap.size) s [(h0, .inr (4, [.int x, .int (nI (suN w i)), .ref k1, .ref k2, .int (nI sp), .int (nI pl), .int (nI tu), .int (nI fr), .int (nI nf), .ref k3, .ref k4, .ref k5, .ref k6, .ref k7, .ref k8])), (k1, aI E 9 w), (k2, aI E 5 aw), (k3, aI E 4 my), (k4, aI E 120 fe), (k5, aI E 44 be), (k6, aI E 4 sk), (k7, aI E 4 cl), (k8, aI E 40 ex)] H locs → lv_has ls 2 [(1, .int (nI i)), (0, .ref h0)] → W p l e ({ frames := 1, cells := 0, slots := 0, locals := 21 } : Room) s m ([.ref h0] : List Value).toArray below meth c H locs 0 0 (QV E [(h0, .inr (4, [.int x, .int (nI g), .ref k1, .ref k2, .int (nI sp), .int (nI pl), .int (nI tu), .int (nI fr), .int (nI nf), .ref k3, .ref k4, .ref k5, .ref k6, .ref k7, .ref k8])), (k1, aI E 9 w), (k2, aI E 5 aw), (k3, aI E 4 my), (k4, aI E 120 fe), (k5, aI E 44 be), (k6, aI E 4 sk), (k7, aI E 4 cl), (k8, aI E 40 ex)] [(h0, .inr (4, [.int x, .int (nI (suN w 9)), .ref k1, .ref k2, .int (nI sp), .int (nI pl), .int (nI tu), .int (nI fr), .int (nI nf), .ref k3, .ref k4, .ref k5, .ref k6, .ref k7, .ref k8])), (k1, aI E 9 w), (k2, aI E 5 aw), (k3, aI E 4 my), (k4, aI E 120 fe), (k5, aI E 44 be), (k6, aI E 4 sk), (k7, aI E 4 cl), (k8, aI E 40 ex)] below ([.ref h0] : List Value).toArray s) (F0 m 7 ls []) := by
    intro n1
    induction n1 with
    | zero => intro i hi hn; exact absurd hn (by omega)
    | succ n1 ih1 =>
      intro i hi hn  H locs ls hW hl
      refine lv_iload_n C.x C.b dX5_putUp_7 rfl (lv_at hl 0 rfl) ?_
      refine lv_bipush (v := nI 9) C.x C.b dX5_putUp_8 (by decide) ?_
      refine x_icmp_ge C (by omega) (by omega) (tgt := 39) dX5_putUp_10 (by decide) (fun c_2 => ?_) (fun c_2 => ?_)
      · obtain rfl : i = 9 := by omega
        exact x_vret C hW rfl dX5_putUp_39
      · refine lv_aload_n C.x C.b dX5_putUp_13 rfl (lv_at hl 1 rfl) ?_
        refine lv_iload_n C.x C.b dX5_putUp_14 rfl (lv_at hl 0 rfl) ?_
        refine x_cVI C hW (As := [.int (nI i)]) (rest := []) (wr := []) (wn := [(h0, .inr (4, [.int x, .int (nI ((suN w i))), .ref k1, .ref k2, .int (nI sp), .int (nI pl), .int (nI tu), .int (nI fr), .int (nI nf), .ref k3, .ref k4, .ref k5, .ref k6, .ref k7, .ref k8])), (k1, aI E 9 w), (k2, aI E 5 aw), (k3, aI E 4 my), (k4, aI E 120 fe), (k5, aI E 44 be), (k6, aI E 4 sk), (k7, aI E 4 cl), (k8, aI E 40 ex)]) (Cn := RX5) (met_X5_broken l E h0 k1 k2 k3 k4 k5 k6 k7 k8 x (suN w i) sp pl tu fr nf w aw my fe be sk cl ex i (by omega) hw) gX5_putUp_X5_broken rfl 1 rfl ⟨rfl, rfl⟩ ⟨rfl, by decide +kernel, by decide +kernel, by decide +kernel⟩ ⟨Nat.le_of_ble_eq_true rfl, Nat.le_of_ble_eq_true rfl⟩ [0, 1, 2, 3, 4, 5, 6, 7, 8] [] [0, 1, 2, 3, 4, 5, 6, 7, 8] rfl (by decide) rfl (by decide) (by decide) rfl (by decide) 0 4 rfl rfl hl.1 rfl (Nat.le_of_ble_eq_true rfl) dX5_putUp_15 ⟨Nat.zero_le _, Nat.zero_le _⟩ (fun H locs hW => ?_)
        have h9 := hw i
        refine x_ifb_ne C (tgt := 33) dX5_putUp_18 (by decide) (fun c_3 => ?_) (fun c_3 => ?_)
        · refine lv_iinc (k := 0) (v := nI (i + 1)) (lv' := [(1, .int (nI (i + 1))), (0, .ref h0)]) C.x C.b dX5_putUp_33 hl rfl (z_inc i 1) (by decide) rfl (fun ls hl => ?_)
          refine lv_goto (tgt := 7) C.x C.b dX5_putUp_36 (by decide) ?_
          exact ih1 (i + 1) (by omega) (by omega)  _ _ _ (hW.to (by first | rfl | (simp [suN, c_2, c_3]; done) | (rw [if_pos (by omega)]; done) | (rw [if_neg (by omega)]; done) | (exfalso; omega) | (simp only [suN]; (repeat' split) <;> first | rfl | contradiction | (exfalso; omega)))) (lv_to (lv_sub (l' := [(1, .int (nI (i + 1))), (0, .ref h0)]) hl [0, 1] rfl) (by first | rfl | (simp [suN, c_2, c_3]; done) | (rw [if_pos (by omega)]; done) | (rw [if_neg (by omega)]; done) | (exfalso; omega) | (simp only [suN]; (repeat' split) <;> first | rfl | contradiction | (exfalso; omega))))
        · refine lv_aload_n C.x C.b dX5_putUp_21 rfl (lv_at hl 1 rfl) ?_
          refine lv_dup C.x C.b dX5_putUp_22 rfl ?_
          refine x_get C hW 0 4 1 (Cn := RX5) (T := TX5) (N := 15) rfl rfl (by decide) hinX5 hf9 rfl dX5_putUp_23 ?_
          refine lv_iconst (v := nI 1) C.x C.b dX5_putUp_26 (by decide) ?_
          refine lv_iload_n C.x C.b dX5_putUp_27 rfl (lv_at hl 0 rfl) ?_
          refine x_ishl1 C (by omega) dX5_putUp_28 ?_
          refine x_ior C dX5_putUp_29 ?_
          refine x_put C hW 0 4 1 (Cn := RX5) (T := TX5) (N := 15) (w' := [(h0, .inr (4, [.int x, .int (nI (((suN w i)) ||| (2 ^ i))), .ref k1, .ref k2, .int (nI sp), .int (nI pl), .int (nI tu), .int (nI fr), .int (nI nf), .ref k3, .ref k4, .ref k5, .ref k6, .ref k7, .ref k8])), (k1, aI E 9 w), (k2, aI E 5 aw), (k3, aI E 4 my), (k4, aI E 120 fe), (k5, aI E 44 be), (k6, aI E 4 sk), (k7, aI E 4 cl), (k8, aI E 40 ex)]) tyX5 tyX5_ok nmX5 rfl rfl (by decide) hinX5 hf9 rfl (by decide +kernel) (Nat.le_of_ble_eq_true rfl) dX5_putUp_30 rfl (fun H locs hW => ?_)
          refine lv_iinc (k := 0) (v := nI (i + 1)) (lv' := [(1, .int (nI (i + 1))), (0, .ref h0)]) C.x C.b dX5_putUp_33 hl rfl (z_inc i 1) (by decide) rfl (fun ls hl => ?_)
          refine lv_goto (tgt := 7) C.x C.b dX5_putUp_36 (by decide) ?_
          exact ih1 (i + 1) (by omega) (by omega)  _ _ _ (hW.to (by first | rfl | (simp [suN, c_2, c_3]; done) | (rw [if_pos (by omega)]; done) | (rw [if_neg (by omega)]; done) | (exfalso; omega) | (simp only [suN]; (repeat' split) <;> first | rfl | contradiction | (exfalso; omega)))) (lv_to (lv_sub (l' := [(1, .int (nI (i + 1))), (0, .ref h0)]) hl [0, 1] rfl) (by first | rfl | (simp [suN, c_2, c_3]; done) | (rw [if_pos (by omega)]; done) | (rw [if_neg (by omega)]; done) | (exfalso; omega) | (simp only [suN]; (repeat' split) <;> first | rfl | contradiction | (exfalso; omega))))
  exact lp_1 (9 + 1) 0 (by omega) (by omega)  _ _ _ (hW.to rfl) (lv_to (lv_sub (l' := [(1, .int (nI 0)), (0, .ref h0)]) hl [0, 1] rfl) rfl)

set_option maxHeartbeats 4000000 in
set_option maxRecDepth 100000 in
theorem met_X5_over (l : Launch) (E : EV) (h0 k1 k2 k3 k4 k5 k6 k7 k8 : Nat) (x : Int32) (g sp pl tu fr nf : Nat) (w aw my fe be sk cl ex : Nat → Nat) (hfr : fr ≤ 10) : MI l yX5_over wsX5_over { frames := 0, cells := 0, slots := 0, locals := 0 } E [.ref h0] [(h0, .inr (4, [.int x, .int (nI g), .ref k1, .ref k2, .int (nI sp), .int (nI pl), .int (nI tu), .int (nI fr), .int (nI nf), .ref k3, .ref k4, .ref k5, .ref k6, .ref k7, .ref k8])), (k1, aI E 9 w), (k2, aI E 5 aw), (k3, aI E 4 my), (k4, aI E 120 fe), (k5, aI E 44 be), (k6, aI E 4 sk), (k7, aI E 4 cl), (k8, aI E 40 ex)] (nI (if fr = 10 then 1 else 0)) [(h0, .inr (4, [.int x, .int (nI g), .ref k1, .ref k2, .int (nI sp), .int (nI pl), .int (nI tu), .int (nI fr), .int (nI nf), .ref k3, .ref k4, .ref k5, .ref k6, .ref k7, .ref k8])), (k1, aI E 9 w), (k2, aI E 5 aw), (k3, aI E 4 my), (k4, aI E 120 fe), (k5, aI E 44 be), (k6, aI E 4 sk), (k7, aI E 4 cl), (k8, aI E 40 ex)] := by
  refine sI (own := RX5) (cc := cX5_over) (maxL := 1) (ret := (some .boolean)) rfl (by decide) rfl (Nat.le_of_ble_eq_true rfl) ?_
  intro p e s m below meth c C hnm ls hl hW
  have hl : lv_has ls 1 [(0, .ref h0)] := hl
  have hW : WD E _ s [(h0, .inr (4, [.int x, .int (nI g), .ref k1, .ref k2, .int (nI sp), .int (nI pl), .int (nI tu), .int (nI fr), .int (nI nf), .ref k3, .ref k4, .ref k5, .ref k6, .ref k7, .ref k8])), (k1, aI E 9 w), (k2, aI E 5 aw), (k3, aI E 4 my), (k4, aI E 120 fe), (k5, aI E 44 be), (k6, aI E 4 sk), (k7, aI E 4 cl), (k8, aI E 40 ex)] s.heap [] := hW
  have hinX5 : ∀ w ∈ u_ws RX5 TX5 15, w ∈ wsX5_over := by decide +kernel
  have hf72 : Cond.fieldLink RX5 72 (TX5 7).1 (TX5 7).2.1 (TX5 7).2.2.1 ∈ wsX5_over := by decide +kernel
  refine lv_aload_n C.x C.b dX5_over_0 rfl (lv_at hl 0 rfl) ?_
  refine x_get C hW 0 4 7 (Cn := RX5) (T := TX5) (N := 15) rfl rfl (by decide) hinX5 hf72 rfl dX5_over_1 ?_
  refine lv_bipush (v := nI 10) C.x C.b dX5_over_4 (by decide) ?_
  refine x_icmp_ne C (by omega) (by omega) (tgt := 13) dX5_over_6 (by decide) (fun c_1 => ?_) (fun c_1 => ?_)
  · refine lv_iconst (v := nI 0) C.x C.b dX5_over_13 (by decide) ?_
    exact x_iret C hW (by first | rfl | exact z_narb _) (by first | rfl | (simp [c_1]; done) | (rw [if_pos (by omega)]; done) | (rw [if_neg (by omega)]; done) | (exfalso; omega) | ((repeat' split) <;> first | rfl | contradiction | (exfalso; omega))) rfl dX5_over_14
  · refine lv_iconst (v := nI 1) C.x C.b dX5_over_9 (by decide) ?_
    refine lv_goto (tgt := 14) C.x C.b dX5_over_10 (by decide) ?_
    exact x_iret C hW (by first | rfl | exact z_narb _) (by first | rfl | (simp [c_1]; done) | (rw [if_pos (by omega)]; done) | (rw [if_neg (by omega)]; done) | (exfalso; omega) | ((repeat' split) <;> first | rfl | contradiction | (exfalso; omega))) rfl dX5_over_14

set_option maxHeartbeats 4000000 in
set_option maxRecDepth 100000 in
theorem met_X5_throwsOfAll (l : Launch) (E : EV) (h0 k1 k2 k3 k4 k5 k6 k7 k8 : Nat) (x : Int32) (g sp pl tu fr nf : Nat) (w aw my fe be sk cl ex : Nat → Nat) (hpl : pl ≤ 4) : MI l yX5_throwsOfAll wsX5_throwsOfAll { frames := 0, cells := 0, slots := 0, locals := 0 } E [.ref h0] [(h0, .inr (4, [.int x, .int (nI g), .ref k1, .ref k2, .int (nI sp), .int (nI pl), .int (nI tu), .int (nI fr), .int (nI nf), .ref k3, .ref k4, .ref k5, .ref k6, .ref k7, .ref k8])), (k1, aI E 9 w), (k2, aI E 5 aw), (k3, aI E 4 my), (k4, aI E 120 fe), (k5, aI E 44 be), (k6, aI E 4 sk), (k7, aI E 4 cl), (k8, aI E 40 ex)] (nI (suM my pl)) [(h0, .inr (4, [.int x, .int (nI g), .ref k1, .ref k2, .int (nI sp), .int (nI pl), .int (nI tu), .int (nI fr), .int (nI nf), .ref k3, .ref k4, .ref k5, .ref k6, .ref k7, .ref k8])), (k1, aI E 9 w), (k2, aI E 5 aw), (k3, aI E 4 my), (k4, aI E 120 fe), (k5, aI E 44 be), (k6, aI E 4 sk), (k7, aI E 4 cl), (k8, aI E 40 ex)] := by
  refine sI (own := RX5) (cc := cX5_throwsOfAll) (maxL := 3) (ret := (some .int)) rfl (by decide) rfl (Nat.le_of_ble_eq_true rfl) ?_
  intro p e s m below meth c C hnm ls hl hW
  have hl : lv_has ls 3 [(0, .ref h0)] := hl
  have hW : WD E _ s [(h0, .inr (4, [.int x, .int (nI g), .ref k1, .ref k2, .int (nI sp), .int (nI pl), .int (nI tu), .int (nI fr), .int (nI nf), .ref k3, .ref k4, .ref k5, .ref k6, .ref k7, .ref k8])), (k1, aI E 9 w), (k2, aI E 5 aw), (k3, aI E 4 my), (k4, aI E 120 fe), (k5, aI E 44 be), (k6, aI E 4 sk), (k7, aI E 4 cl), (k8, aI E 40 ex)] s.heap [] := hW
  have hinX5 : ∀ w ∈ u_ws RX5 TX5 15, w ∈ wsX5_throwsOfAll := by decide +kernel
  have hf48 : Cond.fieldLink RX5 48 (TX5 5).1 (TX5 5).2.1 (TX5 5).2.2.1 ∈ wsX5_throwsOfAll := by decide +kernel
  have hf23 : Cond.fieldLink RX5 23 (TX5 9).1 (TX5 9).2.1 (TX5 9).2.2.1 ∈ wsX5_throwsOfAll := by decide +kernel
  refine lv_iconst (v := nI 0) C.x C.b dX5_throwsOfAll_0 (by decide) ?_
  refine lv_istore_n (lv' := [(1, .int (nI 0)), (0, .ref h0)]) C.x C.b dX5_throwsOfAll_1 rfl hl (by decide) rfl (fun ls hl => ?_)
  refine lv_iconst (v := nI 0) C.x C.b dX5_throwsOfAll_2 (by decide) ?_
  refine lv_istore_n (lv' := [(2, .int (nI 0)), (1, .int (nI 0)), (0, .ref h0)]) C.x C.b dX5_throwsOfAll_3 rfl hl (by decide) rfl (fun ls hl => ?_)
  have lp_1 : ∀ (n1 i : Nat), i ≤ pl → pl + 1 ≤ i + n1 → ∀ (H : Heap) (locs : List Loc) (ls : Array Slot), WD E (va_A [(h0, .inr (4, [.int x, .int (nI g), .ref k1, .ref k2, .int (nI sp), .int (nI pl), .int (nI tu), .int (nI fr), .int (nI nf), .ref k3, .ref k4, .ref k5, .ref k6, .ref k7, .ref k8])), (k1, aI E 9 w), (k2, aI E 5 aw), (k3, aI E 4 my), (k4, aI E 120 fe), (k5, aI E 44 be), (k6, aI E 4 sk), (k7, aI E 4 cl), (k8, aI E 40 ex)] s.heap.size) s [(h0, .inr (4, [.int x, .int (nI g), .ref k1, .ref k2, .int (nI sp), .int (nI pl), .int (nI tu), .int (nI fr), .int (nI nf), .ref k3, .ref k4, .ref k5, .ref k6, .ref k7, .ref k8])), (k1, aI E 9 w), (k2, aI E 5 aw), (k3, aI E 4 my), (k4, aI E 120 fe), (k5, aI E 44 be), (k6, aI E 4 sk), (k7, aI E 4 cl), (k8, aI E 40 ex)] H locs → lv_has ls 3 [(2, .int (nI i)), (1, .int (nI (suM my i))), (0, .ref h0)] → W p l e ({ frames := 0, cells := 0, slots := 0, locals := 0 } : Room) s m ([.ref h0] : List Value).toArray below meth c H locs 0 0 (QI E [(h0, .inr (4, [.int x, .int (nI g), .ref k1, .ref k2, .int (nI sp), .int (nI pl), .int (nI tu), .int (nI fr), .int (nI nf), .ref k3, .ref k4, .ref k5, .ref k6, .ref k7, .ref k8])), (k1, aI E 9 w), (k2, aI E 5 aw), (k3, aI E 4 my), (k4, aI E 120 fe), (k5, aI E 44 be), (k6, aI E 4 sk), (k7, aI E 4 cl), (k8, aI E 40 ex)] (nI (suM my pl)) [(h0, .inr (4, [.int x, .int (nI g), .ref k1, .ref k2, .int (nI sp), .int (nI pl), .int (nI tu), .int (nI fr), .int (nI nf), .ref k3, .ref k4, .ref k5, .ref k6, .ref k7, .ref k8])), (k1, aI E 9 w), (k2, aI E 5 aw), (k3, aI E 4 my), (k4, aI E 120 fe), (k5, aI E 44 be), (k6, aI E 4 sk), (k7, aI E 4 cl), (k8, aI E 40 ex)] below ([.ref h0] : List Value).toArray s) (F0 m 4 ls []) := by
    intro n1
    induction n1 with
    | zero => intro i hi hn; exact absurd hn (by omega)
    | succ n1 ih1 =>
      intro i hi hn  H locs ls hW hl
      refine lv_iload_n C.x C.b dX5_throwsOfAll_4 rfl (lv_at hl 0 rfl) ?_
      refine lv_aload_n C.x C.b dX5_throwsOfAll_5 rfl (lv_at hl 2 rfl) ?_
      refine x_get C hW 0 4 5 (Cn := RX5) (T := TX5) (N := 15) rfl rfl (by decide) hinX5 hf48 rfl dX5_throwsOfAll_6 ?_
      refine x_icmp_ge C (by omega) (by omega) (tgt := 27) dX5_throwsOfAll_9 (by decide) (fun c_2 => ?_) (fun c_2 => ?_)
      · obtain rfl : i = pl := by omega
        refine lv_iload_n C.x C.b dX5_throwsOfAll_27 rfl (lv_at hl 1 rfl) ?_
        exact x_iret C hW rfl rfl rfl dX5_throwsOfAll_28
      · refine lv_iload_n C.x C.b dX5_throwsOfAll_12 rfl (lv_at hl 1 rfl) ?_
        refine lv_aload_n C.x C.b dX5_throwsOfAll_13 rfl (lv_at hl 2 rfl) ?_
        refine x_get C hW 0 4 9 (Cn := RX5) (T := TX5) (N := 15) rfl rfl (by decide) hinX5 hf23 rfl dX5_throwsOfAll_14 ?_
        refine lv_iload_n C.x C.b dX5_throwsOfAll_17 rfl (lv_at hl 0 rfl) ?_
        refine x_ald C hW 3 i rfl rfl (by omega) (by decide) dX5_throwsOfAll_18 ?_
        refine x_iadd C dX5_throwsOfAll_19 ?_
        refine lv_istore_n (lv' := [(1, .int (nI ((suM my i) + (my i)))), (2, .int (nI i)), (0, .ref h0)]) C.x C.b dX5_throwsOfAll_20 rfl hl (by decide) rfl (fun ls hl => ?_)
        refine lv_iinc (k := 1) (v := nI (i + 1)) (lv' := [(2, .int (nI (i + 1))), (1, .int (nI ((suM my i) + (my i)))), (0, .ref h0)]) C.x C.b dX5_throwsOfAll_21 hl rfl (z_inc i 1) (by decide) rfl (fun ls hl => ?_)
        refine lv_goto (tgt := 4) C.x C.b dX5_throwsOfAll_24 (by decide) ?_
        exact ih1 (i + 1) (by omega) (by omega)  _ _ _ (hW.to rfl) (lv_to (lv_sub (l' := [(2, .int (nI (i + 1))), (1, .int (nI ((suM my i) + (my i)))), (0, .ref h0)]) hl [0, 1, 2] rfl) (by first | rfl | (simp [suM, c_2]; done) | (rw [if_pos (by omega)]; done) | (rw [if_neg (by omega)]; done) | (exfalso; omega) | (simp only [suM]; (repeat' split) <;> first | rfl | contradiction | (exfalso; omega))))
  exact lp_1 (pl + 1) 0 (by omega) (by omega)  _ _ _ (hW.to rfl) (lv_to (lv_sub (l' := [(2, .int (nI 0)), (1, .int (nI 0)), (0, .ref h0)]) hl [0, 1, 2] rfl) rfl)

set_option maxHeartbeats 4000000 in
set_option maxRecDepth 100000 in
theorem met_X5_addPlayer_ok (l : Launch) (E : EV) (h0 k1 k2 k3 k4 k5 k6 k7 k8 : Nat) (x : Int32) (g sp pl tu fr nf : Nat) (w aw my fe be sk cl ex : Nat → Nat) (hp4 : pl < 4) (hs : suM my pl = 0) (hmy : ∀ j, my j ≤ 30) : MI l yX5_addPlayer wsX5_addPlayer { frames := 1, cells := 0, slots := 0, locals := 22 } E [.ref h0] [(h0, .inr (4, [.int x, .int (nI g), .ref k1, .ref k2, .int (nI sp), .int (nI pl), .int (nI tu), .int (nI fr), .int (nI nf), .ref k3, .ref k4, .ref k5, .ref k6, .ref k7, .ref k8])), (k1, aI E 9 w), (k2, aI E 5 aw), (k3, aI E 4 my), (k4, aI E 120 fe), (k5, aI E 44 be), (k6, aI E 4 sk), (k7, aI E 4 cl), (k8, aI E 40 ex)] (nI pl) [(h0, .inr (4, [.int (nI 0), .int (nI g), .ref k1, .ref k2, .int (nI sp), .int (nI (pl + 1)), .int (nI tu), .int (nI fr), .int (nI nf), .ref k3, .ref k4, .ref k5, .ref k6, .ref k7, .ref k8])), (k1, aI E 9 w), (k2, aI E 5 aw), (k3, aI E 4 my), (k4, aI E 120 fe), (k5, aI E 44 be), (k6, aI E 4 sk), (k7, aI E 4 cl), (k8, aI E 40 ex)] := by
  refine sI (own := RX5) (cc := cX5_addPlayer) (maxL := 1) (ret := (some .int)) rfl (by decide) rfl (Nat.le_of_ble_eq_true rfl) ?_
  intro p e s m below meth c C hnm ls hl hW
  have hl : lv_has ls 1 [(0, .ref h0)] := hl
  have hW : WD E _ s [(h0, .inr (4, [.int x, .int (nI g), .ref k1, .ref k2, .int (nI sp), .int (nI pl), .int (nI tu), .int (nI fr), .int (nI nf), .ref k3, .ref k4, .ref k5, .ref k6, .ref k7, .ref k8])), (k1, aI E 9 w), (k2, aI E 5 aw), (k3, aI E 4 my), (k4, aI E 120 fe), (k5, aI E 44 be), (k6, aI E 4 sk), (k7, aI E 4 cl), (k8, aI E 40 ex)] s.heap [] := hW
  have hinX5 : ∀ w ∈ u_ws RX5 TX5 15, w ∈ wsX5_addPlayer := by decide +kernel
  have hf41 : Cond.fieldLink RX5 41 (TX5 0).1 (TX5 0).2.1 (TX5 0).2.2.1 ∈ wsX5_addPlayer := by decide +kernel
  have hf48 : Cond.fieldLink RX5 48 (TX5 5).1 (TX5 5).2.1 (TX5 5).2.2.1 ∈ wsX5_addPlayer := by decide +kernel
  refine lv_aload_n C.x C.b dX5_addPlayer_0 rfl (lv_at hl 0 rfl) ?_
  refine lv_iconst (v := nI 0) C.x C.b dX5_addPlayer_1 (by decide) ?_
  refine x_put C hW 0 4 0 (Cn := RX5) (T := TX5) (N := 15) (w' := [(h0, .inr (4, [.int (nI 0), .int (nI g), .ref k1, .ref k2, .int (nI sp), .int (nI pl), .int (nI tu), .int (nI fr), .int (nI nf), .ref k3, .ref k4, .ref k5, .ref k6, .ref k7, .ref k8])), (k1, aI E 9 w), (k2, aI E 5 aw), (k3, aI E 4 my), (k4, aI E 120 fe), (k5, aI E 44 be), (k6, aI E 4 sk), (k7, aI E 4 cl), (k8, aI E 40 ex)]) tyX5 tyX5_ok nmX5 rfl rfl (by decide) hinX5 hf41 rfl (by decide +kernel) (Nat.le_of_ble_eq_true rfl) dX5_addPlayer_2 rfl (fun H locs hW => ?_)
  refine lv_aload_n C.x C.b dX5_addPlayer_5 rfl (lv_at hl 0 rfl) ?_
  refine x_get C hW 0 4 5 (Cn := RX5) (T := TX5) (N := 15) rfl rfl (by decide) hinX5 hf48 rfl dX5_addPlayer_6 ?_
  refine lv_iconst (v := nI 4) C.x C.b dX5_addPlayer_9 (by decide) ?_
  refine x_icmp_eq C (by omega) (by omega) (tgt := 20) dX5_addPlayer_10 (by decide) (fun c_1 => ?_) (fun c_1 => ?_)
  · exact absurd c_1 (by omega)
  · refine lv_aload_n C.x C.b dX5_addPlayer_13 rfl (lv_at hl 0 rfl) ?_
    refine x_cVI C hW (As := []) (rest := []) (wr := []) (wn := [(h0, .inr (4, [.int (nI 0), .int (nI g), .ref k1, .ref k2, .int (nI sp), .int (nI pl), .int (nI tu), .int (nI fr), .int (nI nf), .ref k3, .ref k4, .ref k5, .ref k6, .ref k7, .ref k8])), (k1, aI E 9 w), (k2, aI E 5 aw), (k3, aI E 4 my), (k4, aI E 120 fe), (k5, aI E 44 be), (k6, aI E 4 sk), (k7, aI E 4 cl), (k8, aI E 40 ex)]) (Cn := RX5) (met_X5_throwsOfAll l E h0 k1 k2 k3 k4 k5 k6 k7 k8 (nI 0) g sp pl tu fr nf w aw my fe be sk cl ex (by omega)) gX5_addPlayer_X5_throwsOfAll rfl 0 rfl ⟨rfl, rfl⟩ ⟨rfl, by decide +kernel, by decide +kernel, by decide +kernel⟩ ⟨Nat.le_of_ble_eq_true rfl, Nat.le_of_ble_eq_true rfl⟩ [0, 1, 2, 3, 4, 5, 6, 7, 8] [] [0, 1, 2, 3, 4, 5, 6, 7, 8] rfl (by decide) rfl (by decide) (by decide) rfl (by decide) 0 4 rfl rfl hl.1 rfl (Nat.le_of_ble_eq_true rfl) dX5_addPlayer_14 ⟨Nat.zero_le _, Nat.zero_le _⟩ (fun H locs hW => ?_)
    refine x_if_le C (by have := suM_le hmy pl; omega) (tgt := 26) dX5_addPlayer_17 (by decide) (fun c_2 => ?_) (fun c_2 => ?_)
    · refine lv_aload_n C.x C.b dX5_addPlayer_26 rfl (lv_at hl 0 rfl) ?_
      refine lv_dup C.x C.b dX5_addPlayer_27 rfl ?_
      refine x_get C hW 0 4 5 (Cn := RX5) (T := TX5) (N := 15) rfl rfl (by decide) hinX5 hf48 rfl dX5_addPlayer_28 ?_
      refine lv_iconst (v := nI 1) C.x C.b dX5_addPlayer_31 (by decide) ?_
      refine x_iadd C dX5_addPlayer_32 ?_
      refine x_put C hW 0 4 5 (Cn := RX5) (T := TX5) (N := 15) (w' := [(h0, .inr (4, [.int (nI 0), .int (nI g), .ref k1, .ref k2, .int (nI sp), .int (nI (pl + 1)), .int (nI tu), .int (nI fr), .int (nI nf), .ref k3, .ref k4, .ref k5, .ref k6, .ref k7, .ref k8])), (k1, aI E 9 w), (k2, aI E 5 aw), (k3, aI E 4 my), (k4, aI E 120 fe), (k5, aI E 44 be), (k6, aI E 4 sk), (k7, aI E 4 cl), (k8, aI E 40 ex)]) tyX5 tyX5_ok nmX5 rfl rfl (by decide) hinX5 hf48 rfl (by decide +kernel) (Nat.le_of_ble_eq_true rfl) dX5_addPlayer_33 rfl (fun H locs hW => ?_)
      refine lv_aload_n C.x C.b dX5_addPlayer_36 rfl (lv_at hl 0 rfl) ?_
      refine x_get C hW 0 4 5 (Cn := RX5) (T := TX5) (N := 15) rfl rfl (by decide) hinX5 hf48 rfl dX5_addPlayer_37 ?_
      refine lv_iconst (v := nI 1) C.x C.b dX5_addPlayer_40 (by decide) ?_
      refine x_isub C (by omega) dX5_addPlayer_41 ?_
      exact x_iret C hW rfl (by first | rfl | (simp [c_1, c_2]; done) | (rw [if_pos (by omega)]; done) | (rw [if_neg (by omega)]; done) | (exfalso; omega) | ((repeat' split) <;> first | rfl | contradiction | (exfalso; omega))) rfl dX5_addPlayer_42
    · exact absurd (by omega) c_2

set_option maxHeartbeats 4000000 in
set_option maxRecDepth 100000 in
theorem met_X5_addPlayer_bad (l : Launch) (E : EV) (h0 k1 k2 k3 k4 k5 k6 k7 k8 : Nat) (x : Int32) (g sp pl tu fr nf : Nat) (w aw my fe be sk cl ex : Nat → Nat) (hb : pl = 4 ∨ 0 < suM my pl) (hpl : pl ≤ 4) (hmy : ∀ j, my j ≤ 30) : MI l yX5_addPlayer wsX5_addPlayer { frames := 1, cells := 0, slots := 0, locals := 22 } E [.ref h0] [(h0, .inr (4, [.int x, .int (nI g), .ref k1, .ref k2, .int (nI sp), .int (nI pl), .int (nI tu), .int (nI fr), .int (nI nf), .ref k3, .ref k4, .ref k5, .ref k6, .ref k7, .ref k8])), (k1, aI E 9 w), (k2, aI E 5 aw), (k3, aI E 4 my), (k4, aI E 120 fe), (k5, aI E 44 be), (k6, aI E 4 sk), (k7, aI E 4 cl), (k8, aI E 40 ex)] (nI 0) [(h0, .inr (4, [.int (nI 1), .int (nI g), .ref k1, .ref k2, .int (nI sp), .int (nI pl), .int (nI tu), .int (nI fr), .int (nI nf), .ref k3, .ref k4, .ref k5, .ref k6, .ref k7, .ref k8])), (k1, aI E 9 w), (k2, aI E 5 aw), (k3, aI E 4 my), (k4, aI E 120 fe), (k5, aI E 44 be), (k6, aI E 4 sk), (k7, aI E 4 cl), (k8, aI E 40 ex)] := by
  refine sI (own := RX5) (cc := cX5_addPlayer) (maxL := 1) (ret := (some .int)) rfl (by decide) rfl (Nat.le_of_ble_eq_true rfl) ?_
  intro p e s m below meth c C hnm ls hl hW
  have hl : lv_has ls 1 [(0, .ref h0)] := hl
  have hW : WD E _ s [(h0, .inr (4, [.int x, .int (nI g), .ref k1, .ref k2, .int (nI sp), .int (nI pl), .int (nI tu), .int (nI fr), .int (nI nf), .ref k3, .ref k4, .ref k5, .ref k6, .ref k7, .ref k8])), (k1, aI E 9 w), (k2, aI E 5 aw), (k3, aI E 4 my), (k4, aI E 120 fe), (k5, aI E 44 be), (k6, aI E 4 sk), (k7, aI E 4 cl), (k8, aI E 40 ex)] s.heap [] := hW
  have hinX5 : ∀ w ∈ u_ws RX5 TX5 15, w ∈ wsX5_addPlayer := by decide +kernel
  have hf41 : Cond.fieldLink RX5 41 (TX5 0).1 (TX5 0).2.1 (TX5 0).2.2.1 ∈ wsX5_addPlayer := by decide +kernel
  have hf48 : Cond.fieldLink RX5 48 (TX5 5).1 (TX5 5).2.1 (TX5 5).2.2.1 ∈ wsX5_addPlayer := by decide +kernel
  refine lv_aload_n C.x C.b dX5_addPlayer_0 rfl (lv_at hl 0 rfl) ?_
  refine lv_iconst (v := nI 0) C.x C.b dX5_addPlayer_1 (by decide) ?_
  refine x_put C hW 0 4 0 (Cn := RX5) (T := TX5) (N := 15) (w' := [(h0, .inr (4, [.int (nI 0), .int (nI g), .ref k1, .ref k2, .int (nI sp), .int (nI pl), .int (nI tu), .int (nI fr), .int (nI nf), .ref k3, .ref k4, .ref k5, .ref k6, .ref k7, .ref k8])), (k1, aI E 9 w), (k2, aI E 5 aw), (k3, aI E 4 my), (k4, aI E 120 fe), (k5, aI E 44 be), (k6, aI E 4 sk), (k7, aI E 4 cl), (k8, aI E 40 ex)]) tyX5 tyX5_ok nmX5 rfl rfl (by decide) hinX5 hf41 rfl (by decide +kernel) (Nat.le_of_ble_eq_true rfl) dX5_addPlayer_2 rfl (fun H locs hW => ?_)
  refine lv_aload_n C.x C.b dX5_addPlayer_5 rfl (lv_at hl 0 rfl) ?_
  refine x_get C hW 0 4 5 (Cn := RX5) (T := TX5) (N := 15) rfl rfl (by decide) hinX5 hf48 rfl dX5_addPlayer_6 ?_
  refine lv_iconst (v := nI 4) C.x C.b dX5_addPlayer_9 (by decide) ?_
  refine x_icmp_eq C (by omega) (by omega) (tgt := 20) dX5_addPlayer_10 (by decide) (fun c_1 => ?_) (fun c_1 => ?_)
  · refine lv_aload_n C.x C.b dX5_addPlayer_20 rfl (lv_at hl 0 rfl) ?_
    refine lv_iconst (v := nI 1) C.x C.b dX5_addPlayer_21 (by decide) ?_
    refine x_cVI C hW (As := [.int (nI 1)]) (rest := []) (wr := []) (wn := [(h0, .inr (4, [.int (nI 1), .int (nI g), .ref k1, .ref k2, .int (nI sp), .int (nI pl), .int (nI tu), .int (nI fr), .int (nI nf), .ref k3, .ref k4, .ref k5, .ref k6, .ref k7, .ref k8])), (k1, aI E 9 w), (k2, aI E 5 aw), (k3, aI E 4 my), (k4, aI E 120 fe), (k5, aI E 44 be), (k6, aI E 4 sk), (k7, aI E 4 cl), (k8, aI E 40 ex)]) (Cn := RX5) (met_X5_no l E h0 k1 k2 k3 k4 k5 k6 k7 k8 (nI 0) g sp pl tu fr nf w aw my fe be sk cl ex 1) gX5_addPlayer_X5_no rfl 1 rfl ⟨rfl, rfl⟩ ⟨rfl, by decide +kernel, by decide +kernel, by decide +kernel⟩ ⟨Nat.le_of_ble_eq_true rfl, Nat.le_of_ble_eq_true rfl⟩ [0, 1, 2, 3, 4, 5, 6, 7, 8] [] [0, 1, 2, 3, 4, 5, 6, 7, 8] rfl (by decide) rfl (by decide) (by decide) rfl (by decide) 0 4 rfl rfl hl.1 rfl (Nat.le_of_ble_eq_true rfl) dX5_addPlayer_22 ⟨Nat.zero_le _, Nat.zero_le _⟩ (fun H locs hW => ?_)
    exact x_iret C hW rfl rfl rfl dX5_addPlayer_25
  · refine lv_aload_n C.x C.b dX5_addPlayer_13 rfl (lv_at hl 0 rfl) ?_
    refine x_cVI C hW (As := []) (rest := []) (wr := []) (wn := [(h0, .inr (4, [.int (nI 0), .int (nI g), .ref k1, .ref k2, .int (nI sp), .int (nI pl), .int (nI tu), .int (nI fr), .int (nI nf), .ref k3, .ref k4, .ref k5, .ref k6, .ref k7, .ref k8])), (k1, aI E 9 w), (k2, aI E 5 aw), (k3, aI E 4 my), (k4, aI E 120 fe), (k5, aI E 44 be), (k6, aI E 4 sk), (k7, aI E 4 cl), (k8, aI E 40 ex)]) (Cn := RX5) (met_X5_throwsOfAll l E h0 k1 k2 k3 k4 k5 k6 k7 k8 (nI 0) g sp pl tu fr nf w aw my fe be sk cl ex (by omega)) gX5_addPlayer_X5_throwsOfAll rfl 0 rfl ⟨rfl, rfl⟩ ⟨rfl, by decide +kernel, by decide +kernel, by decide +kernel⟩ ⟨Nat.le_of_ble_eq_true rfl, Nat.le_of_ble_eq_true rfl⟩ [0, 1, 2, 3, 4, 5, 6, 7, 8] [] [0, 1, 2, 3, 4, 5, 6, 7, 8] rfl (by decide) rfl (by decide) (by decide) rfl (by decide) 0 4 rfl rfl hl.1 rfl (Nat.le_of_ble_eq_true rfl) dX5_addPlayer_14 ⟨Nat.zero_le _, Nat.zero_le _⟩ (fun H locs hW => ?_)
    refine x_if_le C (by have := suM_le hmy pl; omega) (tgt := 26) dX5_addPlayer_17 (by decide) (fun c_2 => ?_) (fun c_2 => ?_)
    · exact absurd c_2 (by omega)
    · refine lv_aload_n C.x C.b dX5_addPlayer_20 rfl (lv_at hl 0 rfl) ?_
      refine lv_iconst (v := nI 1) C.x C.b dX5_addPlayer_21 (by decide) ?_
      refine x_cVI C hW (As := [.int (nI 1)]) (rest := []) (wr := []) (wn := [(h0, .inr (4, [.int (nI 1), .int (nI g), .ref k1, .ref k2, .int (nI sp), .int (nI pl), .int (nI tu), .int (nI fr), .int (nI nf), .ref k3, .ref k4, .ref k5, .ref k6, .ref k7, .ref k8])), (k1, aI E 9 w), (k2, aI E 5 aw), (k3, aI E 4 my), (k4, aI E 120 fe), (k5, aI E 44 be), (k6, aI E 4 sk), (k7, aI E 4 cl), (k8, aI E 40 ex)]) (Cn := RX5) (met_X5_no l E h0 k1 k2 k3 k4 k5 k6 k7 k8 (nI 0) g sp pl tu fr nf w aw my fe be sk cl ex 1) gX5_addPlayer_X5_no rfl 1 rfl ⟨rfl, rfl⟩ ⟨rfl, by decide +kernel, by decide +kernel, by decide +kernel⟩ ⟨Nat.le_of_ble_eq_true rfl, Nat.le_of_ble_eq_true rfl⟩ [0, 1, 2, 3, 4, 5, 6, 7, 8] [] [0, 1, 2, 3, 4, 5, 6, 7, 8] rfl (by decide) rfl (by decide) (by decide) rfl (by decide) 0 4 rfl rfl hl.1 rfl (Nat.le_of_ble_eq_true rfl) dX5_addPlayer_22 ⟨Nat.zero_le _, Nat.zero_le _⟩ (fun H locs hW => ?_)
      exact x_iret C hW rfl rfl rfl dX5_addPlayer_25

set_option maxHeartbeats 4000000 in
set_option maxRecDepth 100000 in
theorem met_X5_sum (l : Launch) (E : EV) (h0 k1 k2 k3 k4 k5 k6 k7 k8 : Nat) (x : Int32) (g sp pl tu fr nf : Nat) (w aw my fe be sk cl ex : Nat → Nat) (q a t : Nat) (hq : q < 4) (hmy : ∀ j, my j ≤ 30) (hla : a ≤ 100) (ht : t ≤ 100) : MI l yX5_sum wsX5_sum { frames := 1, cells := 0, slots := 0, locals := 21 } E [.ref h0, .int (nI q), .int (nI a), .int (nI t)] [(h0, .inr (4, [.int x, .int (nI g), .ref k1, .ref k2, .int (nI sp), .int (nI pl), .int (nI tu), .int (nI fr), .int (nI nf), .ref k3, .ref k4, .ref k5, .ref k6, .ref k7, .ref k8])), (k1, aI E 9 w), (k2, aI E 5 aw), (k3, aI E 4 my), (k4, aI E 120 fe), (k5, aI E 44 be), (k6, aI E 4 sk), (k7, aI E 4 cl), (k8, aI E 40 ex)] (nI (smQ my fe q a t)) [(h0, .inr (4, [.int x, .int (nI g), .ref k1, .ref k2, .int (nI sp), .int (nI pl), .int (nI tu), .int (nI fr), .int (nI nf), .ref k3, .ref k4, .ref k5, .ref k6, .ref k7, .ref k8])), (k1, aI E 9 w), (k2, aI E 5 aw), (k3, aI E 4 my), (k4, aI E 120 fe), (k5, aI E 44 be), (k6, aI E 4 sk), (k7, aI E 4 cl), (k8, aI E 40 ex)] := by
  refine sI (own := RX5) (cc := cX5_sum) (maxL := 6) (ret := (some .int)) rfl (by decide) rfl (Nat.le_of_ble_eq_true rfl) ?_
  intro p e s m below meth c C hnm ls hl hW
  have hl : lv_has ls 6 [(0, .ref h0), (1, .int (nI q)), (2, .int (nI a)), (3, .int (nI t))] := hl
  have hW : WD E _ s [(h0, .inr (4, [.int x, .int (nI g), .ref k1, .ref k2, .int (nI sp), .int (nI pl), .int (nI tu), .int (nI fr), .int (nI nf), .ref k3, .ref k4, .ref k5, .ref k6, .ref k7, .ref k8])), (k1, aI E 9 w), (k2, aI E 5 aw), (k3, aI E 4 my), (k4, aI E 120 fe), (k5, aI E 44 be), (k6, aI E 4 sk), (k7, aI E 4 cl), (k8, aI E 40 ex)] s.heap [] := hW
  have hinX5 : ∀ w ∈ u_ws RX5 TX5 15, w ∈ wsX5_sum := by decide +kernel
  have hf23 : Cond.fieldLink RX5 23 (TX5 9).1 (TX5 9).2.1 (TX5 9).2.2.1 ∈ wsX5_sum := by decide +kernel
  have hf26 : Cond.fieldLink RX5 26 (TX5 10).1 (TX5 10).2.1 (TX5 10).2.2.1 ∈ wsX5_sum := by decide +kernel
  have h9 := hmy q
  refine lv_iconst (v := nI 0) C.x C.b dX5_sum_0 (by decide) ?_
  refine lv_istore (lv' := [(4, .int (nI 0)), (0, .ref h0), (1, .int (nI q)), (2, .int (nI a)), (3, .int (nI t))]) C.x C.b dX5_sum_1 hl (by decide) rfl (fun ls hl => ?_)
  refine lv_iload_n C.x C.b dX5_sum_3 rfl (lv_at hl 3 rfl) ?_
  refine lv_istore (lv' := [(5, .int (nI a)), (4, .int (nI 0)), (0, .ref h0), (1, .int (nI q)), (2, .int (nI a)), (3, .int (nI t))]) C.x C.b dX5_sum_4 hl (by decide) rfl (fun ls hl => ?_)
  have lp_1 : ∀ (n1 k : Nat), k ≤ (min t (my q) - a) → (min t (my q) - a) + 1 ≤ k + n1 → ∀ (H : Heap) (locs : List Loc) (ls : Array Slot), WD E (va_A [(h0, .inr (4, [.int x, .int (nI g), .ref k1, .ref k2, .int (nI sp), .int (nI pl), .int (nI tu), .int (nI fr), .int (nI nf), .ref k3, .ref k4, .ref k5, .ref k6, .ref k7, .ref k8])), (k1, aI E 9 w), (k2, aI E 5 aw), (k3, aI E 4 my), (k4, aI E 120 fe), (k5, aI E 44 be), (k6, aI E 4 sk), (k7, aI E 4 cl), (k8, aI E 40 ex)] s.heap.size) s [(h0, .inr (4, [.int x, .int (nI g), .ref k1, .ref k2, .int (nI sp), .int (nI pl), .int (nI tu), .int (nI fr), .int (nI nf), .ref k3, .ref k4, .ref k5, .ref k6, .ref k7, .ref k8])), (k1, aI E 9 w), (k2, aI E 5 aw), (k3, aI E 4 my), (k4, aI E 120 fe), (k5, aI E 44 be), (k6, aI E 4 sk), (k7, aI E 4 cl), (k8, aI E 40 ex)] H locs → lv_has ls 6 [(5, .int (nI (a + k))), (4, .int (nI (smN (fun j => fe (30 * q + j)) a k))), (0, .ref h0), (1, .int (nI q)), (2, .int (nI a)), (3, .int (nI t))] → W p l e ({ frames := 1, cells := 0, slots := 0, locals := 21 } : Room) s m ([.ref h0, .int (nI q), .int (nI a), .int (nI t)] : List Value).toArray below meth c H locs 0 0 (QI E [(h0, .inr (4, [.int x, .int (nI g), .ref k1, .ref k2, .int (nI sp), .int (nI pl), .int (nI tu), .int (nI fr), .int (nI nf), .ref k3, .ref k4, .ref k5, .ref k6, .ref k7, .ref k8])), (k1, aI E 9 w), (k2, aI E 5 aw), (k3, aI E 4 my), (k4, aI E 120 fe), (k5, aI E 44 be), (k6, aI E 4 sk), (k7, aI E 4 cl), (k8, aI E 40 ex)] (nI (smQ my fe q a t)) [(h0, .inr (4, [.int x, .int (nI g), .ref k1, .ref k2, .int (nI sp), .int (nI pl), .int (nI tu), .int (nI fr), .int (nI nf), .ref k3, .ref k4, .ref k5, .ref k6, .ref k7, .ref k8])), (k1, aI E 9 w), (k2, aI E 5 aw), (k3, aI E 4 my), (k4, aI E 120 fe), (k5, aI E 44 be), (k6, aI E 4 sk), (k7, aI E 4 cl), (k8, aI E 40 ex)] below ([.ref h0, .int (nI q), .int (nI a), .int (nI t)] : List Value).toArray s) (F0 m 6 ls []) := by
    intro n1
    induction n1 with
    | zero => intro k hk hn; exact absurd hn (by omega)
    | succ n1 ih1 =>
      intro k hk hn  H locs ls hW hl
      refine lv_iload C.x C.b dX5_sum_6 (lv_at hl 0 rfl) ?_
      refine lv_iload_n C.x C.b dX5_sum_8 rfl (lv_at hl 5 rfl) ?_
      refine lv_aload_n C.x C.b dX5_sum_9 rfl (lv_at hl 2 rfl) ?_
      refine x_get C hW 0 4 9 (Cn := RX5) (T := TX5) (N := 15) rfl rfl (by decide) hinX5 hf23 rfl dX5_sum_10 ?_
      refine lv_iload_n C.x C.b dX5_sum_13 rfl (lv_at hl 3 rfl) ?_
      refine x_ald C hW 3 q rfl rfl (by omega) (by decide) dX5_sum_14 ?_
      refine va_mmin C.x C.b (C.2.2.1.trans hl.1.symm) C.ow (C.ts (.methodLink RX5 83 Lib.Math.min.name) (by decide +kernel)) (C.ts (.static Lib.Math.min.name) (by decide +kernel)) (C.ts (.initialized "java/lang/Math") (by decide +kernel)) (C.ts (.code Lib.Math.min.name Lib.Math.min.code 2 (some .int)) (by decide +kernel)) (Nat.le_of_ble_eq_true rfl) (Nat.le_of_ble_eq_true rfl) (Nat.zero_le _) (Nat.zero_le _) dX5_sum_15 ?_
      refine x_toi (y := nI (min t (my q))) (z_min (by omega) (by omega)) ?_
      refine x_icmp_ge C (by omega) (by omega) (tgt := 44) dX5_sum_18 (by decide) (fun c_2 => ?_) (fun c_2 => ?_)
      · obtain rfl : k = min t (my q) - a := by omega
        refine lv_iload C.x C.b dX5_sum_44 (lv_at hl 1 rfl) ?_
        exact x_iret C hW rfl (by first | rfl | (simp [c_2]; done) | (rw [if_pos (by omega)]; done) | (rw [if_neg (by omega)]; done) | (exfalso; omega) | ((repeat' split) <;> first | rfl | contradiction | (exfalso; omega))) rfl dX5_sum_46
      · refine lv_iload C.x C.b dX5_sum_21 (lv_at hl 1 rfl) ?_
        refine lv_aload_n C.x C.b dX5_sum_23 rfl (lv_at hl 2 rfl) ?_
        refine x_get C hW 0 4 10 (Cn := RX5) (T := TX5) (N := 15) rfl rfl (by decide) hinX5 hf26 rfl dX5_sum_24 ?_
        refine lv_bipush (v := nI 30) C.x C.b dX5_sum_27 (by decide) ?_
        refine lv_iload_n C.x C.b dX5_sum_29 rfl (lv_at hl 3 rfl) ?_
        refine x_imul C dX5_sum_30 ?_
        refine lv_iload C.x C.b dX5_sum_31 (lv_at hl 0 rfl) ?_
        refine x_iadd C dX5_sum_33 ?_
        refine x_ald C hW 4 ((30 * q) + (a + k)) rfl rfl (by omega) (by decide) dX5_sum_34 ?_
        refine x_iadd C dX5_sum_35 ?_
        refine lv_istore (lv' := [(4, .int (nI ((smN (fun j => fe (30 * q + j)) a k) + (fe ((30 * q) + (a + k)))))), (5, .int (nI (a + k))), (0, .ref h0), (1, .int (nI q)), (2, .int (nI a)), (3, .int (nI t))]) C.x C.b dX5_sum_36 hl (by decide) rfl (fun ls hl => ?_)
        refine lv_iinc (k := 1) (v := nI ((a + k) + 1)) (lv' := [(5, .int (nI ((a + k) + 1))), (4, .int (nI ((smN (fun j => fe (30 * q + j)) a k) + (fe ((30 * q) + (a + k)))))), (0, .ref h0), (1, .int (nI q)), (2, .int (nI a)), (3, .int (nI t))]) C.x C.b dX5_sum_38 hl rfl (z_inc (a + k) 1) (by decide) rfl (fun ls hl => ?_)
        refine lv_goto (tgt := 6) C.x C.b dX5_sum_41 (by decide) ?_
        exact ih1 (k + 1) (by omega) (by omega)  _ _ _ (hW.to rfl) (lv_to (lv_sub (l' := [(5, .int (nI ((a + k) + 1))), (4, .int (nI ((smN (fun j => fe (30 * q + j)) a k) + (fe ((30 * q) + (a + k)))))), (0, .ref h0), (1, .int (nI q)), (2, .int (nI a)), (3, .int (nI t))]) hl [0, 1, 2, 3, 4, 5] rfl) (by first | rfl | (simp [c_2]; done) | (rw [if_pos (by omega)]; done) | (rw [if_neg (by omega)]; done) | (exfalso; omega) | ((repeat' split) <;> first | rfl | contradiction | (exfalso; omega))))
  exact lp_1 ((min t (my q) - a) + 1) 0 (by omega) (by omega)  _ _ _ (hW.to rfl) (lv_to (lv_sub (l' := [(5, .int (nI a)), (4, .int (nI 0)), (0, .ref h0), (1, .int (nI q)), (2, .int (nI a)), (3, .int (nI t))]) hl [0, 1, 2, 3, 4, 5] rfl) rfl)

set_option maxHeartbeats 4000000 in
set_option maxRecDepth 100000 in
theorem met_X5_begin (l : Launch) (E : EV) (h0 k1 k2 k3 k4 k5 k6 k7 k8 : Nat) (x : Int32) (g sp pl tu fr nf : Nat) (w aw my fe be sk cl ex : Nat → Nat) (q f : Nat) (hq : q < 4) (hf : f ≤ 10) : MI l yX5_begin wsX5_begin { frames := 0, cells := 0, slots := 0, locals := 0 } E [.ref h0, .int (nI q), .int (nI f)] [(h0, .inr (4, [.int x, .int (nI g), .ref k1, .ref k2, .int (nI sp), .int (nI pl), .int (nI tu), .int (nI fr), .int (nI nf), .ref k3, .ref k4, .ref k5, .ref k6, .ref k7, .ref k8])), (k1, aI E 9 w), (k2, aI E 5 aw), (k3, aI E 4 my), (k4, aI E 120 fe), (k5, aI E 44 be), (k6, aI E 4 sk), (k7, aI E 4 cl), (k8, aI E 40 ex)] (nI (be (11 * q + f))) [(h0, .inr (4, [.int x, .int (nI g), .ref k1, .ref k2, .int (nI sp), .int (nI pl), .int (nI tu), .int (nI fr), .int (nI nf), .ref k3, .ref k4, .ref k5, .ref k6, .ref k7, .ref k8])), (k1, aI E 9 w), (k2, aI E 5 aw), (k3, aI E 4 my), (k4, aI E 120 fe), (k5, aI E 44 be), (k6, aI E 4 sk), (k7, aI E 4 cl), (k8, aI E 40 ex)] := by
  refine sI (own := RX5) (cc := cX5_begin) (maxL := 3) (ret := (some .int)) rfl (by decide) rfl (Nat.le_of_ble_eq_true rfl) ?_
  intro p e s m below meth c C hnm ls hl hW
  have hl : lv_has ls 3 [(0, .ref h0), (1, .int (nI q)), (2, .int (nI f))] := hl
  have hW : WD E _ s [(h0, .inr (4, [.int x, .int (nI g), .ref k1, .ref k2, .int (nI sp), .int (nI pl), .int (nI tu), .int (nI fr), .int (nI nf), .ref k3, .ref k4, .ref k5, .ref k6, .ref k7, .ref k8])), (k1, aI E 9 w), (k2, aI E 5 aw), (k3, aI E 4 my), (k4, aI E 120 fe), (k5, aI E 44 be), (k6, aI E 4 sk), (k7, aI E 4 cl), (k8, aI E 40 ex)] s.heap [] := hW
  have hinX5 : ∀ w ∈ u_ws RX5 TX5 15, w ∈ wsX5_begin := by decide +kernel
  have hf29 : Cond.fieldLink RX5 29 (TX5 11).1 (TX5 11).2.1 (TX5 11).2.2.1 ∈ wsX5_begin := by decide +kernel
  refine lv_aload_n C.x C.b dX5_begin_0 rfl (lv_at hl 0 rfl) ?_
  refine x_get C hW 0 4 11 (Cn := RX5) (T := TX5) (N := 15) rfl rfl (by decide) hinX5 hf29 rfl dX5_begin_1 ?_
  refine lv_bipush (v := nI 11) C.x C.b dX5_begin_4 (by decide) ?_
  refine lv_iload_n C.x C.b dX5_begin_6 rfl (lv_at hl 1 rfl) ?_
  refine x_imul C dX5_begin_7 ?_
  refine lv_iload_n C.x C.b dX5_begin_8 rfl (lv_at hl 2 rfl) ?_
  refine x_iadd C dX5_begin_9 ?_
  refine x_ald C hW 5 ((11 * q) + f) rfl rfl (by omega) (by decide) dX5_begin_10 ?_
  exact x_iret C hW rfl (by first | rfl | (simp []; done) | (rw [if_pos (by omega)]; done) | (rw [if_neg (by omega)]; done) | (exfalso; omega) | ((repeat' split) <;> first | rfl | contradiction | (exfalso; omega))) rfl dX5_begin_11

set_option maxHeartbeats 4000000 in
set_option maxRecDepth 100000 in
theorem met_X5_points (l : Launch) (E : EV) (h0 k1 k2 k3 k4 k5 k6 k7 k8 : Nat) (x : Int32) (g sp pl tu fr nf : Nat) (w aw my fe be sk cl ex : Nat → Nat) (q f : Nat) (hq : q < 4) (hf : f < 10) (hfr : fr ≤ 10) (htu : tu < 4) (hmy : ∀ j, my j ≤ 30) (hbe : ∀ j, be j ≤ 30) (hex : ∀ j, ex j ≤ 2) : MI l yX5_points wsX5_points { frames := 2, cells := 0, slots := 0, locals := 46 } E [.ref h0, .int (nI q), .int (nI f)] [(h0, .inr (4, [.int x, .int (nI g), .ref k1, .ref k2, .int (nI sp), .int (nI pl), .int (nI tu), .int (nI fr), .int (nI nf), .ref k3, .ref k4, .ref k5, .ref k6, .ref k7, .ref k8])), (k1, aI E 9 w), (k2, aI E 5 aw), (k3, aI E 4 my), (k4, aI E 120 fe), (k5, aI E 44 be), (k6, aI E 4 sk), (k7, aI E 4 cl), (k8, aI E 40 ex)] (nI (poM my fe be ex tu fr q f)) [(h0, .inr (4, [.int x, .int (nI g), .ref k1, .ref k2, .int (nI sp), .int (nI pl), .int (nI tu), .int (nI fr), .int (nI nf), .ref k3, .ref k4, .ref k5, .ref k6, .ref k7, .ref k8])), (k1, aI E 9 w), (k2, aI E 5 aw), (k3, aI E 4 my), (k4, aI E 120 fe), (k5, aI E 44 be), (k6, aI E 4 sk), (k7, aI E 4 cl), (k8, aI E 40 ex)] := by
  refine sI (own := RX5) (cc := cX5_points) (maxL := 5) (ret := (some .int)) rfl (by decide) rfl (Nat.le_of_ble_eq_true rfl) ?_
  intro p e s m below meth c C hnm ls hl hW
  have hl : lv_has ls 5 [(0, .ref h0), (1, .int (nI q)), (2, .int (nI f))] := hl
  have hW : WD E _ s [(h0, .inr (4, [.int x, .int (nI g), .ref k1, .ref k2, .int (nI sp), .int (nI pl), .int (nI tu), .int (nI fr), .int (nI nf), .ref k3, .ref k4, .ref k5, .ref k6, .ref k7, .ref k8])), (k1, aI E 9 w), (k2, aI E 5 aw), (k3, aI E 4 my), (k4, aI E 120 fe), (k5, aI E 44 be), (k6, aI E 4 sk), (k7, aI E 4 cl), (k8, aI E 40 ex)] s.heap [] := hW
  have hinX5 : ∀ w ∈ u_ws RX5 TX5 15, w ∈ wsX5_points := by decide +kernel
  have hf88 : Cond.fieldLink RX5 88 (TX5 6).1 (TX5 6).2.1 (TX5 6).2.2.1 ∈ wsX5_points := by decide +kernel
  have hf72 : Cond.fieldLink RX5 72 (TX5 7).1 (TX5 7).2.1 (TX5 7).2.2.1 ∈ wsX5_points := by decide +kernel
  have hf23 : Cond.fieldLink RX5 23 (TX5 9).1 (TX5 9).2.1 (TX5 9).2.2.1 ∈ wsX5_points := by decide +kernel
  have hf38 : Cond.fieldLink RX5 38 (TX5 14).1 (TX5 14).2.1 (TX5 14).2.2.1 ∈ wsX5_points := by decide +kernel
  have e1 := hbe (11 * q + f)
  have e2 := hbe (11 * q + (f + 1))
  have e3 := hex (10 * q + f)
  have e4 := hmy q
  refine lv_iload_n C.x C.b dX5_points_0 rfl (lv_at hl 2 rfl) ?_
  refine lv_aload_n C.x C.b dX5_points_1 rfl (lv_at hl 0 rfl) ?_
  refine x_get C hW 0 4 7 (Cn := RX5) (T := TX5) (N := 15) rfl rfl (by decide) hinX5 hf72 rfl dX5_points_2 ?_
  refine x_icmp_gt C (by omega) (by omega) (tgt := 24) dX5_points_5 (by decide) (fun c_1 => ?_) (fun c_1 => ?_)
  · refine lv_iconst (v := nI 0) C.x C.b dX5_points_24 (by decide) ?_
    exact x_iret C hW rfl (by unfold poM; (repeat' split) <;> first | rfl | (exfalso; omega)) rfl dX5_points_25
  · refine lv_iload_n C.x C.b dX5_points_8 rfl (lv_at hl 2 rfl) ?_
    refine lv_aload_n C.x C.b dX5_points_9 rfl (lv_at hl 0 rfl) ?_
    refine x_get C hW 0 4 7 (Cn := RX5) (T := TX5) (N := 15) rfl rfl (by decide) hinX5 hf72 rfl dX5_points_10 ?_
    refine x_icmp_ne C (by omega) (by omega) (tgt := 26) dX5_points_13 (by decide) (fun c_2 => ?_) (fun c_2 => ?_)
    · refine lv_iload_n C.x C.b dX5_points_26 rfl (lv_at hl 2 rfl) ?_
      refine lv_aload_n C.x C.b dX5_points_27 rfl (lv_at hl 0 rfl) ?_
      refine x_get C hW 0 4 7 (Cn := RX5) (T := TX5) (N := 15) rfl rfl (by decide) hinX5 hf72 rfl dX5_points_28 ?_
      refine x_icmp_ne C (by omega) (by omega) (tgt := 46) dX5_points_31 (by decide) (fun c_3 => ?_) (fun c_3 => ?_)
      · refine lv_iconst (v := nI 0) C.x C.b dX5_points_46 (by decide) ?_
        refine lv_istore_n (lv' := [(3, .int (nI 0)), (0, .ref h0), (1, .int (nI q)), (2, .int (nI f))]) C.x C.b dX5_points_47 rfl hl (by decide) rfl (fun ls hl => ?_)
        refine lv_iload_n C.x C.b dX5_points_48 rfl (lv_at hl 0 rfl) ?_
        refine x_if_eq C (by omega) (tgt := 61) dX5_points_49 (by decide) (fun c_4 => ?_) (fun c_4 => ?_)
        · refine lv_aload_n C.x C.b dX5_points_61 rfl (lv_at hl 1 rfl) ?_
          refine lv_iload_n C.x C.b dX5_points_62 rfl (lv_at hl 2 rfl) ?_
          refine lv_iload_n C.x C.b dX5_points_63 rfl (lv_at hl 3 rfl) ?_
          refine lv_iconst (v := nI 1) C.x C.b dX5_points_64 (by decide) ?_
          refine x_iadd C dX5_points_65 ?_
          refine x_cVI C hW (As := [.int (nI q), .int (nI (f + 1))]) (rest := []) (wr := []) (wn := [(h0, .inr (4, [.int x, .int (nI g), .ref k1, .ref k2, .int (nI sp), .int (nI pl), .int (nI tu), .int (nI fr), .int (nI nf), .ref k3, .ref k4, .ref k5, .ref k6, .ref k7, .ref k8])), (k1, aI E 9 w), (k2, aI E 5 aw), (k3, aI E 4 my), (k4, aI E 120 fe), (k5, aI E 44 be), (k6, aI E 4 sk), (k7, aI E 4 cl), (k8, aI E 40 ex)]) (Cn := RX5) (met_X5_begin l E h0 k1 k2 k3 k4 k5 k6 k7 k8 x g sp pl tu fr nf w aw my fe be sk cl ex q (f + 1) (by omega) (by omega)) gX5_points_X5_begin rfl 2 rfl ⟨rfl, rfl⟩ ⟨rfl, by decide +kernel, by decide +kernel, by decide +kernel⟩ ⟨Nat.le_of_ble_eq_true rfl, Nat.le_of_ble_eq_true rfl⟩ [0, 1, 2, 3, 4, 5, 6, 7, 8] [] [0, 1, 2, 3, 4, 5, 6, 7, 8] rfl (by decide) rfl (by decide) (by decide) rfl (by decide) 0 4 rfl rfl hl.1 rfl (Nat.le_of_ble_eq_true rfl) dX5_points_66 ⟨Nat.zero_le _, Nat.zero_le _⟩ (fun H locs hW => ?_)
          refine lv_istore (lv' := [(4, .int (nI (be (11 * q + (f + 1))))), (3, .int (nI 0)), (0, .ref h0), (1, .int (nI q)), (2, .int (nI f))]) C.x C.b dX5_points_69 hl (by decide) rfl (fun ls hl => ?_)
          refine lv_aload_n C.x C.b dX5_points_71 rfl (lv_at hl 2 rfl) ?_
          refine lv_iload_n C.x C.b dX5_points_72 rfl (lv_at hl 3 rfl) ?_
          refine lv_aload_n C.x C.b dX5_points_73 rfl (lv_at hl 2 rfl) ?_
          refine lv_iload_n C.x C.b dX5_points_74 rfl (lv_at hl 3 rfl) ?_
          refine lv_iload_n C.x C.b dX5_points_75 rfl (lv_at hl 4 rfl) ?_
          refine x_cVI C hW (As := [.int (nI q), .int (nI f)]) (rest := [.int (nI q), .ref h0]) (wr := []) (wn := [(h0, .inr (4, [.int x, .int (nI g), .ref k1, .ref k2, .int (nI sp), .int (nI pl), .int (nI tu), .int (nI fr), .int (nI nf), .ref k3, .ref k4, .ref k5, .ref k6, .ref k7, .ref k8])), (k1, aI E 9 w), (k2, aI E 5 aw), (k3, aI E 4 my), (k4, aI E 120 fe), (k5, aI E 44 be), (k6, aI E 4 sk), (k7, aI E 4 cl), (k8, aI E 40 ex)]) (Cn := RX5) (met_X5_begin l E h0 k1 k2 k3 k4 k5 k6 k7 k8 x g sp pl tu fr nf w aw my fe be sk cl ex q f (by omega) (by omega)) gX5_points_X5_begin rfl 2 rfl ⟨rfl, rfl⟩ ⟨rfl, by decide +kernel, by decide +kernel, by decide +kernel⟩ ⟨Nat.le_of_ble_eq_true rfl, Nat.le_of_ble_eq_true rfl⟩ [0, 1, 2, 3, 4, 5, 6, 7, 8] [] [0, 1, 2, 3, 4, 5, 6, 7, 8] rfl (by decide) rfl (by decide) (by decide) rfl (by decide) 0 4 rfl rfl hl.1 rfl (Nat.le_of_ble_eq_true rfl) dX5_points_76 ⟨Nat.zero_le _, Nat.zero_le _⟩ (fun H locs hW => ?_)
          refine lv_iload_n C.x C.b dX5_points_79 rfl (lv_at hl 1 rfl) ?_
          refine x_if_eq C (by omega) (tgt := 88) dX5_points_80 (by decide) (fun c_5 => ?_) (fun c_5 => ?_)
          · refine lv_iload C.x C.b dX5_points_88 (lv_at hl 0 rfl) ?_
            refine lv_aload_n C.x C.b dX5_points_90 rfl (lv_at hl 2 rfl) ?_
            refine x_get C hW 0 4 14 (Cn := RX5) (T := TX5) (N := 15) rfl rfl (by decide) hinX5 hf38 rfl dX5_points_91 ?_
            refine lv_bipush (v := nI 10) C.x C.b dX5_points_94 (by decide) ?_
            refine lv_iload_n C.x C.b dX5_points_96 rfl (lv_at hl 3 rfl) ?_
            refine x_imul C dX5_points_97 ?_
            refine lv_iload_n C.x C.b dX5_points_98 rfl (lv_at hl 4 rfl) ?_
            refine x_iadd C dX5_points_99 ?_
            refine x_ald C hW 8 ((10 * q) + f) rfl rfl (by omega) (by decide) dX5_points_100 ?_
            refine x_iadd C dX5_points_101 ?_
            refine x_cVI C hW (As := [.int (nI q), .int (nI (be (11 * q + f))), .int (nI ((be (11 * q + (f + 1))) + (ex ((10 * q) + f))))]) (rest := []) (wr := []) (wn := [(h0, .inr (4, [.int x, .int (nI g), .ref k1, .ref k2, .int (nI sp), .int (nI pl), .int (nI tu), .int (nI fr), .int (nI nf), .ref k3, .ref k4, .ref k5, .ref k6, .ref k7, .ref k8])), (k1, aI E 9 w), (k2, aI E 5 aw), (k3, aI E 4 my), (k4, aI E 120 fe), (k5, aI E 44 be), (k6, aI E 4 sk), (k7, aI E 4 cl), (k8, aI E 40 ex)]) (Cn := RX5) (met_X5_sum l E h0 k1 k2 k3 k4 k5 k6 k7 k8 x g sp pl tu fr nf w aw my fe be sk cl ex q (be (11 * q + f)) ((be (11 * q + (f + 1))) + (ex ((10 * q) + f))) (by omega) hmy (by omega) (by omega)) gX5_points_X5_sum rfl 3 rfl ⟨rfl, rfl⟩ ⟨rfl, by decide +kernel, by decide +kernel, by decide +kernel⟩ ⟨Nat.le_of_ble_eq_true rfl, Nat.le_of_ble_eq_true rfl⟩ [0, 1, 2, 3, 4, 5, 6, 7, 8] [] [0, 1, 2, 3, 4, 5, 6, 7, 8] rfl (by decide) rfl (by decide) (by decide) rfl (by decide) 0 4 rfl rfl hl.1 rfl (Nat.le_of_ble_eq_true rfl) dX5_points_102 ⟨Nat.zero_le _, Nat.zero_le _⟩ (fun H locs hW => ?_)
            exact x_iret C hW rfl (by unfold poM; (repeat' split) <;> first | rfl | (exfalso; omega)) rfl dX5_points_105
          · exact absurd (by decide) c_5
        · exact absurd (by decide) c_4
      · refine lv_iload_n C.x C.b dX5_points_34 rfl (lv_at hl 1 rfl) ?_
        refine lv_aload_n C.x C.b dX5_points_35 rfl (lv_at hl 0 rfl) ?_
        refine x_get C hW 0 4 6 (Cn := RX5) (T := TX5) (N := 15) rfl rfl (by decide) hinX5 hf88 rfl dX5_points_36 ?_
        refine x_icmp_ne C (by omega) (by omega) (tgt := 46) dX5_points_39 (by decide) (fun c_6 => ?_) (fun c_6 => ?_)
        · refine lv_iconst (v := nI 0) C.x C.b dX5_points_46 (by decide) ?_
          refine lv_istore_n (lv' := [(3, .int (nI 0)), (0, .ref h0), (1, .int (nI q)), (2, .int (nI f))]) C.x C.b dX5_points_47 rfl hl (by decide) rfl (fun ls hl => ?_)
          refine lv_iload_n C.x C.b dX5_points_48 rfl (lv_at hl 0 rfl) ?_
          refine x_if_eq C (by omega) (tgt := 61) dX5_points_49 (by decide) (fun c_7 => ?_) (fun c_7 => ?_)
          · refine lv_aload_n C.x C.b dX5_points_61 rfl (lv_at hl 1 rfl) ?_
            refine lv_iload_n C.x C.b dX5_points_62 rfl (lv_at hl 2 rfl) ?_
            refine lv_iload_n C.x C.b dX5_points_63 rfl (lv_at hl 3 rfl) ?_
            refine lv_iconst (v := nI 1) C.x C.b dX5_points_64 (by decide) ?_
            refine x_iadd C dX5_points_65 ?_
            refine x_cVI C hW (As := [.int (nI q), .int (nI (f + 1))]) (rest := []) (wr := []) (wn := [(h0, .inr (4, [.int x, .int (nI g), .ref k1, .ref k2, .int (nI sp), .int (nI pl), .int (nI tu), .int (nI fr), .int (nI nf), .ref k3, .ref k4, .ref k5, .ref k6, .ref k7, .ref k8])), (k1, aI E 9 w), (k2, aI E 5 aw), (k3, aI E 4 my), (k4, aI E 120 fe), (k5, aI E 44 be), (k6, aI E 4 sk), (k7, aI E 4 cl), (k8, aI E 40 ex)]) (Cn := RX5) (met_X5_begin l E h0 k1 k2 k3 k4 k5 k6 k7 k8 x g sp pl tu fr nf w aw my fe be sk cl ex q (f + 1) (by omega) (by omega)) gX5_points_X5_begin rfl 2 rfl ⟨rfl, rfl⟩ ⟨rfl, by decide +kernel, by decide +kernel, by decide +kernel⟩ ⟨Nat.le_of_ble_eq_true rfl, Nat.le_of_ble_eq_true rfl⟩ [0, 1, 2, 3, 4, 5, 6, 7, 8] [] [0, 1, 2, 3, 4, 5, 6, 7, 8] rfl (by decide) rfl (by decide) (by decide) rfl (by decide) 0 4 rfl rfl hl.1 rfl (Nat.le_of_ble_eq_true rfl) dX5_points_66 ⟨Nat.zero_le _, Nat.zero_le _⟩ (fun H locs hW => ?_)
            refine lv_istore (lv' := [(4, .int (nI (be (11 * q + (f + 1))))), (3, .int (nI 0)), (0, .ref h0), (1, .int (nI q)), (2, .int (nI f))]) C.x C.b dX5_points_69 hl (by decide) rfl (fun ls hl => ?_)
            refine lv_aload_n C.x C.b dX5_points_71 rfl (lv_at hl 2 rfl) ?_
            refine lv_iload_n C.x C.b dX5_points_72 rfl (lv_at hl 3 rfl) ?_
            refine lv_aload_n C.x C.b dX5_points_73 rfl (lv_at hl 2 rfl) ?_
            refine lv_iload_n C.x C.b dX5_points_74 rfl (lv_at hl 3 rfl) ?_
            refine lv_iload_n C.x C.b dX5_points_75 rfl (lv_at hl 4 rfl) ?_
            refine x_cVI C hW (As := [.int (nI q), .int (nI f)]) (rest := [.int (nI q), .ref h0]) (wr := []) (wn := [(h0, .inr (4, [.int x, .int (nI g), .ref k1, .ref k2, .int (nI sp), .int (nI pl), .int (nI tu), .int (nI fr), .int (nI nf), .ref k3, .ref k4, .ref k5, .ref k6, .ref k7, .ref k8])), (k1, aI E 9 w), (k2, aI E 5 aw), (k3, aI E 4 my), (k4, aI E 120 fe), (k5, aI E 44 be), (k6, aI E 4 sk), (k7, aI E 4 cl), (k8, aI E 40 ex)]) (Cn := RX5) (met_X5_begin l E h0 k1 k2 k3 k4 k5 k6 k7 k8 x g sp pl tu fr nf w aw my fe be sk cl ex q f (by omega) (by omega)) gX5_points_X5_begin rfl 2 rfl ⟨rfl, rfl⟩ ⟨rfl, by decide +kernel, by decide +kernel, by decide +kernel⟩ ⟨Nat.le_of_ble_eq_true rfl, Nat.le_of_ble_eq_true rfl⟩ [0, 1, 2, 3, 4, 5, 6, 7, 8] [] [0, 1, 2, 3, 4, 5, 6, 7, 8] rfl (by decide) rfl (by decide) (by decide) rfl (by decide) 0 4 rfl rfl hl.1 rfl (Nat.le_of_ble_eq_true rfl) dX5_points_76 ⟨Nat.zero_le _, Nat.zero_le _⟩ (fun H locs hW => ?_)
            refine lv_iload_n C.x C.b dX5_points_79 rfl (lv_at hl 1 rfl) ?_
            refine x_if_eq C (by omega) (tgt := 88) dX5_points_80 (by decide) (fun c_8 => ?_) (fun c_8 => ?_)
            · refine lv_iload C.x C.b dX5_points_88 (lv_at hl 0 rfl) ?_
              refine lv_aload_n C.x C.b dX5_points_90 rfl (lv_at hl 2 rfl) ?_
              refine x_get C hW 0 4 14 (Cn := RX5) (T := TX5) (N := 15) rfl rfl (by decide) hinX5 hf38 rfl dX5_points_91 ?_
              refine lv_bipush (v := nI 10) C.x C.b dX5_points_94 (by decide) ?_
              refine lv_iload_n C.x C.b dX5_points_96 rfl (lv_at hl 3 rfl) ?_
              refine x_imul C dX5_points_97 ?_
              refine lv_iload_n C.x C.b dX5_points_98 rfl (lv_at hl 4 rfl) ?_
              refine x_iadd C dX5_points_99 ?_
              refine x_ald C hW 8 ((10 * q) + f) rfl rfl (by omega) (by decide) dX5_points_100 ?_
              refine x_iadd C dX5_points_101 ?_
              refine x_cVI C hW (As := [.int (nI q), .int (nI (be (11 * q + f))), .int (nI ((be (11 * q + (f + 1))) + (ex ((10 * q) + f))))]) (rest := []) (wr := []) (wn := [(h0, .inr (4, [.int x, .int (nI g), .ref k1, .ref k2, .int (nI sp), .int (nI pl), .int (nI tu), .int (nI fr), .int (nI nf), .ref k3, .ref k4, .ref k5, .ref k6, .ref k7, .ref k8])), (k1, aI E 9 w), (k2, aI E 5 aw), (k3, aI E 4 my), (k4, aI E 120 fe), (k5, aI E 44 be), (k6, aI E 4 sk), (k7, aI E 4 cl), (k8, aI E 40 ex)]) (Cn := RX5) (met_X5_sum l E h0 k1 k2 k3 k4 k5 k6 k7 k8 x g sp pl tu fr nf w aw my fe be sk cl ex q (be (11 * q + f)) ((be (11 * q + (f + 1))) + (ex ((10 * q) + f))) (by omega) hmy (by omega) (by omega)) gX5_points_X5_sum rfl 3 rfl ⟨rfl, rfl⟩ ⟨rfl, by decide +kernel, by decide +kernel, by decide +kernel⟩ ⟨Nat.le_of_ble_eq_true rfl, Nat.le_of_ble_eq_true rfl⟩ [0, 1, 2, 3, 4, 5, 6, 7, 8] [] [0, 1, 2, 3, 4, 5, 6, 7, 8] rfl (by decide) rfl (by decide) (by decide) rfl (by decide) 0 4 rfl rfl hl.1 rfl (Nat.le_of_ble_eq_true rfl) dX5_points_102 ⟨Nat.zero_le _, Nat.zero_le _⟩ (fun H locs hW => ?_)
              exact x_iret C hW rfl (by unfold poM; (repeat' split) <;> first | rfl | (exfalso; omega)) rfl dX5_points_105
            · exact absurd (by decide) c_8
          · exact absurd (by decide) c_7
        · refine lv_iconst (v := nI 1) C.x C.b dX5_points_42 (by decide) ?_
          refine lv_goto (tgt := 47) C.x C.b dX5_points_43 (by decide) ?_
          refine lv_istore_n (lv' := [(3, .int (nI 1)), (0, .ref h0), (1, .int (nI q)), (2, .int (nI f))]) C.x C.b dX5_points_47 rfl hl (by decide) rfl (fun ls hl => ?_)
          refine lv_iload_n C.x C.b dX5_points_48 rfl (lv_at hl 0 rfl) ?_
          refine x_if_eq C (by omega) (tgt := 61) dX5_points_49 (by decide) (fun c_9 => ?_) (fun c_9 => ?_)
          · exact absurd c_9 (by decide)
          · refine lv_aload_n C.x C.b dX5_points_52 rfl (lv_at hl 1 rfl) ?_
            refine x_get C hW 0 4 9 (Cn := RX5) (T := TX5) (N := 15) rfl rfl (by decide) hinX5 hf23 rfl dX5_points_53 ?_
            refine lv_iload_n C.x C.b dX5_points_56 rfl (lv_at hl 2 rfl) ?_
            refine x_ald C hW 3 q rfl rfl (by omega) (by decide) dX5_points_57 ?_
            refine lv_goto (tgt := 69) C.x C.b dX5_points_58 (by decide) ?_
            refine lv_istore (lv' := [(4, .int (nI (my q))), (3, .int (nI 1)), (0, .ref h0), (1, .int (nI q)), (2, .int (nI f))]) C.x C.b dX5_points_69 hl (by decide) rfl (fun ls hl => ?_)
            refine lv_aload_n C.x C.b dX5_points_71 rfl (lv_at hl 2 rfl) ?_
            refine lv_iload_n C.x C.b dX5_points_72 rfl (lv_at hl 3 rfl) ?_
            refine lv_aload_n C.x C.b dX5_points_73 rfl (lv_at hl 2 rfl) ?_
            refine lv_iload_n C.x C.b dX5_points_74 rfl (lv_at hl 3 rfl) ?_
            refine lv_iload_n C.x C.b dX5_points_75 rfl (lv_at hl 4 rfl) ?_
            refine x_cVI C hW (As := [.int (nI q), .int (nI f)]) (rest := [.int (nI q), .ref h0]) (wr := []) (wn := [(h0, .inr (4, [.int x, .int (nI g), .ref k1, .ref k2, .int (nI sp), .int (nI pl), .int (nI tu), .int (nI fr), .int (nI nf), .ref k3, .ref k4, .ref k5, .ref k6, .ref k7, .ref k8])), (k1, aI E 9 w), (k2, aI E 5 aw), (k3, aI E 4 my), (k4, aI E 120 fe), (k5, aI E 44 be), (k6, aI E 4 sk), (k7, aI E 4 cl), (k8, aI E 40 ex)]) (Cn := RX5) (met_X5_begin l E h0 k1 k2 k3 k4 k5 k6 k7 k8 x g sp pl tu fr nf w aw my fe be sk cl ex q f (by omega) (by omega)) gX5_points_X5_begin rfl 2 rfl ⟨rfl, rfl⟩ ⟨rfl, by decide +kernel, by decide +kernel, by decide +kernel⟩ ⟨Nat.le_of_ble_eq_true rfl, Nat.le_of_ble_eq_true rfl⟩ [0, 1, 2, 3, 4, 5, 6, 7, 8] [] [0, 1, 2, 3, 4, 5, 6, 7, 8] rfl (by decide) rfl (by decide) (by decide) rfl (by decide) 0 4 rfl rfl hl.1 rfl (Nat.le_of_ble_eq_true rfl) dX5_points_76 ⟨Nat.zero_le _, Nat.zero_le _⟩ (fun H locs hW => ?_)
            refine lv_iload_n C.x C.b dX5_points_79 rfl (lv_at hl 1 rfl) ?_
            refine x_if_eq C (by omega) (tgt := 88) dX5_points_80 (by decide) (fun c_10 => ?_) (fun c_10 => ?_)
            · exact absurd c_10 (by decide)
            · refine lv_iload C.x C.b dX5_points_83 (lv_at hl 0 rfl) ?_
              refine lv_goto (tgt := 102) C.x C.b dX5_points_85 (by decide) ?_
              refine x_cVI C hW (As := [.int (nI q), .int (nI (be (11 * q + f))), .int (nI (my q))]) (rest := []) (wr := []) (wn := [(h0, .inr (4, [.int x, .int (nI g), .ref k1, .ref k2, .int (nI sp), .int (nI pl), .int (nI tu), .int (nI fr), .int (nI nf), .ref k3, .ref k4, .ref k5, .ref k6, .ref k7, .ref k8])), (k1, aI E 9 w), (k2, aI E 5 aw), (k3, aI E 4 my), (k4, aI E 120 fe), (k5, aI E 44 be), (k6, aI E 4 sk), (k7, aI E 4 cl), (k8, aI E 40 ex)]) (Cn := RX5) (met_X5_sum l E h0 k1 k2 k3 k4 k5 k6 k7 k8 x g sp pl tu fr nf w aw my fe be sk cl ex q (be (11 * q + f)) (my q) (by omega) hmy (by omega) (by omega)) gX5_points_X5_sum rfl 3 rfl ⟨rfl, rfl⟩ ⟨rfl, by decide +kernel, by decide +kernel, by decide +kernel⟩ ⟨Nat.le_of_ble_eq_true rfl, Nat.le_of_ble_eq_true rfl⟩ [0, 1, 2, 3, 4, 5, 6, 7, 8] [] [0, 1, 2, 3, 4, 5, 6, 7, 8] rfl (by decide) rfl (by decide) (by decide) rfl (by decide) 0 4 rfl rfl hl.1 rfl (Nat.le_of_ble_eq_true rfl) dX5_points_102 ⟨Nat.zero_le _, Nat.zero_le _⟩ (fun H locs hW => ?_)
              exact x_iret C hW rfl (by unfold poM; (repeat' split) <;> first | rfl | (exfalso; omega)) rfl dX5_points_105
    · refine lv_iload_n C.x C.b dX5_points_16 rfl (lv_at hl 1 rfl) ?_
      refine lv_aload_n C.x C.b dX5_points_17 rfl (lv_at hl 0 rfl) ?_
      refine x_get C hW 0 4 6 (Cn := RX5) (T := TX5) (N := 15) rfl rfl (by decide) hinX5 hf88 rfl dX5_points_18 ?_
      refine x_icmp_le C (by omega) (by omega) (tgt := 26) dX5_points_21 (by decide) (fun c_11 => ?_) (fun c_11 => ?_)
      · refine lv_iload_n C.x C.b dX5_points_26 rfl (lv_at hl 2 rfl) ?_
        refine lv_aload_n C.x C.b dX5_points_27 rfl (lv_at hl 0 rfl) ?_
        refine x_get C hW 0 4 7 (Cn := RX5) (T := TX5) (N := 15) rfl rfl (by decide) hinX5 hf72 rfl dX5_points_28 ?_
        refine x_icmp_ne C (by omega) (by omega) (tgt := 46) dX5_points_31 (by decide) (fun c_12 => ?_) (fun c_12 => ?_)
        · refine lv_iconst (v := nI 0) C.x C.b dX5_points_46 (by decide) ?_
          refine lv_istore_n (lv' := [(3, .int (nI 0)), (0, .ref h0), (1, .int (nI q)), (2, .int (nI f))]) C.x C.b dX5_points_47 rfl hl (by decide) rfl (fun ls hl => ?_)
          refine lv_iload_n C.x C.b dX5_points_48 rfl (lv_at hl 0 rfl) ?_
          refine x_if_eq C (by omega) (tgt := 61) dX5_points_49 (by decide) (fun c_13 => ?_) (fun c_13 => ?_)
          · refine lv_aload_n C.x C.b dX5_points_61 rfl (lv_at hl 1 rfl) ?_
            refine lv_iload_n C.x C.b dX5_points_62 rfl (lv_at hl 2 rfl) ?_
            refine lv_iload_n C.x C.b dX5_points_63 rfl (lv_at hl 3 rfl) ?_
            refine lv_iconst (v := nI 1) C.x C.b dX5_points_64 (by decide) ?_
            refine x_iadd C dX5_points_65 ?_
            refine x_cVI C hW (As := [.int (nI q), .int (nI (f + 1))]) (rest := []) (wr := []) (wn := [(h0, .inr (4, [.int x, .int (nI g), .ref k1, .ref k2, .int (nI sp), .int (nI pl), .int (nI tu), .int (nI fr), .int (nI nf), .ref k3, .ref k4, .ref k5, .ref k6, .ref k7, .ref k8])), (k1, aI E 9 w), (k2, aI E 5 aw), (k3, aI E 4 my), (k4, aI E 120 fe), (k5, aI E 44 be), (k6, aI E 4 sk), (k7, aI E 4 cl), (k8, aI E 40 ex)]) (Cn := RX5) (met_X5_begin l E h0 k1 k2 k3 k4 k5 k6 k7 k8 x g sp pl tu fr nf w aw my fe be sk cl ex q (f + 1) (by omega) (by omega)) gX5_points_X5_begin rfl 2 rfl ⟨rfl, rfl⟩ ⟨rfl, by decide +kernel, by decide +kernel, by decide +kernel⟩ ⟨Nat.le_of_ble_eq_true rfl, Nat.le_of_ble_eq_true rfl⟩ [0, 1, 2, 3, 4, 5, 6, 7, 8] [] [0, 1, 2, 3, 4, 5, 6, 7, 8] rfl (by decide) rfl (by decide) (by decide) rfl (by decide) 0 4 rfl rfl hl.1 rfl (Nat.le_of_ble_eq_true rfl) dX5_points_66 ⟨Nat.zero_le _, Nat.zero_le _⟩ (fun H locs hW => ?_)
            refine lv_istore (lv' := [(4, .int (nI (be (11 * q + (f + 1))))), (3, .int (nI 0)), (0, .ref h0), (1, .int (nI q)), (2, .int (nI f))]) C.x C.b dX5_points_69 hl (by decide) rfl (fun ls hl => ?_)
            refine lv_aload_n C.x C.b dX5_points_71 rfl (lv_at hl 2 rfl) ?_
            refine lv_iload_n C.x C.b dX5_points_72 rfl (lv_at hl 3 rfl) ?_
            refine lv_aload_n C.x C.b dX5_points_73 rfl (lv_at hl 2 rfl) ?_
            refine lv_iload_n C.x C.b dX5_points_74 rfl (lv_at hl 3 rfl) ?_
            refine lv_iload_n C.x C.b dX5_points_75 rfl (lv_at hl 4 rfl) ?_
            refine x_cVI C hW (As := [.int (nI q), .int (nI f)]) (rest := [.int (nI q), .ref h0]) (wr := []) (wn := [(h0, .inr (4, [.int x, .int (nI g), .ref k1, .ref k2, .int (nI sp), .int (nI pl), .int (nI tu), .int (nI fr), .int (nI nf), .ref k3, .ref k4, .ref k5, .ref k6, .ref k7, .ref k8])), (k1, aI E 9 w), (k2, aI E 5 aw), (k3, aI E 4 my), (k4, aI E 120 fe), (k5, aI E 44 be), (k6, aI E 4 sk), (k7, aI E 4 cl), (k8, aI E 40 ex)]) (Cn := RX5) (met_X5_begin l E h0 k1 k2 k3 k4 k5 k6 k7 k8 x g sp pl tu fr nf w aw my fe be sk cl ex q f (by omega) (by omega)) gX5_points_X5_begin rfl 2 rfl ⟨rfl, rfl⟩ ⟨rfl, by decide +kernel, by decide +kernel, by decide +kernel⟩ ⟨Nat.le_of_ble_eq_true rfl, Nat.le_of_ble_eq_true rfl⟩ [0, 1, 2, 3, 4, 5, 6, 7, 8] [] [0, 1, 2, 3, 4, 5, 6, 7, 8] rfl (by decide) rfl (by decide) (by decide) rfl (by decide) 0 4 rfl rfl hl.1 rfl (Nat.le_of_ble_eq_true rfl) dX5_points_76 ⟨Nat.zero_le _, Nat.zero_le _⟩ (fun H locs hW => ?_)
            refine lv_iload_n C.x C.b dX5_points_79 rfl (lv_at hl 1 rfl) ?_
            refine x_if_eq C (by omega) (tgt := 88) dX5_points_80 (by decide) (fun c_14 => ?_) (fun c_14 => ?_)
            · refine lv_iload C.x C.b dX5_points_88 (lv_at hl 0 rfl) ?_
              refine lv_aload_n C.x C.b dX5_points_90 rfl (lv_at hl 2 rfl) ?_
              refine x_get C hW 0 4 14 (Cn := RX5) (T := TX5) (N := 15) rfl rfl (by decide) hinX5 hf38 rfl dX5_points_91 ?_
              refine lv_bipush (v := nI 10) C.x C.b dX5_points_94 (by decide) ?_
              refine lv_iload_n C.x C.b dX5_points_96 rfl (lv_at hl 3 rfl) ?_
              refine x_imul C dX5_points_97 ?_
              refine lv_iload_n C.x C.b dX5_points_98 rfl (lv_at hl 4 rfl) ?_
              refine x_iadd C dX5_points_99 ?_
              refine x_ald C hW 8 ((10 * q) + f) rfl rfl (by omega) (by decide) dX5_points_100 ?_
              refine x_iadd C dX5_points_101 ?_
              refine x_cVI C hW (As := [.int (nI q), .int (nI (be (11 * q + f))), .int (nI ((be (11 * q + (f + 1))) + (ex ((10 * q) + f))))]) (rest := []) (wr := []) (wn := [(h0, .inr (4, [.int x, .int (nI g), .ref k1, .ref k2, .int (nI sp), .int (nI pl), .int (nI tu), .int (nI fr), .int (nI nf), .ref k3, .ref k4, .ref k5, .ref k6, .ref k7, .ref k8])), (k1, aI E 9 w), (k2, aI E 5 aw), (k3, aI E 4 my), (k4, aI E 120 fe), (k5, aI E 44 be), (k6, aI E 4 sk), (k7, aI E 4 cl), (k8, aI E 40 ex)]) (Cn := RX5) (met_X5_sum l E h0 k1 k2 k3 k4 k5 k6 k7 k8 x g sp pl tu fr nf w aw my fe be sk cl ex q (be (11 * q + f)) ((be (11 * q + (f + 1))) + (ex ((10 * q) + f))) (by omega) hmy (by omega) (by omega)) gX5_points_X5_sum rfl 3 rfl ⟨rfl, rfl⟩ ⟨rfl, by decide +kernel, by decide +kernel, by decide +kernel⟩ ⟨Nat.le_of_ble_eq_true rfl, Nat.le_of_ble_eq_true rfl⟩ [0, 1, 2, 3, 4, 5, 6, 7, 8] [] [0, 1, 2, 3, 4, 5, 6, 7, 8] rfl (by decide) rfl (by decide) (by decide) rfl (by decide) 0 4 rfl rfl hl.1 rfl (Nat.le_of_ble_eq_true rfl) dX5_points_102 ⟨Nat.zero_le _, Nat.zero_le _⟩ (fun H locs hW => ?_)
              exact x_iret C hW rfl (by unfold poM; (repeat' split) <;> first | rfl | (exfalso; omega)) rfl dX5_points_105
            · exact absurd (by decide) c_14
          · exact absurd (by decide) c_13
        · refine lv_iload_n C.x C.b dX5_points_34 rfl (lv_at hl 1 rfl) ?_
          refine lv_aload_n C.x C.b dX5_points_35 rfl (lv_at hl 0 rfl) ?_
          refine x_get C hW 0 4 6 (Cn := RX5) (T := TX5) (N := 15) rfl rfl (by decide) hinX5 hf88 rfl dX5_points_36 ?_
          refine x_icmp_ne C (by omega) (by omega) (tgt := 46) dX5_points_39 (by decide) (fun c_15 => ?_) (fun c_15 => ?_)
          · refine lv_iconst (v := nI 0) C.x C.b dX5_points_46 (by decide) ?_
            refine lv_istore_n (lv' := [(3, .int (nI 0)), (0, .ref h0), (1, .int (nI q)), (2, .int (nI f))]) C.x C.b dX5_points_47 rfl hl (by decide) rfl (fun ls hl => ?_)
            refine lv_iload_n C.x C.b dX5_points_48 rfl (lv_at hl 0 rfl) ?_
            refine x_if_eq C (by omega) (tgt := 61) dX5_points_49 (by decide) (fun c_16 => ?_) (fun c_16 => ?_)
            · refine lv_aload_n C.x C.b dX5_points_61 rfl (lv_at hl 1 rfl) ?_
              refine lv_iload_n C.x C.b dX5_points_62 rfl (lv_at hl 2 rfl) ?_
              refine lv_iload_n C.x C.b dX5_points_63 rfl (lv_at hl 3 rfl) ?_
              refine lv_iconst (v := nI 1) C.x C.b dX5_points_64 (by decide) ?_
              refine x_iadd C dX5_points_65 ?_
              refine x_cVI C hW (As := [.int (nI q), .int (nI (f + 1))]) (rest := []) (wr := []) (wn := [(h0, .inr (4, [.int x, .int (nI g), .ref k1, .ref k2, .int (nI sp), .int (nI pl), .int (nI tu), .int (nI fr), .int (nI nf), .ref k3, .ref k4, .ref k5, .ref k6, .ref k7, .ref k8])), (k1, aI E 9 w), (k2, aI E 5 aw), (k3, aI E 4 my), (k4, aI E 120 fe), (k5, aI E 44 be), (k6, aI E 4 sk), (k7, aI E 4 cl), (k8, aI E 40 ex)]) (Cn := RX5) (met_X5_begin l E h0 k1 k2 k3 k4 k5 k6 k7 k8 x g sp pl tu fr nf w aw my fe be sk cl ex q (f + 1) (by omega) (by omega)) gX5_points_X5_begin rfl 2 rfl ⟨rfl, rfl⟩ ⟨rfl, by decide +kernel, by decide +kernel, by decide +kernel⟩ ⟨Nat.le_of_ble_eq_true rfl, Nat.le_of_ble_eq_true rfl⟩ [0, 1, 2, 3, 4, 5, 6, 7, 8] [] [0, 1, 2, 3, 4, 5, 6, 7, 8] rfl (by decide) rfl (by decide) (by decide) rfl (by decide) 0 4 rfl rfl hl.1 rfl (Nat.le_of_ble_eq_true rfl) dX5_points_66 ⟨Nat.zero_le _, Nat.zero_le _⟩ (fun H locs hW => ?_)
              refine lv_istore (lv' := [(4, .int (nI (be (11 * q + (f + 1))))), (3, .int (nI 0)), (0, .ref h0), (1, .int (nI q)), (2, .int (nI f))]) C.x C.b dX5_points_69 hl (by decide) rfl (fun ls hl => ?_)
              refine lv_aload_n C.x C.b dX5_points_71 rfl (lv_at hl 2 rfl) ?_
              refine lv_iload_n C.x C.b dX5_points_72 rfl (lv_at hl 3 rfl) ?_
              refine lv_aload_n C.x C.b dX5_points_73 rfl (lv_at hl 2 rfl) ?_
              refine lv_iload_n C.x C.b dX5_points_74 rfl (lv_at hl 3 rfl) ?_
              refine lv_iload_n C.x C.b dX5_points_75 rfl (lv_at hl 4 rfl) ?_
              refine x_cVI C hW (As := [.int (nI q), .int (nI f)]) (rest := [.int (nI q), .ref h0]) (wr := []) (wn := [(h0, .inr (4, [.int x, .int (nI g), .ref k1, .ref k2, .int (nI sp), .int (nI pl), .int (nI tu), .int (nI fr), .int (nI nf), .ref k3, .ref k4, .ref k5, .ref k6, .ref k7, .ref k8])), (k1, aI E 9 w), (k2, aI E 5 aw), (k3, aI E 4 my), (k4, aI E 120 fe), (k5, aI E 44 be), (k6, aI E 4 sk), (k7, aI E 4 cl), (k8, aI E 40 ex)]) (Cn := RX5) (met_X5_begin l E h0 k1 k2 k3 k4 k5 k6 k7 k8 x g sp pl tu fr nf w aw my fe be sk cl ex q f (by omega) (by omega)) gX5_points_X5_begin rfl 2 rfl ⟨rfl, rfl⟩ ⟨rfl, by decide +kernel, by decide +kernel, by decide +kernel⟩ ⟨Nat.le_of_ble_eq_true rfl, Nat.le_of_ble_eq_true rfl⟩ [0, 1, 2, 3, 4, 5, 6, 7, 8] [] [0, 1, 2, 3, 4, 5, 6, 7, 8] rfl (by decide) rfl (by decide) (by decide) rfl (by decide) 0 4 rfl rfl hl.1 rfl (Nat.le_of_ble_eq_true rfl) dX5_points_76 ⟨Nat.zero_le _, Nat.zero_le _⟩ (fun H locs hW => ?_)
              refine lv_iload_n C.x C.b dX5_points_79 rfl (lv_at hl 1 rfl) ?_
              refine x_if_eq C (by omega) (tgt := 88) dX5_points_80 (by decide) (fun c_17 => ?_) (fun c_17 => ?_)
              · refine lv_iload C.x C.b dX5_points_88 (lv_at hl 0 rfl) ?_
                refine lv_aload_n C.x C.b dX5_points_90 rfl (lv_at hl 2 rfl) ?_
                refine x_get C hW 0 4 14 (Cn := RX5) (T := TX5) (N := 15) rfl rfl (by decide) hinX5 hf38 rfl dX5_points_91 ?_
                refine lv_bipush (v := nI 10) C.x C.b dX5_points_94 (by decide) ?_
                refine lv_iload_n C.x C.b dX5_points_96 rfl (lv_at hl 3 rfl) ?_
                refine x_imul C dX5_points_97 ?_
                refine lv_iload_n C.x C.b dX5_points_98 rfl (lv_at hl 4 rfl) ?_
                refine x_iadd C dX5_points_99 ?_
                refine x_ald C hW 8 ((10 * q) + f) rfl rfl (by omega) (by decide) dX5_points_100 ?_
                refine x_iadd C dX5_points_101 ?_
                refine x_cVI C hW (As := [.int (nI q), .int (nI (be (11 * q + f))), .int (nI ((be (11 * q + (f + 1))) + (ex ((10 * q) + f))))]) (rest := []) (wr := []) (wn := [(h0, .inr (4, [.int x, .int (nI g), .ref k1, .ref k2, .int (nI sp), .int (nI pl), .int (nI tu), .int (nI fr), .int (nI nf), .ref k3, .ref k4, .ref k5, .ref k6, .ref k7, .ref k8])), (k1, aI E 9 w), (k2, aI E 5 aw), (k3, aI E 4 my), (k4, aI E 120 fe), (k5, aI E 44 be), (k6, aI E 4 sk), (k7, aI E 4 cl), (k8, aI E 40 ex)]) (Cn := RX5) (met_X5_sum l E h0 k1 k2 k3 k4 k5 k6 k7 k8 x g sp pl tu fr nf w aw my fe be sk cl ex q (be (11 * q + f)) ((be (11 * q + (f + 1))) + (ex ((10 * q) + f))) (by omega) hmy (by omega) (by omega)) gX5_points_X5_sum rfl 3 rfl ⟨rfl, rfl⟩ ⟨rfl, by decide +kernel, by decide +kernel, by decide +kernel⟩ ⟨Nat.le_of_ble_eq_true rfl, Nat.le_of_ble_eq_true rfl⟩ [0, 1, 2, 3, 4, 5, 6, 7, 8] [] [0, 1, 2, 3, 4, 5, 6, 7, 8] rfl (by decide) rfl (by decide) (by decide) rfl (by decide) 0 4 rfl rfl hl.1 rfl (Nat.le_of_ble_eq_true rfl) dX5_points_102 ⟨Nat.zero_le _, Nat.zero_le _⟩ (fun H locs hW => ?_)
                exact x_iret C hW rfl (by unfold poM; (repeat' split) <;> first | rfl | (exfalso; omega)) rfl dX5_points_105
              · exact absurd (by decide) c_17
            · exact absurd (by decide) c_16
          · refine lv_iconst (v := nI 1) C.x C.b dX5_points_42 (by decide) ?_
            refine lv_goto (tgt := 47) C.x C.b dX5_points_43 (by decide) ?_
            refine lv_istore_n (lv' := [(3, .int (nI 1)), (0, .ref h0), (1, .int (nI q)), (2, .int (nI f))]) C.x C.b dX5_points_47 rfl hl (by decide) rfl (fun ls hl => ?_)
            refine lv_iload_n C.x C.b dX5_points_48 rfl (lv_at hl 0 rfl) ?_
            refine x_if_eq C (by omega) (tgt := 61) dX5_points_49 (by decide) (fun c_18 => ?_) (fun c_18 => ?_)
            · exact absurd c_18 (by decide)
            · refine lv_aload_n C.x C.b dX5_points_52 rfl (lv_at hl 1 rfl) ?_
              refine x_get C hW 0 4 9 (Cn := RX5) (T := TX5) (N := 15) rfl rfl (by decide) hinX5 hf23 rfl dX5_points_53 ?_
              refine lv_iload_n C.x C.b dX5_points_56 rfl (lv_at hl 2 rfl) ?_
              refine x_ald C hW 3 q rfl rfl (by omega) (by decide) dX5_points_57 ?_
              refine lv_goto (tgt := 69) C.x C.b dX5_points_58 (by decide) ?_
              refine lv_istore (lv' := [(4, .int (nI (my q))), (3, .int (nI 1)), (0, .ref h0), (1, .int (nI q)), (2, .int (nI f))]) C.x C.b dX5_points_69 hl (by decide) rfl (fun ls hl => ?_)
              refine lv_aload_n C.x C.b dX5_points_71 rfl (lv_at hl 2 rfl) ?_
              refine lv_iload_n C.x C.b dX5_points_72 rfl (lv_at hl 3 rfl) ?_
              refine lv_aload_n C.x C.b dX5_points_73 rfl (lv_at hl 2 rfl) ?_
              refine lv_iload_n C.x C.b dX5_points_74 rfl (lv_at hl 3 rfl) ?_
              refine lv_iload_n C.x C.b dX5_points_75 rfl (lv_at hl 4 rfl) ?_
              refine x_cVI C hW (As := [.int (nI q), .int (nI f)]) (rest := [.int (nI q), .ref h0]) (wr := []) (wn := [(h0, .inr (4, [.int x, .int (nI g), .ref k1, .ref k2, .int (nI sp), .int (nI pl), .int (nI tu), .int (nI fr), .int (nI nf), .ref k3, .ref k4, .ref k5, .ref k6, .ref k7, .ref k8])), (k1, aI E 9 w), (k2, aI E 5 aw), (k3, aI E 4 my), (k4, aI E 120 fe), (k5, aI E 44 be), (k6, aI E 4 sk), (k7, aI E 4 cl), (k8, aI E 40 ex)]) (Cn := RX5) (met_X5_begin l E h0 k1 k2 k3 k4 k5 k6 k7 k8 x g sp pl tu fr nf w aw my fe be sk cl ex q f (by omega) (by omega)) gX5_points_X5_begin rfl 2 rfl ⟨rfl, rfl⟩ ⟨rfl, by decide +kernel, by decide +kernel, by decide +kernel⟩ ⟨Nat.le_of_ble_eq_true rfl, Nat.le_of_ble_eq_true rfl⟩ [0, 1, 2, 3, 4, 5, 6, 7, 8] [] [0, 1, 2, 3, 4, 5, 6, 7, 8] rfl (by decide) rfl (by decide) (by decide) rfl (by decide) 0 4 rfl rfl hl.1 rfl (Nat.le_of_ble_eq_true rfl) dX5_points_76 ⟨Nat.zero_le _, Nat.zero_le _⟩ (fun H locs hW => ?_)
              refine lv_iload_n C.x C.b dX5_points_79 rfl (lv_at hl 1 rfl) ?_
              refine x_if_eq C (by omega) (tgt := 88) dX5_points_80 (by decide) (fun c_19 => ?_) (fun c_19 => ?_)
              · exact absurd c_19 (by decide)
              · refine lv_iload C.x C.b dX5_points_83 (lv_at hl 0 rfl) ?_
                refine lv_goto (tgt := 102) C.x C.b dX5_points_85 (by decide) ?_
                refine x_cVI C hW (As := [.int (nI q), .int (nI (be (11 * q + f))), .int (nI (my q))]) (rest := []) (wr := []) (wn := [(h0, .inr (4, [.int x, .int (nI g), .ref k1, .ref k2, .int (nI sp), .int (nI pl), .int (nI tu), .int (nI fr), .int (nI nf), .ref k3, .ref k4, .ref k5, .ref k6, .ref k7, .ref k8])), (k1, aI E 9 w), (k2, aI E 5 aw), (k3, aI E 4 my), (k4, aI E 120 fe), (k5, aI E 44 be), (k6, aI E 4 sk), (k7, aI E 4 cl), (k8, aI E 40 ex)]) (Cn := RX5) (met_X5_sum l E h0 k1 k2 k3 k4 k5 k6 k7 k8 x g sp pl tu fr nf w aw my fe be sk cl ex q (be (11 * q + f)) (my q) (by omega) hmy (by omega) (by omega)) gX5_points_X5_sum rfl 3 rfl ⟨rfl, rfl⟩ ⟨rfl, by decide +kernel, by decide +kernel, by decide +kernel⟩ ⟨Nat.le_of_ble_eq_true rfl, Nat.le_of_ble_eq_true rfl⟩ [0, 1, 2, 3, 4, 5, 6, 7, 8] [] [0, 1, 2, 3, 4, 5, 6, 7, 8] rfl (by decide) rfl (by decide) (by decide) rfl (by decide) 0 4 rfl rfl hl.1 rfl (Nat.le_of_ble_eq_true rfl) dX5_points_102 ⟨Nat.zero_le _, Nat.zero_le _⟩ (fun H locs hW => ?_)
                exact x_iret C hW rfl (by unfold poM; (repeat' split) <;> first | rfl | (exfalso; omega)) rfl dX5_points_105
      · refine lv_iconst (v := nI 0) C.x C.b dX5_points_24 (by decide) ?_
        exact x_iret C hW rfl (by unfold poM; (repeat' split) <;> first | rfl | (exfalso; omega)) rfl dX5_points_25

set_option maxHeartbeats 4000000 in
set_option maxRecDepth 100000 in
theorem met_X5_score (l : Launch) (E : EV) (h0 k1 k2 k3 k4 k5 k6 k7 k8 : Nat) (x : Int32) (g sp pl tu fr nf : Nat) (w aw my fe be sk cl ex : Nat → Nat) (q : Nat) (hq : q < 4) (hfr : fr ≤ 10) (htu : tu < 4) (hmy : ∀ j, my j ≤ 30) (hbe : ∀ j, be j ≤ 30) (hex : ∀ j, ex j ≤ 2) : MI l yX5_score wsX5_score { frames := 3, cells := 0, slots := 0, locals := 70 } E [.ref h0, .int (nI q)] [(h0, .inr (4, [.int x, .int (nI g), .ref k1, .ref k2, .int (nI sp), .int (nI pl), .int (nI tu), .int (nI fr), .int (nI nf), .ref k3, .ref k4, .ref k5, .ref k6, .ref k7, .ref k8])), (k1, aI E 9 w), (k2, aI E 5 aw), (k3, aI E 4 my), (k4, aI E 120 fe), (k5, aI E 44 be), (k6, aI E 4 sk), (k7, aI E 4 cl), (k8, aI E 40 ex)] (nI (scT my fe be ex tu fr q)) [(h0, .inr (4, [.int x, .int (nI g), .ref k1, .ref k2, .int (nI sp), .int (nI pl), .int (nI tu), .int (nI fr), .int (nI nf), .ref k3, .ref k4, .ref k5, .ref k6, .ref k7, .ref k8])), (k1, aI E 9 w), (k2, aI E 5 aw), (k3, aI E 4 my), (k4, aI E 120 fe), (k5, aI E 44 be), (k6, aI E 4 sk), (k7, aI E 4 cl), (k8, aI E 40 ex)] := by
  refine sI (own := RX5) (cc := cX5_score) (maxL := 4) (ret := (some .int)) rfl (by decide) rfl (Nat.le_of_ble_eq_true rfl) ?_
  intro p e s m below meth c C hnm ls hl hW
  have hl : lv_has ls 4 [(0, .ref h0), (1, .int (nI q))] := hl
  have hW : WD E _ s [(h0, .inr (4, [.int x, .int (nI g), .ref k1, .ref k2, .int (nI sp), .int (nI pl), .int (nI tu), .int (nI fr), .int (nI nf), .ref k3, .ref k4, .ref k5, .ref k6, .ref k7, .ref k8])), (k1, aI E 9 w), (k2, aI E 5 aw), (k3, aI E 4 my), (k4, aI E 120 fe), (k5, aI E 44 be), (k6, aI E 4 sk), (k7, aI E 4 cl), (k8, aI E 40 ex)] s.heap [] := hW
  refine lv_iconst (v := nI 0) C.x C.b dX5_score_0 (by decide) ?_
  refine lv_istore_n (lv' := [(2, .int (nI 0)), (0, .ref h0), (1, .int (nI q))]) C.x C.b dX5_score_1 rfl hl (by decide) rfl (fun ls hl => ?_)
  refine lv_iconst (v := nI 0) C.x C.b dX5_score_2 (by decide) ?_
  refine lv_istore_n (lv' := [(3, .int (nI 0)), (2, .int (nI 0)), (0, .ref h0), (1, .int (nI q))]) C.x C.b dX5_score_3 rfl hl (by decide) rfl (fun ls hl => ?_)
  have lp_1 : ∀ (n1 i : Nat), i ≤ 10 → 10 + 1 ≤ i + n1 → ∀ (H : Heap) (locs : List Loc) (ls : Array Slot), WD E (va_A [(h0, .inr (4, [.int x, .int (nI g), .ref k1, .ref k2, .int (nI sp), .int (nI pl), .int (nI tu), .int (nI fr), .int (nI nf), .ref k3, .ref k4, .ref k5, .ref k6, .ref k7, .ref k8])), (k1, aI E 9 w), (k2, aI E 5 aw), (k3, aI E 4 my), (k4, aI E 120 fe), (k5, aI E 44 be), (k6, aI E 4 sk), (k7, aI E 4 cl), (k8, aI E 40 ex)] s.heap.size) s [(h0, .inr (4, [.int x, .int (nI g), .ref k1, .ref k2, .int (nI sp), .int (nI pl), .int (nI tu), .int (nI fr), .int (nI nf), .ref k3, .ref k4, .ref k5, .ref k6, .ref k7, .ref k8])), (k1, aI E 9 w), (k2, aI E 5 aw), (k3, aI E 4 my), (k4, aI E 120 fe), (k5, aI E 44 be), (k6, aI E 4 sk), (k7, aI E 4 cl), (k8, aI E 40 ex)] H locs → lv_has ls 4 [(3, .int (nI i)), (2, .int (nI (scM my fe be ex tu fr q i))), (0, .ref h0), (1, .int (nI q))] → W p l e ({ frames := 3, cells := 0, slots := 0, locals := 70 } : Room) s m ([.ref h0, .int (nI q)] : List Value).toArray below meth c H locs 0 0 (QI E [(h0, .inr (4, [.int x, .int (nI g), .ref k1, .ref k2, .int (nI sp), .int (nI pl), .int (nI tu), .int (nI fr), .int (nI nf), .ref k3, .ref k4, .ref k5, .ref k6, .ref k7, .ref k8])), (k1, aI E 9 w), (k2, aI E 5 aw), (k3, aI E 4 my), (k4, aI E 120 fe), (k5, aI E 44 be), (k6, aI E 4 sk), (k7, aI E 4 cl), (k8, aI E 40 ex)] (nI (scT my fe be ex tu fr q)) [(h0, .inr (4, [.int x, .int (nI g), .ref k1, .ref k2, .int (nI sp), .int (nI pl), .int (nI tu), .int (nI fr), .int (nI nf), .ref k3, .ref k4, .ref k5, .ref k6, .ref k7, .ref k8])), (k1, aI E 9 w), (k2, aI E 5 aw), (k3, aI E 4 my), (k4, aI E 120 fe), (k5, aI E 44 be), (k6, aI E 4 sk), (k7, aI E 4 cl), (k8, aI E 40 ex)] below ([.ref h0, .int (nI q)] : List Value).toArray s) (F0 m 4 ls []) := by
    intro n1
    induction n1 with
    | zero => intro i hi hn; exact absurd hn (by omega)
    | succ n1 ih1 =>
      intro i hi hn  H locs ls hW hl
      refine lv_iload_n C.x C.b dX5_score_4 rfl (lv_at hl 0 rfl) ?_
      refine lv_bipush (v := nI 10) C.x C.b dX5_score_5 (by decide) ?_
      refine x_icmp_ge C (by omega) (by omega) (tgt := 25) dX5_score_7 (by decide) (fun c_2 => ?_) (fun c_2 => ?_)
      · obtain rfl : i = 10 := by omega
        refine lv_iload_n C.x C.b dX5_score_25 rfl (lv_at hl 1 rfl) ?_
        exact x_iret C hW rfl (by first | rfl | (simp [scM, c_2]; done) | (rw [if_pos (by omega)]; done) | (rw [if_neg (by omega)]; done) | (exfalso; omega) | (simp only [scM]; (repeat' split) <;> first | rfl | contradiction | (exfalso; omega))) rfl dX5_score_26
      · refine lv_iload_n C.x C.b dX5_score_10 rfl (lv_at hl 1 rfl) ?_
        refine lv_aload_n C.x C.b dX5_score_11 rfl (lv_at hl 2 rfl) ?_
        refine lv_iload_n C.x C.b dX5_score_12 rfl (lv_at hl 3 rfl) ?_
        refine lv_iload_n C.x C.b dX5_score_13 rfl (lv_at hl 0 rfl) ?_
        refine x_cVI C hW (As := [.int (nI q), .int (nI i)]) (rest := [.int (nI (scM my fe be ex tu fr q i))]) (wr := []) (wn := [(h0, .inr (4, [.int x, .int (nI g), .ref k1, .ref k2, .int (nI sp), .int (nI pl), .int (nI tu), .int (nI fr), .int (nI nf), .ref k3, .ref k4, .ref k5, .ref k6, .ref k7, .ref k8])), (k1, aI E 9 w), (k2, aI E 5 aw), (k3, aI E 4 my), (k4, aI E 120 fe), (k5, aI E 44 be), (k6, aI E 4 sk), (k7, aI E 4 cl), (k8, aI E 40 ex)]) (Cn := RX5) (met_X5_points l E h0 k1 k2 k3 k4 k5 k6 k7 k8 x g sp pl tu fr nf w aw my fe be sk cl ex q i (by omega) (by omega) (by omega) (by omega) hmy hbe hex) gX5_score_X5_points rfl 2 rfl ⟨rfl, rfl⟩ ⟨rfl, by decide +kernel, by decide +kernel, by decide +kernel⟩ ⟨Nat.le_of_ble_eq_true rfl, Nat.le_of_ble_eq_true rfl⟩ [0, 1, 2, 3, 4, 5, 6, 7, 8] [] [0, 1, 2, 3, 4, 5, 6, 7, 8] rfl (by decide) rfl (by decide) (by decide) rfl (by decide) 0 4 rfl rfl hl.1 rfl (Nat.le_of_ble_eq_true rfl) dX5_score_14 ⟨Nat.zero_le _, Nat.zero_le _⟩ (fun H locs hW => ?_)
        refine x_iadd C dX5_score_17 ?_
        refine lv_istore_n (lv' := [(2, .int (nI ((scM my fe be ex tu fr q i) + (poM my fe be ex tu fr q i)))), (3, .int (nI i)), (0, .ref h0), (1, .int (nI q))]) C.x C.b dX5_score_18 rfl hl (by decide) rfl (fun ls hl => ?_)
        refine lv_iinc (k := 1) (v := nI (i + 1)) (lv' := [(3, .int (nI (i + 1))), (2, .int (nI ((scM my fe be ex tu fr q i) + (poM my fe be ex tu fr q i)))), (0, .ref h0), (1, .int (nI q))]) C.x C.b dX5_score_19 hl rfl (z_inc i 1) (by decide) rfl (fun ls hl => ?_)
        refine lv_goto (tgt := 4) C.x C.b dX5_score_22 (by decide) ?_
        exact ih1 (i + 1) (by omega) (by omega)  _ _ _ (hW.to rfl) (lv_to (lv_sub (l' := [(3, .int (nI (i + 1))), (2, .int (nI ((scM my fe be ex tu fr q i) + (poM my fe be ex tu fr q i)))), (0, .ref h0), (1, .int (nI q))]) hl [0, 1, 2, 3] rfl) (by first | rfl | (simp [scM, c_2]; done) | (rw [if_pos (by omega)]; done) | (rw [if_neg (by omega)]; done) | (exfalso; omega) | (simp only [scM]; (repeat' split) <;> first | rfl | contradiction | (exfalso; omega))))
  exact lp_1 (10 + 1) 0 (by omega) (by omega)  _ _ _ (hW.to rfl) (lv_to (lv_sub (l' := [(3, .int (nI 0)), (2, .int (nI 0)), (0, .ref h0), (1, .int (nI q))]) hl [0, 1, 2, 3] rfl) rfl)

set_option maxHeartbeats 4000000 in
set_option maxRecDepth 100000 in
theorem met_X5_first (l : Launch) (E : EV) (h0 k1 k2 k3 k4 k5 k6 k7 k8 : Nat) (x : Int32) (g sp pl tu fr nf : Nat) (w aw my fe be sk cl ex : Nat → Nat) (hpl : pl ≤ 4) (hfr : fr ≤ 10) (htu : tu < 4) (hmy : ∀ j, my j ≤ 30) (hfe : ∀ j, fe j ≤ 9) (hbe : ∀ j, be j ≤ 30) (hex : ∀ j, ex j ≤ 2) : MI l yX5_first wsX5_first { frames := 4, cells := 0, slots := 0, locals := 93 } E [.ref h0] [(h0, .inr (4, [.int x, .int (nI g), .ref k1, .ref k2, .int (nI sp), .int (nI pl), .int (nI tu), .int (nI fr), .int (nI nf), .ref k3, .ref k4, .ref k5, .ref k6, .ref k7, .ref k8])), (k1, aI E 9 w), (k2, aI E 5 aw), (k3, aI E 4 my), (k4, aI E 120 fe), (k5, aI E 44 be), (k6, aI E 4 sk), (k7, aI E 4 cl), (k8, aI E 40 ex)] (pinV (fiB (scT my fe be ex tu fr) pl)) [(h0, .inr (4, [.int x, .int (nI g), .ref k1, .ref k2, .int (nI sp), .int (nI pl), .int (nI tu), .int (nI fr), .int (nI nf), .ref k3, .ref k4, .ref k5, .ref k6, .ref k7, .ref k8])), (k1, aI E 9 w), (k2, aI E 5 aw), (k3, aI E 4 my), (k4, aI E 120 fe), (k5, aI E 44 be), (k6, aI E 4 sk), (k7, aI E 4 cl), (k8, aI E 40 ex)] := by
  refine sI (own := RX5) (cc := cX5_first) (maxL := 3) (ret := (some .int)) rfl (by decide) rfl (Nat.le_of_ble_eq_true rfl) ?_
  intro p e s m below meth c C hnm ls hl hW
  have hl : lv_has ls 3 [(0, .ref h0)] := hl
  have hW : WD E _ s [(h0, .inr (4, [.int x, .int (nI g), .ref k1, .ref k2, .int (nI sp), .int (nI pl), .int (nI tu), .int (nI fr), .int (nI nf), .ref k3, .ref k4, .ref k5, .ref k6, .ref k7, .ref k8])), (k1, aI E 9 w), (k2, aI E 5 aw), (k3, aI E 4 my), (k4, aI E 120 fe), (k5, aI E 44 be), (k6, aI E 4 sk), (k7, aI E 4 cl), (k8, aI E 40 ex)] s.heap [] := hW
  have hinX5 : ∀ w ∈ u_ws RX5 TX5 15, w ∈ wsX5_first := by decide +kernel
  have hf48 : Cond.fieldLink RX5 48 (TX5 5).1 (TX5 5).2.1 (TX5 5).2.2.1 ∈ wsX5_first := by decide +kernel
  refine lv_iconst (v := (-1)) C.x C.b dX5_first_0 (by decide) ?_
  refine lv_istore_n (lv' := [(1, .int ((-1 : Int32))), (0, .ref h0)]) C.x C.b dX5_first_1 rfl hl (by decide) rfl (fun ls hl => ?_)
  refine lv_iconst (v := nI 0) C.x C.b dX5_first_2 (by decide) ?_
  refine lv_istore_n (lv' := [(2, .int (nI 0)), (1, .int ((-1 : Int32))), (0, .ref h0)]) C.x C.b dX5_first_3 rfl hl (by decide) rfl (fun ls hl => ?_)
  have lp_1 : ∀ (n1 i : Nat), i ≤ pl → pl + 1 ≤ i + n1 → ∀ (H : Heap) (locs : List Loc) (ls : Array Slot), WD E (va_A [(h0, .inr (4, [.int x, .int (nI g), .ref k1, .ref k2, .int (nI sp), .int (nI pl), .int (nI tu), .int (nI fr), .int (nI nf), .ref k3, .ref k4, .ref k5, .ref k6, .ref k7, .ref k8])), (k1, aI E 9 w), (k2, aI E 5 aw), (k3, aI E 4 my), (k4, aI E 120 fe), (k5, aI E 44 be), (k6, aI E 4 sk), (k7, aI E 4 cl), (k8, aI E 40 ex)] s.heap.size) s [(h0, .inr (4, [.int x, .int (nI g), .ref k1, .ref k2, .int (nI sp), .int (nI pl), .int (nI tu), .int (nI fr), .int (nI nf), .ref k3, .ref k4, .ref k5, .ref k6, .ref k7, .ref k8])), (k1, aI E 9 w), (k2, aI E 5 aw), (k3, aI E 4 my), (k4, aI E 120 fe), (k5, aI E 44 be), (k6, aI E 4 sk), (k7, aI E 4 cl), (k8, aI E 40 ex)] H locs → lv_has ls 3 [(2, .int (nI i)), (1, .int (pinV (fiB (scT my fe be ex tu fr) i))), (0, .ref h0)] → W p l e ({ frames := 4, cells := 0, slots := 0, locals := 93 } : Room) s m ([.ref h0] : List Value).toArray below meth c H locs 0 0 (QI E [(h0, .inr (4, [.int x, .int (nI g), .ref k1, .ref k2, .int (nI sp), .int (nI pl), .int (nI tu), .int (nI fr), .int (nI nf), .ref k3, .ref k4, .ref k5, .ref k6, .ref k7, .ref k8])), (k1, aI E 9 w), (k2, aI E 5 aw), (k3, aI E 4 my), (k4, aI E 120 fe), (k5, aI E 44 be), (k6, aI E 4 sk), (k7, aI E 4 cl), (k8, aI E 40 ex)] (pinV (fiB (scT my fe be ex tu fr) pl)) [(h0, .inr (4, [.int x, .int (nI g), .ref k1, .ref k2, .int (nI sp), .int (nI pl), .int (nI tu), .int (nI fr), .int (nI nf), .ref k3, .ref k4, .ref k5, .ref k6, .ref k7, .ref k8])), (k1, aI E 9 w), (k2, aI E 5 aw), (k3, aI E 4 my), (k4, aI E 120 fe), (k5, aI E 44 be), (k6, aI E 4 sk), (k7, aI E 4 cl), (k8, aI E 40 ex)] below ([.ref h0] : List Value).toArray s) (F0 m 4 ls []) := by
    intro n1
    induction n1 with
    | zero => intro i hi hn; exact absurd hn (by omega)
    | succ n1 ih1 =>
      intro i hi hn  H locs ls hW hl
      refine lv_iload_n C.x C.b dX5_first_4 rfl (lv_at hl 0 rfl) ?_
      refine lv_aload_n C.x C.b dX5_first_5 rfl (lv_at hl 2 rfl) ?_
      refine x_get C hW 0 4 5 (Cn := RX5) (T := TX5) (N := 15) rfl rfl (by decide) hinX5 hf48 rfl dX5_first_6 ?_
      refine x_icmp_ge C (by omega) (by omega) (tgt := 38) dX5_first_9 (by decide) (fun c_2 => ?_) (fun c_2 => ?_)
      · obtain rfl : i = pl := by omega
        refine lv_iload_n C.x C.b dX5_first_38 rfl (lv_at hl 1 rfl) ?_
        exact x_iret C hW rfl rfl rfl dX5_first_39
      · refine lv_iload_n C.x C.b dX5_first_12 rfl (lv_at hl 1 rfl) ?_
        refine lv_iconst (v := (-1)) C.x C.b dX5_first_13 (by decide) ?_
        refine lv_icmp_eq C.x C.b (tgt := 30) dX5_first_14 (by decide) (fun c_3 => ?_) (fun c_3 => ?_)
        · have c_3 : pinV (fiB (scT my fe be ex tu fr) i) = (-1 : Int32) := c_3
          refine lv_iload_n C.x C.b dX5_first_30 rfl (lv_at hl 0 rfl) ?_
          refine lv_istore_n (lv' := [(1, .int (nI i)), (2, .int (nI i)), (0, .ref h0)]) C.x C.b dX5_first_31 rfl hl (by decide) rfl (fun ls hl => ?_)
          refine lv_iinc (k := 1) (v := nI (i + 1)) (lv' := [(2, .int (nI (i + 1))), (1, .int (nI i)), (0, .ref h0)]) C.x C.b dX5_first_32 hl rfl (z_inc i 1) (by decide) rfl (fun ls hl => ?_)
          refine lv_goto (tgt := 4) C.x C.b dX5_first_35 (by decide) ?_
          exact ih1 (i + 1) (by omega) (by omega)  _ _ _ (hW.to rfl) (lv_to (lv_sub (l' := [(2, .int (nI (i + 1))), (1, .int (nI i)), (0, .ref h0)]) hl [0, 1, 2] rfl) (by first | (rw [fiB_new (pinV_m1.mp (by assumption)), pinV_nI (by omega)]; done) | (rw [fiB_up hp (by omega), pinV_nI (by omega)]; done) | (rw [fiB_keep hp (by omega)]; done)))
        · have c_3 : ¬ (pinV (fiB (scT my fe be ex tu fr) i) = (-1 : Int32)) := c_3
          have hp : fiB (scT my fe be ex tu fr) i < 9 := pinV_lt (by assumption)
          have hp2 := fiB_in hp
          have e1 := scT_le (be := be) (ex := ex) hfe hmy tu fr i
          have e2 := scT_le (be := be) (ex := ex) hfe hmy tu fr (fiB (scT my fe be ex tu fr) i)
          refine lv_aload_n C.x C.b dX5_first_17 rfl (lv_at hl 2 rfl) ?_
          refine lv_iload_n C.x C.b dX5_first_18 rfl (lv_at hl 0 rfl) ?_
          refine x_cVI C hW (As := [.int (nI i)]) (rest := []) (wr := []) (wn := [(h0, .inr (4, [.int x, .int (nI g), .ref k1, .ref k2, .int (nI sp), .int (nI pl), .int (nI tu), .int (nI fr), .int (nI nf), .ref k3, .ref k4, .ref k5, .ref k6, .ref k7, .ref k8])), (k1, aI E 9 w), (k2, aI E 5 aw), (k3, aI E 4 my), (k4, aI E 120 fe), (k5, aI E 44 be), (k6, aI E 4 sk), (k7, aI E 4 cl), (k8, aI E 40 ex)]) (Cn := RX5) (met_X5_score l E h0 k1 k2 k3 k4 k5 k6 k7 k8 x g sp pl tu fr nf w aw my fe be sk cl ex i (by omega) (by omega) (by omega) hmy hbe hex) gX5_first_X5_score rfl 1 rfl ⟨rfl, rfl⟩ ⟨rfl, by decide +kernel, by decide +kernel, by decide +kernel⟩ ⟨Nat.le_of_ble_eq_true rfl, Nat.le_of_ble_eq_true rfl⟩ [0, 1, 2, 3, 4, 5, 6, 7, 8] [] [0, 1, 2, 3, 4, 5, 6, 7, 8] rfl (by decide) rfl (by decide) (by decide) rfl (by decide) 0 4 rfl rfl hl.1 rfl (Nat.le_of_ble_eq_true rfl) dX5_first_19 ⟨Nat.zero_le _, Nat.zero_le _⟩ (fun H locs hW => ?_)
          refine lv_aload_n C.x C.b dX5_first_22 rfl (lv_at hl 2 rfl) ?_
          refine lv_iload_n C.x C.b dX5_first_23 rfl (lv_at hl 1 rfl) ?_
          refine x_toi (y := nI (fiB (scT my fe be ex tu fr) i)) (pinV_nI hp) ?_
          refine x_cVI C hW (As := [.int (nI (fiB (scT my fe be ex tu fr) i))]) (rest := [.int (nI (scT my fe be ex tu fr i))]) (wr := []) (wn := [(h0, .inr (4, [.int x, .int (nI g), .ref k1, .ref k2, .int (nI sp), .int (nI pl), .int (nI tu), .int (nI fr), .int (nI nf), .ref k3, .ref k4, .ref k5, .ref k6, .ref k7, .ref k8])), (k1, aI E 9 w), (k2, aI E 5 aw), (k3, aI E 4 my), (k4, aI E 120 fe), (k5, aI E 44 be), (k6, aI E 4 sk), (k7, aI E 4 cl), (k8, aI E 40 ex)]) (Cn := RX5) (met_X5_score l E h0 k1 k2 k3 k4 k5 k6 k7 k8 x g sp pl tu fr nf w aw my fe be sk cl ex (fiB (scT my fe be ex tu fr) i) (by omega) (by omega) (by omega) hmy hbe hex) gX5_first_X5_score rfl 1 rfl ⟨rfl, rfl⟩ ⟨rfl, by decide +kernel, by decide +kernel, by decide +kernel⟩ ⟨Nat.le_of_ble_eq_true rfl, Nat.le_of_ble_eq_true rfl⟩ [0, 1, 2, 3, 4, 5, 6, 7, 8] [] [0, 1, 2, 3, 4, 5, 6, 7, 8] rfl (by decide) rfl (by decide) (by decide) rfl (by decide) 0 4 rfl rfl hl.1 rfl (Nat.le_of_ble_eq_true rfl) dX5_first_24 ⟨Nat.zero_le _, Nat.zero_le _⟩ (fun H locs hW => ?_)
          refine x_icmp_le C (by omega) (by omega) (tgt := 32) dX5_first_27 (by decide) (fun c_4 => ?_) (fun c_4 => ?_)
          · refine lv_iinc (k := 0) (v := nI (i + 1)) (lv' := [(2, .int (nI (i + 1))), (1, .int (pinV (fiB (scT my fe be ex tu fr) i))), (0, .ref h0)]) C.x C.b dX5_first_32 hl rfl (z_inc i 1) (by decide) rfl (fun ls hl => ?_)
            refine lv_goto (tgt := 4) C.x C.b dX5_first_35 (by decide) ?_
            exact ih1 (i + 1) (by omega) (by omega)  _ _ _ (hW.to rfl) (lv_to (lv_sub (l' := [(2, .int (nI (i + 1))), (1, .int (pinV (fiB (scT my fe be ex tu fr) i))), (0, .ref h0)]) hl [0, 1, 2] rfl) (by first | (rw [fiB_new (pinV_m1.mp (by assumption)), pinV_nI (by omega)]; done) | (rw [fiB_up hp (by omega), pinV_nI (by omega)]; done) | (rw [fiB_keep hp (by omega)]; done)))
          · refine lv_iload_n C.x C.b dX5_first_30 rfl (lv_at hl 0 rfl) ?_
            refine lv_istore_n (lv' := [(1, .int (nI i)), (2, .int (nI i)), (0, .ref h0)]) C.x C.b dX5_first_31 rfl hl (by decide) rfl (fun ls hl => ?_)
            refine lv_iinc (k := 1) (v := nI (i + 1)) (lv' := [(2, .int (nI (i + 1))), (1, .int (nI i)), (0, .ref h0)]) C.x C.b dX5_first_32 hl rfl (z_inc i 1) (by decide) rfl (fun ls hl => ?_)
            refine lv_goto (tgt := 4) C.x C.b dX5_first_35 (by decide) ?_
            exact ih1 (i + 1) (by omega) (by omega)  _ _ _ (hW.to rfl) (lv_to (lv_sub (l' := [(2, .int (nI (i + 1))), (1, .int (nI i)), (0, .ref h0)]) hl [0, 1, 2] rfl) (by first | (rw [fiB_new (pinV_m1.mp (by assumption)), pinV_nI (by omega)]; done) | (rw [fiB_up hp (by omega), pinV_nI (by omega)]; done) | (rw [fiB_keep hp (by omega)]; done)))
  exact lp_1 (pl + 1) 0 (by omega) (by omega)  _ _ _ (hW.to rfl) (lv_to (lv_sub (l' := [(2, .int (nI 0)), (1, .int ((-1 : Int32))), (0, .ref h0)]) hl [0, 1, 2] rfl) rfl)

set_option maxHeartbeats 4000000 in
set_option maxRecDepth 100000 in
theorem met_X5_newGame (l : Launch) (E : EV) (h0 k1 k2 k3 k4 k5 k6 k7 k8 : Nat) (x : Int32) (g sp pl tu fr nf : Nat) (w aw my fe be sk cl ex : Nat → Nat) (hpl : pl ≤ 4) (hfr : fr ≤ 10) (htu : tu < 4) (hmy : ∀ j, my j ≤ 30) (hfe : ∀ j, fe j ≤ 9) (hbe : ∀ j, be j ≤ 30) (hex : ∀ j, ex j ≤ 2) (hw : ∀ i, w i ≤ 12) : MI l yX5_newGame wsX5_newGame { frames := 5, cells := 0, slots := 0, locals := 115 } E [.ref h0] [(h0, .inr (4, [.int x, .int (nI g), .ref k1, .ref k2, .int (nI sp), .int (nI pl), .int (nI tu), .int (nI fr), .int (nI nf), .ref k3, .ref k4, .ref k5, .ref k6, .ref k7, .ref k8])), (k1, aI E 9 w), (k2, aI E 5 aw), (k3, aI E 4 my), (k4, aI E 120 fe), (k5, aI E 44 be), (k6, aI E 4 sk), (k7, aI E 4 cl), (k8, aI E 40 ex)] (pinV (fiB (scT my fe be ex tu fr) pl)) [(h0, .inr (4, [.int (nI 0), .int (nI (suN w 9)), .ref k1, .ref k2, .int (nI sp), .int (nI pl), .int (nI 0), .int (nI 0), .int (nI 0), .ref k3, .ref k4, .ref k5, .ref k6, .ref k7, .ref k8])), (k1, aI E 9 w), (k2, aI E 5 (zeW aw 5)), (k3, aI E 4 (zeW my 4)), (k4, aI E 120 fe), (k5, aI E 44 (zbW be 4)), (k6, aI E 4 (zeW sk 4)), (k7, aI E 4 (zeW cl 4)), (k8, aI E 40 (zeW ex 40))] := by
  refine sI (own := RX5) (cc := cX5_newGame) (maxL := 3) (ret := (some .int)) rfl (by decide) rfl (Nat.le_of_ble_eq_true rfl) ?_
  intro p e s m below meth c C hnm ls hl hW
  have hl : lv_has ls 3 [(0, .ref h0)] := hl
  have hW : WD E _ s [(h0, .inr (4, [.int x, .int (nI g), .ref k1, .ref k2, .int (nI sp), .int (nI pl), .int (nI tu), .int (nI fr), .int (nI nf), .ref k3, .ref k4, .ref k5, .ref k6, .ref k7, .ref k8])), (k1, aI E 9 w), (k2, aI E 5 aw), (k3, aI E 4 my), (k4, aI E 120 fe), (k5, aI E 44 be), (k6, aI E 4 sk), (k7, aI E 4 cl), (k8, aI E 40 ex)] s.heap [] := hW
  have hinX5 : ∀ w ∈ u_ws RX5 TX5 15, w ∈ wsX5_newGame := by decide +kernel
  have hf41 : Cond.fieldLink RX5 41 (TX5 0).1 (TX5 0).2.1 (TX5 0).2.2.1 ∈ wsX5_newGame := by decide +kernel
  have hf17 : Cond.fieldLink RX5 17 (TX5 3).1 (TX5 3).2.1 (TX5 3).2.2.1 ∈ wsX5_newGame := by decide +kernel
  have hf88 : Cond.fieldLink RX5 88 (TX5 6).1 (TX5 6).2.1 (TX5 6).2.2.1 ∈ wsX5_newGame := by decide +kernel
  have hf72 : Cond.fieldLink RX5 72 (TX5 7).1 (TX5 7).2.1 (TX5 7).2.2.1 ∈ wsX5_newGame := by decide +kernel
  have hf97 : Cond.fieldLink RX5 97 (TX5 8).1 (TX5 8).2.1 (TX5 8).2.2.1 ∈ wsX5_newGame := by decide +kernel
  have hf23 : Cond.fieldLink RX5 23 (TX5 9).1 (TX5 9).2.1 (TX5 9).2.2.1 ∈ wsX5_newGame := by decide +kernel
  have hf29 : Cond.fieldLink RX5 29 (TX5 11).1 (TX5 11).2.1 (TX5 11).2.2.1 ∈ wsX5_newGame := by decide +kernel
  have hf32 : Cond.fieldLink RX5 32 (TX5 12).1 (TX5 12).2.1 (TX5 12).2.2.1 ∈ wsX5_newGame := by decide +kernel
  have hf35 : Cond.fieldLink RX5 35 (TX5 13).1 (TX5 13).2.1 (TX5 13).2.2.1 ∈ wsX5_newGame := by decide +kernel
  have hf38 : Cond.fieldLink RX5 38 (TX5 14).1 (TX5 14).2.1 (TX5 14).2.2.1 ∈ wsX5_newGame := by decide +kernel
  refine lv_aload_n C.x C.b dX5_newGame_0 rfl (lv_at hl 0 rfl) ?_
  refine lv_iconst (v := nI 0) C.x C.b dX5_newGame_1 (by decide) ?_
  refine x_put C hW 0 4 0 (Cn := RX5) (T := TX5) (N := 15) (w' := [(h0, .inr (4, [.int (nI 0), .int (nI g), .ref k1, .ref k2, .int (nI sp), .int (nI pl), .int (nI tu), .int (nI fr), .int (nI nf), .ref k3, .ref k4, .ref k5, .ref k6, .ref k7, .ref k8])), (k1, aI E 9 w), (k2, aI E 5 aw), (k3, aI E 4 my), (k4, aI E 120 fe), (k5, aI E 44 be), (k6, aI E 4 sk), (k7, aI E 4 cl), (k8, aI E 40 ex)]) tyX5 tyX5_ok nmX5 rfl rfl (by decide) hinX5 hf41 rfl (by decide +kernel) (Nat.le_of_ble_eq_true rfl) dX5_newGame_2 rfl (fun H locs hW => ?_)
  refine lv_aload_n C.x C.b dX5_newGame_5 rfl (lv_at hl 0 rfl) ?_
  refine x_cVI C hW (As := []) (rest := []) (wr := []) (wn := [(h0, .inr (4, [.int (nI 0), .int (nI g), .ref k1, .ref k2, .int (nI sp), .int (nI pl), .int (nI tu), .int (nI fr), .int (nI nf), .ref k3, .ref k4, .ref k5, .ref k6, .ref k7, .ref k8])), (k1, aI E 9 w), (k2, aI E 5 aw), (k3, aI E 4 my), (k4, aI E 120 fe), (k5, aI E 44 be), (k6, aI E 4 sk), (k7, aI E 4 cl), (k8, aI E 40 ex)]) (Cn := RX5) (met_X5_first l E h0 k1 k2 k3 k4 k5 k6 k7 k8 (nI 0) g sp pl tu fr nf w aw my fe be sk cl ex (by omega) (by omega) (by omega) hmy hfe hbe hex) gX5_newGame_X5_first rfl 0 rfl ⟨rfl, rfl⟩ ⟨rfl, by decide +kernel, by decide +kernel, by decide +kernel⟩ ⟨Nat.le_of_ble_eq_true rfl, Nat.le_of_ble_eq_true rfl⟩ [0, 1, 2, 3, 4, 5, 6, 7, 8] [] [0, 1, 2, 3, 4, 5, 6, 7, 8] rfl (by decide) rfl (by decide) (by decide) rfl (by decide) 0 4 rfl rfl hl.1 rfl (Nat.le_of_ble_eq_true rfl) dX5_newGame_6 ⟨Nat.zero_le _, Nat.zero_le _⟩ (fun H locs hW => ?_)
  refine lv_istore_n (lv' := [(1, .int (pinV (fiB (scT my fe be ex tu fr) pl))), (0, .ref h0)]) C.x C.b dX5_newGame_9 rfl hl (by decide) rfl (fun ls hl => ?_)
  refine lv_aload_n C.x C.b dX5_newGame_10 rfl (lv_at hl 1 rfl) ?_
  refine x_cVV C hW (As := []) (rest := []) (wr := []) (wn := [(h0, .inr (4, [.int (nI 0), .int (nI (suN w 9)), .ref k1, .ref k2, .int (nI sp), .int (nI pl), .int (nI tu), .int (nI fr), .int (nI nf), .ref k3, .ref k4, .ref k5, .ref k6, .ref k7, .ref k8])), (k1, aI E 9 w), (k2, aI E 5 aw), (k3, aI E 4 my), (k4, aI E 120 fe), (k5, aI E 44 be), (k6, aI E 4 sk), (k7, aI E 4 cl), (k8, aI E 40 ex)]) (Cn := RX5) (met_X5_putUp l E h0 k1 k2 k3 k4 k5 k6 k7 k8 (nI 0) g sp pl tu fr nf w aw my fe be sk cl ex hw) gX5_newGame_X5_putUp rfl 0 rfl ⟨rfl, rfl⟩ ⟨rfl, by decide +kernel, by decide +kernel, by decide +kernel⟩ ⟨Nat.le_of_ble_eq_true rfl, Nat.le_of_ble_eq_true rfl⟩ [0, 1, 2, 3, 4, 5, 6, 7, 8] [] [0, 1, 2, 3, 4, 5, 6, 7, 8] rfl (by decide) rfl (by decide) (by decide) rfl (by decide) 0 4 rfl rfl hl.1 rfl (Nat.le_of_ble_eq_true rfl) dX5_newGame_11 ⟨Nat.zero_le _, Nat.zero_le _⟩ (fun H locs hW => ?_)
  refine lv_iconst (v := nI 0) C.x C.b dX5_newGame_14 (by decide) ?_
  refine lv_istore_n (lv' := [(2, .int (nI 0)), (1, .int (pinV (fiB (scT my fe be ex tu fr) pl))), (0, .ref h0)]) C.x C.b dX5_newGame_15 rfl hl (by decide) rfl (fun ls hl => ?_)
  have lp_1 : ∀ (n1 i : Nat), i ≤ 5 → 5 + 1 ≤ i + n1 → ∀ (H : Heap) (locs : List Loc) (ls : Array Slot), WD E (va_A [(h0, .inr (4, [.int x, .int (nI g), .ref k1, .ref k2, .int (nI sp), .int (nI pl), .int (nI tu), .int (nI fr), .int (nI nf), .ref k3, .ref k4, .ref k5, .ref k6, .ref k7, .ref k8])), (k1, aI E 9 w), (k2, aI E 5 aw), (k3, aI E 4 my), (k4, aI E 120 fe), (k5, aI E 44 be), (k6, aI E 4 sk), (k7, aI E 4 cl), (k8, aI E 40 ex)] s.heap.size) s [(h0, .inr (4, [.int (nI 0), .int (nI (suN w 9)), .ref k1, .ref k2, .int (nI sp), .int (nI pl), .int (nI tu), .int (nI fr), .int (nI nf), .ref k3, .ref k4, .ref k5, .ref k6, .ref k7, .ref k8])), (k1, aI E 9 w), (k2, aI E 5 (zeW aw i)), (k3, aI E 4 my), (k4, aI E 120 fe), (k5, aI E 44 be), (k6, aI E 4 sk), (k7, aI E 4 cl), (k8, aI E 40 ex)] H locs → lv_has ls 3 [(2, .int (nI i)), (1, .int (pinV (fiB (scT my fe be ex tu fr) pl))), (0, .ref h0)] → W p l e ({ frames := 5, cells := 0, slots := 0, locals := 115 } : Room) s m ([.ref h0] : List Value).toArray below meth c H locs 0 0 (QI E [(h0, .inr (4, [.int x, .int (nI g), .ref k1, .ref k2, .int (nI sp), .int (nI pl), .int (nI tu), .int (nI fr), .int (nI nf), .ref k3, .ref k4, .ref k5, .ref k6, .ref k7, .ref k8])), (k1, aI E 9 w), (k2, aI E 5 aw), (k3, aI E 4 my), (k4, aI E 120 fe), (k5, aI E 44 be), (k6, aI E 4 sk), (k7, aI E 4 cl), (k8, aI E 40 ex)] (pinV (fiB (scT my fe be ex tu fr) pl)) [(h0, .inr (4, [.int (nI 0), .int (nI (suN w 9)), .ref k1, .ref k2, .int (nI sp), .int (nI pl), .int (nI 0), .int (nI 0), .int (nI 0), .ref k3, .ref k4, .ref k5, .ref k6, .ref k7, .ref k8])), (k1, aI E 9 w), (k2, aI E 5 (zeW aw 5)), (k3, aI E 4 (zeW my 4)), (k4, aI E 120 fe), (k5, aI E 44 (zbW be 4)), (k6, aI E 4 (zeW sk 4)), (k7, aI E 4 (zeW cl 4)), (k8, aI E 40 (zeW ex 40))] below ([.ref h0] : List Value).toArray s) (F0 m 16 ls []) := by
    intro n1
    induction n1 with
    | zero => intro i hi hn; exact absurd hn (by omega)
    | succ n1 ih1 =>
      intro i hi hn  H locs ls hW hl
      refine lv_iload_n C.x C.b dX5_newGame_16 rfl (lv_at hl 0 rfl) ?_
      refine lv_iconst (v := nI 5) C.x C.b dX5_newGame_17 (by decide) ?_
      refine x_icmp_ge C (by omega) (by omega) (tgt := 34) dX5_newGame_18 (by decide) (fun c_2 => ?_) (fun c_2 => ?_)
      · obtain rfl : i = 5 := by omega
        refine lv_iconst (v := nI 0) C.x C.b dX5_newGame_34 (by decide) ?_
        refine lv_istore_n (lv' := [(2, .int (nI 0)), (1, .int (pinV (fiB (scT my fe be ex tu fr) pl))), (0, .ref h0)]) C.x C.b dX5_newGame_35 rfl hl (by decide) rfl (fun ls hl => ?_)
        have lp_3 : ∀ (n3 i : Nat), i ≤ 4 → 4 + 1 ≤ i + n3 → ∀ (H : Heap) (locs : List Loc) (ls : Array Slot), WD E (va_A [(h0, .inr (4, [.int x, .int (nI g), .ref k1, .ref k2, .int (nI sp), .int (nI pl), .int (nI tu), .int (nI fr), .int (nI nf), .ref k3, .ref k4, .ref k5, .ref k6, .ref k7, .ref k8])), (k1, aI E 9 w), (k2, aI E 5 aw), (k3, aI E 4 my), (k4, aI E 120 fe), (k5, aI E 44 be), (k6, aI E 4 sk), (k7, aI E 4 cl), (k8, aI E 40 ex)] s.heap.size) s [(h0, .inr (4, [.int (nI 0), .int (nI (suN w 9)), .ref k1, .ref k2, .int (nI sp), .int (nI pl), .int (nI tu), .int (nI fr), .int (nI nf), .ref k3, .ref k4, .ref k5, .ref k6, .ref k7, .ref k8])), (k1, aI E 9 w), (k2, aI E 5 (zeW aw 5)), (k3, aI E 4 (zeW my i)), (k4, aI E 120 fe), (k5, aI E 44 (zbW be i)), (k6, aI E 4 (zeW sk i)), (k7, aI E 4 (zeW cl i)), (k8, aI E 40 ex)] H locs → lv_has ls 3 [(2, .int (nI i)), (1, .int (pinV (fiB (scT my fe be ex tu fr) pl))), (0, .ref h0)] → W p l e ({ frames := 5, cells := 0, slots := 0, locals := 115 } : Room) s m ([.ref h0] : List Value).toArray below meth c H locs 0 0 (QI E [(h0, .inr (4, [.int x, .int (nI g), .ref k1, .ref k2, .int (nI sp), .int (nI pl), .int (nI tu), .int (nI fr), .int (nI nf), .ref k3, .ref k4, .ref k5, .ref k6, .ref k7, .ref k8])), (k1, aI E 9 w), (k2, aI E 5 aw), (k3, aI E 4 my), (k4, aI E 120 fe), (k5, aI E 44 be), (k6, aI E 4 sk), (k7, aI E 4 cl), (k8, aI E 40 ex)] (pinV (fiB (scT my fe be ex tu fr) pl)) [(h0, .inr (4, [.int (nI 0), .int (nI (suN w 9)), .ref k1, .ref k2, .int (nI sp), .int (nI pl), .int (nI 0), .int (nI 0), .int (nI 0), .ref k3, .ref k4, .ref k5, .ref k6, .ref k7, .ref k8])), (k1, aI E 9 w), (k2, aI E 5 (zeW aw 5)), (k3, aI E 4 (zeW my 4)), (k4, aI E 120 fe), (k5, aI E 44 (zbW be 4)), (k6, aI E 4 (zeW sk 4)), (k7, aI E 4 (zeW cl 4)), (k8, aI E 40 (zeW ex 40))] below ([.ref h0] : List Value).toArray s) (F0 m 36 ls []) := by
          intro n3
          induction n3 with
          | zero => intro i hi hn; exact absurd hn (by omega)
          | succ n3 ih3 =>
            intro i hi hn  H locs ls hW hl
            refine lv_iload_n C.x C.b dX5_newGame_36 rfl (lv_at hl 0 rfl) ?_
            refine lv_iconst (v := nI 4) C.x C.b dX5_newGame_37 (by decide) ?_
            refine x_icmp_ge C (by omega) (by omega) (tgt := 78) dX5_newGame_38 (by decide) (fun c_4 => ?_) (fun c_4 => ?_)
            · obtain rfl : i = 4 := by omega
              refine lv_iconst (v := nI 0) C.x C.b dX5_newGame_78 (by decide) ?_
              refine lv_istore_n (lv' := [(2, .int (nI 0)), (1, .int (pinV (fiB (scT my fe be ex tu fr) pl))), (0, .ref h0)]) C.x C.b dX5_newGame_79 rfl hl (by decide) rfl (fun ls hl => ?_)
              have lp_5 : ∀ (n5 i : Nat), i ≤ 40 → 40 + 1 ≤ i + n5 → ∀ (H : Heap) (locs : List Loc) (ls : Array Slot), WD E (va_A [(h0, .inr (4, [.int x, .int (nI g), .ref k1, .ref k2, .int (nI sp), .int (nI pl), .int (nI tu), .int (nI fr), .int (nI nf), .ref k3, .ref k4, .ref k5, .ref k6, .ref k7, .ref k8])), (k1, aI E 9 w), (k2, aI E 5 aw), (k3, aI E 4 my), (k4, aI E 120 fe), (k5, aI E 44 be), (k6, aI E 4 sk), (k7, aI E 4 cl), (k8, aI E 40 ex)] s.heap.size) s [(h0, .inr (4, [.int (nI 0), .int (nI (suN w 9)), .ref k1, .ref k2, .int (nI sp), .int (nI pl), .int (nI tu), .int (nI fr), .int (nI nf), .ref k3, .ref k4, .ref k5, .ref k6, .ref k7, .ref k8])), (k1, aI E 9 w), (k2, aI E 5 (zeW aw 5)), (k3, aI E 4 (zeW my 4)), (k4, aI E 120 fe), (k5, aI E 44 (zbW be 4)), (k6, aI E 4 (zeW sk 4)), (k7, aI E 4 (zeW cl 4)), (k8, aI E 40 (zeW ex i))] H locs → lv_has ls 3 [(2, .int (nI i)), (1, .int (pinV (fiB (scT my fe be ex tu fr) pl))), (0, .ref h0)] → W p l e ({ frames := 5, cells := 0, slots := 0, locals := 115 } : Room) s m ([.ref h0] : List Value).toArray below meth c H locs 0 0 (QI E [(h0, .inr (4, [.int x, .int (nI g), .ref k1, .ref k2, .int (nI sp), .int (nI pl), .int (nI tu), .int (nI fr), .int (nI nf), .ref k3, .ref k4, .ref k5, .ref k6, .ref k7, .ref k8])), (k1, aI E 9 w), (k2, aI E 5 aw), (k3, aI E 4 my), (k4, aI E 120 fe), (k5, aI E 44 be), (k6, aI E 4 sk), (k7, aI E 4 cl), (k8, aI E 40 ex)] (pinV (fiB (scT my fe be ex tu fr) pl)) [(h0, .inr (4, [.int (nI 0), .int (nI (suN w 9)), .ref k1, .ref k2, .int (nI sp), .int (nI pl), .int (nI 0), .int (nI 0), .int (nI 0), .ref k3, .ref k4, .ref k5, .ref k6, .ref k7, .ref k8])), (k1, aI E 9 w), (k2, aI E 5 (zeW aw 5)), (k3, aI E 4 (zeW my 4)), (k4, aI E 120 fe), (k5, aI E 44 (zbW be 4)), (k6, aI E 4 (zeW sk 4)), (k7, aI E 4 (zeW cl 4)), (k8, aI E 40 (zeW ex 40))] below ([.ref h0] : List Value).toArray s) (F0 m 80 ls []) := by
                intro n5
                induction n5 with
                | zero => intro i hi hn; exact absurd hn (by omega)
                | succ n5 ih5 =>
                  intro i hi hn  H locs ls hW hl
                  refine lv_iload_n C.x C.b dX5_newGame_80 rfl (lv_at hl 0 rfl) ?_
                  refine lv_aload_n C.x C.b dX5_newGame_81 rfl (lv_at hl 2 rfl) ?_
                  refine x_get C hW 0 4 14 (Cn := RX5) (T := TX5) (N := 15) rfl rfl (by decide) hinX5 hf38 rfl dX5_newGame_82 ?_
                  refine x_alen C hW 8 0 rfl rfl dX5_newGame_85 ?_
                  refine x_icmp_ge C (by omega) (by omega) (tgt := 102) dX5_newGame_86 (by decide) (fun c_6 => ?_) (fun c_6 => ?_)
                  · obtain rfl : i = 40 := by omega
                    refine lv_aload_n C.x C.b dX5_newGame_102 rfl (lv_at hl 2 rfl) ?_
                    refine lv_iconst (v := nI 0) C.x C.b dX5_newGame_103 (by decide) ?_
                    refine x_put C hW 0 4 6 (Cn := RX5) (T := TX5) (N := 15) (w' := [(h0, .inr (4, [.int (nI 0), .int (nI (suN w 9)), .ref k1, .ref k2, .int (nI sp), .int (nI pl), .int (nI 0), .int (nI fr), .int (nI nf), .ref k3, .ref k4, .ref k5, .ref k6, .ref k7, .ref k8])), (k1, aI E 9 w), (k2, aI E 5 (zeW aw 5)), (k3, aI E 4 (zeW my 4)), (k4, aI E 120 fe), (k5, aI E 44 (zbW be 4)), (k6, aI E 4 (zeW sk 4)), (k7, aI E 4 (zeW cl 4)), (k8, aI E 40 (zeW ex 40))]) tyX5 tyX5_ok nmX5 rfl rfl (by decide) hinX5 hf88 rfl (by decide +kernel) (Nat.le_of_ble_eq_true rfl) dX5_newGame_104 rfl (fun H locs hW => ?_)
                    refine lv_aload_n C.x C.b dX5_newGame_107 rfl (lv_at hl 2 rfl) ?_
                    refine lv_iconst (v := nI 0) C.x C.b dX5_newGame_108 (by decide) ?_
                    refine x_put C hW 0 4 7 (Cn := RX5) (T := TX5) (N := 15) (w' := [(h0, .inr (4, [.int (nI 0), .int (nI (suN w 9)), .ref k1, .ref k2, .int (nI sp), .int (nI pl), .int (nI 0), .int (nI 0), .int (nI nf), .ref k3, .ref k4, .ref k5, .ref k6, .ref k7, .ref k8])), (k1, aI E 9 w), (k2, aI E 5 (zeW aw 5)), (k3, aI E 4 (zeW my 4)), (k4, aI E 120 fe), (k5, aI E 44 (zbW be 4)), (k6, aI E 4 (zeW sk 4)), (k7, aI E 4 (zeW cl 4)), (k8, aI E 40 (zeW ex 40))]) tyX5 tyX5_ok nmX5 rfl rfl (by decide) hinX5 hf72 rfl (by decide +kernel) (Nat.le_of_ble_eq_true rfl) dX5_newGame_109 rfl (fun H locs hW => ?_)
                    refine lv_aload_n C.x C.b dX5_newGame_112 rfl (lv_at hl 2 rfl) ?_
                    refine lv_iconst (v := nI 0) C.x C.b dX5_newGame_113 (by decide) ?_
                    refine x_put C hW 0 4 8 (Cn := RX5) (T := TX5) (N := 15) (w' := [(h0, .inr (4, [.int (nI 0), .int (nI (suN w 9)), .ref k1, .ref k2, .int (nI sp), .int (nI pl), .int (nI 0), .int (nI 0), .int (nI 0), .ref k3, .ref k4, .ref k5, .ref k6, .ref k7, .ref k8])), (k1, aI E 9 w), (k2, aI E 5 (zeW aw 5)), (k3, aI E 4 (zeW my 4)), (k4, aI E 120 fe), (k5, aI E 44 (zbW be 4)), (k6, aI E 4 (zeW sk 4)), (k7, aI E 4 (zeW cl 4)), (k8, aI E 40 (zeW ex 40))]) tyX5 tyX5_ok nmX5 rfl rfl (by decide) hinX5 hf97 rfl (by decide +kernel) (Nat.le_of_ble_eq_true rfl) dX5_newGame_114 rfl (fun H locs hW => ?_)
                    refine lv_iload_n C.x C.b dX5_newGame_117 rfl (lv_at hl 1 rfl) ?_
                    exact x_iret C hW rfl rfl rfl dX5_newGame_118
                  · refine lv_aload_n C.x C.b dX5_newGame_89 rfl (lv_at hl 2 rfl) ?_
                    refine x_get C hW 0 4 14 (Cn := RX5) (T := TX5) (N := 15) rfl rfl (by decide) hinX5 hf38 rfl dX5_newGame_90 ?_
                    refine lv_iload_n C.x C.b dX5_newGame_93 rfl (lv_at hl 0 rfl) ?_
                    refine lv_iconst (v := nI 0) C.x C.b dX5_newGame_94 (by decide) ?_
                    refine x_ast C hW 8 i 0 rfl rfl rfl (by omega) (by decide) dX5_newGame_95 (w' := [(h0, .inr (4, [.int (nI 0), .int (nI (suN w 9)), .ref k1, .ref k2, .int (nI sp), .int (nI pl), .int (nI tu), .int (nI fr), .int (nI nf), .ref k3, .ref k4, .ref k5, .ref k6, .ref k7, .ref k8])), (k1, aI E 9 w), (k2, aI E 5 (zeW aw 5)), (k3, aI E 4 (zeW my 4)), (k4, aI E 120 fe), (k5, aI E 44 (zbW be 4)), (k6, aI E 4 (zeW sk 4)), (k7, aI E 4 (zeW cl 4)), (k8, aI E 40 (upN (zeW ex i) i 0))]) rfl (fun H locs hW => ?_)
                    refine lv_iinc (k := 0) (v := nI (i + 1)) (lv' := [(2, .int (nI (i + 1))), (1, .int (pinV (fiB (scT my fe be ex tu fr) pl))), (0, .ref h0)]) C.x C.b dX5_newGame_96 hl rfl (z_inc i 1) (by decide) rfl (fun ls hl => ?_)
                    refine lv_goto (tgt := 80) C.x C.b dX5_newGame_99 (by decide) ?_
                    exact ih5 (i + 1) (by omega) (by omega)  _ _ _ (hW.to (by first | rfl | (simp [zeW, zbW, c_2, c_4, c_6]; done) | (rw [if_pos (by omega)]; done) | (rw [if_neg (by omega)]; done) | (exfalso; omega) | (simp only [zeW, zbW]; (repeat' split) <;> first | rfl | contradiction | (exfalso; omega)))) (lv_to (lv_sub (l' := [(2, .int (nI (i + 1))), (1, .int (pinV (fiB (scT my fe be ex tu fr) pl))), (0, .ref h0)]) hl [0, 1, 2] rfl) (by first | rfl | (simp [zeW, zbW, c_2, c_4, c_6]; done) | (rw [if_pos (by omega)]; done) | (rw [if_neg (by omega)]; done) | (exfalso; omega) | (simp only [zeW, zbW]; (repeat' split) <;> first | rfl | contradiction | (exfalso; omega))))
              exact lp_5 (40 + 1) 0 (by omega) (by omega)  _ _ _ (hW.to rfl) (lv_to (lv_sub (l' := [(2, .int (nI 0)), (1, .int (pinV (fiB (scT my fe be ex tu fr) pl))), (0, .ref h0)]) hl [0, 1, 2] rfl) rfl)
            · refine lv_aload_n C.x C.b dX5_newGame_41 rfl (lv_at hl 2 rfl) ?_
              refine x_get C hW 0 4 9 (Cn := RX5) (T := TX5) (N := 15) rfl rfl (by decide) hinX5 hf23 rfl dX5_newGame_42 ?_
              refine lv_iload_n C.x C.b dX5_newGame_45 rfl (lv_at hl 0 rfl) ?_
              refine lv_iconst (v := nI 0) C.x C.b dX5_newGame_46 (by decide) ?_
              refine x_ast C hW 3 i 0 rfl rfl rfl (by omega) (by decide) dX5_newGame_47 (w' := [(h0, .inr (4, [.int (nI 0), .int (nI (suN w 9)), .ref k1, .ref k2, .int (nI sp), .int (nI pl), .int (nI tu), .int (nI fr), .int (nI nf), .ref k3, .ref k4, .ref k5, .ref k6, .ref k7, .ref k8])), (k1, aI E 9 w), (k2, aI E 5 (zeW aw 5)), (k3, aI E 4 (upN (zeW my i) i 0)), (k4, aI E 120 fe), (k5, aI E 44 (zbW be i)), (k6, aI E 4 (zeW sk i)), (k7, aI E 4 (zeW cl i)), (k8, aI E 40 ex)]) rfl (fun H locs hW => ?_)
              refine lv_aload_n C.x C.b dX5_newGame_48 rfl (lv_at hl 2 rfl) ?_
              refine x_get C hW 0 4 12 (Cn := RX5) (T := TX5) (N := 15) rfl rfl (by decide) hinX5 hf32 rfl dX5_newGame_49 ?_
              refine lv_iload_n C.x C.b dX5_newGame_52 rfl (lv_at hl 0 rfl) ?_
              refine lv_iconst (v := nI 0) C.x C.b dX5_newGame_53 (by decide) ?_
              refine x_ast C hW 6 i 0 rfl rfl rfl (by omega) (by decide) dX5_newGame_54 (w' := [(h0, .inr (4, [.int (nI 0), .int (nI (suN w 9)), .ref k1, .ref k2, .int (nI sp), .int (nI pl), .int (nI tu), .int (nI fr), .int (nI nf), .ref k3, .ref k4, .ref k5, .ref k6, .ref k7, .ref k8])), (k1, aI E 9 w), (k2, aI E 5 (zeW aw 5)), (k3, aI E 4 (upN (zeW my i) i 0)), (k4, aI E 120 fe), (k5, aI E 44 (zbW be i)), (k6, aI E 4 (upN (zeW sk i) i 0)), (k7, aI E 4 (zeW cl i)), (k8, aI E 40 ex)]) rfl (fun H locs hW => ?_)
              refine lv_aload_n C.x C.b dX5_newGame_55 rfl (lv_at hl 2 rfl) ?_
              refine x_get C hW 0 4 13 (Cn := RX5) (T := TX5) (N := 15) rfl rfl (by decide) hinX5 hf35 rfl dX5_newGame_56 ?_
              refine lv_iload_n C.x C.b dX5_newGame_59 rfl (lv_at hl 0 rfl) ?_
              refine lv_iconst (v := nI 0) C.x C.b dX5_newGame_60 (by decide) ?_
              refine x_ast C hW 7 i 0 rfl rfl rfl (by omega) (by decide) dX5_newGame_61 (w' := [(h0, .inr (4, [.int (nI 0), .int (nI (suN w 9)), .ref k1, .ref k2, .int (nI sp), .int (nI pl), .int (nI tu), .int (nI fr), .int (nI nf), .ref k3, .ref k4, .ref k5, .ref k6, .ref k7, .ref k8])), (k1, aI E 9 w), (k2, aI E 5 (zeW aw 5)), (k3, aI E 4 (upN (zeW my i) i 0)), (k4, aI E 120 fe), (k5, aI E 44 (zbW be i)), (k6, aI E 4 (upN (zeW sk i) i 0)), (k7, aI E 4 (upN (zeW cl i) i 0)), (k8, aI E 40 ex)]) rfl (fun H locs hW => ?_)
              refine lv_aload_n C.x C.b dX5_newGame_62 rfl (lv_at hl 2 rfl) ?_
              refine x_get C hW 0 4 11 (Cn := RX5) (T := TX5) (N := 15) rfl rfl (by decide) hinX5 hf29 rfl dX5_newGame_63 ?_
              refine lv_bipush (v := nI 11) C.x C.b dX5_newGame_66 (by decide) ?_
              refine lv_iload_n C.x C.b dX5_newGame_68 rfl (lv_at hl 0 rfl) ?_
              refine x_imul C dX5_newGame_69 ?_
              refine lv_iconst (v := nI 0) C.x C.b dX5_newGame_70 (by decide) ?_
              refine x_ast C hW 5 (11 * i) 0 rfl rfl rfl (by omega) (by decide) dX5_newGame_71 (w' := [(h0, .inr (4, [.int (nI 0), .int (nI (suN w 9)), .ref k1, .ref k2, .int (nI sp), .int (nI pl), .int (nI tu), .int (nI fr), .int (nI nf), .ref k3, .ref k4, .ref k5, .ref k6, .ref k7, .ref k8])), (k1, aI E 9 w), (k2, aI E 5 (zeW aw 5)), (k3, aI E 4 (upN (zeW my i) i 0)), (k4, aI E 120 fe), (k5, aI E 44 (upN (zbW be i) (11 * i) 0)), (k6, aI E 4 (upN (zeW sk i) i 0)), (k7, aI E 4 (upN (zeW cl i) i 0)), (k8, aI E 40 ex)]) rfl (fun H locs hW => ?_)
              refine lv_iinc (k := 0) (v := nI (i + 1)) (lv' := [(2, .int (nI (i + 1))), (1, .int (pinV (fiB (scT my fe be ex tu fr) pl))), (0, .ref h0)]) C.x C.b dX5_newGame_72 hl rfl (z_inc i 1) (by decide) rfl (fun ls hl => ?_)
              refine lv_goto (tgt := 36) C.x C.b dX5_newGame_75 (by decide) ?_
              exact ih3 (i + 1) (by omega) (by omega)  _ _ _ (hW.to (by first | rfl | (simp [zeW, zbW, c_2, c_4]; done) | (rw [if_pos (by omega)]; done) | (rw [if_neg (by omega)]; done) | (exfalso; omega) | (simp only [zeW, zbW]; (repeat' split) <;> first | rfl | contradiction | (exfalso; omega)))) (lv_to (lv_sub (l' := [(2, .int (nI (i + 1))), (1, .int (pinV (fiB (scT my fe be ex tu fr) pl))), (0, .ref h0)]) hl [0, 1, 2] rfl) (by first | rfl | (simp [zeW, zbW, c_2, c_4]; done) | (rw [if_pos (by omega)]; done) | (rw [if_neg (by omega)]; done) | (exfalso; omega) | (simp only [zeW, zbW]; (repeat' split) <;> first | rfl | contradiction | (exfalso; omega))))
        exact lp_3 (4 + 1) 0 (by omega) (by omega)  _ _ _ (hW.to rfl) (lv_to (lv_sub (l' := [(2, .int (nI 0)), (1, .int (pinV (fiB (scT my fe be ex tu fr) pl))), (0, .ref h0)]) hl [0, 1, 2] rfl) rfl)
      · refine lv_aload_n C.x C.b dX5_newGame_21 rfl (lv_at hl 2 rfl) ?_
        refine x_get C hW 0 4 3 (Cn := RX5) (T := TX5) (N := 15) rfl rfl (by decide) hinX5 hf17 rfl dX5_newGame_22 ?_
        refine lv_iload_n C.x C.b dX5_newGame_25 rfl (lv_at hl 0 rfl) ?_
        refine lv_iconst (v := nI 0) C.x C.b dX5_newGame_26 (by decide) ?_
        refine x_ast C hW 2 i 0 rfl rfl rfl (by omega) (by decide) dX5_newGame_27 (w' := [(h0, .inr (4, [.int (nI 0), .int (nI (suN w 9)), .ref k1, .ref k2, .int (nI sp), .int (nI pl), .int (nI tu), .int (nI fr), .int (nI nf), .ref k3, .ref k4, .ref k5, .ref k6, .ref k7, .ref k8])), (k1, aI E 9 w), (k2, aI E 5 (upN (zeW aw i) i 0)), (k3, aI E 4 my), (k4, aI E 120 fe), (k5, aI E 44 be), (k6, aI E 4 sk), (k7, aI E 4 cl), (k8, aI E 40 ex)]) rfl (fun H locs hW => ?_)
        refine lv_iinc (k := 0) (v := nI (i + 1)) (lv' := [(2, .int (nI (i + 1))), (1, .int (pinV (fiB (scT my fe be ex tu fr) pl))), (0, .ref h0)]) C.x C.b dX5_newGame_28 hl rfl (z_inc i 1) (by decide) rfl (fun ls hl => ?_)
        refine lv_goto (tgt := 16) C.x C.b dX5_newGame_31 (by decide) ?_
        exact ih1 (i + 1) (by omega) (by omega)  _ _ _ (hW.to (by first | rfl | (simp [zeW, zbW, c_2]; done) | (rw [if_pos (by omega)]; done) | (rw [if_neg (by omega)]; done) | (exfalso; omega) | (simp only [zeW, zbW]; (repeat' split) <;> first | rfl | contradiction | (exfalso; omega)))) (lv_to (lv_sub (l' := [(2, .int (nI (i + 1))), (1, .int (pinV (fiB (scT my fe be ex tu fr) pl))), (0, .ref h0)]) hl [0, 1, 2] rfl) (by first | rfl | (simp [zeW, zbW, c_2]; done) | (rw [if_pos (by omega)]; done) | (rw [if_neg (by omega)]; done) | (exfalso; omega) | (simp only [zeW, zbW]; (repeat' split) <;> first | rfl | contradiction | (exfalso; omega))))
  exact lp_1 (5 + 1) 0 (by omega) (by omega)  _ _ _ (hW.to rfl) (lv_to (lv_sub (l' := [(2, .int (nI 0)), (1, .int (pinV (fiB (scT my fe be ex tu fr) pl))), (0, .ref h0)]) hl [0, 1, 2] rfl) rfl)

set_option maxHeartbeats 4000000 in
set_option maxRecDepth 100000 in
theorem met_X5_isStanding_ok (l : Launch) (E : EV) (h0 k1 k2 k3 k4 k5 k6 k7 k8 : Nat) (x : Int32) (g sp pl tu fr nf : Nat) (w aw my fe be sk cl ex : Nat → Nat) (q : Nat) (hq : q < 9) (hg : g < 512) : MI l yX5_isStanding wsX5_isStanding { frames := 2, cells := 0, slots := 0, locals := 42 } E [.ref h0, .int (nI q)] [(h0, .inr (4, [.int x, .int (nI g), .ref k1, .ref k2, .int (nI sp), .int (nI pl), .int (nI tu), .int (nI fr), .int (nI nf), .ref k3, .ref k4, .ref k5, .ref k6, .ref k7, .ref k8])), (k1, aI E 9 w), (k2, aI E 5 aw), (k3, aI E 4 my), (k4, aI E 120 fe), (k5, aI E 44 be), (k6, aI E 4 sk), (k7, aI E 4 cl), (k8, aI E 40 ex)] (nI (if g / 2 ^ q % 2 = 1 then 1 else 0)) [(h0, .inr (4, [.int (nI 0), .int (nI g), .ref k1, .ref k2, .int (nI sp), .int (nI pl), .int (nI tu), .int (nI fr), .int (nI nf), .ref k3, .ref k4, .ref k5, .ref k6, .ref k7, .ref k8])), (k1, aI E 9 w), (k2, aI E 5 aw), (k3, aI E 4 my), (k4, aI E 120 fe), (k5, aI E 44 be), (k6, aI E 4 sk), (k7, aI E 4 cl), (k8, aI E 40 ex)] := by
  refine sI (own := RX5) (cc := cX5_isStanding) (maxL := 2) (ret := (some .boolean)) rfl (by decide) rfl (Nat.le_of_ble_eq_true rfl) ?_
  intro p e s m below meth c C hnm ls hl hW
  have hl : lv_has ls 2 [(0, .ref h0), (1, .int (nI q))] := hl
  have hW : WD E _ s [(h0, .inr (4, [.int x, .int (nI g), .ref k1, .ref k2, .int (nI sp), .int (nI pl), .int (nI tu), .int (nI fr), .int (nI nf), .ref k3, .ref k4, .ref k5, .ref k6, .ref k7, .ref k8])), (k1, aI E 9 w), (k2, aI E 5 aw), (k3, aI E 4 my), (k4, aI E 120 fe), (k5, aI E 44 be), (k6, aI E 4 sk), (k7, aI E 4 cl), (k8, aI E 40 ex)] s.heap [] := hW
  have hinX5 : ∀ w ∈ u_ws RX5 TX5 15, w ∈ wsX5_isStanding := by decide +kernel
  have hf41 : Cond.fieldLink RX5 41 (TX5 0).1 (TX5 0).2.1 (TX5 0).2.2.1 ∈ wsX5_isStanding := by decide +kernel
  have hf9 : Cond.fieldLink RX5 9 (TX5 1).1 (TX5 1).2.1 (TX5 1).2.2.1 ∈ wsX5_isStanding := by decide +kernel
  refine lv_aload_n C.x C.b dX5_isStanding_0 rfl (lv_at hl 0 rfl) ?_
  refine lv_iconst (v := nI 0) C.x C.b dX5_isStanding_1 (by decide) ?_
  refine x_put C hW 0 4 0 (Cn := RX5) (T := TX5) (N := 15) (w' := [(h0, .inr (4, [.int (nI 0), .int (nI g), .ref k1, .ref k2, .int (nI sp), .int (nI pl), .int (nI tu), .int (nI fr), .int (nI nf), .ref k3, .ref k4, .ref k5, .ref k6, .ref k7, .ref k8])), (k1, aI E 9 w), (k2, aI E 5 aw), (k3, aI E 4 my), (k4, aI E 120 fe), (k5, aI E 44 be), (k6, aI E 4 sk), (k7, aI E 4 cl), (k8, aI E 40 ex)]) tyX5 tyX5_ok nmX5 rfl rfl (by decide) hinX5 hf41 rfl (by decide +kernel) (Nat.le_of_ble_eq_true rfl) dX5_isStanding_2 rfl (fun H locs hW => ?_)
  refine lv_iload_n C.x C.b dX5_isStanding_5 rfl (lv_at hl 1 rfl) ?_
  refine x_cSI C hW (As := [.int (nI q)]) (rest := []) (wr := [(h0, .inr (4, [.int (nI 0), .int (nI g), .ref k1, .ref k2, .int (nI sp), .int (nI pl), .int (nI tu), .int (nI fr), .int (nI nf), .ref k3, .ref k4, .ref k5, .ref k6, .ref k7, .ref k8])), (k1, aI E 9 w), (k2, aI E 5 aw), (k3, aI E 4 my), (k4, aI E 120 fe), (k5, aI E 44 be), (k6, aI E 4 sk), (k7, aI E 4 cl), (k8, aI E 40 ex)]) (wn := [(h0, .inr (4, [.int (nI 0), .int (nI g), .ref k1, .ref k2, .int (nI sp), .int (nI pl), .int (nI tu), .int (nI fr), .int (nI nf), .ref k3, .ref k4, .ref k5, .ref k6, .ref k7, .ref k8])), (k1, aI E 9 w), (k2, aI E 5 aw), (k3, aI E 4 my), (k4, aI E 120 fe), (k5, aI E 44 be), (k6, aI E 4 sk), (k7, aI E 4 cl), (k8, aI E 40 ex)]) (met_X5_isPin l E (nI q)) gX5_isStanding_X5_isPin rfl 1 rfl ⟨rfl, rfl⟩ ⟨by decide +kernel, by decide +kernel, by decide +kernel⟩ ⟨Nat.le_of_ble_eq_true rfl, Nat.le_of_ble_eq_true rfl⟩ [] [0, 1, 2, 3, 4, 5, 6, 7, 8] [0, 1, 2, 3, 4, 5, 6, 7, 8] rfl (by decide) rfl (by decide) (by decide) rfl (by decide) hl.1 rfl (Nat.le_of_ble_eq_true rfl) dX5_isStanding_6 ⟨Nat.zero_le _, Nat.zero_le _⟩ (fun H locs hW => ?_)
  refine x_ifb_eq C (tgt := 32) dX5_isStanding_9 (by decide) (fun c_1 => ?_) (fun c_1 => ?_)
  · exact absurd (z_inR (by omega) (by decide)) c_1
  · refine lv_aload_n C.x C.b dX5_isStanding_12 rfl (lv_at hl 0 rfl) ?_
    refine x_get C hW 0 4 1 (Cn := RX5) (T := TX5) (N := 15) rfl rfl (by decide) hinX5 hf9 rfl dX5_isStanding_13 ?_
    refine lv_iload_n C.x C.b dX5_isStanding_16 rfl (lv_at hl 1 rfl) ?_
    refine x_ishr C (by omega) (by omega) dX5_isStanding_17 ?_
    refine lv_iconst (v := nI 1) C.x C.b dX5_isStanding_18 (by decide) ?_
    refine x_iand1 C dX5_isStanding_19 ?_
    refine lv_iconst (v := nI 1) C.x C.b dX5_isStanding_20 (by decide) ?_
    refine x_icmp_ne C (by omega) (by omega) (tgt := 28) dX5_isStanding_21 (by decide) (fun c_2 => ?_) (fun c_2 => ?_)
    · refine lv_iconst (v := nI 0) C.x C.b dX5_isStanding_28 (by decide) ?_
      refine lv_goto (tgt := 37) C.x C.b dX5_isStanding_29 (by decide) ?_
      exact x_iret C hW (by first | rfl | exact z_narb _) (by first | rfl | (simp [c_1, c_2]; done) | (rw [if_pos (by omega)]; done) | (rw [if_neg (by omega)]; done) | (exfalso; omega) | ((repeat' split) <;> first | rfl | contradiction | (exfalso; omega))) rfl dX5_isStanding_37
    · refine lv_iconst (v := nI 1) C.x C.b dX5_isStanding_24 (by decide) ?_
      refine lv_goto (tgt := 37) C.x C.b dX5_isStanding_25 (by decide) ?_
      exact x_iret C hW (by first | rfl | exact z_narb _) (by first | rfl | (simp [c_1, c_2]; done) | (rw [if_pos (by omega)]; done) | (rw [if_neg (by omega)]; done) | (exfalso; omega) | ((repeat' split) <;> first | rfl | contradiction | (exfalso; omega))) rfl dX5_isStanding_37

set_option maxHeartbeats 4000000 in
set_option maxRecDepth 100000 in
theorem met_X5_isStanding_bad (l : Launch) (E : EV) (h0 k1 k2 k3 k4 k5 k6 k7 k8 : Nat) (x : Int32) (g sp pl tu fr nf : Nat) (w aw my fe be sk cl ex : Nat → Nat) (v : Int32) (hb : ¬ (nI 0 ≤ v ∧ v ≤ nI 8)) : MI l yX5_isStanding wsX5_isStanding { frames := 2, cells := 0, slots := 0, locals := 42 } E [.ref h0, .int v] [(h0, .inr (4, [.int x, .int (nI g), .ref k1, .ref k2, .int (nI sp), .int (nI pl), .int (nI tu), .int (nI fr), .int (nI nf), .ref k3, .ref k4, .ref k5, .ref k6, .ref k7, .ref k8])), (k1, aI E 9 w), (k2, aI E 5 aw), (k3, aI E 4 my), (k4, aI E 120 fe), (k5, aI E 44 be), (k6, aI E 4 sk), (k7, aI E 4 cl), (k8, aI E 40 ex)] (nI 0) [(h0, .inr (4, [.int (nI 1), .int (nI g), .ref k1, .ref k2, .int (nI sp), .int (nI pl), .int (nI tu), .int (nI fr), .int (nI nf), .ref k3, .ref k4, .ref k5, .ref k6, .ref k7, .ref k8])), (k1, aI E 9 w), (k2, aI E 5 aw), (k3, aI E 4 my), (k4, aI E 120 fe), (k5, aI E 44 be), (k6, aI E 4 sk), (k7, aI E 4 cl), (k8, aI E 40 ex)] := by
  refine sI (own := RX5) (cc := cX5_isStanding) (maxL := 2) (ret := (some .boolean)) rfl (by decide) rfl (Nat.le_of_ble_eq_true rfl) ?_
  intro p e s m below meth c C hnm ls hl hW
  have hl : lv_has ls 2 [(0, .ref h0), (1, .int v)] := hl
  have hW : WD E _ s [(h0, .inr (4, [.int x, .int (nI g), .ref k1, .ref k2, .int (nI sp), .int (nI pl), .int (nI tu), .int (nI fr), .int (nI nf), .ref k3, .ref k4, .ref k5, .ref k6, .ref k7, .ref k8])), (k1, aI E 9 w), (k2, aI E 5 aw), (k3, aI E 4 my), (k4, aI E 120 fe), (k5, aI E 44 be), (k6, aI E 4 sk), (k7, aI E 4 cl), (k8, aI E 40 ex)] s.heap [] := hW
  have hinX5 : ∀ w ∈ u_ws RX5 TX5 15, w ∈ wsX5_isStanding := by decide +kernel
  have hf41 : Cond.fieldLink RX5 41 (TX5 0).1 (TX5 0).2.1 (TX5 0).2.2.1 ∈ wsX5_isStanding := by decide +kernel
  refine lv_aload_n C.x C.b dX5_isStanding_0 rfl (lv_at hl 0 rfl) ?_
  refine lv_iconst (v := nI 0) C.x C.b dX5_isStanding_1 (by decide) ?_
  refine x_put C hW 0 4 0 (Cn := RX5) (T := TX5) (N := 15) (w' := [(h0, .inr (4, [.int (nI 0), .int (nI g), .ref k1, .ref k2, .int (nI sp), .int (nI pl), .int (nI tu), .int (nI fr), .int (nI nf), .ref k3, .ref k4, .ref k5, .ref k6, .ref k7, .ref k8])), (k1, aI E 9 w), (k2, aI E 5 aw), (k3, aI E 4 my), (k4, aI E 120 fe), (k5, aI E 44 be), (k6, aI E 4 sk), (k7, aI E 4 cl), (k8, aI E 40 ex)]) tyX5 tyX5_ok nmX5 rfl rfl (by decide) hinX5 hf41 rfl (by decide +kernel) (Nat.le_of_ble_eq_true rfl) dX5_isStanding_2 rfl (fun H locs hW => ?_)
  refine lv_iload_n C.x C.b dX5_isStanding_5 rfl (lv_at hl 1 rfl) ?_
  refine x_cSI C hW (As := [.int v]) (rest := []) (wr := [(h0, .inr (4, [.int (nI 0), .int (nI g), .ref k1, .ref k2, .int (nI sp), .int (nI pl), .int (nI tu), .int (nI fr), .int (nI nf), .ref k3, .ref k4, .ref k5, .ref k6, .ref k7, .ref k8])), (k1, aI E 9 w), (k2, aI E 5 aw), (k3, aI E 4 my), (k4, aI E 120 fe), (k5, aI E 44 be), (k6, aI E 4 sk), (k7, aI E 4 cl), (k8, aI E 40 ex)]) (wn := [(h0, .inr (4, [.int (nI 0), .int (nI g), .ref k1, .ref k2, .int (nI sp), .int (nI pl), .int (nI tu), .int (nI fr), .int (nI nf), .ref k3, .ref k4, .ref k5, .ref k6, .ref k7, .ref k8])), (k1, aI E 9 w), (k2, aI E 5 aw), (k3, aI E 4 my), (k4, aI E 120 fe), (k5, aI E 44 be), (k6, aI E 4 sk), (k7, aI E 4 cl), (k8, aI E 40 ex)]) (met_X5_isPin l E v) gX5_isStanding_X5_isPin rfl 1 rfl ⟨rfl, rfl⟩ ⟨by decide +kernel, by decide +kernel, by decide +kernel⟩ ⟨Nat.le_of_ble_eq_true rfl, Nat.le_of_ble_eq_true rfl⟩ [] [0, 1, 2, 3, 4, 5, 6, 7, 8] [0, 1, 2, 3, 4, 5, 6, 7, 8] rfl (by decide) rfl (by decide) (by decide) rfl (by decide) hl.1 rfl (Nat.le_of_ble_eq_true rfl) dX5_isStanding_6 ⟨Nat.zero_le _, Nat.zero_le _⟩ (fun H locs hW => ?_)
  refine x_ifb_eq C (tgt := 32) dX5_isStanding_9 (by decide) (fun c_1 => ?_) (fun c_1 => ?_)
  · refine lv_aload_n C.x C.b dX5_isStanding_32 rfl (lv_at hl 0 rfl) ?_
    refine lv_iconst (v := nI 1) C.x C.b dX5_isStanding_33 (by decide) ?_
    refine x_cVI C hW (As := [.int (nI 1)]) (rest := []) (wr := []) (wn := [(h0, .inr (4, [.int (nI 1), .int (nI g), .ref k1, .ref k2, .int (nI sp), .int (nI pl), .int (nI tu), .int (nI fr), .int (nI nf), .ref k3, .ref k4, .ref k5, .ref k6, .ref k7, .ref k8])), (k1, aI E 9 w), (k2, aI E 5 aw), (k3, aI E 4 my), (k4, aI E 120 fe), (k5, aI E 44 be), (k6, aI E 4 sk), (k7, aI E 4 cl), (k8, aI E 40 ex)]) (Cn := RX5) (met_X5_isNot l E h0 k1 k2 k3 k4 k5 k6 k7 k8 (nI 0) g sp pl tu fr nf w aw my fe be sk cl ex 1) gX5_isStanding_X5_isNot rfl 1 rfl ⟨rfl, rfl⟩ ⟨rfl, by decide +kernel, by decide +kernel, by decide +kernel⟩ ⟨Nat.le_of_ble_eq_true rfl, Nat.le_of_ble_eq_true rfl⟩ [0, 1, 2, 3, 4, 5, 6, 7, 8] [] [0, 1, 2, 3, 4, 5, 6, 7, 8] rfl (by decide) rfl (by decide) (by decide) rfl (by decide) 0 4 rfl rfl hl.1 rfl (Nat.le_of_ble_eq_true rfl) dX5_isStanding_34 ⟨Nat.zero_le _, Nat.zero_le _⟩ (fun H locs hW => ?_)
    exact x_iret C hW (by first | rfl | exact z_narb _) rfl rfl dX5_isStanding_37
  · exact absurd c_1 hb

set_option maxHeartbeats 4000000 in
set_option maxRecDepth 100000 in
theorem met_X5_standing (l : Launch) (E : EV) (h0 k1 k2 k3 k4 k5 k6 k7 k8 : Nat) (x : Int32) (g sp pl tu fr nf : Nat) (w aw my fe be sk cl ex : Nat → Nat) (hg : g < 512) : MI l yX5_standing wsX5_standing { frames := 1, cells := 0, slots := 0, locals := 21 } E [.ref h0] [(h0, .inr (4, [.int x, .int (nI g), .ref k1, .ref k2, .int (nI sp), .int (nI pl), .int (nI tu), .int (nI fr), .int (nI nf), .ref k3, .ref k4, .ref k5, .ref k6, .ref k7, .ref k8])), (k1, aI E 9 w), (k2, aI E 5 aw), (k3, aI E 4 my), (k4, aI E 120 fe), (k5, aI E 44 be), (k6, aI E 4 sk), (k7, aI E 4 cl), (k8, aI E 40 ex)] (nI (pcN g)) [(h0, .inr (4, [.int (nI 0), .int (nI g), .ref k1, .ref k2, .int (nI sp), .int (nI pl), .int (nI tu), .int (nI fr), .int (nI nf), .ref k3, .ref k4, .ref k5, .ref k6, .ref k7, .ref k8])), (k1, aI E 9 w), (k2, aI E 5 aw), (k3, aI E 4 my), (k4, aI E 120 fe), (k5, aI E 44 be), (k6, aI E 4 sk), (k7, aI E 4 cl), (k8, aI E 40 ex)] := by
  refine sI (own := RX5) (cc := cX5_standing) (maxL := 1) (ret := (some .int)) rfl (by decide) rfl (Nat.le_of_ble_eq_true rfl) ?_
  intro p e s m below meth c C hnm ls hl hW
  have hl : lv_has ls 1 [(0, .ref h0)] := hl
  have hW : WD E _ s [(h0, .inr (4, [.int x, .int (nI g), .ref k1, .ref k2, .int (nI sp), .int (nI pl), .int (nI tu), .int (nI fr), .int (nI nf), .ref k3, .ref k4, .ref k5, .ref k6, .ref k7, .ref k8])), (k1, aI E 9 w), (k2, aI E 5 aw), (k3, aI E 4 my), (k4, aI E 120 fe), (k5, aI E 44 be), (k6, aI E 4 sk), (k7, aI E 4 cl), (k8, aI E 40 ex)] s.heap [] := hW
  have hinX5 : ∀ w ∈ u_ws RX5 TX5 15, w ∈ wsX5_standing := by decide +kernel
  have hf9 : Cond.fieldLink RX5 9 (TX5 1).1 (TX5 1).2.1 (TX5 1).2.2.1 ∈ wsX5_standing := by decide +kernel
  refine lv_aload_n C.x C.b dX5_standing_0 rfl (lv_at hl 0 rfl) ?_
  refine lv_aload_n C.x C.b dX5_standing_1 rfl (lv_at hl 0 rfl) ?_
  refine x_get C hW 0 4 1 (Cn := RX5) (T := TX5) (N := 15) rfl rfl (by decide) hinX5 hf9 rfl dX5_standing_2 ?_
  refine x_cSI C hW (As := [.int (nI g)]) (rest := [.ref h0]) (wr := [(h0, .inr (4, [.int x, .int (nI g), .ref k1, .ref k2, .int (nI sp), .int (nI pl), .int (nI tu), .int (nI fr), .int (nI nf), .ref k3, .ref k4, .ref k5, .ref k6, .ref k7, .ref k8])), (k1, aI E 9 w), (k2, aI E 5 aw), (k3, aI E 4 my), (k4, aI E 120 fe), (k5, aI E 44 be), (k6, aI E 4 sk), (k7, aI E 4 cl), (k8, aI E 40 ex)]) (wn := [(h0, .inr (4, [.int x, .int (nI g), .ref k1, .ref k2, .int (nI sp), .int (nI pl), .int (nI tu), .int (nI fr), .int (nI nf), .ref k3, .ref k4, .ref k5, .ref k6, .ref k7, .ref k8])), (k1, aI E 9 w), (k2, aI E 5 aw), (k3, aI E 4 my), (k4, aI E 120 fe), (k5, aI E 44 be), (k6, aI E 4 sk), (k7, aI E 4 cl), (k8, aI E 40 ex)]) (met_J6_bitCount_0f7a4 l E g (by omega)) gX5_standing_J6_bitCount_0f7a4 rfl 1 rfl ⟨rfl, rfl⟩ ⟨by decide +kernel, by decide +kernel, by decide +kernel⟩ ⟨Nat.le_of_ble_eq_true rfl, Nat.le_of_ble_eq_true rfl⟩ [] [0, 1, 2, 3, 4, 5, 6, 7, 8] [0, 1, 2, 3, 4, 5, 6, 7, 8] rfl (by decide) rfl (by decide) (by decide) rfl (by decide) hl.1 rfl (Nat.le_of_ble_eq_true rfl) dX5_standing_5 ⟨Nat.zero_le _, Nat.zero_le _⟩ (fun H locs hW => ?_)
  refine x_cVI C hW (As := [.int (nI (pcN g))]) (rest := []) (wr := []) (wn := [(h0, .inr (4, [.int (nI 0), .int (nI g), .ref k1, .ref k2, .int (nI sp), .int (nI pl), .int (nI tu), .int (nI fr), .int (nI nf), .ref k3, .ref k4, .ref k5, .ref k6, .ref k7, .ref k8])), (k1, aI E 9 w), (k2, aI E 5 aw), (k3, aI E 4 my), (k4, aI E 120 fe), (k5, aI E 44 be), (k6, aI E 4 sk), (k7, aI E 4 cl), (k8, aI E 40 ex)]) (Cn := RX5) (met_X5_ok l E h0 k1 k2 k3 k4 k5 k6 k7 k8 x g sp pl tu fr nf w aw my fe be sk cl ex (nI (pcN g))) gX5_standing_X5_ok rfl 1 rfl ⟨rfl, rfl⟩ ⟨rfl, by decide +kernel, by decide +kernel, by decide +kernel⟩ ⟨Nat.le_of_ble_eq_true rfl, Nat.le_of_ble_eq_true rfl⟩ [0, 1, 2, 3, 4, 5, 6, 7, 8] [] [0, 1, 2, 3, 4, 5, 6, 7, 8] rfl (by decide) rfl (by decide) (by decide) rfl (by decide) 0 4 rfl rfl hl.1 rfl (Nat.le_of_ble_eq_true rfl) dX5_standing_8 ⟨Nat.zero_le _, Nat.zero_le _⟩ (fun H locs hW => ?_)
  exact x_iret C hW rfl (by first | rfl | (simp []; done) | (rw [if_pos (by omega)]; done) | (rw [if_neg (by omega)]; done) | (exfalso; omega) | ((repeat' split) <;> first | rfl | contradiction | (exfalso; omega))) rfl dX5_standing_11

set_option maxHeartbeats 4000000 in
set_option maxRecDepth 100000 in
theorem met_X5_wearOf_ok (l : Launch) (E : EV) (h0 k1 k2 k3 k4 k5 k6 k7 k8 : Nat) (x : Int32) (g sp pl tu fr nf : Nat) (w aw my fe be sk cl ex : Nat → Nat) (q : Nat) (hq : q < 9) : MI l yX5_wearOf wsX5_wearOf { frames := 2, cells := 0, slots := 0, locals := 42 } E [.ref h0, .int (nI q)] [(h0, .inr (4, [.int x, .int (nI g), .ref k1, .ref k2, .int (nI sp), .int (nI pl), .int (nI tu), .int (nI fr), .int (nI nf), .ref k3, .ref k4, .ref k5, .ref k6, .ref k7, .ref k8])), (k1, aI E 9 w), (k2, aI E 5 aw), (k3, aI E 4 my), (k4, aI E 120 fe), (k5, aI E 44 be), (k6, aI E 4 sk), (k7, aI E 4 cl), (k8, aI E 40 ex)] (nI (w q)) [(h0, .inr (4, [.int (nI 0), .int (nI g), .ref k1, .ref k2, .int (nI sp), .int (nI pl), .int (nI tu), .int (nI fr), .int (nI nf), .ref k3, .ref k4, .ref k5, .ref k6, .ref k7, .ref k8])), (k1, aI E 9 w), (k2, aI E 5 aw), (k3, aI E 4 my), (k4, aI E 120 fe), (k5, aI E 44 be), (k6, aI E 4 sk), (k7, aI E 4 cl), (k8, aI E 40 ex)] := by
  refine sI (own := RX5) (cc := cX5_wearOf) (maxL := 2) (ret := (some .int)) rfl (by decide) rfl (Nat.le_of_ble_eq_true rfl) ?_
  intro p e s m below meth c C hnm ls hl hW
  have hl : lv_has ls 2 [(0, .ref h0), (1, .int (nI q))] := hl
  have hW : WD E _ s [(h0, .inr (4, [.int x, .int (nI g), .ref k1, .ref k2, .int (nI sp), .int (nI pl), .int (nI tu), .int (nI fr), .int (nI nf), .ref k3, .ref k4, .ref k5, .ref k6, .ref k7, .ref k8])), (k1, aI E 9 w), (k2, aI E 5 aw), (k3, aI E 4 my), (k4, aI E 120 fe), (k5, aI E 44 be), (k6, aI E 4 sk), (k7, aI E 4 cl), (k8, aI E 40 ex)] s.heap [] := hW
  have hinX5 : ∀ w ∈ u_ws RX5 TX5 15, w ∈ wsX5_wearOf := by decide +kernel
  have hf41 : Cond.fieldLink RX5 41 (TX5 0).1 (TX5 0).2.1 (TX5 0).2.2.1 ∈ wsX5_wearOf := by decide +kernel
  have hf13 : Cond.fieldLink RX5 13 (TX5 2).1 (TX5 2).2.1 (TX5 2).2.2.1 ∈ wsX5_wearOf := by decide +kernel
  refine lv_aload_n C.x C.b dX5_wearOf_0 rfl (lv_at hl 0 rfl) ?_
  refine lv_iconst (v := nI 0) C.x C.b dX5_wearOf_1 (by decide) ?_
  refine x_put C hW 0 4 0 (Cn := RX5) (T := TX5) (N := 15) (w' := [(h0, .inr (4, [.int (nI 0), .int (nI g), .ref k1, .ref k2, .int (nI sp), .int (nI pl), .int (nI tu), .int (nI fr), .int (nI nf), .ref k3, .ref k4, .ref k5, .ref k6, .ref k7, .ref k8])), (k1, aI E 9 w), (k2, aI E 5 aw), (k3, aI E 4 my), (k4, aI E 120 fe), (k5, aI E 44 be), (k6, aI E 4 sk), (k7, aI E 4 cl), (k8, aI E 40 ex)]) tyX5 tyX5_ok nmX5 rfl rfl (by decide) hinX5 hf41 rfl (by decide +kernel) (Nat.le_of_ble_eq_true rfl) dX5_wearOf_2 rfl (fun H locs hW => ?_)
  refine lv_iload_n C.x C.b dX5_wearOf_5 rfl (lv_at hl 1 rfl) ?_
  refine x_cSI C hW (As := [.int (nI q)]) (rest := []) (wr := [(h0, .inr (4, [.int (nI 0), .int (nI g), .ref k1, .ref k2, .int (nI sp), .int (nI pl), .int (nI tu), .int (nI fr), .int (nI nf), .ref k3, .ref k4, .ref k5, .ref k6, .ref k7, .ref k8])), (k1, aI E 9 w), (k2, aI E 5 aw), (k3, aI E 4 my), (k4, aI E 120 fe), (k5, aI E 44 be), (k6, aI E 4 sk), (k7, aI E 4 cl), (k8, aI E 40 ex)]) (wn := [(h0, .inr (4, [.int (nI 0), .int (nI g), .ref k1, .ref k2, .int (nI sp), .int (nI pl), .int (nI tu), .int (nI fr), .int (nI nf), .ref k3, .ref k4, .ref k5, .ref k6, .ref k7, .ref k8])), (k1, aI E 9 w), (k2, aI E 5 aw), (k3, aI E 4 my), (k4, aI E 120 fe), (k5, aI E 44 be), (k6, aI E 4 sk), (k7, aI E 4 cl), (k8, aI E 40 ex)]) (met_X5_isPin l E (nI q)) gX5_wearOf_X5_isPin rfl 1 rfl ⟨rfl, rfl⟩ ⟨by decide +kernel, by decide +kernel, by decide +kernel⟩ ⟨Nat.le_of_ble_eq_true rfl, Nat.le_of_ble_eq_true rfl⟩ [] [0, 1, 2, 3, 4, 5, 6, 7, 8] [0, 1, 2, 3, 4, 5, 6, 7, 8] rfl (by decide) rfl (by decide) (by decide) rfl (by decide) hl.1 rfl (Nat.le_of_ble_eq_true rfl) dX5_wearOf_6 ⟨Nat.zero_le _, Nat.zero_le _⟩ (fun H locs hW => ?_)
  refine x_ifb_eq C (tgt := 21) dX5_wearOf_9 (by decide) (fun c_1 => ?_) (fun c_1 => ?_)
  · exact absurd (z_inR (by omega) (by decide)) c_1
  · refine lv_aload_n C.x C.b dX5_wearOf_12 rfl (lv_at hl 0 rfl) ?_
    refine x_get C hW 0 4 2 (Cn := RX5) (T := TX5) (N := 15) rfl rfl (by decide) hinX5 hf13 rfl dX5_wearOf_13 ?_
    refine lv_iload_n C.x C.b dX5_wearOf_16 rfl (lv_at hl 1 rfl) ?_
    refine x_ald C hW 1 q rfl rfl (by omega) (by decide) dX5_wearOf_17 ?_
    refine lv_goto (tgt := 26) C.x C.b dX5_wearOf_18 (by decide) ?_
    exact x_iret C hW rfl rfl rfl dX5_wearOf_26

set_option maxHeartbeats 4000000 in
set_option maxRecDepth 100000 in
theorem met_X5_wearOf_bad (l : Launch) (E : EV) (h0 k1 k2 k3 k4 k5 k6 k7 k8 : Nat) (x : Int32) (g sp pl tu fr nf : Nat) (w aw my fe be sk cl ex : Nat → Nat) (v : Int32) (hb : ¬ (nI 0 ≤ v ∧ v ≤ nI 8)) : MI l yX5_wearOf wsX5_wearOf { frames := 2, cells := 0, slots := 0, locals := 42 } E [.ref h0, .int v] [(h0, .inr (4, [.int x, .int (nI g), .ref k1, .ref k2, .int (nI sp), .int (nI pl), .int (nI tu), .int (nI fr), .int (nI nf), .ref k3, .ref k4, .ref k5, .ref k6, .ref k7, .ref k8])), (k1, aI E 9 w), (k2, aI E 5 aw), (k3, aI E 4 my), (k4, aI E 120 fe), (k5, aI E 44 be), (k6, aI E 4 sk), (k7, aI E 4 cl), (k8, aI E 40 ex)] (nI 0) [(h0, .inr (4, [.int (nI 1), .int (nI g), .ref k1, .ref k2, .int (nI sp), .int (nI pl), .int (nI tu), .int (nI fr), .int (nI nf), .ref k3, .ref k4, .ref k5, .ref k6, .ref k7, .ref k8])), (k1, aI E 9 w), (k2, aI E 5 aw), (k3, aI E 4 my), (k4, aI E 120 fe), (k5, aI E 44 be), (k6, aI E 4 sk), (k7, aI E 4 cl), (k8, aI E 40 ex)] := by
  refine sI (own := RX5) (cc := cX5_wearOf) (maxL := 2) (ret := (some .int)) rfl (by decide) rfl (Nat.le_of_ble_eq_true rfl) ?_
  intro p e s m below meth c C hnm ls hl hW
  have hl : lv_has ls 2 [(0, .ref h0), (1, .int v)] := hl
  have hW : WD E _ s [(h0, .inr (4, [.int x, .int (nI g), .ref k1, .ref k2, .int (nI sp), .int (nI pl), .int (nI tu), .int (nI fr), .int (nI nf), .ref k3, .ref k4, .ref k5, .ref k6, .ref k7, .ref k8])), (k1, aI E 9 w), (k2, aI E 5 aw), (k3, aI E 4 my), (k4, aI E 120 fe), (k5, aI E 44 be), (k6, aI E 4 sk), (k7, aI E 4 cl), (k8, aI E 40 ex)] s.heap [] := hW
  have hinX5 : ∀ w ∈ u_ws RX5 TX5 15, w ∈ wsX5_wearOf := by decide +kernel
  have hf41 : Cond.fieldLink RX5 41 (TX5 0).1 (TX5 0).2.1 (TX5 0).2.2.1 ∈ wsX5_wearOf := by decide +kernel
  refine lv_aload_n C.x C.b dX5_wearOf_0 rfl (lv_at hl 0 rfl) ?_
  refine lv_iconst (v := nI 0) C.x C.b dX5_wearOf_1 (by decide) ?_
  refine x_put C hW 0 4 0 (Cn := RX5) (T := TX5) (N := 15) (w' := [(h0, .inr (4, [.int (nI 0), .int (nI g), .ref k1, .ref k2, .int (nI sp), .int (nI pl), .int (nI tu), .int (nI fr), .int (nI nf), .ref k3, .ref k4, .ref k5, .ref k6, .ref k7, .ref k8])), (k1, aI E 9 w), (k2, aI E 5 aw), (k3, aI E 4 my), (k4, aI E 120 fe), (k5, aI E 44 be), (k6, aI E 4 sk), (k7, aI E 4 cl), (k8, aI E 40 ex)]) tyX5 tyX5_ok nmX5 rfl rfl (by decide) hinX5 hf41 rfl (by decide +kernel) (Nat.le_of_ble_eq_true rfl) dX5_wearOf_2 rfl (fun H locs hW => ?_)
  refine lv_iload_n C.x C.b dX5_wearOf_5 rfl (lv_at hl 1 rfl) ?_
  refine x_cSI C hW (As := [.int v]) (rest := []) (wr := [(h0, .inr (4, [.int (nI 0), .int (nI g), .ref k1, .ref k2, .int (nI sp), .int (nI pl), .int (nI tu), .int (nI fr), .int (nI nf), .ref k3, .ref k4, .ref k5, .ref k6, .ref k7, .ref k8])), (k1, aI E 9 w), (k2, aI E 5 aw), (k3, aI E 4 my), (k4, aI E 120 fe), (k5, aI E 44 be), (k6, aI E 4 sk), (k7, aI E 4 cl), (k8, aI E 40 ex)]) (wn := [(h0, .inr (4, [.int (nI 0), .int (nI g), .ref k1, .ref k2, .int (nI sp), .int (nI pl), .int (nI tu), .int (nI fr), .int (nI nf), .ref k3, .ref k4, .ref k5, .ref k6, .ref k7, .ref k8])), (k1, aI E 9 w), (k2, aI E 5 aw), (k3, aI E 4 my), (k4, aI E 120 fe), (k5, aI E 44 be), (k6, aI E 4 sk), (k7, aI E 4 cl), (k8, aI E 40 ex)]) (met_X5_isPin l E v) gX5_wearOf_X5_isPin rfl 1 rfl ⟨rfl, rfl⟩ ⟨by decide +kernel, by decide +kernel, by decide +kernel⟩ ⟨Nat.le_of_ble_eq_true rfl, Nat.le_of_ble_eq_true rfl⟩ [] [0, 1, 2, 3, 4, 5, 6, 7, 8] [0, 1, 2, 3, 4, 5, 6, 7, 8] rfl (by decide) rfl (by decide) (by decide) rfl (by decide) hl.1 rfl (Nat.le_of_ble_eq_true rfl) dX5_wearOf_6 ⟨Nat.zero_le _, Nat.zero_le _⟩ (fun H locs hW => ?_)
  refine x_ifb_eq C (tgt := 21) dX5_wearOf_9 (by decide) (fun c_1 => ?_) (fun c_1 => ?_)
  · refine lv_aload_n C.x C.b dX5_wearOf_21 rfl (lv_at hl 0 rfl) ?_
    refine lv_iconst (v := nI 1) C.x C.b dX5_wearOf_22 (by decide) ?_
    refine x_cVI C hW (As := [.int (nI 1)]) (rest := []) (wr := []) (wn := [(h0, .inr (4, [.int (nI 1), .int (nI g), .ref k1, .ref k2, .int (nI sp), .int (nI pl), .int (nI tu), .int (nI fr), .int (nI nf), .ref k3, .ref k4, .ref k5, .ref k6, .ref k7, .ref k8])), (k1, aI E 9 w), (k2, aI E 5 aw), (k3, aI E 4 my), (k4, aI E 120 fe), (k5, aI E 44 be), (k6, aI E 4 sk), (k7, aI E 4 cl), (k8, aI E 40 ex)]) (Cn := RX5) (met_X5_no l E h0 k1 k2 k3 k4 k5 k6 k7 k8 (nI 0) g sp pl tu fr nf w aw my fe be sk cl ex 1) gX5_wearOf_X5_no rfl 1 rfl ⟨rfl, rfl⟩ ⟨rfl, by decide +kernel, by decide +kernel, by decide +kernel⟩ ⟨Nat.le_of_ble_eq_true rfl, Nat.le_of_ble_eq_true rfl⟩ [0, 1, 2, 3, 4, 5, 6, 7, 8] [] [0, 1, 2, 3, 4, 5, 6, 7, 8] rfl (by decide) rfl (by decide) (by decide) rfl (by decide) 0 4 rfl rfl hl.1 rfl (Nat.le_of_ble_eq_true rfl) dX5_wearOf_23 ⟨Nat.zero_le _, Nat.zero_le _⟩ (fun H locs hW => ?_)
    exact x_iret C hW rfl rfl rfl dX5_wearOf_26
  · exact absurd c_1 hb

set_option maxHeartbeats 4000000 in
set_option maxRecDepth 100000 in
theorem met_X5_isBroken_ok (l : Launch) (E : EV) (h0 k1 k2 k3 k4 k5 k6 k7 k8 : Nat) (x : Int32) (g sp pl tu fr nf : Nat) (w aw my fe be sk cl ex : Nat → Nat) (q : Nat) (hq : q < 9) (hw : ∀ i, w i ≤ 12) : MI l yX5_isBroken wsX5_isBroken { frames := 2, cells := 0, slots := 0, locals := 42 } E [.ref h0, .int (nI q)] [(h0, .inr (4, [.int x, .int (nI g), .ref k1, .ref k2, .int (nI sp), .int (nI pl), .int (nI tu), .int (nI fr), .int (nI nf), .ref k3, .ref k4, .ref k5, .ref k6, .ref k7, .ref k8])), (k1, aI E 9 w), (k2, aI E 5 aw), (k3, aI E 4 my), (k4, aI E 120 fe), (k5, aI E 44 be), (k6, aI E 4 sk), (k7, aI E 4 cl), (k8, aI E 40 ex)] (nI (if w q = 12 then 1 else 0)) [(h0, .inr (4, [.int (nI 0), .int (nI g), .ref k1, .ref k2, .int (nI sp), .int (nI pl), .int (nI tu), .int (nI fr), .int (nI nf), .ref k3, .ref k4, .ref k5, .ref k6, .ref k7, .ref k8])), (k1, aI E 9 w), (k2, aI E 5 aw), (k3, aI E 4 my), (k4, aI E 120 fe), (k5, aI E 44 be), (k6, aI E 4 sk), (k7, aI E 4 cl), (k8, aI E 40 ex)] := by
  refine sI (own := RX5) (cc := cX5_isBroken) (maxL := 2) (ret := (some .boolean)) rfl (by decide) rfl (Nat.le_of_ble_eq_true rfl) ?_
  intro p e s m below meth c C hnm ls hl hW
  have hl : lv_has ls 2 [(0, .ref h0), (1, .int (nI q))] := hl
  have hW : WD E _ s [(h0, .inr (4, [.int x, .int (nI g), .ref k1, .ref k2, .int (nI sp), .int (nI pl), .int (nI tu), .int (nI fr), .int (nI nf), .ref k3, .ref k4, .ref k5, .ref k6, .ref k7, .ref k8])), (k1, aI E 9 w), (k2, aI E 5 aw), (k3, aI E 4 my), (k4, aI E 120 fe), (k5, aI E 44 be), (k6, aI E 4 sk), (k7, aI E 4 cl), (k8, aI E 40 ex)] s.heap [] := hW
  have hinX5 : ∀ w ∈ u_ws RX5 TX5 15, w ∈ wsX5_isBroken := by decide +kernel
  have hf41 : Cond.fieldLink RX5 41 (TX5 0).1 (TX5 0).2.1 (TX5 0).2.2.1 ∈ wsX5_isBroken := by decide +kernel
  refine lv_aload_n C.x C.b dX5_isBroken_0 rfl (lv_at hl 0 rfl) ?_
  refine lv_iconst (v := nI 0) C.x C.b dX5_isBroken_1 (by decide) ?_
  refine x_put C hW 0 4 0 (Cn := RX5) (T := TX5) (N := 15) (w' := [(h0, .inr (4, [.int (nI 0), .int (nI g), .ref k1, .ref k2, .int (nI sp), .int (nI pl), .int (nI tu), .int (nI fr), .int (nI nf), .ref k3, .ref k4, .ref k5, .ref k6, .ref k7, .ref k8])), (k1, aI E 9 w), (k2, aI E 5 aw), (k3, aI E 4 my), (k4, aI E 120 fe), (k5, aI E 44 be), (k6, aI E 4 sk), (k7, aI E 4 cl), (k8, aI E 40 ex)]) tyX5 tyX5_ok nmX5 rfl rfl (by decide) hinX5 hf41 rfl (by decide +kernel) (Nat.le_of_ble_eq_true rfl) dX5_isBroken_2 rfl (fun H locs hW => ?_)
  refine lv_iload_n C.x C.b dX5_isBroken_5 rfl (lv_at hl 1 rfl) ?_
  refine x_cSI C hW (As := [.int (nI q)]) (rest := []) (wr := [(h0, .inr (4, [.int (nI 0), .int (nI g), .ref k1, .ref k2, .int (nI sp), .int (nI pl), .int (nI tu), .int (nI fr), .int (nI nf), .ref k3, .ref k4, .ref k5, .ref k6, .ref k7, .ref k8])), (k1, aI E 9 w), (k2, aI E 5 aw), (k3, aI E 4 my), (k4, aI E 120 fe), (k5, aI E 44 be), (k6, aI E 4 sk), (k7, aI E 4 cl), (k8, aI E 40 ex)]) (wn := [(h0, .inr (4, [.int (nI 0), .int (nI g), .ref k1, .ref k2, .int (nI sp), .int (nI pl), .int (nI tu), .int (nI fr), .int (nI nf), .ref k3, .ref k4, .ref k5, .ref k6, .ref k7, .ref k8])), (k1, aI E 9 w), (k2, aI E 5 aw), (k3, aI E 4 my), (k4, aI E 120 fe), (k5, aI E 44 be), (k6, aI E 4 sk), (k7, aI E 4 cl), (k8, aI E 40 ex)]) (met_X5_isPin l E (nI q)) gX5_isBroken_X5_isPin rfl 1 rfl ⟨rfl, rfl⟩ ⟨by decide +kernel, by decide +kernel, by decide +kernel⟩ ⟨Nat.le_of_ble_eq_true rfl, Nat.le_of_ble_eq_true rfl⟩ [] [0, 1, 2, 3, 4, 5, 6, 7, 8] [0, 1, 2, 3, 4, 5, 6, 7, 8] rfl (by decide) rfl (by decide) (by decide) rfl (by decide) hl.1 rfl (Nat.le_of_ble_eq_true rfl) dX5_isBroken_6 ⟨Nat.zero_le _, Nat.zero_le _⟩ (fun H locs hW => ?_)
  refine x_ifb_eq C (tgt := 20) dX5_isBroken_9 (by decide) (fun c_1 => ?_) (fun c_1 => ?_)
  · exact absurd (z_inR (by omega) (by decide)) c_1
  · refine lv_aload_n C.x C.b dX5_isBroken_12 rfl (lv_at hl 0 rfl) ?_
    refine lv_iload_n C.x C.b dX5_isBroken_13 rfl (lv_at hl 1 rfl) ?_
    refine x_cVI C hW (As := [.int (nI q)]) (rest := []) (wr := []) (wn := [(h0, .inr (4, [.int (nI 0), .int (nI g), .ref k1, .ref k2, .int (nI sp), .int (nI pl), .int (nI tu), .int (nI fr), .int (nI nf), .ref k3, .ref k4, .ref k5, .ref k6, .ref k7, .ref k8])), (k1, aI E 9 w), (k2, aI E 5 aw), (k3, aI E 4 my), (k4, aI E 120 fe), (k5, aI E 44 be), (k6, aI E 4 sk), (k7, aI E 4 cl), (k8, aI E 40 ex)]) (Cn := RX5) (met_X5_broken l E h0 k1 k2 k3 k4 k5 k6 k7 k8 (nI 0) g sp pl tu fr nf w aw my fe be sk cl ex q (by omega) hw) gX5_isBroken_X5_broken rfl 1 rfl ⟨rfl, rfl⟩ ⟨rfl, by decide +kernel, by decide +kernel, by decide +kernel⟩ ⟨Nat.le_of_ble_eq_true rfl, Nat.le_of_ble_eq_true rfl⟩ [0, 1, 2, 3, 4, 5, 6, 7, 8] [] [0, 1, 2, 3, 4, 5, 6, 7, 8] rfl (by decide) rfl (by decide) (by decide) rfl (by decide) 0 4 rfl rfl hl.1 rfl (Nat.le_of_ble_eq_true rfl) dX5_isBroken_14 ⟨Nat.zero_le _, Nat.zero_le _⟩ (fun H locs hW => ?_)
    refine lv_goto (tgt := 25) C.x C.b dX5_isBroken_17 (by decide) ?_
    exact x_iret C hW (by first | rfl | exact z_narb _) rfl rfl dX5_isBroken_25

set_option maxHeartbeats 4000000 in
set_option maxRecDepth 100000 in
theorem met_X5_isBroken_bad (l : Launch) (E : EV) (h0 k1 k2 k3 k4 k5 k6 k7 k8 : Nat) (x : Int32) (g sp pl tu fr nf : Nat) (w aw my fe be sk cl ex : Nat → Nat) (v : Int32) (hb : ¬ (nI 0 ≤ v ∧ v ≤ nI 8)) : MI l yX5_isBroken wsX5_isBroken { frames := 2, cells := 0, slots := 0, locals := 42 } E [.ref h0, .int v] [(h0, .inr (4, [.int x, .int (nI g), .ref k1, .ref k2, .int (nI sp), .int (nI pl), .int (nI tu), .int (nI fr), .int (nI nf), .ref k3, .ref k4, .ref k5, .ref k6, .ref k7, .ref k8])), (k1, aI E 9 w), (k2, aI E 5 aw), (k3, aI E 4 my), (k4, aI E 120 fe), (k5, aI E 44 be), (k6, aI E 4 sk), (k7, aI E 4 cl), (k8, aI E 40 ex)] (nI 0) [(h0, .inr (4, [.int (nI 1), .int (nI g), .ref k1, .ref k2, .int (nI sp), .int (nI pl), .int (nI tu), .int (nI fr), .int (nI nf), .ref k3, .ref k4, .ref k5, .ref k6, .ref k7, .ref k8])), (k1, aI E 9 w), (k2, aI E 5 aw), (k3, aI E 4 my), (k4, aI E 120 fe), (k5, aI E 44 be), (k6, aI E 4 sk), (k7, aI E 4 cl), (k8, aI E 40 ex)] := by
  refine sI (own := RX5) (cc := cX5_isBroken) (maxL := 2) (ret := (some .boolean)) rfl (by decide) rfl (Nat.le_of_ble_eq_true rfl) ?_
  intro p e s m below meth c C hnm ls hl hW
  have hl : lv_has ls 2 [(0, .ref h0), (1, .int v)] := hl
  have hW : WD E _ s [(h0, .inr (4, [.int x, .int (nI g), .ref k1, .ref k2, .int (nI sp), .int (nI pl), .int (nI tu), .int (nI fr), .int (nI nf), .ref k3, .ref k4, .ref k5, .ref k6, .ref k7, .ref k8])), (k1, aI E 9 w), (k2, aI E 5 aw), (k3, aI E 4 my), (k4, aI E 120 fe), (k5, aI E 44 be), (k6, aI E 4 sk), (k7, aI E 4 cl), (k8, aI E 40 ex)] s.heap [] := hW
  have hinX5 : ∀ w ∈ u_ws RX5 TX5 15, w ∈ wsX5_isBroken := by decide +kernel
  have hf41 : Cond.fieldLink RX5 41 (TX5 0).1 (TX5 0).2.1 (TX5 0).2.2.1 ∈ wsX5_isBroken := by decide +kernel
  refine lv_aload_n C.x C.b dX5_isBroken_0 rfl (lv_at hl 0 rfl) ?_
  refine lv_iconst (v := nI 0) C.x C.b dX5_isBroken_1 (by decide) ?_
  refine x_put C hW 0 4 0 (Cn := RX5) (T := TX5) (N := 15) (w' := [(h0, .inr (4, [.int (nI 0), .int (nI g), .ref k1, .ref k2, .int (nI sp), .int (nI pl), .int (nI tu), .int (nI fr), .int (nI nf), .ref k3, .ref k4, .ref k5, .ref k6, .ref k7, .ref k8])), (k1, aI E 9 w), (k2, aI E 5 aw), (k3, aI E 4 my), (k4, aI E 120 fe), (k5, aI E 44 be), (k6, aI E 4 sk), (k7, aI E 4 cl), (k8, aI E 40 ex)]) tyX5 tyX5_ok nmX5 rfl rfl (by decide) hinX5 hf41 rfl (by decide +kernel) (Nat.le_of_ble_eq_true rfl) dX5_isBroken_2 rfl (fun H locs hW => ?_)
  refine lv_iload_n C.x C.b dX5_isBroken_5 rfl (lv_at hl 1 rfl) ?_
  refine x_cSI C hW (As := [.int v]) (rest := []) (wr := [(h0, .inr (4, [.int (nI 0), .int (nI g), .ref k1, .ref k2, .int (nI sp), .int (nI pl), .int (nI tu), .int (nI fr), .int (nI nf), .ref k3, .ref k4, .ref k5, .ref k6, .ref k7, .ref k8])), (k1, aI E 9 w), (k2, aI E 5 aw), (k3, aI E 4 my), (k4, aI E 120 fe), (k5, aI E 44 be), (k6, aI E 4 sk), (k7, aI E 4 cl), (k8, aI E 40 ex)]) (wn := [(h0, .inr (4, [.int (nI 0), .int (nI g), .ref k1, .ref k2, .int (nI sp), .int (nI pl), .int (nI tu), .int (nI fr), .int (nI nf), .ref k3, .ref k4, .ref k5, .ref k6, .ref k7, .ref k8])), (k1, aI E 9 w), (k2, aI E 5 aw), (k3, aI E 4 my), (k4, aI E 120 fe), (k5, aI E 44 be), (k6, aI E 4 sk), (k7, aI E 4 cl), (k8, aI E 40 ex)]) (met_X5_isPin l E v) gX5_isBroken_X5_isPin rfl 1 rfl ⟨rfl, rfl⟩ ⟨by decide +kernel, by decide +kernel, by decide +kernel⟩ ⟨Nat.le_of_ble_eq_true rfl, Nat.le_of_ble_eq_true rfl⟩ [] [0, 1, 2, 3, 4, 5, 6, 7, 8] [0, 1, 2, 3, 4, 5, 6, 7, 8] rfl (by decide) rfl (by decide) (by decide) rfl (by decide) hl.1 rfl (Nat.le_of_ble_eq_true rfl) dX5_isBroken_6 ⟨Nat.zero_le _, Nat.zero_le _⟩ (fun H locs hW => ?_)
  refine x_ifb_eq C (tgt := 20) dX5_isBroken_9 (by decide) (fun c_1 => ?_) (fun c_1 => ?_)
  · refine lv_aload_n C.x C.b dX5_isBroken_20 rfl (lv_at hl 0 rfl) ?_
    refine lv_iconst (v := nI 1) C.x C.b dX5_isBroken_21 (by decide) ?_
    refine x_cVI C hW (As := [.int (nI 1)]) (rest := []) (wr := []) (wn := [(h0, .inr (4, [.int (nI 1), .int (nI g), .ref k1, .ref k2, .int (nI sp), .int (nI pl), .int (nI tu), .int (nI fr), .int (nI nf), .ref k3, .ref k4, .ref k5, .ref k6, .ref k7, .ref k8])), (k1, aI E 9 w), (k2, aI E 5 aw), (k3, aI E 4 my), (k4, aI E 120 fe), (k5, aI E 44 be), (k6, aI E 4 sk), (k7, aI E 4 cl), (k8, aI E 40 ex)]) (Cn := RX5) (met_X5_isNot l E h0 k1 k2 k3 k4 k5 k6 k7 k8 (nI 0) g sp pl tu fr nf w aw my fe be sk cl ex 1) gX5_isBroken_X5_isNot rfl 1 rfl ⟨rfl, rfl⟩ ⟨rfl, by decide +kernel, by decide +kernel, by decide +kernel⟩ ⟨Nat.le_of_ble_eq_true rfl, Nat.le_of_ble_eq_true rfl⟩ [0, 1, 2, 3, 4, 5, 6, 7, 8] [] [0, 1, 2, 3, 4, 5, 6, 7, 8] rfl (by decide) rfl (by decide) (by decide) rfl (by decide) 0 4 rfl rfl hl.1 rfl (Nat.le_of_ble_eq_true rfl) dX5_isBroken_22 ⟨Nat.zero_le _, Nat.zero_le _⟩ (fun H locs hW => ?_)
    exact x_iret C hW (by first | rfl | exact z_narb _) rfl rfl dX5_isBroken_25
  · exact absurd c_1 hb

set_option maxHeartbeats 4000000 in
set_option maxRecDepth 100000 in
theorem met_X5_brokenNow (l : Launch) (E : EV) (h0 k1 k2 k3 k4 k5 k6 k7 k8 : Nat) (x : Int32) (g sp pl tu fr nf : Nat) (w aw my fe be sk cl ex : Nat → Nat) (hw : ∀ i, w i ≤ 12) : MI l yX5_brokenNow wsX5_brokenNow { frames := 1, cells := 0, slots := 0, locals := 21 } E [.ref h0] [(h0, .inr (4, [.int x, .int (nI g), .ref k1, .ref k2, .int (nI sp), .int (nI pl), .int (nI tu), .int (nI fr), .int (nI nf), .ref k3, .ref k4, .ref k5, .ref k6, .ref k7, .ref k8])), (k1, aI E 9 w), (k2, aI E 5 aw), (k3, aI E 4 my), (k4, aI E 120 fe), (k5, aI E 44 be), (k6, aI E 4 sk), (k7, aI E 4 cl), (k8, aI E 40 ex)] (nI (bmN w 9)) [(h0, .inr (4, [.int x, .int (nI g), .ref k1, .ref k2, .int (nI sp), .int (nI pl), .int (nI tu), .int (nI fr), .int (nI nf), .ref k3, .ref k4, .ref k5, .ref k6, .ref k7, .ref k8])), (k1, aI E 9 w), (k2, aI E 5 aw), (k3, aI E 4 my), (k4, aI E 120 fe), (k5, aI E 44 be), (k6, aI E 4 sk), (k7, aI E 4 cl), (k8, aI E 40 ex)] := by
  refine sI (own := RX5) (cc := cX5_brokenNow) (maxL := 3) (ret := (some .int)) rfl (by decide) rfl (Nat.le_of_ble_eq_true rfl) ?_
  intro p e s m below meth c C hnm ls hl hW
  have hl : lv_has ls 3 [(0, .ref h0)] := hl
  have hW : WD E _ s [(h0, .inr (4, [.int x, .int (nI g), .ref k1, .ref k2, .int (nI sp), .int (nI pl), .int (nI tu), .int (nI fr), .int (nI nf), .ref k3, .ref k4, .ref k5, .ref k6, .ref k7, .ref k8])), (k1, aI E 9 w), (k2, aI E 5 aw), (k3, aI E 4 my), (k4, aI E 120 fe), (k5, aI E 44 be), (k6, aI E 4 sk), (k7, aI E 4 cl), (k8, aI E 40 ex)] s.heap [] := hW
  refine lv_iconst (v := nI 0) C.x C.b dX5_brokenNow_0 (by decide) ?_
  refine lv_istore_n (lv' := [(1, .int (nI 0)), (0, .ref h0)]) C.x C.b dX5_brokenNow_1 rfl hl (by decide) rfl (fun ls hl => ?_)
  refine lv_iconst (v := nI 0) C.x C.b dX5_brokenNow_2 (by decide) ?_
  refine lv_istore_n (lv' := [(2, .int (nI 0)), (1, .int (nI 0)), (0, .ref h0)]) C.x C.b dX5_brokenNow_3 rfl hl (by decide) rfl (fun ls hl => ?_)
  have lp_1 : ∀ (n1 i : Nat), i ≤ 9 → 9 + 1 ≤ i + n1 → ∀ (H : Heap) (locs : List Loc) (ls : Array Slot), WD E (va_A [(h0, .inr (4, [.int x, .int (nI g), .ref k1, .ref k2, .int (nI sp), .int (nI pl), .int (nI tu), .int (nI fr), .int (nI nf), .ref k3, .ref k4, .ref k5, .ref k6, .ref k7, .ref k8])), (k1, aI E 9 w), (k2, aI E 5 aw), (k3, aI E 4 my), (k4, aI E 120 fe), (k5, aI E 44 be), (k6, aI E 4 sk), (k7, aI E 4 cl), (k8, aI E 40 ex)] s.heap.size) s [(h0, .inr (4, [.int x, .int (nI g), .ref k1, .ref k2, .int (nI sp), .int (nI pl), .int (nI tu), .int (nI fr), .int (nI nf), .ref k3, .ref k4, .ref k5, .ref k6, .ref k7, .ref k8])), (k1, aI E 9 w), (k2, aI E 5 aw), (k3, aI E 4 my), (k4, aI E 120 fe), (k5, aI E 44 be), (k6, aI E 4 sk), (k7, aI E 4 cl), (k8, aI E 40 ex)] H locs → lv_has ls 3 [(2, .int (nI i)), (1, .int (nI (bmN w i))), (0, .ref h0)] → W p l e ({ frames := 1, cells := 0, slots := 0, locals := 21 } : Room) s m ([.ref h0] : List Value).toArray below meth c H locs 0 0 (QI E [(h0, .inr (4, [.int x, .int (nI g), .ref k1, .ref k2, .int (nI sp), .int (nI pl), .int (nI tu), .int (nI fr), .int (nI nf), .ref k3, .ref k4, .ref k5, .ref k6, .ref k7, .ref k8])), (k1, aI E 9 w), (k2, aI E 5 aw), (k3, aI E 4 my), (k4, aI E 120 fe), (k5, aI E 44 be), (k6, aI E 4 sk), (k7, aI E 4 cl), (k8, aI E 40 ex)] (nI (bmN w 9)) [(h0, .inr (4, [.int x, .int (nI g), .ref k1, .ref k2, .int (nI sp), .int (nI pl), .int (nI tu), .int (nI fr), .int (nI nf), .ref k3, .ref k4, .ref k5, .ref k6, .ref k7, .ref k8])), (k1, aI E 9 w), (k2, aI E 5 aw), (k3, aI E 4 my), (k4, aI E 120 fe), (k5, aI E 44 be), (k6, aI E 4 sk), (k7, aI E 4 cl), (k8, aI E 40 ex)] below ([.ref h0] : List Value).toArray s) (F0 m 4 ls []) := by
    intro n1
    induction n1 with
    | zero => intro i hi hn; exact absurd hn (by omega)
    | succ n1 ih1 =>
      intro i hi hn  H locs ls hW hl
      refine lv_iload_n C.x C.b dX5_brokenNow_4 rfl (lv_at hl 0 rfl) ?_
      refine lv_bipush (v := nI 9) C.x C.b dX5_brokenNow_5 (by decide) ?_
      refine x_icmp_ge C (by omega) (by omega) (tgt := 32) dX5_brokenNow_7 (by decide) (fun c_2 => ?_) (fun c_2 => ?_)
      · obtain rfl : i = 9 := by omega
        refine lv_iload_n C.x C.b dX5_brokenNow_32 rfl (lv_at hl 1 rfl) ?_
        exact x_iret C hW rfl rfl rfl dX5_brokenNow_33
      · refine lv_iload_n C.x C.b dX5_brokenNow_10 rfl (lv_at hl 1 rfl) ?_
        refine lv_aload_n C.x C.b dX5_brokenNow_11 rfl (lv_at hl 2 rfl) ?_
        refine lv_iload_n C.x C.b dX5_brokenNow_12 rfl (lv_at hl 0 rfl) ?_
        refine x_cVI C hW (As := [.int (nI i)]) (rest := [.int (nI (bmN w i))]) (wr := []) (wn := [(h0, .inr (4, [.int x, .int (nI g), .ref k1, .ref k2, .int (nI sp), .int (nI pl), .int (nI tu), .int (nI fr), .int (nI nf), .ref k3, .ref k4, .ref k5, .ref k6, .ref k7, .ref k8])), (k1, aI E 9 w), (k2, aI E 5 aw), (k3, aI E 4 my), (k4, aI E 120 fe), (k5, aI E 44 be), (k6, aI E 4 sk), (k7, aI E 4 cl), (k8, aI E 40 ex)]) (Cn := RX5) (met_X5_broken l E h0 k1 k2 k3 k4 k5 k6 k7 k8 x g sp pl tu fr nf w aw my fe be sk cl ex i (by omega) hw) gX5_brokenNow_X5_broken rfl 1 rfl ⟨rfl, rfl⟩ ⟨rfl, by decide +kernel, by decide +kernel, by decide +kernel⟩ ⟨Nat.le_of_ble_eq_true rfl, Nat.le_of_ble_eq_true rfl⟩ [0, 1, 2, 3, 4, 5, 6, 7, 8] [] [0, 1, 2, 3, 4, 5, 6, 7, 8] rfl (by decide) rfl (by decide) (by decide) rfl (by decide) 0 4 rfl rfl hl.1 rfl (Nat.le_of_ble_eq_true rfl) dX5_brokenNow_13 ⟨Nat.zero_le _, Nat.zero_le _⟩ (fun H locs hW => ?_)
        refine x_ifb_eq C (tgt := 23) dX5_brokenNow_16 (by decide) (fun c_3 => ?_) (fun c_3 => ?_)
        · refine lv_iconst (v := nI 0) C.x C.b dX5_brokenNow_23 (by decide) ?_
          refine x_iadd C dX5_brokenNow_24 ?_
          refine lv_istore_n (lv' := [(1, .int (nI ((bmN w i) + 0))), (2, .int (nI i)), (0, .ref h0)]) C.x C.b dX5_brokenNow_25 rfl hl (by decide) rfl (fun ls hl => ?_)
          refine lv_iinc (k := 1) (v := nI (i + 1)) (lv' := [(2, .int (nI (i + 1))), (1, .int (nI ((bmN w i) + 0))), (0, .ref h0)]) C.x C.b dX5_brokenNow_26 hl rfl (z_inc i 1) (by decide) rfl (fun ls hl => ?_)
          refine lv_goto (tgt := 4) C.x C.b dX5_brokenNow_29 (by decide) ?_
          exact ih1 (i + 1) (by omega) (by omega)  _ _ _ (hW.to rfl) (lv_to (lv_sub (l' := [(2, .int (nI (i + 1))), (1, .int (nI ((bmN w i) + 0))), (0, .ref h0)]) hl [0, 1, 2] rfl) (by first | rfl | (simp [bmN, c_2, c_3]; done) | (rw [if_pos (by omega)]; done) | (rw [if_neg (by omega)]; done) | (exfalso; omega) | (simp only [bmN]; (repeat' split) <;> first | rfl | contradiction | (exfalso; omega))))
        · refine lv_iconst (v := nI 1) C.x C.b dX5_brokenNow_19 (by decide) ?_
          refine lv_goto (tgt := 24) C.x C.b dX5_brokenNow_20 (by decide) ?_
          refine x_iadd C dX5_brokenNow_24 ?_
          refine lv_istore_n (lv' := [(1, .int (nI ((bmN w i) + 1))), (2, .int (nI i)), (0, .ref h0)]) C.x C.b dX5_brokenNow_25 rfl hl (by decide) rfl (fun ls hl => ?_)
          refine lv_iinc (k := 1) (v := nI (i + 1)) (lv' := [(2, .int (nI (i + 1))), (1, .int (nI ((bmN w i) + 1))), (0, .ref h0)]) C.x C.b dX5_brokenNow_26 hl rfl (z_inc i 1) (by decide) rfl (fun ls hl => ?_)
          refine lv_goto (tgt := 4) C.x C.b dX5_brokenNow_29 (by decide) ?_
          exact ih1 (i + 1) (by omega) (by omega)  _ _ _ (hW.to rfl) (lv_to (lv_sub (l' := [(2, .int (nI (i + 1))), (1, .int (nI ((bmN w i) + 1))), (0, .ref h0)]) hl [0, 1, 2] rfl) (by first | rfl | (simp [bmN, c_2, c_3]; done) | (rw [if_pos (by omega)]; done) | (rw [if_neg (by omega)]; done) | (exfalso; omega) | (simp only [bmN]; (repeat' split) <;> first | rfl | contradiction | (exfalso; omega))))
  exact lp_1 (9 + 1) 0 (by omega) (by omega)  _ _ _ (hW.to rfl) (lv_to (lv_sub (l' := [(2, .int (nI 0)), (1, .int (nI 0)), (0, .ref h0)]) hl [0, 1, 2] rfl) rfl)

set_option maxHeartbeats 4000000 in
set_option maxRecDepth 100000 in
theorem met_X5_brokenStrings (l : Launch) (E : EV) (h0 k1 k2 k3 k4 k5 k6 k7 k8 : Nat) (x : Int32) (g sp pl tu fr nf : Nat) (w aw my fe be sk cl ex : Nat → Nat) (hw : ∀ i, w i ≤ 12) : MI l yX5_brokenStrings wsX5_brokenStrings { frames := 2, cells := 0, slots := 0, locals := 43 } E [.ref h0] [(h0, .inr (4, [.int x, .int (nI g), .ref k1, .ref k2, .int (nI sp), .int (nI pl), .int (nI tu), .int (nI fr), .int (nI nf), .ref k3, .ref k4, .ref k5, .ref k6, .ref k7, .ref k8])), (k1, aI E 9 w), (k2, aI E 5 aw), (k3, aI E 4 my), (k4, aI E 120 fe), (k5, aI E 44 be), (k6, aI E 4 sk), (k7, aI E 4 cl), (k8, aI E 40 ex)] (nI (bmN w 9)) [(h0, .inr (4, [.int (nI 0), .int (nI g), .ref k1, .ref k2, .int (nI sp), .int (nI pl), .int (nI tu), .int (nI fr), .int (nI nf), .ref k3, .ref k4, .ref k5, .ref k6, .ref k7, .ref k8])), (k1, aI E 9 w), (k2, aI E 5 aw), (k3, aI E 4 my), (k4, aI E 120 fe), (k5, aI E 44 be), (k6, aI E 4 sk), (k7, aI E 4 cl), (k8, aI E 40 ex)] := by
  refine sI (own := RX5) (cc := cX5_brokenStrings) (maxL := 1) (ret := (some .int)) rfl (by decide) rfl (Nat.le_of_ble_eq_true rfl) ?_
  intro p e s m below meth c C hnm ls hl hW
  have hl : lv_has ls 1 [(0, .ref h0)] := hl
  have hW : WD E _ s [(h0, .inr (4, [.int x, .int (nI g), .ref k1, .ref k2, .int (nI sp), .int (nI pl), .int (nI tu), .int (nI fr), .int (nI nf), .ref k3, .ref k4, .ref k5, .ref k6, .ref k7, .ref k8])), (k1, aI E 9 w), (k2, aI E 5 aw), (k3, aI E 4 my), (k4, aI E 120 fe), (k5, aI E 44 be), (k6, aI E 4 sk), (k7, aI E 4 cl), (k8, aI E 40 ex)] s.heap [] := hW
  refine lv_aload_n C.x C.b dX5_brokenStrings_0 rfl (lv_at hl 0 rfl) ?_
  refine lv_aload_n C.x C.b dX5_brokenStrings_1 rfl (lv_at hl 0 rfl) ?_
  refine x_cVI C hW (As := []) (rest := [.ref h0]) (wr := []) (wn := [(h0, .inr (4, [.int x, .int (nI g), .ref k1, .ref k2, .int (nI sp), .int (nI pl), .int (nI tu), .int (nI fr), .int (nI nf), .ref k3, .ref k4, .ref k5, .ref k6, .ref k7, .ref k8])), (k1, aI E 9 w), (k2, aI E 5 aw), (k3, aI E 4 my), (k4, aI E 120 fe), (k5, aI E 44 be), (k6, aI E 4 sk), (k7, aI E 4 cl), (k8, aI E 40 ex)]) (Cn := RX5) (met_X5_brokenNow l E h0 k1 k2 k3 k4 k5 k6 k7 k8 x g sp pl tu fr nf w aw my fe be sk cl ex hw) gX5_brokenStrings_X5_brokenNow rfl 0 rfl ⟨rfl, rfl⟩ ⟨rfl, by decide +kernel, by decide +kernel, by decide +kernel⟩ ⟨Nat.le_of_ble_eq_true rfl, Nat.le_of_ble_eq_true rfl⟩ [0, 1, 2, 3, 4, 5, 6, 7, 8] [] [0, 1, 2, 3, 4, 5, 6, 7, 8] rfl (by decide) rfl (by decide) (by decide) rfl (by decide) 0 4 rfl rfl hl.1 rfl (Nat.le_of_ble_eq_true rfl) dX5_brokenStrings_2 ⟨Nat.zero_le _, Nat.zero_le _⟩ (fun H locs hW => ?_)
  refine x_cVI C hW (As := [.int (nI (bmN w 9))]) (rest := []) (wr := []) (wn := [(h0, .inr (4, [.int (nI 0), .int (nI g), .ref k1, .ref k2, .int (nI sp), .int (nI pl), .int (nI tu), .int (nI fr), .int (nI nf), .ref k3, .ref k4, .ref k5, .ref k6, .ref k7, .ref k8])), (k1, aI E 9 w), (k2, aI E 5 aw), (k3, aI E 4 my), (k4, aI E 120 fe), (k5, aI E 44 be), (k6, aI E 4 sk), (k7, aI E 4 cl), (k8, aI E 40 ex)]) (Cn := RX5) (met_X5_ok l E h0 k1 k2 k3 k4 k5 k6 k7 k8 x g sp pl tu fr nf w aw my fe be sk cl ex (nI (bmN w 9))) gX5_brokenStrings_X5_ok rfl 1 rfl ⟨rfl, rfl⟩ ⟨rfl, by decide +kernel, by decide +kernel, by decide +kernel⟩ ⟨Nat.le_of_ble_eq_true rfl, Nat.le_of_ble_eq_true rfl⟩ [0, 1, 2, 3, 4, 5, 6, 7, 8] [] [0, 1, 2, 3, 4, 5, 6, 7, 8] rfl (by decide) rfl (by decide) (by decide) rfl (by decide) 0 4 rfl rfl hl.1 rfl (Nat.le_of_ble_eq_true rfl) dX5_brokenStrings_5 ⟨Nat.zero_le _, Nat.zero_le _⟩ (fun H locs hW => ?_)
  exact x_iret C hW rfl (by first | rfl | (simp []; done) | (rw [if_pos (by omega)]; done) | (rw [if_neg (by omega)]; done) | (exfalso; omega) | ((repeat' split) <;> first | rfl | contradiction | (exfalso; omega))) rfl dX5_brokenStrings_8

set_option maxHeartbeats 4000000 in
set_option maxRecDepth 100000 in
theorem met_X5_mostWorn (l : Launch) (E : EV) (h0 k1 k2 k3 k4 k5 k6 k7 k8 : Nat) (x : Int32) (g sp pl tu fr nf : Nat) (w aw my fe be sk cl ex : Nat → Nat) (hw : ∀ i, w i ≤ 12) : MI l yX5_mostWorn wsX5_mostWorn { frames := 1, cells := 0, slots := 0, locals := 21 } E [.ref h0] [(h0, .inr (4, [.int x, .int (nI g), .ref k1, .ref k2, .int (nI sp), .int (nI pl), .int (nI tu), .int (nI fr), .int (nI nf), .ref k3, .ref k4, .ref k5, .ref k6, .ref k7, .ref k8])), (k1, aI E 9 w), (k2, aI E 5 aw), (k3, aI E 4 my), (k4, aI E 120 fe), (k5, aI E 44 be), (k6, aI E 4 sk), (k7, aI E 4 cl), (k8, aI E 40 ex)] (pinV (mwB w 9)) [(h0, .inr (4, [.int (nI 0), .int (nI g), .ref k1, .ref k2, .int (nI sp), .int (nI pl), .int (nI tu), .int (nI fr), .int (nI nf), .ref k3, .ref k4, .ref k5, .ref k6, .ref k7, .ref k8])), (k1, aI E 9 w), (k2, aI E 5 aw), (k3, aI E 4 my), (k4, aI E 120 fe), (k5, aI E 44 be), (k6, aI E 4 sk), (k7, aI E 4 cl), (k8, aI E 40 ex)] := by
  refine sI (own := RX5) (cc := cX5_mostWorn) (maxL := 3) (ret := (some .int)) rfl (by decide) rfl (Nat.le_of_ble_eq_true rfl) ?_
  intro p e s m below meth c C hnm ls hl hW
  have hl : lv_has ls 3 [(0, .ref h0)] := hl
  have hW : WD E _ s [(h0, .inr (4, [.int x, .int (nI g), .ref k1, .ref k2, .int (nI sp), .int (nI pl), .int (nI tu), .int (nI fr), .int (nI nf), .ref k3, .ref k4, .ref k5, .ref k6, .ref k7, .ref k8])), (k1, aI E 9 w), (k2, aI E 5 aw), (k3, aI E 4 my), (k4, aI E 120 fe), (k5, aI E 44 be), (k6, aI E 4 sk), (k7, aI E 4 cl), (k8, aI E 40 ex)] s.heap [] := hW
  have hinX5 : ∀ w ∈ u_ws RX5 TX5 15, w ∈ wsX5_mostWorn := by decide +kernel
  have hf41 : Cond.fieldLink RX5 41 (TX5 0).1 (TX5 0).2.1 (TX5 0).2.2.1 ∈ wsX5_mostWorn := by decide +kernel
  have hf13 : Cond.fieldLink RX5 13 (TX5 2).1 (TX5 2).2.1 (TX5 2).2.2.1 ∈ wsX5_mostWorn := by decide +kernel
  refine lv_aload_n C.x C.b dX5_mostWorn_0 rfl (lv_at hl 0 rfl) ?_
  refine lv_iconst (v := nI 0) C.x C.b dX5_mostWorn_1 (by decide) ?_
  refine x_put C hW 0 4 0 (Cn := RX5) (T := TX5) (N := 15) (w' := [(h0, .inr (4, [.int (nI 0), .int (nI g), .ref k1, .ref k2, .int (nI sp), .int (nI pl), .int (nI tu), .int (nI fr), .int (nI nf), .ref k3, .ref k4, .ref k5, .ref k6, .ref k7, .ref k8])), (k1, aI E 9 w), (k2, aI E 5 aw), (k3, aI E 4 my), (k4, aI E 120 fe), (k5, aI E 44 be), (k6, aI E 4 sk), (k7, aI E 4 cl), (k8, aI E 40 ex)]) tyX5 tyX5_ok nmX5 rfl rfl (by decide) hinX5 hf41 rfl (by decide +kernel) (Nat.le_of_ble_eq_true rfl) dX5_mostWorn_2 rfl (fun H locs hW => ?_)
  refine lv_iconst (v := (-1)) C.x C.b dX5_mostWorn_5 (by decide) ?_
  refine lv_istore_n (lv' := [(1, .int ((-1 : Int32))), (0, .ref h0)]) C.x C.b dX5_mostWorn_6 rfl hl (by decide) rfl (fun ls hl => ?_)
  refine lv_iconst (v := nI 0) C.x C.b dX5_mostWorn_7 (by decide) ?_
  refine lv_istore_n (lv' := [(2, .int (nI 0)), (1, .int ((-1 : Int32))), (0, .ref h0)]) C.x C.b dX5_mostWorn_8 rfl hl (by decide) rfl (fun ls hl => ?_)
  have lp_1 : ∀ (n1 i : Nat), i ≤ 9 → 9 + 1 ≤ i + n1 → ∀ (H : Heap) (locs : List Loc) (ls : Array Slot), WD E (va_A [(h0, .inr (4, [.int x, .int (nI g), .ref k1, .ref k2, .int (nI sp), .int (nI pl), .int (nI tu), .int (nI fr), .int (nI nf), .ref k3, .ref k4, .ref k5, .ref k6, .ref k7, .ref k8])), (k1, aI E 9 w), (k2, aI E 5 aw), (k3, aI E 4 my), (k4, aI E 120 fe), (k5, aI E 44 be), (k6, aI E 4 sk), (k7, aI E 4 cl), (k8, aI E 40 ex)] s.heap.size) s [(h0, .inr (4, [.int (nI 0), .int (nI g), .ref k1, .ref k2, .int (nI sp), .int (nI pl), .int (nI tu), .int (nI fr), .int (nI nf), .ref k3, .ref k4, .ref k5, .ref k6, .ref k7, .ref k8])), (k1, aI E 9 w), (k2, aI E 5 aw), (k3, aI E 4 my), (k4, aI E 120 fe), (k5, aI E 44 be), (k6, aI E 4 sk), (k7, aI E 4 cl), (k8, aI E 40 ex)] H locs → lv_has ls 3 [(2, .int (nI i)), (1, .int (pinV (mwB w i))), (0, .ref h0)] → W p l e ({ frames := 1, cells := 0, slots := 0, locals := 21 } : Room) s m ([.ref h0] : List Value).toArray below meth c H locs 0 0 (QI E [(h0, .inr (4, [.int x, .int (nI g), .ref k1, .ref k2, .int (nI sp), .int (nI pl), .int (nI tu), .int (nI fr), .int (nI nf), .ref k3, .ref k4, .ref k5, .ref k6, .ref k7, .ref k8])), (k1, aI E 9 w), (k2, aI E 5 aw), (k3, aI E 4 my), (k4, aI E 120 fe), (k5, aI E 44 be), (k6, aI E 4 sk), (k7, aI E 4 cl), (k8, aI E 40 ex)] (pinV (mwB w 9)) [(h0, .inr (4, [.int (nI 0), .int (nI g), .ref k1, .ref k2, .int (nI sp), .int (nI pl), .int (nI tu), .int (nI fr), .int (nI nf), .ref k3, .ref k4, .ref k5, .ref k6, .ref k7, .ref k8])), (k1, aI E 9 w), (k2, aI E 5 aw), (k3, aI E 4 my), (k4, aI E 120 fe), (k5, aI E 44 be), (k6, aI E 4 sk), (k7, aI E 4 cl), (k8, aI E 40 ex)] below ([.ref h0] : List Value).toArray s) (F0 m 9 ls []) := by
    intro n1
    induction n1 with
    | zero => intro i hi hn; exact absurd hn (by omega)
    | succ n1 ih1 =>
      intro i hi hn  H locs ls hW hl
      have e1 := hw i
      have e2 := hw (mwB w i)
      refine lv_iload_n C.x C.b dX5_mostWorn_9 rfl (lv_at hl 0 rfl) ?_
      refine lv_bipush (v := nI 9) C.x C.b dX5_mostWorn_10 (by decide) ?_
      refine x_icmp_ge C (by omega) (by omega) (tgt := 51) dX5_mostWorn_12 (by decide) (fun c_2 => ?_) (fun c_2 => ?_)
      · obtain rfl : i = 9 := by omega
        refine lv_iload_n C.x C.b dX5_mostWorn_51 rfl (lv_at hl 1 rfl) ?_
        exact x_iret C hW rfl rfl rfl dX5_mostWorn_52
      · refine lv_aload_n C.x C.b dX5_mostWorn_15 rfl (lv_at hl 2 rfl) ?_
        refine lv_iload_n C.x C.b dX5_mostWorn_16 rfl (lv_at hl 0 rfl) ?_
        refine x_cVI C hW (As := [.int (nI i)]) (rest := []) (wr := []) (wn := [(h0, .inr (4, [.int (nI 0), .int (nI g), .ref k1, .ref k2, .int (nI sp), .int (nI pl), .int (nI tu), .int (nI fr), .int (nI nf), .ref k3, .ref k4, .ref k5, .ref k6, .ref k7, .ref k8])), (k1, aI E 9 w), (k2, aI E 5 aw), (k3, aI E 4 my), (k4, aI E 120 fe), (k5, aI E 44 be), (k6, aI E 4 sk), (k7, aI E 4 cl), (k8, aI E 40 ex)]) (Cn := RX5) (met_X5_broken l E h0 k1 k2 k3 k4 k5 k6 k7 k8 (nI 0) g sp pl tu fr nf w aw my fe be sk cl ex i (by omega) hw) gX5_mostWorn_X5_broken rfl 1 rfl ⟨rfl, rfl⟩ ⟨rfl, by decide +kernel, by decide +kernel, by decide +kernel⟩ ⟨Nat.le_of_ble_eq_true rfl, Nat.le_of_ble_eq_true rfl⟩ [0, 1, 2, 3, 4, 5, 6, 7, 8] [] [0, 1, 2, 3, 4, 5, 6, 7, 8] rfl (by decide) rfl (by decide) (by decide) rfl (by decide) 0 4 rfl rfl hl.1 rfl (Nat.le_of_ble_eq_true rfl) dX5_mostWorn_17 ⟨Nat.zero_le _, Nat.zero_le _⟩ (fun H locs hW => ?_)
        refine x_ifb_ne C (tgt := 45) dX5_mostWorn_20 (by decide) (fun c_3 => ?_) (fun c_3 => ?_)
        · refine lv_iinc (k := 0) (v := nI (i + 1)) (lv' := [(2, .int (nI (i + 1))), (1, .int (pinV (mwB w i))), (0, .ref h0)]) C.x C.b dX5_mostWorn_45 hl rfl (z_inc i 1) (by decide) rfl (fun ls hl => ?_)
          refine lv_goto (tgt := 9) C.x C.b dX5_mostWorn_48 (by decide) ?_
          exact ih1 (i + 1) (by omega) (by omega)  _ _ _ (hW.to rfl) (lv_to (lv_sub (l' := [(2, .int (nI (i + 1))), (1, .int (pinV (mwB w i))), (0, .ref h0)]) hl [0, 1, 2] rfl) (by first | (rw [mwB_br (by assumption)]; done) | (rw [mwB_new (by assumption) (pinV_m1.mp (by assumption)), pinV_nI (by omega)]; done) | (rw [mwB_up (by assumption) hp (by omega), pinV_nI (by omega)]; done) | (rw [mwB_keep (by assumption) hp (by omega)]; done)))
        · refine lv_iload_n C.x C.b dX5_mostWorn_23 rfl (lv_at hl 1 rfl) ?_
          refine lv_iconst (v := (-1)) C.x C.b dX5_mostWorn_24 (by decide) ?_
          refine lv_icmp_eq C.x C.b (tgt := 43) dX5_mostWorn_25 (by decide) (fun c_4 => ?_) (fun c_4 => ?_)
          · have c_4 : pinV (mwB w i) = (-1 : Int32) := c_4
            refine lv_iload_n C.x C.b dX5_mostWorn_43 rfl (lv_at hl 0 rfl) ?_
            refine lv_istore_n (lv' := [(1, .int (nI i)), (2, .int (nI i)), (0, .ref h0)]) C.x C.b dX5_mostWorn_44 rfl hl (by decide) rfl (fun ls hl => ?_)
            refine lv_iinc (k := 1) (v := nI (i + 1)) (lv' := [(2, .int (nI (i + 1))), (1, .int (nI i)), (0, .ref h0)]) C.x C.b dX5_mostWorn_45 hl rfl (z_inc i 1) (by decide) rfl (fun ls hl => ?_)
            refine lv_goto (tgt := 9) C.x C.b dX5_mostWorn_48 (by decide) ?_
            exact ih1 (i + 1) (by omega) (by omega)  _ _ _ (hW.to rfl) (lv_to (lv_sub (l' := [(2, .int (nI (i + 1))), (1, .int (nI i)), (0, .ref h0)]) hl [0, 1, 2] rfl) (by first | (rw [mwB_br (by assumption)]; done) | (rw [mwB_new (by assumption) (pinV_m1.mp (by assumption)), pinV_nI (by omega)]; done) | (rw [mwB_up (by assumption) hp (by omega), pinV_nI (by omega)]; done) | (rw [mwB_keep (by assumption) hp (by omega)]; done)))
          · have c_4 : ¬ (pinV (mwB w i) = (-1 : Int32)) := c_4
            have hp : mwB w i < 9 := pinV_lt (by assumption)
            have hp2 := mwB_in hp
            refine lv_aload_n C.x C.b dX5_mostWorn_28 rfl (lv_at hl 2 rfl) ?_
            refine x_get C hW 0 4 2 (Cn := RX5) (T := TX5) (N := 15) rfl rfl (by decide) hinX5 hf13 rfl dX5_mostWorn_29 ?_
            refine lv_iload_n C.x C.b dX5_mostWorn_32 rfl (lv_at hl 0 rfl) ?_
            refine x_ald C hW 1 i rfl rfl (by omega) (by decide) dX5_mostWorn_33 ?_
            refine lv_aload_n C.x C.b dX5_mostWorn_34 rfl (lv_at hl 2 rfl) ?_
            refine x_get C hW 0 4 2 (Cn := RX5) (T := TX5) (N := 15) rfl rfl (by decide) hinX5 hf13 rfl dX5_mostWorn_35 ?_
            refine lv_iload_n C.x C.b dX5_mostWorn_38 rfl (lv_at hl 1 rfl) ?_
            refine x_ald C hW 1 (mwB w i) rfl (pinV_nI hp) (by omega) (by decide) dX5_mostWorn_39 ?_
            refine x_icmp_le C (by omega) (by omega) (tgt := 45) dX5_mostWorn_40 (by decide) (fun c_5 => ?_) (fun c_5 => ?_)
            · refine lv_iinc (k := 0) (v := nI (i + 1)) (lv' := [(2, .int (nI (i + 1))), (1, .int (pinV (mwB w i))), (0, .ref h0)]) C.x C.b dX5_mostWorn_45 hl rfl (z_inc i 1) (by decide) rfl (fun ls hl => ?_)
              refine lv_goto (tgt := 9) C.x C.b dX5_mostWorn_48 (by decide) ?_
              exact ih1 (i + 1) (by omega) (by omega)  _ _ _ (hW.to rfl) (lv_to (lv_sub (l' := [(2, .int (nI (i + 1))), (1, .int (pinV (mwB w i))), (0, .ref h0)]) hl [0, 1, 2] rfl) (by first | (rw [mwB_br (by assumption)]; done) | (rw [mwB_new (by assumption) (pinV_m1.mp (by assumption)), pinV_nI (by omega)]; done) | (rw [mwB_up (by assumption) hp (by omega), pinV_nI (by omega)]; done) | (rw [mwB_keep (by assumption) hp (by omega)]; done)))
            · refine lv_iload_n C.x C.b dX5_mostWorn_43 rfl (lv_at hl 0 rfl) ?_
              refine lv_istore_n (lv' := [(1, .int (nI i)), (2, .int (nI i)), (0, .ref h0)]) C.x C.b dX5_mostWorn_44 rfl hl (by decide) rfl (fun ls hl => ?_)
              refine lv_iinc (k := 1) (v := nI (i + 1)) (lv' := [(2, .int (nI (i + 1))), (1, .int (nI i)), (0, .ref h0)]) C.x C.b dX5_mostWorn_45 hl rfl (z_inc i 1) (by decide) rfl (fun ls hl => ?_)
              refine lv_goto (tgt := 9) C.x C.b dX5_mostWorn_48 (by decide) ?_
              exact ih1 (i + 1) (by omega) (by omega)  _ _ _ (hW.to rfl) (lv_to (lv_sub (l' := [(2, .int (nI (i + 1))), (1, .int (nI i)), (0, .ref h0)]) hl [0, 1, 2] rfl) (by first | (rw [mwB_br (by assumption)]; done) | (rw [mwB_new (by assumption) (pinV_m1.mp (by assumption)), pinV_nI (by omega)]; done) | (rw [mwB_up (by assumption) hp (by omega), pinV_nI (by omega)]; done) | (rw [mwB_keep (by assumption) hp (by omega)]; done)))
  exact lp_1 (9 + 1) 0 (by omega) (by omega)  _ _ _ (hW.to rfl) (lv_to (lv_sub (l' := [(2, .int (nI 0)), (1, .int ((-1 : Int32))), (0, .ref h0)]) hl [0, 1, 2] rfl) rfl)

set_option maxHeartbeats 4000000 in
set_option maxRecDepth 100000 in
theorem met_X5_spareStrings (l : Launch) (E : EV) (h0 k1 k2 k3 k4 k5 k6 k7 k8 : Nat) (x : Int32) (g sp pl tu fr nf : Nat) (w aw my fe be sk cl ex : Nat → Nat)  : MI l yX5_spareStrings wsX5_spareStrings { frames := 1, cells := 0, slots := 0, locals := 21 } E [.ref h0] [(h0, .inr (4, [.int x, .int (nI g), .ref k1, .ref k2, .int (nI sp), .int (nI pl), .int (nI tu), .int (nI fr), .int (nI nf), .ref k3, .ref k4, .ref k5, .ref k6, .ref k7, .ref k8])), (k1, aI E 9 w), (k2, aI E 5 aw), (k3, aI E 4 my), (k4, aI E 120 fe), (k5, aI E 44 be), (k6, aI E 4 sk), (k7, aI E 4 cl), (k8, aI E 40 ex)] (nI sp) [(h0, .inr (4, [.int (nI 0), .int (nI g), .ref k1, .ref k2, .int (nI sp), .int (nI pl), .int (nI tu), .int (nI fr), .int (nI nf), .ref k3, .ref k4, .ref k5, .ref k6, .ref k7, .ref k8])), (k1, aI E 9 w), (k2, aI E 5 aw), (k3, aI E 4 my), (k4, aI E 120 fe), (k5, aI E 44 be), (k6, aI E 4 sk), (k7, aI E 4 cl), (k8, aI E 40 ex)] := by
  refine sI (own := RX5) (cc := cX5_spareStrings) (maxL := 1) (ret := (some .int)) rfl (by decide) rfl (Nat.le_of_ble_eq_true rfl) ?_
  intro p e s m below meth c C hnm ls hl hW
  have hl : lv_has ls 1 [(0, .ref h0)] := hl
  have hW : WD E _ s [(h0, .inr (4, [.int x, .int (nI g), .ref k1, .ref k2, .int (nI sp), .int (nI pl), .int (nI tu), .int (nI fr), .int (nI nf), .ref k3, .ref k4, .ref k5, .ref k6, .ref k7, .ref k8])), (k1, aI E 9 w), (k2, aI E 5 aw), (k3, aI E 4 my), (k4, aI E 120 fe), (k5, aI E 44 be), (k6, aI E 4 sk), (k7, aI E 4 cl), (k8, aI E 40 ex)] s.heap [] := hW
  have hinX5 : ∀ w ∈ u_ws RX5 TX5 15, w ∈ wsX5_spareStrings := by decide +kernel
  have hf20 : Cond.fieldLink RX5 20 (TX5 4).1 (TX5 4).2.1 (TX5 4).2.2.1 ∈ wsX5_spareStrings := by decide +kernel
  refine lv_aload_n C.x C.b dX5_spareStrings_0 rfl (lv_at hl 0 rfl) ?_
  refine lv_aload_n C.x C.b dX5_spareStrings_1 rfl (lv_at hl 0 rfl) ?_
  refine x_get C hW 0 4 4 (Cn := RX5) (T := TX5) (N := 15) rfl rfl (by decide) hinX5 hf20 rfl dX5_spareStrings_2 ?_
  refine x_cVI C hW (As := [.int (nI sp)]) (rest := []) (wr := []) (wn := [(h0, .inr (4, [.int (nI 0), .int (nI g), .ref k1, .ref k2, .int (nI sp), .int (nI pl), .int (nI tu), .int (nI fr), .int (nI nf), .ref k3, .ref k4, .ref k5, .ref k6, .ref k7, .ref k8])), (k1, aI E 9 w), (k2, aI E 5 aw), (k3, aI E 4 my), (k4, aI E 120 fe), (k5, aI E 44 be), (k6, aI E 4 sk), (k7, aI E 4 cl), (k8, aI E 40 ex)]) (Cn := RX5) (met_X5_ok l E h0 k1 k2 k3 k4 k5 k6 k7 k8 x g sp pl tu fr nf w aw my fe be sk cl ex (nI sp)) gX5_spareStrings_X5_ok rfl 1 rfl ⟨rfl, rfl⟩ ⟨rfl, by decide +kernel, by decide +kernel, by decide +kernel⟩ ⟨Nat.le_of_ble_eq_true rfl, Nat.le_of_ble_eq_true rfl⟩ [0, 1, 2, 3, 4, 5, 6, 7, 8] [] [0, 1, 2, 3, 4, 5, 6, 7, 8] rfl (by decide) rfl (by decide) (by decide) rfl (by decide) 0 4 rfl rfl hl.1 rfl (Nat.le_of_ble_eq_true rfl) dX5_spareStrings_5 ⟨Nat.zero_le _, Nat.zero_le _⟩ (fun H locs hW => ?_)
  exact x_iret C hW rfl (by first | rfl | (simp []; done) | (rw [if_pos (by omega)]; done) | (rw [if_neg (by omega)]; done) | (exfalso; omega) | ((repeat' split) <;> first | rfl | contradiction | (exfalso; omega))) rfl dX5_spareStrings_8

set_option maxHeartbeats 4000000 in
set_option maxRecDepth 100000 in
theorem met_X5_players (l : Launch) (E : EV) (h0 k1 k2 k3 k4 k5 k6 k7 k8 : Nat) (x : Int32) (g sp pl tu fr nf : Nat) (w aw my fe be sk cl ex : Nat → Nat)  : MI l yX5_players wsX5_players { frames := 1, cells := 0, slots := 0, locals := 21 } E [.ref h0] [(h0, .inr (4, [.int x, .int (nI g), .ref k1, .ref k2, .int (nI sp), .int (nI pl), .int (nI tu), .int (nI fr), .int (nI nf), .ref k3, .ref k4, .ref k5, .ref k6, .ref k7, .ref k8])), (k1, aI E 9 w), (k2, aI E 5 aw), (k3, aI E 4 my), (k4, aI E 120 fe), (k5, aI E 44 be), (k6, aI E 4 sk), (k7, aI E 4 cl), (k8, aI E 40 ex)] (nI pl) [(h0, .inr (4, [.int (nI 0), .int (nI g), .ref k1, .ref k2, .int (nI sp), .int (nI pl), .int (nI tu), .int (nI fr), .int (nI nf), .ref k3, .ref k4, .ref k5, .ref k6, .ref k7, .ref k8])), (k1, aI E 9 w), (k2, aI E 5 aw), (k3, aI E 4 my), (k4, aI E 120 fe), (k5, aI E 44 be), (k6, aI E 4 sk), (k7, aI E 4 cl), (k8, aI E 40 ex)] := by
  refine sI (own := RX5) (cc := cX5_players) (maxL := 1) (ret := (some .int)) rfl (by decide) rfl (Nat.le_of_ble_eq_true rfl) ?_
  intro p e s m below meth c C hnm ls hl hW
  have hl : lv_has ls 1 [(0, .ref h0)] := hl
  have hW : WD E _ s [(h0, .inr (4, [.int x, .int (nI g), .ref k1, .ref k2, .int (nI sp), .int (nI pl), .int (nI tu), .int (nI fr), .int (nI nf), .ref k3, .ref k4, .ref k5, .ref k6, .ref k7, .ref k8])), (k1, aI E 9 w), (k2, aI E 5 aw), (k3, aI E 4 my), (k4, aI E 120 fe), (k5, aI E 44 be), (k6, aI E 4 sk), (k7, aI E 4 cl), (k8, aI E 40 ex)] s.heap [] := hW
  have hinX5 : ∀ w ∈ u_ws RX5 TX5 15, w ∈ wsX5_players := by decide +kernel
  have hf48 : Cond.fieldLink RX5 48 (TX5 5).1 (TX5 5).2.1 (TX5 5).2.2.1 ∈ wsX5_players := by decide +kernel
  refine lv_aload_n C.x C.b dX5_players_0 rfl (lv_at hl 0 rfl) ?_
  refine lv_aload_n C.x C.b dX5_players_1 rfl (lv_at hl 0 rfl) ?_
  refine x_get C hW 0 4 5 (Cn := RX5) (T := TX5) (N := 15) rfl rfl (by decide) hinX5 hf48 rfl dX5_players_2 ?_
  refine x_cVI C hW (As := [.int (nI pl)]) (rest := []) (wr := []) (wn := [(h0, .inr (4, [.int (nI 0), .int (nI g), .ref k1, .ref k2, .int (nI sp), .int (nI pl), .int (nI tu), .int (nI fr), .int (nI nf), .ref k3, .ref k4, .ref k5, .ref k6, .ref k7, .ref k8])), (k1, aI E 9 w), (k2, aI E 5 aw), (k3, aI E 4 my), (k4, aI E 120 fe), (k5, aI E 44 be), (k6, aI E 4 sk), (k7, aI E 4 cl), (k8, aI E 40 ex)]) (Cn := RX5) (met_X5_ok l E h0 k1 k2 k3 k4 k5 k6 k7 k8 x g sp pl tu fr nf w aw my fe be sk cl ex (nI pl)) gX5_players_X5_ok rfl 1 rfl ⟨rfl, rfl⟩ ⟨rfl, by decide +kernel, by decide +kernel, by decide +kernel⟩ ⟨Nat.le_of_ble_eq_true rfl, Nat.le_of_ble_eq_true rfl⟩ [0, 1, 2, 3, 4, 5, 6, 7, 8] [] [0, 1, 2, 3, 4, 5, 6, 7, 8] rfl (by decide) rfl (by decide) (by decide) rfl (by decide) 0 4 rfl rfl hl.1 rfl (Nat.le_of_ble_eq_true rfl) dX5_players_5 ⟨Nat.zero_le _, Nat.zero_le _⟩ (fun H locs hW => ?_)
  exact x_iret C hW rfl (by first | rfl | (simp []; done) | (rw [if_pos (by omega)]; done) | (rw [if_neg (by omega)]; done) | (exfalso; omega) | ((repeat' split) <;> first | rfl | contradiction | (exfalso; omega))) rfl dX5_players_8

set_option maxHeartbeats 4000000 in
set_option maxRecDepth 100000 in
theorem met_X5_frame (l : Launch) (E : EV) (h0 k1 k2 k3 k4 k5 k6 k7 k8 : Nat) (x : Int32) (g sp pl tu fr nf : Nat) (w aw my fe be sk cl ex : Nat → Nat)  : MI l yX5_frame wsX5_frame { frames := 1, cells := 0, slots := 0, locals := 21 } E [.ref h0] [(h0, .inr (4, [.int x, .int (nI g), .ref k1, .ref k2, .int (nI sp), .int (nI pl), .int (nI tu), .int (nI fr), .int (nI nf), .ref k3, .ref k4, .ref k5, .ref k6, .ref k7, .ref k8])), (k1, aI E 9 w), (k2, aI E 5 aw), (k3, aI E 4 my), (k4, aI E 120 fe), (k5, aI E 44 be), (k6, aI E 4 sk), (k7, aI E 4 cl), (k8, aI E 40 ex)] (nI fr) [(h0, .inr (4, [.int (nI 0), .int (nI g), .ref k1, .ref k2, .int (nI sp), .int (nI pl), .int (nI tu), .int (nI fr), .int (nI nf), .ref k3, .ref k4, .ref k5, .ref k6, .ref k7, .ref k8])), (k1, aI E 9 w), (k2, aI E 5 aw), (k3, aI E 4 my), (k4, aI E 120 fe), (k5, aI E 44 be), (k6, aI E 4 sk), (k7, aI E 4 cl), (k8, aI E 40 ex)] := by
  refine sI (own := RX5) (cc := cX5_frame) (maxL := 1) (ret := (some .int)) rfl (by decide) rfl (Nat.le_of_ble_eq_true rfl) ?_
  intro p e s m below meth c C hnm ls hl hW
  have hl : lv_has ls 1 [(0, .ref h0)] := hl
  have hW : WD E _ s [(h0, .inr (4, [.int x, .int (nI g), .ref k1, .ref k2, .int (nI sp), .int (nI pl), .int (nI tu), .int (nI fr), .int (nI nf), .ref k3, .ref k4, .ref k5, .ref k6, .ref k7, .ref k8])), (k1, aI E 9 w), (k2, aI E 5 aw), (k3, aI E 4 my), (k4, aI E 120 fe), (k5, aI E 44 be), (k6, aI E 4 sk), (k7, aI E 4 cl), (k8, aI E 40 ex)] s.heap [] := hW
  have hinX5 : ∀ w ∈ u_ws RX5 TX5 15, w ∈ wsX5_frame := by decide +kernel
  have hf72 : Cond.fieldLink RX5 72 (TX5 7).1 (TX5 7).2.1 (TX5 7).2.2.1 ∈ wsX5_frame := by decide +kernel
  refine lv_aload_n C.x C.b dX5_frame_0 rfl (lv_at hl 0 rfl) ?_
  refine lv_aload_n C.x C.b dX5_frame_1 rfl (lv_at hl 0 rfl) ?_
  refine x_get C hW 0 4 7 (Cn := RX5) (T := TX5) (N := 15) rfl rfl (by decide) hinX5 hf72 rfl dX5_frame_2 ?_
  refine x_cVI C hW (As := [.int (nI fr)]) (rest := []) (wr := []) (wn := [(h0, .inr (4, [.int (nI 0), .int (nI g), .ref k1, .ref k2, .int (nI sp), .int (nI pl), .int (nI tu), .int (nI fr), .int (nI nf), .ref k3, .ref k4, .ref k5, .ref k6, .ref k7, .ref k8])), (k1, aI E 9 w), (k2, aI E 5 aw), (k3, aI E 4 my), (k4, aI E 120 fe), (k5, aI E 44 be), (k6, aI E 4 sk), (k7, aI E 4 cl), (k8, aI E 40 ex)]) (Cn := RX5) (met_X5_ok l E h0 k1 k2 k3 k4 k5 k6 k7 k8 x g sp pl tu fr nf w aw my fe be sk cl ex (nI fr)) gX5_frame_X5_ok rfl 1 rfl ⟨rfl, rfl⟩ ⟨rfl, by decide +kernel, by decide +kernel, by decide +kernel⟩ ⟨Nat.le_of_ble_eq_true rfl, Nat.le_of_ble_eq_true rfl⟩ [0, 1, 2, 3, 4, 5, 6, 7, 8] [] [0, 1, 2, 3, 4, 5, 6, 7, 8] rfl (by decide) rfl (by decide) (by decide) rfl (by decide) 0 4 rfl rfl hl.1 rfl (Nat.le_of_ble_eq_true rfl) dX5_frame_5 ⟨Nat.zero_le _, Nat.zero_le _⟩ (fun H locs hW => ?_)
  exact x_iret C hW rfl (by first | rfl | (simp []; done) | (rw [if_pos (by omega)]; done) | (rw [if_neg (by omega)]; done) | (exfalso; omega) | ((repeat' split) <;> first | rfl | contradiction | (exfalso; omega))) rfl dX5_frame_8

set_option maxHeartbeats 4000000 in
set_option maxRecDepth 100000 in
theorem met_X5_throwsInFrame (l : Launch) (E : EV) (h0 k1 k2 k3 k4 k5 k6 k7 k8 : Nat) (x : Int32) (g sp pl tu fr nf : Nat) (w aw my fe be sk cl ex : Nat → Nat)  : MI l yX5_throwsInFrame wsX5_throwsInFrame { frames := 1, cells := 0, slots := 0, locals := 21 } E [.ref h0] [(h0, .inr (4, [.int x, .int (nI g), .ref k1, .ref k2, .int (nI sp), .int (nI pl), .int (nI tu), .int (nI fr), .int (nI nf), .ref k3, .ref k4, .ref k5, .ref k6, .ref k7, .ref k8])), (k1, aI E 9 w), (k2, aI E 5 aw), (k3, aI E 4 my), (k4, aI E 120 fe), (k5, aI E 44 be), (k6, aI E 4 sk), (k7, aI E 4 cl), (k8, aI E 40 ex)] (nI nf) [(h0, .inr (4, [.int (nI 0), .int (nI g), .ref k1, .ref k2, .int (nI sp), .int (nI pl), .int (nI tu), .int (nI fr), .int (nI nf), .ref k3, .ref k4, .ref k5, .ref k6, .ref k7, .ref k8])), (k1, aI E 9 w), (k2, aI E 5 aw), (k3, aI E 4 my), (k4, aI E 120 fe), (k5, aI E 44 be), (k6, aI E 4 sk), (k7, aI E 4 cl), (k8, aI E 40 ex)] := by
  refine sI (own := RX5) (cc := cX5_throwsInFrame) (maxL := 1) (ret := (some .int)) rfl (by decide) rfl (Nat.le_of_ble_eq_true rfl) ?_
  intro p e s m below meth c C hnm ls hl hW
  have hl : lv_has ls 1 [(0, .ref h0)] := hl
  have hW : WD E _ s [(h0, .inr (4, [.int x, .int (nI g), .ref k1, .ref k2, .int (nI sp), .int (nI pl), .int (nI tu), .int (nI fr), .int (nI nf), .ref k3, .ref k4, .ref k5, .ref k6, .ref k7, .ref k8])), (k1, aI E 9 w), (k2, aI E 5 aw), (k3, aI E 4 my), (k4, aI E 120 fe), (k5, aI E 44 be), (k6, aI E 4 sk), (k7, aI E 4 cl), (k8, aI E 40 ex)] s.heap [] := hW
  have hinX5 : ∀ w ∈ u_ws RX5 TX5 15, w ∈ wsX5_throwsInFrame := by decide +kernel
  have hf97 : Cond.fieldLink RX5 97 (TX5 8).1 (TX5 8).2.1 (TX5 8).2.2.1 ∈ wsX5_throwsInFrame := by decide +kernel
  refine lv_aload_n C.x C.b dX5_throwsInFrame_0 rfl (lv_at hl 0 rfl) ?_
  refine lv_aload_n C.x C.b dX5_throwsInFrame_1 rfl (lv_at hl 0 rfl) ?_
  refine x_get C hW 0 4 8 (Cn := RX5) (T := TX5) (N := 15) rfl rfl (by decide) hinX5 hf97 rfl dX5_throwsInFrame_2 ?_
  refine x_cVI C hW (As := [.int (nI nf)]) (rest := []) (wr := []) (wn := [(h0, .inr (4, [.int (nI 0), .int (nI g), .ref k1, .ref k2, .int (nI sp), .int (nI pl), .int (nI tu), .int (nI fr), .int (nI nf), .ref k3, .ref k4, .ref k5, .ref k6, .ref k7, .ref k8])), (k1, aI E 9 w), (k2, aI E 5 aw), (k3, aI E 4 my), (k4, aI E 120 fe), (k5, aI E 44 be), (k6, aI E 4 sk), (k7, aI E 4 cl), (k8, aI E 40 ex)]) (Cn := RX5) (met_X5_ok l E h0 k1 k2 k3 k4 k5 k6 k7 k8 x g sp pl tu fr nf w aw my fe be sk cl ex (nI nf)) gX5_throwsInFrame_X5_ok rfl 1 rfl ⟨rfl, rfl⟩ ⟨rfl, by decide +kernel, by decide +kernel, by decide +kernel⟩ ⟨Nat.le_of_ble_eq_true rfl, Nat.le_of_ble_eq_true rfl⟩ [0, 1, 2, 3, 4, 5, 6, 7, 8] [] [0, 1, 2, 3, 4, 5, 6, 7, 8] rfl (by decide) rfl (by decide) (by decide) rfl (by decide) 0 4 rfl rfl hl.1 rfl (Nat.le_of_ble_eq_true rfl) dX5_throwsInFrame_5 ⟨Nat.zero_le _, Nat.zero_le _⟩ (fun H locs hW => ?_)
  exact x_iret C hW rfl (by first | rfl | (simp []; done) | (rw [if_pos (by omega)]; done) | (rw [if_neg (by omega)]; done) | (exfalso; omega) | ((repeat' split) <;> first | rfl | contradiction | (exfalso; omega))) rfl dX5_throwsInFrame_8

set_option maxHeartbeats 4000000 in
set_option maxRecDepth 100000 in
theorem met_X5_awayFor_ok (l : Launch) (E : EV) (h0 k1 k2 k3 k4 k5 k6 k7 k8 : Nat) (x : Int32) (g sp pl tu fr nf : Nat) (w aw my fe be sk cl ex : Nat → Nat) (q : Nat) (hq : q < 5) : MI l yX5_awayFor wsX5_awayFor { frames := 1, cells := 0, slots := 0, locals := 22 } E [.ref h0, .int (nI q)] [(h0, .inr (4, [.int x, .int (nI g), .ref k1, .ref k2, .int (nI sp), .int (nI pl), .int (nI tu), .int (nI fr), .int (nI nf), .ref k3, .ref k4, .ref k5, .ref k6, .ref k7, .ref k8])), (k1, aI E 9 w), (k2, aI E 5 aw), (k3, aI E 4 my), (k4, aI E 120 fe), (k5, aI E 44 be), (k6, aI E 4 sk), (k7, aI E 4 cl), (k8, aI E 40 ex)] (nI (aw q)) [(h0, .inr (4, [.int (nI 0), .int (nI g), .ref k1, .ref k2, .int (nI sp), .int (nI pl), .int (nI tu), .int (nI fr), .int (nI nf), .ref k3, .ref k4, .ref k5, .ref k6, .ref k7, .ref k8])), (k1, aI E 9 w), (k2, aI E 5 aw), (k3, aI E 4 my), (k4, aI E 120 fe), (k5, aI E 44 be), (k6, aI E 4 sk), (k7, aI E 4 cl), (k8, aI E 40 ex)] := by
  refine sI (own := RX5) (cc := cX5_awayFor) (maxL := 2) (ret := (some .int)) rfl (by decide) rfl (Nat.le_of_ble_eq_true rfl) ?_
  intro p e s m below meth c C hnm ls hl hW
  have hl : lv_has ls 2 [(0, .ref h0), (1, .int (nI q))] := hl
  have hW : WD E _ s [(h0, .inr (4, [.int x, .int (nI g), .ref k1, .ref k2, .int (nI sp), .int (nI pl), .int (nI tu), .int (nI fr), .int (nI nf), .ref k3, .ref k4, .ref k5, .ref k6, .ref k7, .ref k8])), (k1, aI E 9 w), (k2, aI E 5 aw), (k3, aI E 4 my), (k4, aI E 120 fe), (k5, aI E 44 be), (k6, aI E 4 sk), (k7, aI E 4 cl), (k8, aI E 40 ex)] s.heap [] := hW
  have hinX5 : ∀ w ∈ u_ws RX5 TX5 15, w ∈ wsX5_awayFor := by decide +kernel
  have hf41 : Cond.fieldLink RX5 41 (TX5 0).1 (TX5 0).2.1 (TX5 0).2.2.1 ∈ wsX5_awayFor := by decide +kernel
  have hf17 : Cond.fieldLink RX5 17 (TX5 3).1 (TX5 3).2.1 (TX5 3).2.2.1 ∈ wsX5_awayFor := by decide +kernel
  refine lv_aload_n C.x C.b dX5_awayFor_0 rfl (lv_at hl 0 rfl) ?_
  refine lv_iconst (v := nI 0) C.x C.b dX5_awayFor_1 (by decide) ?_
  refine x_put C hW 0 4 0 (Cn := RX5) (T := TX5) (N := 15) (w' := [(h0, .inr (4, [.int (nI 0), .int (nI g), .ref k1, .ref k2, .int (nI sp), .int (nI pl), .int (nI tu), .int (nI fr), .int (nI nf), .ref k3, .ref k4, .ref k5, .ref k6, .ref k7, .ref k8])), (k1, aI E 9 w), (k2, aI E 5 aw), (k3, aI E 4 my), (k4, aI E 120 fe), (k5, aI E 44 be), (k6, aI E 4 sk), (k7, aI E 4 cl), (k8, aI E 40 ex)]) tyX5 tyX5_ok nmX5 rfl rfl (by decide) hinX5 hf41 rfl (by decide +kernel) (Nat.le_of_ble_eq_true rfl) dX5_awayFor_2 rfl (fun H locs hW => ?_)
  refine lv_iload_n C.x C.b dX5_awayFor_5 rfl (lv_at hl 1 rfl) ?_
  refine lv_iconst (v := nI 0) C.x C.b dX5_awayFor_6 (by decide) ?_
  refine lv_iconst (v := nI 4) C.x C.b dX5_awayFor_7 (by decide) ?_
  refine x_cSI C hW (As := [.int (nI q), .int (nI 0), .int (nI 4)]) (rest := []) (wr := [(h0, .inr (4, [.int (nI 0), .int (nI g), .ref k1, .ref k2, .int (nI sp), .int (nI pl), .int (nI tu), .int (nI fr), .int (nI nf), .ref k3, .ref k4, .ref k5, .ref k6, .ref k7, .ref k8])), (k1, aI E 9 w), (k2, aI E 5 aw), (k3, aI E 4 my), (k4, aI E 120 fe), (k5, aI E 44 be), (k6, aI E 4 sk), (k7, aI E 4 cl), (k8, aI E 40 ex)]) (wn := [(h0, .inr (4, [.int (nI 0), .int (nI g), .ref k1, .ref k2, .int (nI sp), .int (nI pl), .int (nI tu), .int (nI fr), .int (nI nf), .ref k3, .ref k4, .ref k5, .ref k6, .ref k7, .ref k8])), (k1, aI E 9 w), (k2, aI E 5 aw), (k3, aI E 4 my), (k4, aI E 120 fe), (k5, aI E 44 be), (k6, aI E 4 sk), (k7, aI E 4 cl), (k8, aI E 40 ex)]) (met_X5_isIn l E (nI q) (nI 0) (nI 4)) gX5_awayFor_X5_isIn rfl 3 rfl ⟨rfl, rfl⟩ ⟨by decide +kernel, by decide +kernel, by decide +kernel⟩ ⟨Nat.le_of_ble_eq_true rfl, Nat.le_of_ble_eq_true rfl⟩ [] [0, 1, 2, 3, 4, 5, 6, 7, 8] [0, 1, 2, 3, 4, 5, 6, 7, 8] rfl (by decide) rfl (by decide) (by decide) rfl (by decide) hl.1 rfl (Nat.le_of_ble_eq_true rfl) dX5_awayFor_8 ⟨Nat.zero_le _, Nat.zero_le _⟩ (fun H locs hW => ?_)
  refine x_ifb_eq C (tgt := 23) dX5_awayFor_11 (by decide) (fun c_1 => ?_) (fun c_1 => ?_)
  · exact absurd (z_inR (by omega) (by decide)) c_1
  · refine lv_aload_n C.x C.b dX5_awayFor_14 rfl (lv_at hl 0 rfl) ?_
    refine x_get C hW 0 4 3 (Cn := RX5) (T := TX5) (N := 15) rfl rfl (by decide) hinX5 hf17 rfl dX5_awayFor_15 ?_
    refine lv_iload_n C.x C.b dX5_awayFor_18 rfl (lv_at hl 1 rfl) ?_
    refine x_ald C hW 2 q rfl rfl (by omega) (by decide) dX5_awayFor_19 ?_
    refine lv_goto (tgt := 28) C.x C.b dX5_awayFor_20 (by decide) ?_
    exact x_iret C hW rfl rfl rfl dX5_awayFor_28

set_option maxHeartbeats 4000000 in
set_option maxRecDepth 100000 in
theorem met_X5_awayFor_bad (l : Launch) (E : EV) (h0 k1 k2 k3 k4 k5 k6 k7 k8 : Nat) (x : Int32) (g sp pl tu fr nf : Nat) (w aw my fe be sk cl ex : Nat → Nat) (v : Int32) (hb : ¬ (nI 0 ≤ v ∧ v ≤ nI 4)) : MI l yX5_awayFor wsX5_awayFor { frames := 1, cells := 0, slots := 0, locals := 22 } E [.ref h0, .int v] [(h0, .inr (4, [.int x, .int (nI g), .ref k1, .ref k2, .int (nI sp), .int (nI pl), .int (nI tu), .int (nI fr), .int (nI nf), .ref k3, .ref k4, .ref k5, .ref k6, .ref k7, .ref k8])), (k1, aI E 9 w), (k2, aI E 5 aw), (k3, aI E 4 my), (k4, aI E 120 fe), (k5, aI E 44 be), (k6, aI E 4 sk), (k7, aI E 4 cl), (k8, aI E 40 ex)] (nI 0) [(h0, .inr (4, [.int (nI 1), .int (nI g), .ref k1, .ref k2, .int (nI sp), .int (nI pl), .int (nI tu), .int (nI fr), .int (nI nf), .ref k3, .ref k4, .ref k5, .ref k6, .ref k7, .ref k8])), (k1, aI E 9 w), (k2, aI E 5 aw), (k3, aI E 4 my), (k4, aI E 120 fe), (k5, aI E 44 be), (k6, aI E 4 sk), (k7, aI E 4 cl), (k8, aI E 40 ex)] := by
  refine sI (own := RX5) (cc := cX5_awayFor) (maxL := 2) (ret := (some .int)) rfl (by decide) rfl (Nat.le_of_ble_eq_true rfl) ?_
  intro p e s m below meth c C hnm ls hl hW
  have hl : lv_has ls 2 [(0, .ref h0), (1, .int v)] := hl
  have hW : WD E _ s [(h0, .inr (4, [.int x, .int (nI g), .ref k1, .ref k2, .int (nI sp), .int (nI pl), .int (nI tu), .int (nI fr), .int (nI nf), .ref k3, .ref k4, .ref k5, .ref k6, .ref k7, .ref k8])), (k1, aI E 9 w), (k2, aI E 5 aw), (k3, aI E 4 my), (k4, aI E 120 fe), (k5, aI E 44 be), (k6, aI E 4 sk), (k7, aI E 4 cl), (k8, aI E 40 ex)] s.heap [] := hW
  have hinX5 : ∀ w ∈ u_ws RX5 TX5 15, w ∈ wsX5_awayFor := by decide +kernel
  have hf41 : Cond.fieldLink RX5 41 (TX5 0).1 (TX5 0).2.1 (TX5 0).2.2.1 ∈ wsX5_awayFor := by decide +kernel
  refine lv_aload_n C.x C.b dX5_awayFor_0 rfl (lv_at hl 0 rfl) ?_
  refine lv_iconst (v := nI 0) C.x C.b dX5_awayFor_1 (by decide) ?_
  refine x_put C hW 0 4 0 (Cn := RX5) (T := TX5) (N := 15) (w' := [(h0, .inr (4, [.int (nI 0), .int (nI g), .ref k1, .ref k2, .int (nI sp), .int (nI pl), .int (nI tu), .int (nI fr), .int (nI nf), .ref k3, .ref k4, .ref k5, .ref k6, .ref k7, .ref k8])), (k1, aI E 9 w), (k2, aI E 5 aw), (k3, aI E 4 my), (k4, aI E 120 fe), (k5, aI E 44 be), (k6, aI E 4 sk), (k7, aI E 4 cl), (k8, aI E 40 ex)]) tyX5 tyX5_ok nmX5 rfl rfl (by decide) hinX5 hf41 rfl (by decide +kernel) (Nat.le_of_ble_eq_true rfl) dX5_awayFor_2 rfl (fun H locs hW => ?_)
  refine lv_iload_n C.x C.b dX5_awayFor_5 rfl (lv_at hl 1 rfl) ?_
  refine lv_iconst (v := nI 0) C.x C.b dX5_awayFor_6 (by decide) ?_
  refine lv_iconst (v := nI 4) C.x C.b dX5_awayFor_7 (by decide) ?_
  refine x_cSI C hW (As := [.int v, .int (nI 0), .int (nI 4)]) (rest := []) (wr := [(h0, .inr (4, [.int (nI 0), .int (nI g), .ref k1, .ref k2, .int (nI sp), .int (nI pl), .int (nI tu), .int (nI fr), .int (nI nf), .ref k3, .ref k4, .ref k5, .ref k6, .ref k7, .ref k8])), (k1, aI E 9 w), (k2, aI E 5 aw), (k3, aI E 4 my), (k4, aI E 120 fe), (k5, aI E 44 be), (k6, aI E 4 sk), (k7, aI E 4 cl), (k8, aI E 40 ex)]) (wn := [(h0, .inr (4, [.int (nI 0), .int (nI g), .ref k1, .ref k2, .int (nI sp), .int (nI pl), .int (nI tu), .int (nI fr), .int (nI nf), .ref k3, .ref k4, .ref k5, .ref k6, .ref k7, .ref k8])), (k1, aI E 9 w), (k2, aI E 5 aw), (k3, aI E 4 my), (k4, aI E 120 fe), (k5, aI E 44 be), (k6, aI E 4 sk), (k7, aI E 4 cl), (k8, aI E 40 ex)]) (met_X5_isIn l E v (nI 0) (nI 4)) gX5_awayFor_X5_isIn rfl 3 rfl ⟨rfl, rfl⟩ ⟨by decide +kernel, by decide +kernel, by decide +kernel⟩ ⟨Nat.le_of_ble_eq_true rfl, Nat.le_of_ble_eq_true rfl⟩ [] [0, 1, 2, 3, 4, 5, 6, 7, 8] [0, 1, 2, 3, 4, 5, 6, 7, 8] rfl (by decide) rfl (by decide) (by decide) rfl (by decide) hl.1 rfl (Nat.le_of_ble_eq_true rfl) dX5_awayFor_8 ⟨Nat.zero_le _, Nat.zero_le _⟩ (fun H locs hW => ?_)
  refine x_ifb_eq C (tgt := 23) dX5_awayFor_11 (by decide) (fun c_1 => ?_) (fun c_1 => ?_)
  · refine lv_aload_n C.x C.b dX5_awayFor_23 rfl (lv_at hl 0 rfl) ?_
    refine lv_iconst (v := nI 1) C.x C.b dX5_awayFor_24 (by decide) ?_
    refine x_cVI C hW (As := [.int (nI 1)]) (rest := []) (wr := []) (wn := [(h0, .inr (4, [.int (nI 1), .int (nI g), .ref k1, .ref k2, .int (nI sp), .int (nI pl), .int (nI tu), .int (nI fr), .int (nI nf), .ref k3, .ref k4, .ref k5, .ref k6, .ref k7, .ref k8])), (k1, aI E 9 w), (k2, aI E 5 aw), (k3, aI E 4 my), (k4, aI E 120 fe), (k5, aI E 44 be), (k6, aI E 4 sk), (k7, aI E 4 cl), (k8, aI E 40 ex)]) (Cn := RX5) (met_X5_no l E h0 k1 k2 k3 k4 k5 k6 k7 k8 (nI 0) g sp pl tu fr nf w aw my fe be sk cl ex 1) gX5_awayFor_X5_no rfl 1 rfl ⟨rfl, rfl⟩ ⟨rfl, by decide +kernel, by decide +kernel, by decide +kernel⟩ ⟨Nat.le_of_ble_eq_true rfl, Nat.le_of_ble_eq_true rfl⟩ [0, 1, 2, 3, 4, 5, 6, 7, 8] [] [0, 1, 2, 3, 4, 5, 6, 7, 8] rfl (by decide) rfl (by decide) (by decide) rfl (by decide) 0 4 rfl rfl hl.1 rfl (Nat.le_of_ble_eq_true rfl) dX5_awayFor_25 ⟨Nat.zero_le _, Nat.zero_le _⟩ (fun H locs hW => ?_)
    exact x_iret C hW rfl rfl rfl dX5_awayFor_28
  · exact absurd c_1 hb

set_option maxHeartbeats 4000000 in
set_option maxRecDepth 100000 in
theorem met_X5_turnNow (l : Launch) (E : EV) (h0 k1 k2 k3 k4 k5 k6 k7 k8 : Nat) (x : Int32) (g sp pl tu fr nf : Nat) (w aw my fe be sk cl ex : Nat → Nat) (hpl : pl ≤ 4) (hfr : fr ≤ 10) : MI l yX5_turnNow wsX5_turnNow { frames := 1, cells := 0, slots := 0, locals := 20 } E [.ref h0] [(h0, .inr (4, [.int x, .int (nI g), .ref k1, .ref k2, .int (nI sp), .int (nI pl), .int (nI tu), .int (nI fr), .int (nI nf), .ref k3, .ref k4, .ref k5, .ref k6, .ref k7, .ref k8])), (k1, aI E 9 w), (k2, aI E 5 aw), (k3, aI E 4 my), (k4, aI E 120 fe), (k5, aI E 44 be), (k6, aI E 4 sk), (k7, aI E 4 cl), (k8, aI E 40 ex)] (tnI pl fr tu) [(h0, .inr (4, [.int x, .int (nI g), .ref k1, .ref k2, .int (nI sp), .int (nI pl), .int (nI tu), .int (nI fr), .int (nI nf), .ref k3, .ref k4, .ref k5, .ref k6, .ref k7, .ref k8])), (k1, aI E 9 w), (k2, aI E 5 aw), (k3, aI E 4 my), (k4, aI E 120 fe), (k5, aI E 44 be), (k6, aI E 4 sk), (k7, aI E 4 cl), (k8, aI E 40 ex)] := by
  refine sI (own := RX5) (cc := cX5_turnNow) (maxL := 1) (ret := (some .int)) rfl (by decide) rfl (Nat.le_of_ble_eq_true rfl) ?_
  intro p e s m below meth c C hnm ls hl hW
  have hl : lv_has ls 1 [(0, .ref h0)] := hl
  have hW : WD E _ s [(h0, .inr (4, [.int x, .int (nI g), .ref k1, .ref k2, .int (nI sp), .int (nI pl), .int (nI tu), .int (nI fr), .int (nI nf), .ref k3, .ref k4, .ref k5, .ref k6, .ref k7, .ref k8])), (k1, aI E 9 w), (k2, aI E 5 aw), (k3, aI E 4 my), (k4, aI E 120 fe), (k5, aI E 44 be), (k6, aI E 4 sk), (k7, aI E 4 cl), (k8, aI E 40 ex)] s.heap [] := hW
  have hinX5 : ∀ w ∈ u_ws RX5 TX5 15, w ∈ wsX5_turnNow := by decide +kernel
  have hf48 : Cond.fieldLink RX5 48 (TX5 5).1 (TX5 5).2.1 (TX5 5).2.2.1 ∈ wsX5_turnNow := by decide +kernel
  have hf88 : Cond.fieldLink RX5 88 (TX5 6).1 (TX5 6).2.1 (TX5 6).2.2.1 ∈ wsX5_turnNow := by decide +kernel
  refine lv_aload_n C.x C.b dX5_turnNow_0 rfl (lv_at hl 0 rfl) ?_
  refine x_get C hW 0 4 5 (Cn := RX5) (T := TX5) (N := 15) rfl rfl (by decide) hinX5 hf48 rfl dX5_turnNow_1 ?_
  refine x_if_eq C (by omega) (tgt := 14) dX5_turnNow_4 (by decide) (fun c_1 => ?_) (fun c_1 => ?_)
  · refine lv_iconst (v := (-1)) C.x C.b dX5_turnNow_14 (by decide) ?_
    refine lv_goto (tgt := 22) C.x C.b dX5_turnNow_15 (by decide) ?_
    exact x_iret C hW rfl (by first | rfl | (simp [tnI, c_1]; done) | (rw [if_pos (by omega)]; done) | (rw [if_neg (by omega)]; done) | (exfalso; omega) | (simp only [tnI]; (repeat' split) <;> first | rfl | contradiction | (exfalso; omega))) rfl dX5_turnNow_22
  · refine lv_aload_n C.x C.b dX5_turnNow_7 rfl (lv_at hl 0 rfl) ?_
    refine x_cVI C hW (As := []) (rest := []) (wr := []) (wn := [(h0, .inr (4, [.int x, .int (nI g), .ref k1, .ref k2, .int (nI sp), .int (nI pl), .int (nI tu), .int (nI fr), .int (nI nf), .ref k3, .ref k4, .ref k5, .ref k6, .ref k7, .ref k8])), (k1, aI E 9 w), (k2, aI E 5 aw), (k3, aI E 4 my), (k4, aI E 120 fe), (k5, aI E 44 be), (k6, aI E 4 sk), (k7, aI E 4 cl), (k8, aI E 40 ex)]) (Cn := RX5) (met_X5_over l E h0 k1 k2 k3 k4 k5 k6 k7 k8 x g sp pl tu fr nf w aw my fe be sk cl ex (by omega)) gX5_turnNow_X5_over rfl 0 rfl ⟨rfl, rfl⟩ ⟨rfl, by decide +kernel, by decide +kernel, by decide +kernel⟩ ⟨Nat.le_of_ble_eq_true rfl, Nat.le_of_ble_eq_true rfl⟩ [0, 1, 2, 3, 4, 5, 6, 7, 8] [] [0, 1, 2, 3, 4, 5, 6, 7, 8] rfl (by decide) rfl (by decide) (by decide) rfl (by decide) 0 4 rfl rfl hl.1 rfl (Nat.le_of_ble_eq_true rfl) dX5_turnNow_8 ⟨Nat.zero_le _, Nat.zero_le _⟩ (fun H locs hW => ?_)
    refine x_ifb_eq C (tgt := 18) dX5_turnNow_11 (by decide) (fun c_2 => ?_) (fun c_2 => ?_)
    · refine lv_aload_n C.x C.b dX5_turnNow_18 rfl (lv_at hl 0 rfl) ?_
      refine x_get C hW 0 4 6 (Cn := RX5) (T := TX5) (N := 15) rfl rfl (by decide) hinX5 hf88 rfl dX5_turnNow_19 ?_
      exact x_iret C hW rfl (by first | rfl | (simp [tnI, c_1, c_2]; done) | (rw [if_pos (by omega)]; done) | (rw [if_neg (by omega)]; done) | (exfalso; omega) | (simp only [tnI]; (repeat' split) <;> first | rfl | contradiction | (exfalso; omega))) rfl dX5_turnNow_22
    · refine lv_iconst (v := (-1)) C.x C.b dX5_turnNow_14 (by decide) ?_
      refine lv_goto (tgt := 22) C.x C.b dX5_turnNow_15 (by decide) ?_
      exact x_iret C hW rfl (by first | rfl | (simp [tnI, c_1, c_2]; done) | (rw [if_pos (by omega)]; done) | (rw [if_neg (by omega)]; done) | (exfalso; omega) | (simp only [tnI]; (repeat' split) <;> first | rfl | contradiction | (exfalso; omega))) rfl dX5_turnNow_22

set_option maxHeartbeats 4000000 in
set_option maxRecDepth 100000 in
theorem met_X5_playerInTurn (l : Launch) (E : EV) (h0 k1 k2 k3 k4 k5 k6 k7 k8 : Nat) (x : Int32) (g sp pl tu fr nf : Nat) (w aw my fe be sk cl ex : Nat → Nat) (hpl : pl ≤ 4) (hfr : fr ≤ 10) : MI l yX5_playerInTurn wsX5_playerInTurn { frames := 2, cells := 0, slots := 0, locals := 40 } E [.ref h0] [(h0, .inr (4, [.int x, .int (nI g), .ref k1, .ref k2, .int (nI sp), .int (nI pl), .int (nI tu), .int (nI fr), .int (nI nf), .ref k3, .ref k4, .ref k5, .ref k6, .ref k7, .ref k8])), (k1, aI E 9 w), (k2, aI E 5 aw), (k3, aI E 4 my), (k4, aI E 120 fe), (k5, aI E 44 be), (k6, aI E 4 sk), (k7, aI E 4 cl), (k8, aI E 40 ex)] (tnI pl fr tu) [(h0, .inr (4, [.int (nI 0), .int (nI g), .ref k1, .ref k2, .int (nI sp), .int (nI pl), .int (nI tu), .int (nI fr), .int (nI nf), .ref k3, .ref k4, .ref k5, .ref k6, .ref k7, .ref k8])), (k1, aI E 9 w), (k2, aI E 5 aw), (k3, aI E 4 my), (k4, aI E 120 fe), (k5, aI E 44 be), (k6, aI E 4 sk), (k7, aI E 4 cl), (k8, aI E 40 ex)] := by
  refine sI (own := RX5) (cc := cX5_playerInTurn) (maxL := 1) (ret := (some .int)) rfl (by decide) rfl (Nat.le_of_ble_eq_true rfl) ?_
  intro p e s m below meth c C hnm ls hl hW
  have hl : lv_has ls 1 [(0, .ref h0)] := hl
  have hW : WD E _ s [(h0, .inr (4, [.int x, .int (nI g), .ref k1, .ref k2, .int (nI sp), .int (nI pl), .int (nI tu), .int (nI fr), .int (nI nf), .ref k3, .ref k4, .ref k5, .ref k6, .ref k7, .ref k8])), (k1, aI E 9 w), (k2, aI E 5 aw), (k3, aI E 4 my), (k4, aI E 120 fe), (k5, aI E 44 be), (k6, aI E 4 sk), (k7, aI E 4 cl), (k8, aI E 40 ex)] s.heap [] := hW
  refine lv_aload_n C.x C.b dX5_playerInTurn_0 rfl (lv_at hl 0 rfl) ?_
  refine lv_aload_n C.x C.b dX5_playerInTurn_1 rfl (lv_at hl 0 rfl) ?_
  refine x_cVI C hW (As := []) (rest := [.ref h0]) (wr := []) (wn := [(h0, .inr (4, [.int x, .int (nI g), .ref k1, .ref k2, .int (nI sp), .int (nI pl), .int (nI tu), .int (nI fr), .int (nI nf), .ref k3, .ref k4, .ref k5, .ref k6, .ref k7, .ref k8])), (k1, aI E 9 w), (k2, aI E 5 aw), (k3, aI E 4 my), (k4, aI E 120 fe), (k5, aI E 44 be), (k6, aI E 4 sk), (k7, aI E 4 cl), (k8, aI E 40 ex)]) (Cn := RX5) (met_X5_turnNow l E h0 k1 k2 k3 k4 k5 k6 k7 k8 x g sp pl tu fr nf w aw my fe be sk cl ex (by omega) (by omega)) gX5_playerInTurn_X5_turnNow rfl 0 rfl ⟨rfl, rfl⟩ ⟨rfl, by decide +kernel, by decide +kernel, by decide +kernel⟩ ⟨Nat.le_of_ble_eq_true rfl, Nat.le_of_ble_eq_true rfl⟩ [0, 1, 2, 3, 4, 5, 6, 7, 8] [] [0, 1, 2, 3, 4, 5, 6, 7, 8] rfl (by decide) rfl (by decide) (by decide) rfl (by decide) 0 4 rfl rfl hl.1 rfl (Nat.le_of_ble_eq_true rfl) dX5_playerInTurn_2 ⟨Nat.zero_le _, Nat.zero_le _⟩ (fun H locs hW => ?_)
  refine x_cVI C hW (As := [.int (tnI pl fr tu)]) (rest := []) (wr := []) (wn := [(h0, .inr (4, [.int (nI 0), .int (nI g), .ref k1, .ref k2, .int (nI sp), .int (nI pl), .int (nI tu), .int (nI fr), .int (nI nf), .ref k3, .ref k4, .ref k5, .ref k6, .ref k7, .ref k8])), (k1, aI E 9 w), (k2, aI E 5 aw), (k3, aI E 4 my), (k4, aI E 120 fe), (k5, aI E 44 be), (k6, aI E 4 sk), (k7, aI E 4 cl), (k8, aI E 40 ex)]) (Cn := RX5) (met_X5_ok l E h0 k1 k2 k3 k4 k5 k6 k7 k8 x g sp pl tu fr nf w aw my fe be sk cl ex (tnI pl fr tu)) gX5_playerInTurn_X5_ok rfl 1 rfl ⟨rfl, rfl⟩ ⟨rfl, by decide +kernel, by decide +kernel, by decide +kernel⟩ ⟨Nat.le_of_ble_eq_true rfl, Nat.le_of_ble_eq_true rfl⟩ [0, 1, 2, 3, 4, 5, 6, 7, 8] [] [0, 1, 2, 3, 4, 5, 6, 7, 8] rfl (by decide) rfl (by decide) (by decide) rfl (by decide) 0 4 rfl rfl hl.1 rfl (Nat.le_of_ble_eq_true rfl) dX5_playerInTurn_5 ⟨Nat.zero_le _, Nat.zero_le _⟩ (fun H locs hW => ?_)
  exact x_iret C hW rfl (by first | rfl | (simp []; done) | (rw [if_pos (by omega)]; done) | (rw [if_neg (by omega)]; done) | (exfalso; omega) | ((repeat' split) <;> first | rfl | contradiction | (exfalso; omega))) rfl dX5_playerInTurn_8

set_option maxHeartbeats 4000000 in
set_option maxRecDepth 100000 in
theorem met_X5_isOver (l : Launch) (E : EV) (h0 k1 k2 k3 k4 k5 k6 k7 k8 : Nat) (x : Int32) (g sp pl tu fr nf : Nat) (w aw my fe be sk cl ex : Nat → Nat) (hfr : fr ≤ 10) : MI l yX5_isOver wsX5_isOver { frames := 1, cells := 0, slots := 0, locals := 20 } E [.ref h0] [(h0, .inr (4, [.int x, .int (nI g), .ref k1, .ref k2, .int (nI sp), .int (nI pl), .int (nI tu), .int (nI fr), .int (nI nf), .ref k3, .ref k4, .ref k5, .ref k6, .ref k7, .ref k8])), (k1, aI E 9 w), (k2, aI E 5 aw), (k3, aI E 4 my), (k4, aI E 120 fe), (k5, aI E 44 be), (k6, aI E 4 sk), (k7, aI E 4 cl), (k8, aI E 40 ex)] (nI (if fr = 10 then 1 else 0)) [(h0, .inr (4, [.int (nI 0), .int (nI g), .ref k1, .ref k2, .int (nI sp), .int (nI pl), .int (nI tu), .int (nI fr), .int (nI nf), .ref k3, .ref k4, .ref k5, .ref k6, .ref k7, .ref k8])), (k1, aI E 9 w), (k2, aI E 5 aw), (k3, aI E 4 my), (k4, aI E 120 fe), (k5, aI E 44 be), (k6, aI E 4 sk), (k7, aI E 4 cl), (k8, aI E 40 ex)] := by
  refine sI (own := RX5) (cc := cX5_isOver) (maxL := 1) (ret := (some .boolean)) rfl (by decide) rfl (Nat.le_of_ble_eq_true rfl) ?_
  intro p e s m below meth c C hnm ls hl hW
  have hl : lv_has ls 1 [(0, .ref h0)] := hl
  have hW : WD E _ s [(h0, .inr (4, [.int x, .int (nI g), .ref k1, .ref k2, .int (nI sp), .int (nI pl), .int (nI tu), .int (nI fr), .int (nI nf), .ref k3, .ref k4, .ref k5, .ref k6, .ref k7, .ref k8])), (k1, aI E 9 w), (k2, aI E 5 aw), (k3, aI E 4 my), (k4, aI E 120 fe), (k5, aI E 44 be), (k6, aI E 4 sk), (k7, aI E 4 cl), (k8, aI E 40 ex)] s.heap [] := hW
  have hinX5 : ∀ w ∈ u_ws RX5 TX5 15, w ∈ wsX5_isOver := by decide +kernel
  have hf41 : Cond.fieldLink RX5 41 (TX5 0).1 (TX5 0).2.1 (TX5 0).2.2.1 ∈ wsX5_isOver := by decide +kernel
  refine lv_aload_n C.x C.b dX5_isOver_0 rfl (lv_at hl 0 rfl) ?_
  refine lv_iconst (v := nI 0) C.x C.b dX5_isOver_1 (by decide) ?_
  refine x_put C hW 0 4 0 (Cn := RX5) (T := TX5) (N := 15) (w' := [(h0, .inr (4, [.int (nI 0), .int (nI g), .ref k1, .ref k2, .int (nI sp), .int (nI pl), .int (nI tu), .int (nI fr), .int (nI nf), .ref k3, .ref k4, .ref k5, .ref k6, .ref k7, .ref k8])), (k1, aI E 9 w), (k2, aI E 5 aw), (k3, aI E 4 my), (k4, aI E 120 fe), (k5, aI E 44 be), (k6, aI E 4 sk), (k7, aI E 4 cl), (k8, aI E 40 ex)]) tyX5 tyX5_ok nmX5 rfl rfl (by decide) hinX5 hf41 rfl (by decide +kernel) (Nat.le_of_ble_eq_true rfl) dX5_isOver_2 rfl (fun H locs hW => ?_)
  refine lv_aload_n C.x C.b dX5_isOver_5 rfl (lv_at hl 0 rfl) ?_
  refine x_cVI C hW (As := []) (rest := []) (wr := []) (wn := [(h0, .inr (4, [.int (nI 0), .int (nI g), .ref k1, .ref k2, .int (nI sp), .int (nI pl), .int (nI tu), .int (nI fr), .int (nI nf), .ref k3, .ref k4, .ref k5, .ref k6, .ref k7, .ref k8])), (k1, aI E 9 w), (k2, aI E 5 aw), (k3, aI E 4 my), (k4, aI E 120 fe), (k5, aI E 44 be), (k6, aI E 4 sk), (k7, aI E 4 cl), (k8, aI E 40 ex)]) (Cn := RX5) (met_X5_over l E h0 k1 k2 k3 k4 k5 k6 k7 k8 (nI 0) g sp pl tu fr nf w aw my fe be sk cl ex (by omega)) gX5_isOver_X5_over rfl 0 rfl ⟨rfl, rfl⟩ ⟨rfl, by decide +kernel, by decide +kernel, by decide +kernel⟩ ⟨Nat.le_of_ble_eq_true rfl, Nat.le_of_ble_eq_true rfl⟩ [0, 1, 2, 3, 4, 5, 6, 7, 8] [] [0, 1, 2, 3, 4, 5, 6, 7, 8] rfl (by decide) rfl (by decide) (by decide) rfl (by decide) 0 4 rfl rfl hl.1 rfl (Nat.le_of_ble_eq_true rfl) dX5_isOver_6 ⟨Nat.zero_le _, Nat.zero_le _⟩ (fun H locs hW => ?_)
  exact x_iret C hW (by first | rfl | exact z_narb _) rfl rfl dX5_isOver_9

set_option maxHeartbeats 4000000 in
set_option maxRecDepth 100000 in
theorem met_X5_of_many (l : Launch) (E : EV) (h0 k1 k2 k3 k4 k5 k6 k7 k8 : Nat) (x : Int32) (g sp pl tu fr nf : Nat) (w aw my fe be sk cl ex : Nat → Nat) (q : Nat) (hq : q < pl) (hpl : pl ≤ 4) : MI l yX5_of wsX5_of { frames := 2, cells := 0, slots := 0, locals := 43 } E [.ref h0, .int (nI q), .ref k3] [(h0, .inr (4, [.int x, .int (nI g), .ref k1, .ref k2, .int (nI sp), .int (nI pl), .int (nI tu), .int (nI fr), .int (nI nf), .ref k3, .ref k4, .ref k5, .ref k6, .ref k7, .ref k8])), (k1, aI E 9 w), (k2, aI E 5 aw), (k3, aI E 4 my), (k4, aI E 120 fe), (k5, aI E 44 be), (k6, aI E 4 sk), (k7, aI E 4 cl), (k8, aI E 40 ex)] (nI (my q)) [(h0, .inr (4, [.int (nI 0), .int (nI g), .ref k1, .ref k2, .int (nI sp), .int (nI pl), .int (nI tu), .int (nI fr), .int (nI nf), .ref k3, .ref k4, .ref k5, .ref k6, .ref k7, .ref k8])), (k1, aI E 9 w), (k2, aI E 5 aw), (k3, aI E 4 my), (k4, aI E 120 fe), (k5, aI E 44 be), (k6, aI E 4 sk), (k7, aI E 4 cl), (k8, aI E 40 ex)] := by
  refine sI (own := RX5) (cc := cX5_of) (maxL := 3) (ret := (some .int)) rfl (by decide) rfl (Nat.le_of_ble_eq_true rfl) ?_
  intro p e s m below meth c C hnm ls hl hW
  have hl : lv_has ls 3 [(0, .ref h0), (1, .int (nI q)), (2, .ref k3)] := hl
  have hW : WD E _ s [(h0, .inr (4, [.int x, .int (nI g), .ref k1, .ref k2, .int (nI sp), .int (nI pl), .int (nI tu), .int (nI fr), .int (nI nf), .ref k3, .ref k4, .ref k5, .ref k6, .ref k7, .ref k8])), (k1, aI E 9 w), (k2, aI E 5 aw), (k3, aI E 4 my), (k4, aI E 120 fe), (k5, aI E 44 be), (k6, aI E 4 sk), (k7, aI E 4 cl), (k8, aI E 40 ex)] s.heap [] := hW
  have hinX5 : ∀ w ∈ u_ws RX5 TX5 15, w ∈ wsX5_of := by decide +kernel
  have hf41 : Cond.fieldLink RX5 41 (TX5 0).1 (TX5 0).2.1 (TX5 0).2.2.1 ∈ wsX5_of := by decide +kernel
  refine lv_aload_n C.x C.b dX5_of_0 rfl (lv_at hl 0 rfl) ?_
  refine lv_iconst (v := nI 0) C.x C.b dX5_of_1 (by decide) ?_
  refine x_put C hW 0 4 0 (Cn := RX5) (T := TX5) (N := 15) (w' := [(h0, .inr (4, [.int (nI 0), .int (nI g), .ref k1, .ref k2, .int (nI sp), .int (nI pl), .int (nI tu), .int (nI fr), .int (nI nf), .ref k3, .ref k4, .ref k5, .ref k6, .ref k7, .ref k8])), (k1, aI E 9 w), (k2, aI E 5 aw), (k3, aI E 4 my), (k4, aI E 120 fe), (k5, aI E 44 be), (k6, aI E 4 sk), (k7, aI E 4 cl), (k8, aI E 40 ex)]) tyX5 tyX5_ok nmX5 rfl rfl (by decide) hinX5 hf41 rfl (by decide +kernel) (Nat.le_of_ble_eq_true rfl) dX5_of_2 rfl (fun H locs hW => ?_)
  refine lv_aload_n C.x C.b dX5_of_5 rfl (lv_at hl 0 rfl) ?_
  refine lv_iload_n C.x C.b dX5_of_6 rfl (lv_at hl 1 rfl) ?_
  refine x_cVI C hW (As := [.int (nI q)]) (rest := []) (wr := []) (wn := [(h0, .inr (4, [.int (nI 0), .int (nI g), .ref k1, .ref k2, .int (nI sp), .int (nI pl), .int (nI tu), .int (nI fr), .int (nI nf), .ref k3, .ref k4, .ref k5, .ref k6, .ref k7, .ref k8])), (k1, aI E 9 w), (k2, aI E 5 aw), (k3, aI E 4 my), (k4, aI E 120 fe), (k5, aI E 44 be), (k6, aI E 4 sk), (k7, aI E 4 cl), (k8, aI E 40 ex)]) (Cn := RX5) (met_X5_isPlayer l E h0 k1 k2 k3 k4 k5 k6 k7 k8 (nI 0) g sp pl tu fr nf w aw my fe be sk cl ex (nI q)) gX5_of_X5_isPlayer rfl 1 rfl ⟨rfl, rfl⟩ ⟨rfl, by decide +kernel, by decide +kernel, by decide +kernel⟩ ⟨Nat.le_of_ble_eq_true rfl, Nat.le_of_ble_eq_true rfl⟩ [0, 1, 2, 3, 4, 5, 6, 7, 8] [] [0, 1, 2, 3, 4, 5, 6, 7, 8] rfl (by decide) rfl (by decide) (by decide) rfl (by decide) 0 4 rfl rfl hl.1 rfl (Nat.le_of_ble_eq_true rfl) dX5_of_7 ⟨Nat.zero_le _, Nat.zero_le _⟩ (fun H locs hW => ?_)
  refine x_ifb_eq C (tgt := 19) dX5_of_10 (by decide) (fun c_1 => ?_) (fun c_1 => ?_)
  · exact absurd (z_inP (by omega) (by omega)) c_1
  · refine lv_aload_n C.x C.b dX5_of_13 rfl (lv_at hl 2 rfl) ?_
    refine lv_iload_n C.x C.b dX5_of_14 rfl (lv_at hl 1 rfl) ?_
    refine x_ald C hW 3 q rfl rfl (by omega) (by decide) dX5_of_15 ?_
    refine lv_goto (tgt := 24) C.x C.b dX5_of_16 (by decide) ?_
    exact x_iret C hW rfl rfl rfl dX5_of_24

set_option maxHeartbeats 4000000 in
set_option maxRecDepth 100000 in
theorem met_X5_of_many_bad (l : Launch) (E : EV) (h0 k1 k2 k3 k4 k5 k6 k7 k8 : Nat) (x : Int32) (g sp pl tu fr nf : Nat) (w aw my fe be sk cl ex : Nat → Nat) (v : Int32) (hb : ¬ (nI 0 ≤ v ∧ v ≤ nI pl - nI 1)) : MI l yX5_of wsX5_of { frames := 2, cells := 0, slots := 0, locals := 43 } E [.ref h0, .int v, .ref k3] [(h0, .inr (4, [.int x, .int (nI g), .ref k1, .ref k2, .int (nI sp), .int (nI pl), .int (nI tu), .int (nI fr), .int (nI nf), .ref k3, .ref k4, .ref k5, .ref k6, .ref k7, .ref k8])), (k1, aI E 9 w), (k2, aI E 5 aw), (k3, aI E 4 my), (k4, aI E 120 fe), (k5, aI E 44 be), (k6, aI E 4 sk), (k7, aI E 4 cl), (k8, aI E 40 ex)] (nI 0) [(h0, .inr (4, [.int (nI 1), .int (nI g), .ref k1, .ref k2, .int (nI sp), .int (nI pl), .int (nI tu), .int (nI fr), .int (nI nf), .ref k3, .ref k4, .ref k5, .ref k6, .ref k7, .ref k8])), (k1, aI E 9 w), (k2, aI E 5 aw), (k3, aI E 4 my), (k4, aI E 120 fe), (k5, aI E 44 be), (k6, aI E 4 sk), (k7, aI E 4 cl), (k8, aI E 40 ex)] := by
  refine sI (own := RX5) (cc := cX5_of) (maxL := 3) (ret := (some .int)) rfl (by decide) rfl (Nat.le_of_ble_eq_true rfl) ?_
  intro p e s m below meth c C hnm ls hl hW
  have hl : lv_has ls 3 [(0, .ref h0), (1, .int v), (2, .ref k3)] := hl
  have hW : WD E _ s [(h0, .inr (4, [.int x, .int (nI g), .ref k1, .ref k2, .int (nI sp), .int (nI pl), .int (nI tu), .int (nI fr), .int (nI nf), .ref k3, .ref k4, .ref k5, .ref k6, .ref k7, .ref k8])), (k1, aI E 9 w), (k2, aI E 5 aw), (k3, aI E 4 my), (k4, aI E 120 fe), (k5, aI E 44 be), (k6, aI E 4 sk), (k7, aI E 4 cl), (k8, aI E 40 ex)] s.heap [] := hW
  have hinX5 : ∀ w ∈ u_ws RX5 TX5 15, w ∈ wsX5_of := by decide +kernel
  have hf41 : Cond.fieldLink RX5 41 (TX5 0).1 (TX5 0).2.1 (TX5 0).2.2.1 ∈ wsX5_of := by decide +kernel
  refine lv_aload_n C.x C.b dX5_of_0 rfl (lv_at hl 0 rfl) ?_
  refine lv_iconst (v := nI 0) C.x C.b dX5_of_1 (by decide) ?_
  refine x_put C hW 0 4 0 (Cn := RX5) (T := TX5) (N := 15) (w' := [(h0, .inr (4, [.int (nI 0), .int (nI g), .ref k1, .ref k2, .int (nI sp), .int (nI pl), .int (nI tu), .int (nI fr), .int (nI nf), .ref k3, .ref k4, .ref k5, .ref k6, .ref k7, .ref k8])), (k1, aI E 9 w), (k2, aI E 5 aw), (k3, aI E 4 my), (k4, aI E 120 fe), (k5, aI E 44 be), (k6, aI E 4 sk), (k7, aI E 4 cl), (k8, aI E 40 ex)]) tyX5 tyX5_ok nmX5 rfl rfl (by decide) hinX5 hf41 rfl (by decide +kernel) (Nat.le_of_ble_eq_true rfl) dX5_of_2 rfl (fun H locs hW => ?_)
  refine lv_aload_n C.x C.b dX5_of_5 rfl (lv_at hl 0 rfl) ?_
  refine lv_iload_n C.x C.b dX5_of_6 rfl (lv_at hl 1 rfl) ?_
  refine x_cVI C hW (As := [.int v]) (rest := []) (wr := []) (wn := [(h0, .inr (4, [.int (nI 0), .int (nI g), .ref k1, .ref k2, .int (nI sp), .int (nI pl), .int (nI tu), .int (nI fr), .int (nI nf), .ref k3, .ref k4, .ref k5, .ref k6, .ref k7, .ref k8])), (k1, aI E 9 w), (k2, aI E 5 aw), (k3, aI E 4 my), (k4, aI E 120 fe), (k5, aI E 44 be), (k6, aI E 4 sk), (k7, aI E 4 cl), (k8, aI E 40 ex)]) (Cn := RX5) (met_X5_isPlayer l E h0 k1 k2 k3 k4 k5 k6 k7 k8 (nI 0) g sp pl tu fr nf w aw my fe be sk cl ex v) gX5_of_X5_isPlayer rfl 1 rfl ⟨rfl, rfl⟩ ⟨rfl, by decide +kernel, by decide +kernel, by decide +kernel⟩ ⟨Nat.le_of_ble_eq_true rfl, Nat.le_of_ble_eq_true rfl⟩ [0, 1, 2, 3, 4, 5, 6, 7, 8] [] [0, 1, 2, 3, 4, 5, 6, 7, 8] rfl (by decide) rfl (by decide) (by decide) rfl (by decide) 0 4 rfl rfl hl.1 rfl (Nat.le_of_ble_eq_true rfl) dX5_of_7 ⟨Nat.zero_le _, Nat.zero_le _⟩ (fun H locs hW => ?_)
  refine x_ifb_eq C (tgt := 19) dX5_of_10 (by decide) (fun c_1 => ?_) (fun c_1 => ?_)
  · refine lv_aload_n C.x C.b dX5_of_19 rfl (lv_at hl 0 rfl) ?_
    refine lv_iconst (v := nI 1) C.x C.b dX5_of_20 (by decide) ?_
    refine x_cVI C hW (As := [.int (nI 1)]) (rest := []) (wr := []) (wn := [(h0, .inr (4, [.int (nI 1), .int (nI g), .ref k1, .ref k2, .int (nI sp), .int (nI pl), .int (nI tu), .int (nI fr), .int (nI nf), .ref k3, .ref k4, .ref k5, .ref k6, .ref k7, .ref k8])), (k1, aI E 9 w), (k2, aI E 5 aw), (k3, aI E 4 my), (k4, aI E 120 fe), (k5, aI E 44 be), (k6, aI E 4 sk), (k7, aI E 4 cl), (k8, aI E 40 ex)]) (Cn := RX5) (met_X5_no l E h0 k1 k2 k3 k4 k5 k6 k7 k8 (nI 0) g sp pl tu fr nf w aw my fe be sk cl ex 1) gX5_of_X5_no rfl 1 rfl ⟨rfl, rfl⟩ ⟨rfl, by decide +kernel, by decide +kernel, by decide +kernel⟩ ⟨Nat.le_of_ble_eq_true rfl, Nat.le_of_ble_eq_true rfl⟩ [0, 1, 2, 3, 4, 5, 6, 7, 8] [] [0, 1, 2, 3, 4, 5, 6, 7, 8] rfl (by decide) rfl (by decide) (by decide) rfl (by decide) 0 4 rfl rfl hl.1 rfl (Nat.le_of_ble_eq_true rfl) dX5_of_21 ⟨Nat.zero_le _, Nat.zero_le _⟩ (fun H locs hW => ?_)
    exact x_iret C hW rfl rfl rfl dX5_of_24
  · exact absurd c_1 hb

set_option maxHeartbeats 4000000 in
set_option maxRecDepth 100000 in
theorem met_X5_throwsOf_ok (l : Launch) (E : EV) (h0 k1 k2 k3 k4 k5 k6 k7 k8 : Nat) (x : Int32) (g sp pl tu fr nf : Nat) (w aw my fe be sk cl ex : Nat → Nat) (q : Nat) (hq : q < pl) (hpl : pl ≤ 4) : MI l yX5_throwsOf wsX5_throwsOf { frames := 3, cells := 0, slots := 0, locals := 65 } E [.ref h0, .int (nI q)] [(h0, .inr (4, [.int x, .int (nI g), .ref k1, .ref k2, .int (nI sp), .int (nI pl), .int (nI tu), .int (nI fr), .int (nI nf), .ref k3, .ref k4, .ref k5, .ref k6, .ref k7, .ref k8])), (k1, aI E 9 w), (k2, aI E 5 aw), (k3, aI E 4 my), (k4, aI E 120 fe), (k5, aI E 44 be), (k6, aI E 4 sk), (k7, aI E 4 cl), (k8, aI E 40 ex)] (nI (my q)) [(h0, .inr (4, [.int (nI 0), .int (nI g), .ref k1, .ref k2, .int (nI sp), .int (nI pl), .int (nI tu), .int (nI fr), .int (nI nf), .ref k3, .ref k4, .ref k5, .ref k6, .ref k7, .ref k8])), (k1, aI E 9 w), (k2, aI E 5 aw), (k3, aI E 4 my), (k4, aI E 120 fe), (k5, aI E 44 be), (k6, aI E 4 sk), (k7, aI E 4 cl), (k8, aI E 40 ex)] := by
  refine sI (own := RX5) (cc := cX5_throwsOf) (maxL := 2) (ret := (some .int)) rfl (by decide) rfl (Nat.le_of_ble_eq_true rfl) ?_
  intro p e s m below meth c C hnm ls hl hW
  have hl : lv_has ls 2 [(0, .ref h0), (1, .int (nI q))] := hl
  have hW : WD E _ s [(h0, .inr (4, [.int x, .int (nI g), .ref k1, .ref k2, .int (nI sp), .int (nI pl), .int (nI tu), .int (nI fr), .int (nI nf), .ref k3, .ref k4, .ref k5, .ref k6, .ref k7, .ref k8])), (k1, aI E 9 w), (k2, aI E 5 aw), (k3, aI E 4 my), (k4, aI E 120 fe), (k5, aI E 44 be), (k6, aI E 4 sk), (k7, aI E 4 cl), (k8, aI E 40 ex)] s.heap [] := hW
  have hinX5 : ∀ w ∈ u_ws RX5 TX5 15, w ∈ wsX5_throwsOf := by decide +kernel
  have hf23 : Cond.fieldLink RX5 23 (TX5 9).1 (TX5 9).2.1 (TX5 9).2.2.1 ∈ wsX5_throwsOf := by decide +kernel
  refine lv_aload_n C.x C.b dX5_throwsOf_0 rfl (lv_at hl 0 rfl) ?_
  refine lv_iload_n C.x C.b dX5_throwsOf_1 rfl (lv_at hl 1 rfl) ?_
  refine lv_aload_n C.x C.b dX5_throwsOf_2 rfl (lv_at hl 0 rfl) ?_
  refine x_get C hW 0 4 9 (Cn := RX5) (T := TX5) (N := 15) rfl rfl (by decide) hinX5 hf23 rfl dX5_throwsOf_3 ?_
  refine x_cVI C hW (As := [.int (nI q), .ref k3]) (rest := []) (wr := []) (wn := [(h0, .inr (4, [.int (nI 0), .int (nI g), .ref k1, .ref k2, .int (nI sp), .int (nI pl), .int (nI tu), .int (nI fr), .int (nI nf), .ref k3, .ref k4, .ref k5, .ref k6, .ref k7, .ref k8])), (k1, aI E 9 w), (k2, aI E 5 aw), (k3, aI E 4 my), (k4, aI E 120 fe), (k5, aI E 44 be), (k6, aI E 4 sk), (k7, aI E 4 cl), (k8, aI E 40 ex)]) (Cn := RX5) (met_X5_of_many l E h0 k1 k2 k3 k4 k5 k6 k7 k8 x g sp pl tu fr nf w aw my fe be sk cl ex q (by omega) (by omega)) gX5_throwsOf_X5_of rfl 2 rfl ⟨rfl, rfl⟩ ⟨rfl, by decide +kernel, by decide +kernel, by decide +kernel⟩ ⟨Nat.le_of_ble_eq_true rfl, Nat.le_of_ble_eq_true rfl⟩ [0, 1, 2, 3, 4, 5, 6, 7, 8] [] [0, 1, 2, 3, 4, 5, 6, 7, 8] rfl (by decide) rfl (by decide) (by decide) rfl (by decide) 0 4 rfl rfl hl.1 rfl (Nat.le_of_ble_eq_true rfl) dX5_throwsOf_6 ⟨Nat.zero_le _, Nat.zero_le _⟩ (fun H locs hW => ?_)
  exact x_iret C hW rfl rfl rfl dX5_throwsOf_9

set_option maxHeartbeats 4000000 in
set_option maxRecDepth 100000 in
theorem met_X5_throwsOf_bad (l : Launch) (E : EV) (h0 k1 k2 k3 k4 k5 k6 k7 k8 : Nat) (x : Int32) (g sp pl tu fr nf : Nat) (w aw my fe be sk cl ex : Nat → Nat) (v : Int32) (hb : ¬ (nI 0 ≤ v ∧ v ≤ nI pl - nI 1)) : MI l yX5_throwsOf wsX5_throwsOf { frames := 3, cells := 0, slots := 0, locals := 65 } E [.ref h0, .int v] [(h0, .inr (4, [.int x, .int (nI g), .ref k1, .ref k2, .int (nI sp), .int (nI pl), .int (nI tu), .int (nI fr), .int (nI nf), .ref k3, .ref k4, .ref k5, .ref k6, .ref k7, .ref k8])), (k1, aI E 9 w), (k2, aI E 5 aw), (k3, aI E 4 my), (k4, aI E 120 fe), (k5, aI E 44 be), (k6, aI E 4 sk), (k7, aI E 4 cl), (k8, aI E 40 ex)] (nI 0) [(h0, .inr (4, [.int (nI 1), .int (nI g), .ref k1, .ref k2, .int (nI sp), .int (nI pl), .int (nI tu), .int (nI fr), .int (nI nf), .ref k3, .ref k4, .ref k5, .ref k6, .ref k7, .ref k8])), (k1, aI E 9 w), (k2, aI E 5 aw), (k3, aI E 4 my), (k4, aI E 120 fe), (k5, aI E 44 be), (k6, aI E 4 sk), (k7, aI E 4 cl), (k8, aI E 40 ex)] := by
  refine sI (own := RX5) (cc := cX5_throwsOf) (maxL := 2) (ret := (some .int)) rfl (by decide) rfl (Nat.le_of_ble_eq_true rfl) ?_
  intro p e s m below meth c C hnm ls hl hW
  have hl : lv_has ls 2 [(0, .ref h0), (1, .int v)] := hl
  have hW : WD E _ s [(h0, .inr (4, [.int x, .int (nI g), .ref k1, .ref k2, .int (nI sp), .int (nI pl), .int (nI tu), .int (nI fr), .int (nI nf), .ref k3, .ref k4, .ref k5, .ref k6, .ref k7, .ref k8])), (k1, aI E 9 w), (k2, aI E 5 aw), (k3, aI E 4 my), (k4, aI E 120 fe), (k5, aI E 44 be), (k6, aI E 4 sk), (k7, aI E 4 cl), (k8, aI E 40 ex)] s.heap [] := hW
  have hinX5 : ∀ w ∈ u_ws RX5 TX5 15, w ∈ wsX5_throwsOf := by decide +kernel
  have hf23 : Cond.fieldLink RX5 23 (TX5 9).1 (TX5 9).2.1 (TX5 9).2.2.1 ∈ wsX5_throwsOf := by decide +kernel
  refine lv_aload_n C.x C.b dX5_throwsOf_0 rfl (lv_at hl 0 rfl) ?_
  refine lv_iload_n C.x C.b dX5_throwsOf_1 rfl (lv_at hl 1 rfl) ?_
  refine lv_aload_n C.x C.b dX5_throwsOf_2 rfl (lv_at hl 0 rfl) ?_
  refine x_get C hW 0 4 9 (Cn := RX5) (T := TX5) (N := 15) rfl rfl (by decide) hinX5 hf23 rfl dX5_throwsOf_3 ?_
  refine x_cVI C hW (As := [.int v, .ref k3]) (rest := []) (wr := []) (wn := [(h0, .inr (4, [.int (nI 1), .int (nI g), .ref k1, .ref k2, .int (nI sp), .int (nI pl), .int (nI tu), .int (nI fr), .int (nI nf), .ref k3, .ref k4, .ref k5, .ref k6, .ref k7, .ref k8])), (k1, aI E 9 w), (k2, aI E 5 aw), (k3, aI E 4 my), (k4, aI E 120 fe), (k5, aI E 44 be), (k6, aI E 4 sk), (k7, aI E 4 cl), (k8, aI E 40 ex)]) (Cn := RX5) (met_X5_of_many_bad l E h0 k1 k2 k3 k4 k5 k6 k7 k8 x g sp pl tu fr nf w aw my fe be sk cl ex v hb) gX5_throwsOf_X5_of rfl 2 rfl ⟨rfl, rfl⟩ ⟨rfl, by decide +kernel, by decide +kernel, by decide +kernel⟩ ⟨Nat.le_of_ble_eq_true rfl, Nat.le_of_ble_eq_true rfl⟩ [0, 1, 2, 3, 4, 5, 6, 7, 8] [] [0, 1, 2, 3, 4, 5, 6, 7, 8] rfl (by decide) rfl (by decide) (by decide) rfl (by decide) 0 4 rfl rfl hl.1 rfl (Nat.le_of_ble_eq_true rfl) dX5_throwsOf_6 ⟨Nat.zero_le _, Nat.zero_le _⟩ (fun H locs hW => ?_)
  exact x_iret C hW rfl rfl rfl dX5_throwsOf_9

set_option maxHeartbeats 4000000 in
set_option maxRecDepth 100000 in
theorem met_X5_of_strikes (l : Launch) (E : EV) (h0 k1 k2 k3 k4 k5 k6 k7 k8 : Nat) (x : Int32) (g sp pl tu fr nf : Nat) (w aw my fe be sk cl ex : Nat → Nat) (q : Nat) (hq : q < pl) (hpl : pl ≤ 4) : MI l yX5_of wsX5_of { frames := 2, cells := 0, slots := 0, locals := 43 } E [.ref h0, .int (nI q), .ref k6] [(h0, .inr (4, [.int x, .int (nI g), .ref k1, .ref k2, .int (nI sp), .int (nI pl), .int (nI tu), .int (nI fr), .int (nI nf), .ref k3, .ref k4, .ref k5, .ref k6, .ref k7, .ref k8])), (k1, aI E 9 w), (k2, aI E 5 aw), (k3, aI E 4 my), (k4, aI E 120 fe), (k5, aI E 44 be), (k6, aI E 4 sk), (k7, aI E 4 cl), (k8, aI E 40 ex)] (nI (sk q)) [(h0, .inr (4, [.int (nI 0), .int (nI g), .ref k1, .ref k2, .int (nI sp), .int (nI pl), .int (nI tu), .int (nI fr), .int (nI nf), .ref k3, .ref k4, .ref k5, .ref k6, .ref k7, .ref k8])), (k1, aI E 9 w), (k2, aI E 5 aw), (k3, aI E 4 my), (k4, aI E 120 fe), (k5, aI E 44 be), (k6, aI E 4 sk), (k7, aI E 4 cl), (k8, aI E 40 ex)] := by
  refine sI (own := RX5) (cc := cX5_of) (maxL := 3) (ret := (some .int)) rfl (by decide) rfl (Nat.le_of_ble_eq_true rfl) ?_
  intro p e s m below meth c C hnm ls hl hW
  have hl : lv_has ls 3 [(0, .ref h0), (1, .int (nI q)), (2, .ref k6)] := hl
  have hW : WD E _ s [(h0, .inr (4, [.int x, .int (nI g), .ref k1, .ref k2, .int (nI sp), .int (nI pl), .int (nI tu), .int (nI fr), .int (nI nf), .ref k3, .ref k4, .ref k5, .ref k6, .ref k7, .ref k8])), (k1, aI E 9 w), (k2, aI E 5 aw), (k3, aI E 4 my), (k4, aI E 120 fe), (k5, aI E 44 be), (k6, aI E 4 sk), (k7, aI E 4 cl), (k8, aI E 40 ex)] s.heap [] := hW
  have hinX5 : ∀ w ∈ u_ws RX5 TX5 15, w ∈ wsX5_of := by decide +kernel
  have hf41 : Cond.fieldLink RX5 41 (TX5 0).1 (TX5 0).2.1 (TX5 0).2.2.1 ∈ wsX5_of := by decide +kernel
  refine lv_aload_n C.x C.b dX5_of_0 rfl (lv_at hl 0 rfl) ?_
  refine lv_iconst (v := nI 0) C.x C.b dX5_of_1 (by decide) ?_
  refine x_put C hW 0 4 0 (Cn := RX5) (T := TX5) (N := 15) (w' := [(h0, .inr (4, [.int (nI 0), .int (nI g), .ref k1, .ref k2, .int (nI sp), .int (nI pl), .int (nI tu), .int (nI fr), .int (nI nf), .ref k3, .ref k4, .ref k5, .ref k6, .ref k7, .ref k8])), (k1, aI E 9 w), (k2, aI E 5 aw), (k3, aI E 4 my), (k4, aI E 120 fe), (k5, aI E 44 be), (k6, aI E 4 sk), (k7, aI E 4 cl), (k8, aI E 40 ex)]) tyX5 tyX5_ok nmX5 rfl rfl (by decide) hinX5 hf41 rfl (by decide +kernel) (Nat.le_of_ble_eq_true rfl) dX5_of_2 rfl (fun H locs hW => ?_)
  refine lv_aload_n C.x C.b dX5_of_5 rfl (lv_at hl 0 rfl) ?_
  refine lv_iload_n C.x C.b dX5_of_6 rfl (lv_at hl 1 rfl) ?_
  refine x_cVI C hW (As := [.int (nI q)]) (rest := []) (wr := []) (wn := [(h0, .inr (4, [.int (nI 0), .int (nI g), .ref k1, .ref k2, .int (nI sp), .int (nI pl), .int (nI tu), .int (nI fr), .int (nI nf), .ref k3, .ref k4, .ref k5, .ref k6, .ref k7, .ref k8])), (k1, aI E 9 w), (k2, aI E 5 aw), (k3, aI E 4 my), (k4, aI E 120 fe), (k5, aI E 44 be), (k6, aI E 4 sk), (k7, aI E 4 cl), (k8, aI E 40 ex)]) (Cn := RX5) (met_X5_isPlayer l E h0 k1 k2 k3 k4 k5 k6 k7 k8 (nI 0) g sp pl tu fr nf w aw my fe be sk cl ex (nI q)) gX5_of_X5_isPlayer rfl 1 rfl ⟨rfl, rfl⟩ ⟨rfl, by decide +kernel, by decide +kernel, by decide +kernel⟩ ⟨Nat.le_of_ble_eq_true rfl, Nat.le_of_ble_eq_true rfl⟩ [0, 1, 2, 3, 4, 5, 6, 7, 8] [] [0, 1, 2, 3, 4, 5, 6, 7, 8] rfl (by decide) rfl (by decide) (by decide) rfl (by decide) 0 4 rfl rfl hl.1 rfl (Nat.le_of_ble_eq_true rfl) dX5_of_7 ⟨Nat.zero_le _, Nat.zero_le _⟩ (fun H locs hW => ?_)
  refine x_ifb_eq C (tgt := 19) dX5_of_10 (by decide) (fun c_1 => ?_) (fun c_1 => ?_)
  · exact absurd (z_inP (by omega) (by omega)) c_1
  · refine lv_aload_n C.x C.b dX5_of_13 rfl (lv_at hl 2 rfl) ?_
    refine lv_iload_n C.x C.b dX5_of_14 rfl (lv_at hl 1 rfl) ?_
    refine x_ald C hW 6 q rfl rfl (by omega) (by decide) dX5_of_15 ?_
    refine lv_goto (tgt := 24) C.x C.b dX5_of_16 (by decide) ?_
    exact x_iret C hW rfl rfl rfl dX5_of_24

set_option maxHeartbeats 4000000 in
set_option maxRecDepth 100000 in
theorem met_X5_of_strikes_bad (l : Launch) (E : EV) (h0 k1 k2 k3 k4 k5 k6 k7 k8 : Nat) (x : Int32) (g sp pl tu fr nf : Nat) (w aw my fe be sk cl ex : Nat → Nat) (v : Int32) (hb : ¬ (nI 0 ≤ v ∧ v ≤ nI pl - nI 1)) : MI l yX5_of wsX5_of { frames := 2, cells := 0, slots := 0, locals := 43 } E [.ref h0, .int v, .ref k6] [(h0, .inr (4, [.int x, .int (nI g), .ref k1, .ref k2, .int (nI sp), .int (nI pl), .int (nI tu), .int (nI fr), .int (nI nf), .ref k3, .ref k4, .ref k5, .ref k6, .ref k7, .ref k8])), (k1, aI E 9 w), (k2, aI E 5 aw), (k3, aI E 4 my), (k4, aI E 120 fe), (k5, aI E 44 be), (k6, aI E 4 sk), (k7, aI E 4 cl), (k8, aI E 40 ex)] (nI 0) [(h0, .inr (4, [.int (nI 1), .int (nI g), .ref k1, .ref k2, .int (nI sp), .int (nI pl), .int (nI tu), .int (nI fr), .int (nI nf), .ref k3, .ref k4, .ref k5, .ref k6, .ref k7, .ref k8])), (k1, aI E 9 w), (k2, aI E 5 aw), (k3, aI E 4 my), (k4, aI E 120 fe), (k5, aI E 44 be), (k6, aI E 4 sk), (k7, aI E 4 cl), (k8, aI E 40 ex)] := by
  refine sI (own := RX5) (cc := cX5_of) (maxL := 3) (ret := (some .int)) rfl (by decide) rfl (Nat.le_of_ble_eq_true rfl) ?_
  intro p e s m below meth c C hnm ls hl hW
  have hl : lv_has ls 3 [(0, .ref h0), (1, .int v), (2, .ref k6)] := hl
  have hW : WD E _ s [(h0, .inr (4, [.int x, .int (nI g), .ref k1, .ref k2, .int (nI sp), .int (nI pl), .int (nI tu), .int (nI fr), .int (nI nf), .ref k3, .ref k4, .ref k5, .ref k6, .ref k7, .ref k8])), (k1, aI E 9 w), (k2, aI E 5 aw), (k3, aI E 4 my), (k4, aI E 120 fe), (k5, aI E 44 be), (k6, aI E 4 sk), (k7, aI E 4 cl), (k8, aI E 40 ex)] s.heap [] := hW
  have hinX5 : ∀ w ∈ u_ws RX5 TX5 15, w ∈ wsX5_of := by decide +kernel
  have hf41 : Cond.fieldLink RX5 41 (TX5 0).1 (TX5 0).2.1 (TX5 0).2.2.1 ∈ wsX5_of := by decide +kernel
  refine lv_aload_n C.x C.b dX5_of_0 rfl (lv_at hl 0 rfl) ?_
  refine lv_iconst (v := nI 0) C.x C.b dX5_of_1 (by decide) ?_
  refine x_put C hW 0 4 0 (Cn := RX5) (T := TX5) (N := 15) (w' := [(h0, .inr (4, [.int (nI 0), .int (nI g), .ref k1, .ref k2, .int (nI sp), .int (nI pl), .int (nI tu), .int (nI fr), .int (nI nf), .ref k3, .ref k4, .ref k5, .ref k6, .ref k7, .ref k8])), (k1, aI E 9 w), (k2, aI E 5 aw), (k3, aI E 4 my), (k4, aI E 120 fe), (k5, aI E 44 be), (k6, aI E 4 sk), (k7, aI E 4 cl), (k8, aI E 40 ex)]) tyX5 tyX5_ok nmX5 rfl rfl (by decide) hinX5 hf41 rfl (by decide +kernel) (Nat.le_of_ble_eq_true rfl) dX5_of_2 rfl (fun H locs hW => ?_)
  refine lv_aload_n C.x C.b dX5_of_5 rfl (lv_at hl 0 rfl) ?_
  refine lv_iload_n C.x C.b dX5_of_6 rfl (lv_at hl 1 rfl) ?_
  refine x_cVI C hW (As := [.int v]) (rest := []) (wr := []) (wn := [(h0, .inr (4, [.int (nI 0), .int (nI g), .ref k1, .ref k2, .int (nI sp), .int (nI pl), .int (nI tu), .int (nI fr), .int (nI nf), .ref k3, .ref k4, .ref k5, .ref k6, .ref k7, .ref k8])), (k1, aI E 9 w), (k2, aI E 5 aw), (k3, aI E 4 my), (k4, aI E 120 fe), (k5, aI E 44 be), (k6, aI E 4 sk), (k7, aI E 4 cl), (k8, aI E 40 ex)]) (Cn := RX5) (met_X5_isPlayer l E h0 k1 k2 k3 k4 k5 k6 k7 k8 (nI 0) g sp pl tu fr nf w aw my fe be sk cl ex v) gX5_of_X5_isPlayer rfl 1 rfl ⟨rfl, rfl⟩ ⟨rfl, by decide +kernel, by decide +kernel, by decide +kernel⟩ ⟨Nat.le_of_ble_eq_true rfl, Nat.le_of_ble_eq_true rfl⟩ [0, 1, 2, 3, 4, 5, 6, 7, 8] [] [0, 1, 2, 3, 4, 5, 6, 7, 8] rfl (by decide) rfl (by decide) (by decide) rfl (by decide) 0 4 rfl rfl hl.1 rfl (Nat.le_of_ble_eq_true rfl) dX5_of_7 ⟨Nat.zero_le _, Nat.zero_le _⟩ (fun H locs hW => ?_)
  refine x_ifb_eq C (tgt := 19) dX5_of_10 (by decide) (fun c_1 => ?_) (fun c_1 => ?_)
  · refine lv_aload_n C.x C.b dX5_of_19 rfl (lv_at hl 0 rfl) ?_
    refine lv_iconst (v := nI 1) C.x C.b dX5_of_20 (by decide) ?_
    refine x_cVI C hW (As := [.int (nI 1)]) (rest := []) (wr := []) (wn := [(h0, .inr (4, [.int (nI 1), .int (nI g), .ref k1, .ref k2, .int (nI sp), .int (nI pl), .int (nI tu), .int (nI fr), .int (nI nf), .ref k3, .ref k4, .ref k5, .ref k6, .ref k7, .ref k8])), (k1, aI E 9 w), (k2, aI E 5 aw), (k3, aI E 4 my), (k4, aI E 120 fe), (k5, aI E 44 be), (k6, aI E 4 sk), (k7, aI E 4 cl), (k8, aI E 40 ex)]) (Cn := RX5) (met_X5_no l E h0 k1 k2 k3 k4 k5 k6 k7 k8 (nI 0) g sp pl tu fr nf w aw my fe be sk cl ex 1) gX5_of_X5_no rfl 1 rfl ⟨rfl, rfl⟩ ⟨rfl, by decide +kernel, by decide +kernel, by decide +kernel⟩ ⟨Nat.le_of_ble_eq_true rfl, Nat.le_of_ble_eq_true rfl⟩ [0, 1, 2, 3, 4, 5, 6, 7, 8] [] [0, 1, 2, 3, 4, 5, 6, 7, 8] rfl (by decide) rfl (by decide) (by decide) rfl (by decide) 0 4 rfl rfl hl.1 rfl (Nat.le_of_ble_eq_true rfl) dX5_of_21 ⟨Nat.zero_le _, Nat.zero_le _⟩ (fun H locs hW => ?_)
    exact x_iret C hW rfl rfl rfl dX5_of_24
  · exact absurd c_1 hb

set_option maxHeartbeats 4000000 in
set_option maxRecDepth 100000 in
theorem met_X5_strikesOf_ok (l : Launch) (E : EV) (h0 k1 k2 k3 k4 k5 k6 k7 k8 : Nat) (x : Int32) (g sp pl tu fr nf : Nat) (w aw my fe be sk cl ex : Nat → Nat) (q : Nat) (hq : q < pl) (hpl : pl ≤ 4) : MI l yX5_strikesOf wsX5_strikesOf { frames := 3, cells := 0, slots := 0, locals := 65 } E [.ref h0, .int (nI q)] [(h0, .inr (4, [.int x, .int (nI g), .ref k1, .ref k2, .int (nI sp), .int (nI pl), .int (nI tu), .int (nI fr), .int (nI nf), .ref k3, .ref k4, .ref k5, .ref k6, .ref k7, .ref k8])), (k1, aI E 9 w), (k2, aI E 5 aw), (k3, aI E 4 my), (k4, aI E 120 fe), (k5, aI E 44 be), (k6, aI E 4 sk), (k7, aI E 4 cl), (k8, aI E 40 ex)] (nI (sk q)) [(h0, .inr (4, [.int (nI 0), .int (nI g), .ref k1, .ref k2, .int (nI sp), .int (nI pl), .int (nI tu), .int (nI fr), .int (nI nf), .ref k3, .ref k4, .ref k5, .ref k6, .ref k7, .ref k8])), (k1, aI E 9 w), (k2, aI E 5 aw), (k3, aI E 4 my), (k4, aI E 120 fe), (k5, aI E 44 be), (k6, aI E 4 sk), (k7, aI E 4 cl), (k8, aI E 40 ex)] := by
  refine sI (own := RX5) (cc := cX5_strikesOf) (maxL := 2) (ret := (some .int)) rfl (by decide) rfl (Nat.le_of_ble_eq_true rfl) ?_
  intro p e s m below meth c C hnm ls hl hW
  have hl : lv_has ls 2 [(0, .ref h0), (1, .int (nI q))] := hl
  have hW : WD E _ s [(h0, .inr (4, [.int x, .int (nI g), .ref k1, .ref k2, .int (nI sp), .int (nI pl), .int (nI tu), .int (nI fr), .int (nI nf), .ref k3, .ref k4, .ref k5, .ref k6, .ref k7, .ref k8])), (k1, aI E 9 w), (k2, aI E 5 aw), (k3, aI E 4 my), (k4, aI E 120 fe), (k5, aI E 44 be), (k6, aI E 4 sk), (k7, aI E 4 cl), (k8, aI E 40 ex)] s.heap [] := hW
  have hinX5 : ∀ w ∈ u_ws RX5 TX5 15, w ∈ wsX5_strikesOf := by decide +kernel
  have hf32 : Cond.fieldLink RX5 32 (TX5 12).1 (TX5 12).2.1 (TX5 12).2.2.1 ∈ wsX5_strikesOf := by decide +kernel
  refine lv_aload_n C.x C.b dX5_strikesOf_0 rfl (lv_at hl 0 rfl) ?_
  refine lv_iload_n C.x C.b dX5_strikesOf_1 rfl (lv_at hl 1 rfl) ?_
  refine lv_aload_n C.x C.b dX5_strikesOf_2 rfl (lv_at hl 0 rfl) ?_
  refine x_get C hW 0 4 12 (Cn := RX5) (T := TX5) (N := 15) rfl rfl (by decide) hinX5 hf32 rfl dX5_strikesOf_3 ?_
  refine x_cVI C hW (As := [.int (nI q), .ref k6]) (rest := []) (wr := []) (wn := [(h0, .inr (4, [.int (nI 0), .int (nI g), .ref k1, .ref k2, .int (nI sp), .int (nI pl), .int (nI tu), .int (nI fr), .int (nI nf), .ref k3, .ref k4, .ref k5, .ref k6, .ref k7, .ref k8])), (k1, aI E 9 w), (k2, aI E 5 aw), (k3, aI E 4 my), (k4, aI E 120 fe), (k5, aI E 44 be), (k6, aI E 4 sk), (k7, aI E 4 cl), (k8, aI E 40 ex)]) (Cn := RX5) (met_X5_of_strikes l E h0 k1 k2 k3 k4 k5 k6 k7 k8 x g sp pl tu fr nf w aw my fe be sk cl ex q (by omega) (by omega)) gX5_strikesOf_X5_of rfl 2 rfl ⟨rfl, rfl⟩ ⟨rfl, by decide +kernel, by decide +kernel, by decide +kernel⟩ ⟨Nat.le_of_ble_eq_true rfl, Nat.le_of_ble_eq_true rfl⟩ [0, 1, 2, 3, 4, 5, 6, 7, 8] [] [0, 1, 2, 3, 4, 5, 6, 7, 8] rfl (by decide) rfl (by decide) (by decide) rfl (by decide) 0 4 rfl rfl hl.1 rfl (Nat.le_of_ble_eq_true rfl) dX5_strikesOf_6 ⟨Nat.zero_le _, Nat.zero_le _⟩ (fun H locs hW => ?_)
  exact x_iret C hW rfl rfl rfl dX5_strikesOf_9

set_option maxHeartbeats 4000000 in
set_option maxRecDepth 100000 in
theorem met_X5_strikesOf_bad (l : Launch) (E : EV) (h0 k1 k2 k3 k4 k5 k6 k7 k8 : Nat) (x : Int32) (g sp pl tu fr nf : Nat) (w aw my fe be sk cl ex : Nat → Nat) (v : Int32) (hb : ¬ (nI 0 ≤ v ∧ v ≤ nI pl - nI 1)) : MI l yX5_strikesOf wsX5_strikesOf { frames := 3, cells := 0, slots := 0, locals := 65 } E [.ref h0, .int v] [(h0, .inr (4, [.int x, .int (nI g), .ref k1, .ref k2, .int (nI sp), .int (nI pl), .int (nI tu), .int (nI fr), .int (nI nf), .ref k3, .ref k4, .ref k5, .ref k6, .ref k7, .ref k8])), (k1, aI E 9 w), (k2, aI E 5 aw), (k3, aI E 4 my), (k4, aI E 120 fe), (k5, aI E 44 be), (k6, aI E 4 sk), (k7, aI E 4 cl), (k8, aI E 40 ex)] (nI 0) [(h0, .inr (4, [.int (nI 1), .int (nI g), .ref k1, .ref k2, .int (nI sp), .int (nI pl), .int (nI tu), .int (nI fr), .int (nI nf), .ref k3, .ref k4, .ref k5, .ref k6, .ref k7, .ref k8])), (k1, aI E 9 w), (k2, aI E 5 aw), (k3, aI E 4 my), (k4, aI E 120 fe), (k5, aI E 44 be), (k6, aI E 4 sk), (k7, aI E 4 cl), (k8, aI E 40 ex)] := by
  refine sI (own := RX5) (cc := cX5_strikesOf) (maxL := 2) (ret := (some .int)) rfl (by decide) rfl (Nat.le_of_ble_eq_true rfl) ?_
  intro p e s m below meth c C hnm ls hl hW
  have hl : lv_has ls 2 [(0, .ref h0), (1, .int v)] := hl
  have hW : WD E _ s [(h0, .inr (4, [.int x, .int (nI g), .ref k1, .ref k2, .int (nI sp), .int (nI pl), .int (nI tu), .int (nI fr), .int (nI nf), .ref k3, .ref k4, .ref k5, .ref k6, .ref k7, .ref k8])), (k1, aI E 9 w), (k2, aI E 5 aw), (k3, aI E 4 my), (k4, aI E 120 fe), (k5, aI E 44 be), (k6, aI E 4 sk), (k7, aI E 4 cl), (k8, aI E 40 ex)] s.heap [] := hW
  have hinX5 : ∀ w ∈ u_ws RX5 TX5 15, w ∈ wsX5_strikesOf := by decide +kernel
  have hf32 : Cond.fieldLink RX5 32 (TX5 12).1 (TX5 12).2.1 (TX5 12).2.2.1 ∈ wsX5_strikesOf := by decide +kernel
  refine lv_aload_n C.x C.b dX5_strikesOf_0 rfl (lv_at hl 0 rfl) ?_
  refine lv_iload_n C.x C.b dX5_strikesOf_1 rfl (lv_at hl 1 rfl) ?_
  refine lv_aload_n C.x C.b dX5_strikesOf_2 rfl (lv_at hl 0 rfl) ?_
  refine x_get C hW 0 4 12 (Cn := RX5) (T := TX5) (N := 15) rfl rfl (by decide) hinX5 hf32 rfl dX5_strikesOf_3 ?_
  refine x_cVI C hW (As := [.int v, .ref k6]) (rest := []) (wr := []) (wn := [(h0, .inr (4, [.int (nI 1), .int (nI g), .ref k1, .ref k2, .int (nI sp), .int (nI pl), .int (nI tu), .int (nI fr), .int (nI nf), .ref k3, .ref k4, .ref k5, .ref k6, .ref k7, .ref k8])), (k1, aI E 9 w), (k2, aI E 5 aw), (k3, aI E 4 my), (k4, aI E 120 fe), (k5, aI E 44 be), (k6, aI E 4 sk), (k7, aI E 4 cl), (k8, aI E 40 ex)]) (Cn := RX5) (met_X5_of_strikes_bad l E h0 k1 k2 k3 k4 k5 k6 k7 k8 x g sp pl tu fr nf w aw my fe be sk cl ex v hb) gX5_strikesOf_X5_of rfl 2 rfl ⟨rfl, rfl⟩ ⟨rfl, by decide +kernel, by decide +kernel, by decide +kernel⟩ ⟨Nat.le_of_ble_eq_true rfl, Nat.le_of_ble_eq_true rfl⟩ [0, 1, 2, 3, 4, 5, 6, 7, 8] [] [0, 1, 2, 3, 4, 5, 6, 7, 8] rfl (by decide) rfl (by decide) (by decide) rfl (by decide) 0 4 rfl rfl hl.1 rfl (Nat.le_of_ble_eq_true rfl) dX5_strikesOf_6 ⟨Nat.zero_le _, Nat.zero_le _⟩ (fun H locs hW => ?_)
  exact x_iret C hW rfl rfl rfl dX5_strikesOf_9

set_option maxHeartbeats 4000000 in
set_option maxRecDepth 100000 in
theorem met_X5_of_closed (l : Launch) (E : EV) (h0 k1 k2 k3 k4 k5 k6 k7 k8 : Nat) (x : Int32) (g sp pl tu fr nf : Nat) (w aw my fe be sk cl ex : Nat → Nat) (q : Nat) (hq : q < pl) (hpl : pl ≤ 4) : MI l yX5_of wsX5_of { frames := 2, cells := 0, slots := 0, locals := 43 } E [.ref h0, .int (nI q), .ref k7] [(h0, .inr (4, [.int x, .int (nI g), .ref k1, .ref k2, .int (nI sp), .int (nI pl), .int (nI tu), .int (nI fr), .int (nI nf), .ref k3, .ref k4, .ref k5, .ref k6, .ref k7, .ref k8])), (k1, aI E 9 w), (k2, aI E 5 aw), (k3, aI E 4 my), (k4, aI E 120 fe), (k5, aI E 44 be), (k6, aI E 4 sk), (k7, aI E 4 cl), (k8, aI E 40 ex)] (nI (cl q)) [(h0, .inr (4, [.int (nI 0), .int (nI g), .ref k1, .ref k2, .int (nI sp), .int (nI pl), .int (nI tu), .int (nI fr), .int (nI nf), .ref k3, .ref k4, .ref k5, .ref k6, .ref k7, .ref k8])), (k1, aI E 9 w), (k2, aI E 5 aw), (k3, aI E 4 my), (k4, aI E 120 fe), (k5, aI E 44 be), (k6, aI E 4 sk), (k7, aI E 4 cl), (k8, aI E 40 ex)] := by
  refine sI (own := RX5) (cc := cX5_of) (maxL := 3) (ret := (some .int)) rfl (by decide) rfl (Nat.le_of_ble_eq_true rfl) ?_
  intro p e s m below meth c C hnm ls hl hW
  have hl : lv_has ls 3 [(0, .ref h0), (1, .int (nI q)), (2, .ref k7)] := hl
  have hW : WD E _ s [(h0, .inr (4, [.int x, .int (nI g), .ref k1, .ref k2, .int (nI sp), .int (nI pl), .int (nI tu), .int (nI fr), .int (nI nf), .ref k3, .ref k4, .ref k5, .ref k6, .ref k7, .ref k8])), (k1, aI E 9 w), (k2, aI E 5 aw), (k3, aI E 4 my), (k4, aI E 120 fe), (k5, aI E 44 be), (k6, aI E 4 sk), (k7, aI E 4 cl), (k8, aI E 40 ex)] s.heap [] := hW
  have hinX5 : ∀ w ∈ u_ws RX5 TX5 15, w ∈ wsX5_of := by decide +kernel
  have hf41 : Cond.fieldLink RX5 41 (TX5 0).1 (TX5 0).2.1 (TX5 0).2.2.1 ∈ wsX5_of := by decide +kernel
  refine lv_aload_n C.x C.b dX5_of_0 rfl (lv_at hl 0 rfl) ?_
  refine lv_iconst (v := nI 0) C.x C.b dX5_of_1 (by decide) ?_
  refine x_put C hW 0 4 0 (Cn := RX5) (T := TX5) (N := 15) (w' := [(h0, .inr (4, [.int (nI 0), .int (nI g), .ref k1, .ref k2, .int (nI sp), .int (nI pl), .int (nI tu), .int (nI fr), .int (nI nf), .ref k3, .ref k4, .ref k5, .ref k6, .ref k7, .ref k8])), (k1, aI E 9 w), (k2, aI E 5 aw), (k3, aI E 4 my), (k4, aI E 120 fe), (k5, aI E 44 be), (k6, aI E 4 sk), (k7, aI E 4 cl), (k8, aI E 40 ex)]) tyX5 tyX5_ok nmX5 rfl rfl (by decide) hinX5 hf41 rfl (by decide +kernel) (Nat.le_of_ble_eq_true rfl) dX5_of_2 rfl (fun H locs hW => ?_)
  refine lv_aload_n C.x C.b dX5_of_5 rfl (lv_at hl 0 rfl) ?_
  refine lv_iload_n C.x C.b dX5_of_6 rfl (lv_at hl 1 rfl) ?_
  refine x_cVI C hW (As := [.int (nI q)]) (rest := []) (wr := []) (wn := [(h0, .inr (4, [.int (nI 0), .int (nI g), .ref k1, .ref k2, .int (nI sp), .int (nI pl), .int (nI tu), .int (nI fr), .int (nI nf), .ref k3, .ref k4, .ref k5, .ref k6, .ref k7, .ref k8])), (k1, aI E 9 w), (k2, aI E 5 aw), (k3, aI E 4 my), (k4, aI E 120 fe), (k5, aI E 44 be), (k6, aI E 4 sk), (k7, aI E 4 cl), (k8, aI E 40 ex)]) (Cn := RX5) (met_X5_isPlayer l E h0 k1 k2 k3 k4 k5 k6 k7 k8 (nI 0) g sp pl tu fr nf w aw my fe be sk cl ex (nI q)) gX5_of_X5_isPlayer rfl 1 rfl ⟨rfl, rfl⟩ ⟨rfl, by decide +kernel, by decide +kernel, by decide +kernel⟩ ⟨Nat.le_of_ble_eq_true rfl, Nat.le_of_ble_eq_true rfl⟩ [0, 1, 2, 3, 4, 5, 6, 7, 8] [] [0, 1, 2, 3, 4, 5, 6, 7, 8] rfl (by decide) rfl (by decide) (by decide) rfl (by decide) 0 4 rfl rfl hl.1 rfl (Nat.le_of_ble_eq_true rfl) dX5_of_7 ⟨Nat.zero_le _, Nat.zero_le _⟩ (fun H locs hW => ?_)
  refine x_ifb_eq C (tgt := 19) dX5_of_10 (by decide) (fun c_1 => ?_) (fun c_1 => ?_)
  · exact absurd (z_inP (by omega) (by omega)) c_1
  · refine lv_aload_n C.x C.b dX5_of_13 rfl (lv_at hl 2 rfl) ?_
    refine lv_iload_n C.x C.b dX5_of_14 rfl (lv_at hl 1 rfl) ?_
    refine x_ald C hW 7 q rfl rfl (by omega) (by decide) dX5_of_15 ?_
    refine lv_goto (tgt := 24) C.x C.b dX5_of_16 (by decide) ?_
    exact x_iret C hW rfl rfl rfl dX5_of_24

set_option maxHeartbeats 4000000 in
set_option maxRecDepth 100000 in
theorem met_X5_of_closed_bad (l : Launch) (E : EV) (h0 k1 k2 k3 k4 k5 k6 k7 k8 : Nat) (x : Int32) (g sp pl tu fr nf : Nat) (w aw my fe be sk cl ex : Nat → Nat) (v : Int32) (hb : ¬ (nI 0 ≤ v ∧ v ≤ nI pl - nI 1)) : MI l yX5_of wsX5_of { frames := 2, cells := 0, slots := 0, locals := 43 } E [.ref h0, .int v, .ref k7] [(h0, .inr (4, [.int x, .int (nI g), .ref k1, .ref k2, .int (nI sp), .int (nI pl), .int (nI tu), .int (nI fr), .int (nI nf), .ref k3, .ref k4, .ref k5, .ref k6, .ref k7, .ref k8])), (k1, aI E 9 w), (k2, aI E 5 aw), (k3, aI E 4 my), (k4, aI E 120 fe), (k5, aI E 44 be), (k6, aI E 4 sk), (k7, aI E 4 cl), (k8, aI E 40 ex)] (nI 0) [(h0, .inr (4, [.int (nI 1), .int (nI g), .ref k1, .ref k2, .int (nI sp), .int (nI pl), .int (nI tu), .int (nI fr), .int (nI nf), .ref k3, .ref k4, .ref k5, .ref k6, .ref k7, .ref k8])), (k1, aI E 9 w), (k2, aI E 5 aw), (k3, aI E 4 my), (k4, aI E 120 fe), (k5, aI E 44 be), (k6, aI E 4 sk), (k7, aI E 4 cl), (k8, aI E 40 ex)] := by
  refine sI (own := RX5) (cc := cX5_of) (maxL := 3) (ret := (some .int)) rfl (by decide) rfl (Nat.le_of_ble_eq_true rfl) ?_
  intro p e s m below meth c C hnm ls hl hW
  have hl : lv_has ls 3 [(0, .ref h0), (1, .int v), (2, .ref k7)] := hl
  have hW : WD E _ s [(h0, .inr (4, [.int x, .int (nI g), .ref k1, .ref k2, .int (nI sp), .int (nI pl), .int (nI tu), .int (nI fr), .int (nI nf), .ref k3, .ref k4, .ref k5, .ref k6, .ref k7, .ref k8])), (k1, aI E 9 w), (k2, aI E 5 aw), (k3, aI E 4 my), (k4, aI E 120 fe), (k5, aI E 44 be), (k6, aI E 4 sk), (k7, aI E 4 cl), (k8, aI E 40 ex)] s.heap [] := hW
  have hinX5 : ∀ w ∈ u_ws RX5 TX5 15, w ∈ wsX5_of := by decide +kernel
  have hf41 : Cond.fieldLink RX5 41 (TX5 0).1 (TX5 0).2.1 (TX5 0).2.2.1 ∈ wsX5_of := by decide +kernel
  refine lv_aload_n C.x C.b dX5_of_0 rfl (lv_at hl 0 rfl) ?_
  refine lv_iconst (v := nI 0) C.x C.b dX5_of_1 (by decide) ?_
  refine x_put C hW 0 4 0 (Cn := RX5) (T := TX5) (N := 15) (w' := [(h0, .inr (4, [.int (nI 0), .int (nI g), .ref k1, .ref k2, .int (nI sp), .int (nI pl), .int (nI tu), .int (nI fr), .int (nI nf), .ref k3, .ref k4, .ref k5, .ref k6, .ref k7, .ref k8])), (k1, aI E 9 w), (k2, aI E 5 aw), (k3, aI E 4 my), (k4, aI E 120 fe), (k5, aI E 44 be), (k6, aI E 4 sk), (k7, aI E 4 cl), (k8, aI E 40 ex)]) tyX5 tyX5_ok nmX5 rfl rfl (by decide) hinX5 hf41 rfl (by decide +kernel) (Nat.le_of_ble_eq_true rfl) dX5_of_2 rfl (fun H locs hW => ?_)
  refine lv_aload_n C.x C.b dX5_of_5 rfl (lv_at hl 0 rfl) ?_
  refine lv_iload_n C.x C.b dX5_of_6 rfl (lv_at hl 1 rfl) ?_
  refine x_cVI C hW (As := [.int v]) (rest := []) (wr := []) (wn := [(h0, .inr (4, [.int (nI 0), .int (nI g), .ref k1, .ref k2, .int (nI sp), .int (nI pl), .int (nI tu), .int (nI fr), .int (nI nf), .ref k3, .ref k4, .ref k5, .ref k6, .ref k7, .ref k8])), (k1, aI E 9 w), (k2, aI E 5 aw), (k3, aI E 4 my), (k4, aI E 120 fe), (k5, aI E 44 be), (k6, aI E 4 sk), (k7, aI E 4 cl), (k8, aI E 40 ex)]) (Cn := RX5) (met_X5_isPlayer l E h0 k1 k2 k3 k4 k5 k6 k7 k8 (nI 0) g sp pl tu fr nf w aw my fe be sk cl ex v) gX5_of_X5_isPlayer rfl 1 rfl ⟨rfl, rfl⟩ ⟨rfl, by decide +kernel, by decide +kernel, by decide +kernel⟩ ⟨Nat.le_of_ble_eq_true rfl, Nat.le_of_ble_eq_true rfl⟩ [0, 1, 2, 3, 4, 5, 6, 7, 8] [] [0, 1, 2, 3, 4, 5, 6, 7, 8] rfl (by decide) rfl (by decide) (by decide) rfl (by decide) 0 4 rfl rfl hl.1 rfl (Nat.le_of_ble_eq_true rfl) dX5_of_7 ⟨Nat.zero_le _, Nat.zero_le _⟩ (fun H locs hW => ?_)
  refine x_ifb_eq C (tgt := 19) dX5_of_10 (by decide) (fun c_1 => ?_) (fun c_1 => ?_)
  · refine lv_aload_n C.x C.b dX5_of_19 rfl (lv_at hl 0 rfl) ?_
    refine lv_iconst (v := nI 1) C.x C.b dX5_of_20 (by decide) ?_
    refine x_cVI C hW (As := [.int (nI 1)]) (rest := []) (wr := []) (wn := [(h0, .inr (4, [.int (nI 1), .int (nI g), .ref k1, .ref k2, .int (nI sp), .int (nI pl), .int (nI tu), .int (nI fr), .int (nI nf), .ref k3, .ref k4, .ref k5, .ref k6, .ref k7, .ref k8])), (k1, aI E 9 w), (k2, aI E 5 aw), (k3, aI E 4 my), (k4, aI E 120 fe), (k5, aI E 44 be), (k6, aI E 4 sk), (k7, aI E 4 cl), (k8, aI E 40 ex)]) (Cn := RX5) (met_X5_no l E h0 k1 k2 k3 k4 k5 k6 k7 k8 (nI 0) g sp pl tu fr nf w aw my fe be sk cl ex 1) gX5_of_X5_no rfl 1 rfl ⟨rfl, rfl⟩ ⟨rfl, by decide +kernel, by decide +kernel, by decide +kernel⟩ ⟨Nat.le_of_ble_eq_true rfl, Nat.le_of_ble_eq_true rfl⟩ [0, 1, 2, 3, 4, 5, 6, 7, 8] [] [0, 1, 2, 3, 4, 5, 6, 7, 8] rfl (by decide) rfl (by decide) (by decide) rfl (by decide) 0 4 rfl rfl hl.1 rfl (Nat.le_of_ble_eq_true rfl) dX5_of_21 ⟨Nat.zero_le _, Nat.zero_le _⟩ (fun H locs hW => ?_)
    exact x_iret C hW rfl rfl rfl dX5_of_24
  · exact absurd c_1 hb

set_option maxHeartbeats 4000000 in
set_option maxRecDepth 100000 in
theorem met_X5_sparesOf_ok (l : Launch) (E : EV) (h0 k1 k2 k3 k4 k5 k6 k7 k8 : Nat) (x : Int32) (g sp pl tu fr nf : Nat) (w aw my fe be sk cl ex : Nat → Nat) (q : Nat) (hq : q < pl) (hpl : pl ≤ 4) : MI l yX5_sparesOf wsX5_sparesOf { frames := 3, cells := 0, slots := 0, locals := 65 } E [.ref h0, .int (nI q)] [(h0, .inr (4, [.int x, .int (nI g), .ref k1, .ref k2, .int (nI sp), .int (nI pl), .int (nI tu), .int (nI fr), .int (nI nf), .ref k3, .ref k4, .ref k5, .ref k6, .ref k7, .ref k8])), (k1, aI E 9 w), (k2, aI E 5 aw), (k3, aI E 4 my), (k4, aI E 120 fe), (k5, aI E 44 be), (k6, aI E 4 sk), (k7, aI E 4 cl), (k8, aI E 40 ex)] (nI (cl q)) [(h0, .inr (4, [.int (nI 0), .int (nI g), .ref k1, .ref k2, .int (nI sp), .int (nI pl), .int (nI tu), .int (nI fr), .int (nI nf), .ref k3, .ref k4, .ref k5, .ref k6, .ref k7, .ref k8])), (k1, aI E 9 w), (k2, aI E 5 aw), (k3, aI E 4 my), (k4, aI E 120 fe), (k5, aI E 44 be), (k6, aI E 4 sk), (k7, aI E 4 cl), (k8, aI E 40 ex)] := by
  refine sI (own := RX5) (cc := cX5_sparesOf) (maxL := 2) (ret := (some .int)) rfl (by decide) rfl (Nat.le_of_ble_eq_true rfl) ?_
  intro p e s m below meth c C hnm ls hl hW
  have hl : lv_has ls 2 [(0, .ref h0), (1, .int (nI q))] := hl
  have hW : WD E _ s [(h0, .inr (4, [.int x, .int (nI g), .ref k1, .ref k2, .int (nI sp), .int (nI pl), .int (nI tu), .int (nI fr), .int (nI nf), .ref k3, .ref k4, .ref k5, .ref k6, .ref k7, .ref k8])), (k1, aI E 9 w), (k2, aI E 5 aw), (k3, aI E 4 my), (k4, aI E 120 fe), (k5, aI E 44 be), (k6, aI E 4 sk), (k7, aI E 4 cl), (k8, aI E 40 ex)] s.heap [] := hW
  have hinX5 : ∀ w ∈ u_ws RX5 TX5 15, w ∈ wsX5_sparesOf := by decide +kernel
  have hf35 : Cond.fieldLink RX5 35 (TX5 13).1 (TX5 13).2.1 (TX5 13).2.2.1 ∈ wsX5_sparesOf := by decide +kernel
  refine lv_aload_n C.x C.b dX5_sparesOf_0 rfl (lv_at hl 0 rfl) ?_
  refine lv_iload_n C.x C.b dX5_sparesOf_1 rfl (lv_at hl 1 rfl) ?_
  refine lv_aload_n C.x C.b dX5_sparesOf_2 rfl (lv_at hl 0 rfl) ?_
  refine x_get C hW 0 4 13 (Cn := RX5) (T := TX5) (N := 15) rfl rfl (by decide) hinX5 hf35 rfl dX5_sparesOf_3 ?_
  refine x_cVI C hW (As := [.int (nI q), .ref k7]) (rest := []) (wr := []) (wn := [(h0, .inr (4, [.int (nI 0), .int (nI g), .ref k1, .ref k2, .int (nI sp), .int (nI pl), .int (nI tu), .int (nI fr), .int (nI nf), .ref k3, .ref k4, .ref k5, .ref k6, .ref k7, .ref k8])), (k1, aI E 9 w), (k2, aI E 5 aw), (k3, aI E 4 my), (k4, aI E 120 fe), (k5, aI E 44 be), (k6, aI E 4 sk), (k7, aI E 4 cl), (k8, aI E 40 ex)]) (Cn := RX5) (met_X5_of_closed l E h0 k1 k2 k3 k4 k5 k6 k7 k8 x g sp pl tu fr nf w aw my fe be sk cl ex q (by omega) (by omega)) gX5_sparesOf_X5_of rfl 2 rfl ⟨rfl, rfl⟩ ⟨rfl, by decide +kernel, by decide +kernel, by decide +kernel⟩ ⟨Nat.le_of_ble_eq_true rfl, Nat.le_of_ble_eq_true rfl⟩ [0, 1, 2, 3, 4, 5, 6, 7, 8] [] [0, 1, 2, 3, 4, 5, 6, 7, 8] rfl (by decide) rfl (by decide) (by decide) rfl (by decide) 0 4 rfl rfl hl.1 rfl (Nat.le_of_ble_eq_true rfl) dX5_sparesOf_6 ⟨Nat.zero_le _, Nat.zero_le _⟩ (fun H locs hW => ?_)
  exact x_iret C hW rfl rfl rfl dX5_sparesOf_9

set_option maxHeartbeats 4000000 in
set_option maxRecDepth 100000 in
theorem met_X5_sparesOf_bad (l : Launch) (E : EV) (h0 k1 k2 k3 k4 k5 k6 k7 k8 : Nat) (x : Int32) (g sp pl tu fr nf : Nat) (w aw my fe be sk cl ex : Nat → Nat) (v : Int32) (hb : ¬ (nI 0 ≤ v ∧ v ≤ nI pl - nI 1)) : MI l yX5_sparesOf wsX5_sparesOf { frames := 3, cells := 0, slots := 0, locals := 65 } E [.ref h0, .int v] [(h0, .inr (4, [.int x, .int (nI g), .ref k1, .ref k2, .int (nI sp), .int (nI pl), .int (nI tu), .int (nI fr), .int (nI nf), .ref k3, .ref k4, .ref k5, .ref k6, .ref k7, .ref k8])), (k1, aI E 9 w), (k2, aI E 5 aw), (k3, aI E 4 my), (k4, aI E 120 fe), (k5, aI E 44 be), (k6, aI E 4 sk), (k7, aI E 4 cl), (k8, aI E 40 ex)] (nI 0) [(h0, .inr (4, [.int (nI 1), .int (nI g), .ref k1, .ref k2, .int (nI sp), .int (nI pl), .int (nI tu), .int (nI fr), .int (nI nf), .ref k3, .ref k4, .ref k5, .ref k6, .ref k7, .ref k8])), (k1, aI E 9 w), (k2, aI E 5 aw), (k3, aI E 4 my), (k4, aI E 120 fe), (k5, aI E 44 be), (k6, aI E 4 sk), (k7, aI E 4 cl), (k8, aI E 40 ex)] := by
  refine sI (own := RX5) (cc := cX5_sparesOf) (maxL := 2) (ret := (some .int)) rfl (by decide) rfl (Nat.le_of_ble_eq_true rfl) ?_
  intro p e s m below meth c C hnm ls hl hW
  have hl : lv_has ls 2 [(0, .ref h0), (1, .int v)] := hl
  have hW : WD E _ s [(h0, .inr (4, [.int x, .int (nI g), .ref k1, .ref k2, .int (nI sp), .int (nI pl), .int (nI tu), .int (nI fr), .int (nI nf), .ref k3, .ref k4, .ref k5, .ref k6, .ref k7, .ref k8])), (k1, aI E 9 w), (k2, aI E 5 aw), (k3, aI E 4 my), (k4, aI E 120 fe), (k5, aI E 44 be), (k6, aI E 4 sk), (k7, aI E 4 cl), (k8, aI E 40 ex)] s.heap [] := hW
  have hinX5 : ∀ w ∈ u_ws RX5 TX5 15, w ∈ wsX5_sparesOf := by decide +kernel
  have hf35 : Cond.fieldLink RX5 35 (TX5 13).1 (TX5 13).2.1 (TX5 13).2.2.1 ∈ wsX5_sparesOf := by decide +kernel
  refine lv_aload_n C.x C.b dX5_sparesOf_0 rfl (lv_at hl 0 rfl) ?_
  refine lv_iload_n C.x C.b dX5_sparesOf_1 rfl (lv_at hl 1 rfl) ?_
  refine lv_aload_n C.x C.b dX5_sparesOf_2 rfl (lv_at hl 0 rfl) ?_
  refine x_get C hW 0 4 13 (Cn := RX5) (T := TX5) (N := 15) rfl rfl (by decide) hinX5 hf35 rfl dX5_sparesOf_3 ?_
  refine x_cVI C hW (As := [.int v, .ref k7]) (rest := []) (wr := []) (wn := [(h0, .inr (4, [.int (nI 1), .int (nI g), .ref k1, .ref k2, .int (nI sp), .int (nI pl), .int (nI tu), .int (nI fr), .int (nI nf), .ref k3, .ref k4, .ref k5, .ref k6, .ref k7, .ref k8])), (k1, aI E 9 w), (k2, aI E 5 aw), (k3, aI E 4 my), (k4, aI E 120 fe), (k5, aI E 44 be), (k6, aI E 4 sk), (k7, aI E 4 cl), (k8, aI E 40 ex)]) (Cn := RX5) (met_X5_of_closed_bad l E h0 k1 k2 k3 k4 k5 k6 k7 k8 x g sp pl tu fr nf w aw my fe be sk cl ex v hb) gX5_sparesOf_X5_of rfl 2 rfl ⟨rfl, rfl⟩ ⟨rfl, by decide +kernel, by decide +kernel, by decide +kernel⟩ ⟨Nat.le_of_ble_eq_true rfl, Nat.le_of_ble_eq_true rfl⟩ [0, 1, 2, 3, 4, 5, 6, 7, 8] [] [0, 1, 2, 3, 4, 5, 6, 7, 8] rfl (by decide) rfl (by decide) (by decide) rfl (by decide) 0 4 rfl rfl hl.1 rfl (Nat.le_of_ble_eq_true rfl) dX5_sparesOf_6 ⟨Nat.zero_le _, Nat.zero_le _⟩ (fun H locs hW => ?_)
  exact x_iret C hW rfl rfl rfl dX5_sparesOf_9

set_option maxHeartbeats 4000000 in
set_option maxRecDepth 100000 in
theorem met_X5_scoreOf_ok (l : Launch) (E : EV) (h0 k1 k2 k3 k4 k5 k6 k7 k8 : Nat) (x : Int32) (g sp pl tu fr nf : Nat) (w aw my fe be sk cl ex : Nat → Nat) (q : Nat) (hq : q < pl) (hpl : pl ≤ 4) (hfr : fr ≤ 10) (htu : tu < 4) (hmy : ∀ j, my j ≤ 30) (hfe : ∀ j, fe j ≤ 9) (hbe : ∀ j, be j ≤ 30) (hex : ∀ j, ex j ≤ 2) : MI l yX5_scoreOf wsX5_scoreOf { frames := 4, cells := 0, slots := 0, locals := 93 } E [.ref h0, .int (nI q)] [(h0, .inr (4, [.int x, .int (nI g), .ref k1, .ref k2, .int (nI sp), .int (nI pl), .int (nI tu), .int (nI fr), .int (nI nf), .ref k3, .ref k4, .ref k5, .ref k6, .ref k7, .ref k8])), (k1, aI E 9 w), (k2, aI E 5 aw), (k3, aI E 4 my), (k4, aI E 120 fe), (k5, aI E 44 be), (k6, aI E 4 sk), (k7, aI E 4 cl), (k8, aI E 40 ex)] (nI (scT my fe be ex tu fr q)) [(h0, .inr (4, [.int (nI 0), .int (nI g), .ref k1, .ref k2, .int (nI sp), .int (nI pl), .int (nI tu), .int (nI fr), .int (nI nf), .ref k3, .ref k4, .ref k5, .ref k6, .ref k7, .ref k8])), (k1, aI E 9 w), (k2, aI E 5 aw), (k3, aI E 4 my), (k4, aI E 120 fe), (k5, aI E 44 be), (k6, aI E 4 sk), (k7, aI E 4 cl), (k8, aI E 40 ex)] := by
  refine sI (own := RX5) (cc := cX5_scoreOf) (maxL := 2) (ret := (some .int)) rfl (by decide) rfl (Nat.le_of_ble_eq_true rfl) ?_
  intro p e s m below meth c C hnm ls hl hW
  have hl : lv_has ls 2 [(0, .ref h0), (1, .int (nI q))] := hl
  have hW : WD E _ s [(h0, .inr (4, [.int x, .int (nI g), .ref k1, .ref k2, .int (nI sp), .int (nI pl), .int (nI tu), .int (nI fr), .int (nI nf), .ref k3, .ref k4, .ref k5, .ref k6, .ref k7, .ref k8])), (k1, aI E 9 w), (k2, aI E 5 aw), (k3, aI E 4 my), (k4, aI E 120 fe), (k5, aI E 44 be), (k6, aI E 4 sk), (k7, aI E 4 cl), (k8, aI E 40 ex)] s.heap [] := hW
  have hinX5 : ∀ w ∈ u_ws RX5 TX5 15, w ∈ wsX5_scoreOf := by decide +kernel
  have hf41 : Cond.fieldLink RX5 41 (TX5 0).1 (TX5 0).2.1 (TX5 0).2.2.1 ∈ wsX5_scoreOf := by decide +kernel
  refine lv_aload_n C.x C.b dX5_scoreOf_0 rfl (lv_at hl 0 rfl) ?_
  refine lv_iconst (v := nI 0) C.x C.b dX5_scoreOf_1 (by decide) ?_
  refine x_put C hW 0 4 0 (Cn := RX5) (T := TX5) (N := 15) (w' := [(h0, .inr (4, [.int (nI 0), .int (nI g), .ref k1, .ref k2, .int (nI sp), .int (nI pl), .int (nI tu), .int (nI fr), .int (nI nf), .ref k3, .ref k4, .ref k5, .ref k6, .ref k7, .ref k8])), (k1, aI E 9 w), (k2, aI E 5 aw), (k3, aI E 4 my), (k4, aI E 120 fe), (k5, aI E 44 be), (k6, aI E 4 sk), (k7, aI E 4 cl), (k8, aI E 40 ex)]) tyX5 tyX5_ok nmX5 rfl rfl (by decide) hinX5 hf41 rfl (by decide +kernel) (Nat.le_of_ble_eq_true rfl) dX5_scoreOf_2 rfl (fun H locs hW => ?_)
  refine lv_aload_n C.x C.b dX5_scoreOf_5 rfl (lv_at hl 0 rfl) ?_
  refine lv_iload_n C.x C.b dX5_scoreOf_6 rfl (lv_at hl 1 rfl) ?_
  refine x_cVI C hW (As := [.int (nI q)]) (rest := []) (wr := []) (wn := [(h0, .inr (4, [.int (nI 0), .int (nI g), .ref k1, .ref k2, .int (nI sp), .int (nI pl), .int (nI tu), .int (nI fr), .int (nI nf), .ref k3, .ref k4, .ref k5, .ref k6, .ref k7, .ref k8])), (k1, aI E 9 w), (k2, aI E 5 aw), (k3, aI E 4 my), (k4, aI E 120 fe), (k5, aI E 44 be), (k6, aI E 4 sk), (k7, aI E 4 cl), (k8, aI E 40 ex)]) (Cn := RX5) (met_X5_isPlayer l E h0 k1 k2 k3 k4 k5 k6 k7 k8 (nI 0) g sp pl tu fr nf w aw my fe be sk cl ex (nI q)) gX5_scoreOf_X5_isPlayer rfl 1 rfl ⟨rfl, rfl⟩ ⟨rfl, by decide +kernel, by decide +kernel, by decide +kernel⟩ ⟨Nat.le_of_ble_eq_true rfl, Nat.le_of_ble_eq_true rfl⟩ [0, 1, 2, 3, 4, 5, 6, 7, 8] [] [0, 1, 2, 3, 4, 5, 6, 7, 8] rfl (by decide) rfl (by decide) (by decide) rfl (by decide) 0 4 rfl rfl hl.1 rfl (Nat.le_of_ble_eq_true rfl) dX5_scoreOf_7 ⟨Nat.zero_le _, Nat.zero_le _⟩ (fun H locs hW => ?_)
  refine x_ifb_eq C (tgt := 21) dX5_scoreOf_10 (by decide) (fun c_1 => ?_) (fun c_1 => ?_)
  · exact absurd (z_inP (by omega) (by omega)) c_1
  · refine lv_aload_n C.x C.b dX5_scoreOf_13 rfl (lv_at hl 0 rfl) ?_
    refine lv_iload_n C.x C.b dX5_scoreOf_14 rfl (lv_at hl 1 rfl) ?_
    refine x_cVI C hW (As := [.int (nI q)]) (rest := []) (wr := []) (wn := [(h0, .inr (4, [.int (nI 0), .int (nI g), .ref k1, .ref k2, .int (nI sp), .int (nI pl), .int (nI tu), .int (nI fr), .int (nI nf), .ref k3, .ref k4, .ref k5, .ref k6, .ref k7, .ref k8])), (k1, aI E 9 w), (k2, aI E 5 aw), (k3, aI E 4 my), (k4, aI E 120 fe), (k5, aI E 44 be), (k6, aI E 4 sk), (k7, aI E 4 cl), (k8, aI E 40 ex)]) (Cn := RX5) (met_X5_score l E h0 k1 k2 k3 k4 k5 k6 k7 k8 (nI 0) g sp pl tu fr nf w aw my fe be sk cl ex q (by omega) (by omega) (by omega) hmy hbe hex) gX5_scoreOf_X5_score rfl 1 rfl ⟨rfl, rfl⟩ ⟨rfl, by decide +kernel, by decide +kernel, by decide +kernel⟩ ⟨Nat.le_of_ble_eq_true rfl, Nat.le_of_ble_eq_true rfl⟩ [0, 1, 2, 3, 4, 5, 6, 7, 8] [] [0, 1, 2, 3, 4, 5, 6, 7, 8] rfl (by decide) rfl (by decide) (by decide) rfl (by decide) 0 4 rfl rfl hl.1 rfl (Nat.le_of_ble_eq_true rfl) dX5_scoreOf_15 ⟨Nat.zero_le _, Nat.zero_le _⟩ (fun H locs hW => ?_)
    refine lv_goto (tgt := 26) C.x C.b dX5_scoreOf_18 (by decide) ?_
    exact x_iret C hW rfl rfl rfl dX5_scoreOf_26

set_option maxHeartbeats 4000000 in
set_option maxRecDepth 100000 in
theorem met_X5_scoreOf_bad (l : Launch) (E : EV) (h0 k1 k2 k3 k4 k5 k6 k7 k8 : Nat) (x : Int32) (g sp pl tu fr nf : Nat) (w aw my fe be sk cl ex : Nat → Nat) (v : Int32) (hb : ¬ (nI 0 ≤ v ∧ v ≤ nI pl - nI 1)) : MI l yX5_scoreOf wsX5_scoreOf { frames := 2, cells := 0, slots := 0, locals := 43 } E [.ref h0, .int v] [(h0, .inr (4, [.int x, .int (nI g), .ref k1, .ref k2, .int (nI sp), .int (nI pl), .int (nI tu), .int (nI fr), .int (nI nf), .ref k3, .ref k4, .ref k5, .ref k6, .ref k7, .ref k8])), (k1, aI E 9 w), (k2, aI E 5 aw), (k3, aI E 4 my), (k4, aI E 120 fe), (k5, aI E 44 be), (k6, aI E 4 sk), (k7, aI E 4 cl), (k8, aI E 40 ex)] (nI 0) [(h0, .inr (4, [.int (nI 1), .int (nI g), .ref k1, .ref k2, .int (nI sp), .int (nI pl), .int (nI tu), .int (nI fr), .int (nI nf), .ref k3, .ref k4, .ref k5, .ref k6, .ref k7, .ref k8])), (k1, aI E 9 w), (k2, aI E 5 aw), (k3, aI E 4 my), (k4, aI E 120 fe), (k5, aI E 44 be), (k6, aI E 4 sk), (k7, aI E 4 cl), (k8, aI E 40 ex)] := by
  refine sI (own := RX5) (cc := cX5_scoreOf) (maxL := 2) (ret := (some .int)) rfl (by decide) rfl (Nat.le_of_ble_eq_true rfl) ?_
  intro p e s m below meth c C hnm ls hl hW
  have hl : lv_has ls 2 [(0, .ref h0), (1, .int v)] := hl
  have hW : WD E _ s [(h0, .inr (4, [.int x, .int (nI g), .ref k1, .ref k2, .int (nI sp), .int (nI pl), .int (nI tu), .int (nI fr), .int (nI nf), .ref k3, .ref k4, .ref k5, .ref k6, .ref k7, .ref k8])), (k1, aI E 9 w), (k2, aI E 5 aw), (k3, aI E 4 my), (k4, aI E 120 fe), (k5, aI E 44 be), (k6, aI E 4 sk), (k7, aI E 4 cl), (k8, aI E 40 ex)] s.heap [] := hW
  have hinX5 : ∀ w ∈ u_ws RX5 TX5 15, w ∈ wsX5_scoreOf := by decide +kernel
  have hf41 : Cond.fieldLink RX5 41 (TX5 0).1 (TX5 0).2.1 (TX5 0).2.2.1 ∈ wsX5_scoreOf := by decide +kernel
  refine lv_aload_n C.x C.b dX5_scoreOf_0 rfl (lv_at hl 0 rfl) ?_
  refine lv_iconst (v := nI 0) C.x C.b dX5_scoreOf_1 (by decide) ?_
  refine x_put C hW 0 4 0 (Cn := RX5) (T := TX5) (N := 15) (w' := [(h0, .inr (4, [.int (nI 0), .int (nI g), .ref k1, .ref k2, .int (nI sp), .int (nI pl), .int (nI tu), .int (nI fr), .int (nI nf), .ref k3, .ref k4, .ref k5, .ref k6, .ref k7, .ref k8])), (k1, aI E 9 w), (k2, aI E 5 aw), (k3, aI E 4 my), (k4, aI E 120 fe), (k5, aI E 44 be), (k6, aI E 4 sk), (k7, aI E 4 cl), (k8, aI E 40 ex)]) tyX5 tyX5_ok nmX5 rfl rfl (by decide) hinX5 hf41 rfl (by decide +kernel) (Nat.le_of_ble_eq_true rfl) dX5_scoreOf_2 rfl (fun H locs hW => ?_)
  refine lv_aload_n C.x C.b dX5_scoreOf_5 rfl (lv_at hl 0 rfl) ?_
  refine lv_iload_n C.x C.b dX5_scoreOf_6 rfl (lv_at hl 1 rfl) ?_
  refine x_cVI C hW (As := [.int v]) (rest := []) (wr := []) (wn := [(h0, .inr (4, [.int (nI 0), .int (nI g), .ref k1, .ref k2, .int (nI sp), .int (nI pl), .int (nI tu), .int (nI fr), .int (nI nf), .ref k3, .ref k4, .ref k5, .ref k6, .ref k7, .ref k8])), (k1, aI E 9 w), (k2, aI E 5 aw), (k3, aI E 4 my), (k4, aI E 120 fe), (k5, aI E 44 be), (k6, aI E 4 sk), (k7, aI E 4 cl), (k8, aI E 40 ex)]) (Cn := RX5) (met_X5_isPlayer l E h0 k1 k2 k3 k4 k5 k6 k7 k8 (nI 0) g sp pl tu fr nf w aw my fe be sk cl ex v) gX5_scoreOf_X5_isPlayer rfl 1 rfl ⟨rfl, rfl⟩ ⟨rfl, by decide +kernel, by decide +kernel, by decide +kernel⟩ ⟨Nat.le_of_ble_eq_true rfl, Nat.le_of_ble_eq_true rfl⟩ [0, 1, 2, 3, 4, 5, 6, 7, 8] [] [0, 1, 2, 3, 4, 5, 6, 7, 8] rfl (by decide) rfl (by decide) (by decide) rfl (by decide) 0 4 rfl rfl hl.1 rfl (Nat.le_of_ble_eq_true rfl) dX5_scoreOf_7 ⟨Nat.zero_le _, Nat.zero_le _⟩ (fun H locs hW => ?_)
  refine x_ifb_eq C (tgt := 21) dX5_scoreOf_10 (by decide) (fun c_1 => ?_) (fun c_1 => ?_)
  · refine lv_aload_n C.x C.b dX5_scoreOf_21 rfl (lv_at hl 0 rfl) ?_
    refine lv_iconst (v := nI 1) C.x C.b dX5_scoreOf_22 (by decide) ?_
    refine x_cVI C hW (As := [.int (nI 1)]) (rest := []) (wr := []) (wn := [(h0, .inr (4, [.int (nI 1), .int (nI g), .ref k1, .ref k2, .int (nI sp), .int (nI pl), .int (nI tu), .int (nI fr), .int (nI nf), .ref k3, .ref k4, .ref k5, .ref k6, .ref k7, .ref k8])), (k1, aI E 9 w), (k2, aI E 5 aw), (k3, aI E 4 my), (k4, aI E 120 fe), (k5, aI E 44 be), (k6, aI E 4 sk), (k7, aI E 4 cl), (k8, aI E 40 ex)]) (Cn := RX5) (met_X5_no l E h0 k1 k2 k3 k4 k5 k6 k7 k8 (nI 0) g sp pl tu fr nf w aw my fe be sk cl ex 1) gX5_scoreOf_X5_no rfl 1 rfl ⟨rfl, rfl⟩ ⟨rfl, by decide +kernel, by decide +kernel, by decide +kernel⟩ ⟨Nat.le_of_ble_eq_true rfl, Nat.le_of_ble_eq_true rfl⟩ [0, 1, 2, 3, 4, 5, 6, 7, 8] [] [0, 1, 2, 3, 4, 5, 6, 7, 8] rfl (by decide) rfl (by decide) (by decide) rfl (by decide) 0 4 rfl rfl hl.1 rfl (Nat.le_of_ble_eq_true rfl) dX5_scoreOf_23 ⟨Nat.zero_le _, Nat.zero_le _⟩ (fun H locs hW => ?_)
    exact x_iret C hW rfl rfl rfl dX5_scoreOf_26
  · exact absurd c_1 hb

set_option maxHeartbeats 4000000 in
set_option maxRecDepth 100000 in
theorem met_X5_leader (l : Launch) (E : EV) (h0 k1 k2 k3 k4 k5 k6 k7 k8 : Nat) (x : Int32) (g sp pl tu fr nf : Nat) (w aw my fe be sk cl ex : Nat → Nat) (hpl : pl ≤ 4) (hfr : fr ≤ 10) (htu : tu < 4) (hmy : ∀ j, my j ≤ 30) (hfe : ∀ j, fe j ≤ 9) (hbe : ∀ j, be j ≤ 30) (hex : ∀ j, ex j ≤ 2) : MI l yX5_leader wsX5_leader { frames := 5, cells := 0, slots := 0, locals := 115 } E [.ref h0] [(h0, .inr (4, [.int x, .int (nI g), .ref k1, .ref k2, .int (nI sp), .int (nI pl), .int (nI tu), .int (nI fr), .int (nI nf), .ref k3, .ref k4, .ref k5, .ref k6, .ref k7, .ref k8])), (k1, aI E 9 w), (k2, aI E 5 aw), (k3, aI E 4 my), (k4, aI E 120 fe), (k5, aI E 44 be), (k6, aI E 4 sk), (k7, aI E 4 cl), (k8, aI E 40 ex)] (pinV (fiB (scT my fe be ex tu fr) pl)) [(h0, .inr (4, [.int (nI 0), .int (nI g), .ref k1, .ref k2, .int (nI sp), .int (nI pl), .int (nI tu), .int (nI fr), .int (nI nf), .ref k3, .ref k4, .ref k5, .ref k6, .ref k7, .ref k8])), (k1, aI E 9 w), (k2, aI E 5 aw), (k3, aI E 4 my), (k4, aI E 120 fe), (k5, aI E 44 be), (k6, aI E 4 sk), (k7, aI E 4 cl), (k8, aI E 40 ex)] := by
  refine sI (own := RX5) (cc := cX5_leader) (maxL := 1) (ret := (some .int)) rfl (by decide) rfl (Nat.le_of_ble_eq_true rfl) ?_
  intro p e s m below meth c C hnm ls hl hW
  have hl : lv_has ls 1 [(0, .ref h0)] := hl
  have hW : WD E _ s [(h0, .inr (4, [.int x, .int (nI g), .ref k1, .ref k2, .int (nI sp), .int (nI pl), .int (nI tu), .int (nI fr), .int (nI nf), .ref k3, .ref k4, .ref k5, .ref k6, .ref k7, .ref k8])), (k1, aI E 9 w), (k2, aI E 5 aw), (k3, aI E 4 my), (k4, aI E 120 fe), (k5, aI E 44 be), (k6, aI E 4 sk), (k7, aI E 4 cl), (k8, aI E 40 ex)] s.heap [] := hW
  refine lv_aload_n C.x C.b dX5_leader_0 rfl (lv_at hl 0 rfl) ?_
  refine lv_aload_n C.x C.b dX5_leader_1 rfl (lv_at hl 0 rfl) ?_
  refine x_cVI C hW (As := []) (rest := [.ref h0]) (wr := []) (wn := [(h0, .inr (4, [.int x, .int (nI g), .ref k1, .ref k2, .int (nI sp), .int (nI pl), .int (nI tu), .int (nI fr), .int (nI nf), .ref k3, .ref k4, .ref k5, .ref k6, .ref k7, .ref k8])), (k1, aI E 9 w), (k2, aI E 5 aw), (k3, aI E 4 my), (k4, aI E 120 fe), (k5, aI E 44 be), (k6, aI E 4 sk), (k7, aI E 4 cl), (k8, aI E 40 ex)]) (Cn := RX5) (met_X5_first l E h0 k1 k2 k3 k4 k5 k6 k7 k8 x g sp pl tu fr nf w aw my fe be sk cl ex (by omega) (by omega) (by omega) hmy hfe hbe hex) gX5_leader_X5_first rfl 0 rfl ⟨rfl, rfl⟩ ⟨rfl, by decide +kernel, by decide +kernel, by decide +kernel⟩ ⟨Nat.le_of_ble_eq_true rfl, Nat.le_of_ble_eq_true rfl⟩ [0, 1, 2, 3, 4, 5, 6, 7, 8] [] [0, 1, 2, 3, 4, 5, 6, 7, 8] rfl (by decide) rfl (by decide) (by decide) rfl (by decide) 0 4 rfl rfl hl.1 rfl (Nat.le_of_ble_eq_true rfl) dX5_leader_2 ⟨Nat.zero_le _, Nat.zero_le _⟩ (fun H locs hW => ?_)
  refine x_cVI C hW (As := [.int (pinV (fiB (scT my fe be ex tu fr) pl))]) (rest := []) (wr := []) (wn := [(h0, .inr (4, [.int (nI 0), .int (nI g), .ref k1, .ref k2, .int (nI sp), .int (nI pl), .int (nI tu), .int (nI fr), .int (nI nf), .ref k3, .ref k4, .ref k5, .ref k6, .ref k7, .ref k8])), (k1, aI E 9 w), (k2, aI E 5 aw), (k3, aI E 4 my), (k4, aI E 120 fe), (k5, aI E 44 be), (k6, aI E 4 sk), (k7, aI E 4 cl), (k8, aI E 40 ex)]) (Cn := RX5) (met_X5_ok l E h0 k1 k2 k3 k4 k5 k6 k7 k8 x g sp pl tu fr nf w aw my fe be sk cl ex (pinV (fiB (scT my fe be ex tu fr) pl))) gX5_leader_X5_ok rfl 1 rfl ⟨rfl, rfl⟩ ⟨rfl, by decide +kernel, by decide +kernel, by decide +kernel⟩ ⟨Nat.le_of_ble_eq_true rfl, Nat.le_of_ble_eq_true rfl⟩ [0, 1, 2, 3, 4, 5, 6, 7, 8] [] [0, 1, 2, 3, 4, 5, 6, 7, 8] rfl (by decide) rfl (by decide) (by decide) rfl (by decide) 0 4 rfl rfl hl.1 rfl (Nat.le_of_ble_eq_true rfl) dX5_leader_5 ⟨Nat.zero_le _, Nat.zero_le _⟩ (fun H locs hW => ?_)
  exact x_iret C hW rfl (by first | rfl | (simp []; done) | (rw [if_pos (by omega)]; done) | (rw [if_neg (by omega)]; done) | (exfalso; omega) | ((repeat' split) <;> first | rfl | contradiction | (exfalso; omega))) rfl dX5_leader_8

set_option maxHeartbeats 4000000 in
set_option maxRecDepth 100000 in
theorem met_X5_wouldFall_ok (l : Launch) (E : EV) (h0 k1 k2 k3 k4 k5 k6 k7 k8 : Nat) (x : Int32) (g sp pl tu fr nf : Nat) (w aw my fe be sk cl ex : Nat → Nat) (b z : Nat) (hb : b < 5) (hz : z < 5) (hg : g < 512) : MI l yX5_wouldFall wsX5_wouldFall { frames := 6, cells := 0, slots := 0, locals := 138 } E [.ref h0, .int (nI b), .int (nI z)] [(h0, .inr (4, [.int x, .int (nI g), .ref k1, .ref k2, .int (nI sp), .int (nI pl), .int (nI tu), .int (nI fr), .int (nI nf), .ref k3, .ref k4, .ref k5, .ref k6, .ref k7, .ref k8])), (k1, aI E 9 w), (k2, aI E 5 aw), (k3, aI E 4 my), (k4, aI E 120 fe), (k5, aI E 44 be), (k6, aI E 4 sk), (k7, aI E 4 cl), (k8, aI E 40 ex)] (nI (pcN (feN g b z))) [(h0, .inr (4, [.int (nI 0), .int (nI g), .ref k1, .ref k2, .int (nI sp), .int (nI pl), .int (nI tu), .int (nI fr), .int (nI nf), .ref k3, .ref k4, .ref k5, .ref k6, .ref k7, .ref k8])), (k1, aI E 9 w), (k2, aI E 5 aw), (k3, aI E 4 my), (k4, aI E 120 fe), (k5, aI E 44 be), (k6, aI E 4 sk), (k7, aI E 4 cl), (k8, aI E 40 ex)] := by
  refine sI (own := RX5) (cc := cX5_wouldFall) (maxL := 3) (ret := (some .int)) rfl (by decide) rfl (Nat.le_of_ble_eq_true rfl) ?_
  intro p e s m below meth c C hnm ls hl hW
  have hl : lv_has ls 3 [(0, .ref h0), (1, .int (nI b)), (2, .int (nI z))] := hl
  have hW : WD E _ s [(h0, .inr (4, [.int x, .int (nI g), .ref k1, .ref k2, .int (nI sp), .int (nI pl), .int (nI tu), .int (nI fr), .int (nI nf), .ref k3, .ref k4, .ref k5, .ref k6, .ref k7, .ref k8])), (k1, aI E 9 w), (k2, aI E 5 aw), (k3, aI E 4 my), (k4, aI E 120 fe), (k5, aI E 44 be), (k6, aI E 4 sk), (k7, aI E 4 cl), (k8, aI E 40 ex)] s.heap [] := hW
  have hinX5 : ∀ w ∈ u_ws RX5 TX5 15, w ∈ wsX5_wouldFall := by decide +kernel
  have hf41 : Cond.fieldLink RX5 41 (TX5 0).1 (TX5 0).2.1 (TX5 0).2.2.1 ∈ wsX5_wouldFall := by decide +kernel
  have hf9 : Cond.fieldLink RX5 9 (TX5 1).1 (TX5 1).2.1 (TX5 1).2.2.1 ∈ wsX5_wouldFall := by decide +kernel
  refine lv_aload_n C.x C.b dX5_wouldFall_0 rfl (lv_at hl 0 rfl) ?_
  refine lv_iconst (v := nI 0) C.x C.b dX5_wouldFall_1 (by decide) ?_
  refine x_put C hW 0 4 0 (Cn := RX5) (T := TX5) (N := 15) (w' := [(h0, .inr (4, [.int (nI 0), .int (nI g), .ref k1, .ref k2, .int (nI sp), .int (nI pl), .int (nI tu), .int (nI fr), .int (nI nf), .ref k3, .ref k4, .ref k5, .ref k6, .ref k7, .ref k8])), (k1, aI E 9 w), (k2, aI E 5 aw), (k3, aI E 4 my), (k4, aI E 120 fe), (k5, aI E 44 be), (k6, aI E 4 sk), (k7, aI E 4 cl), (k8, aI E 40 ex)]) tyX5 tyX5_ok nmX5 rfl rfl (by decide) hinX5 hf41 rfl (by decide +kernel) (Nat.le_of_ble_eq_true rfl) dX5_wouldFall_2 rfl (fun H locs hW => ?_)
  refine lv_iload_n C.x C.b dX5_wouldFall_5 rfl (lv_at hl 1 rfl) ?_
  refine lv_iload_n C.x C.b dX5_wouldFall_6 rfl (lv_at hl 2 rfl) ?_
  refine x_cSI C hW (As := [.int (nI b), .int (nI z)]) (rest := []) (wr := [(h0, .inr (4, [.int (nI 0), .int (nI g), .ref k1, .ref k2, .int (nI sp), .int (nI pl), .int (nI tu), .int (nI fr), .int (nI nf), .ref k3, .ref k4, .ref k5, .ref k6, .ref k7, .ref k8])), (k1, aI E 9 w), (k2, aI E 5 aw), (k3, aI E 4 my), (k4, aI E 120 fe), (k5, aI E 44 be), (k6, aI E 4 sk), (k7, aI E 4 cl), (k8, aI E 40 ex)]) (wn := [(h0, .inr (4, [.int (nI 0), .int (nI g), .ref k1, .ref k2, .int (nI sp), .int (nI pl), .int (nI tu), .int (nI fr), .int (nI nf), .ref k3, .ref k4, .ref k5, .ref k6, .ref k7, .ref k8])), (k1, aI E 9 w), (k2, aI E 5 aw), (k3, aI E 4 my), (k4, aI E 120 fe), (k5, aI E 44 be), (k6, aI E 4 sk), (k7, aI E 4 cl), (k8, aI E 40 ex)]) (met_X5_isThrow l E (nI b) (nI z)) gX5_wouldFall_X5_isThrow rfl 2 rfl ⟨rfl, rfl⟩ ⟨by decide +kernel, by decide +kernel, by decide +kernel⟩ ⟨Nat.le_of_ble_eq_true rfl, Nat.le_of_ble_eq_true rfl⟩ [] [0, 1, 2, 3, 4, 5, 6, 7, 8] [0, 1, 2, 3, 4, 5, 6, 7, 8] rfl (by decide) rfl (by decide) (by decide) rfl (by decide) hl.1 rfl (Nat.le_of_ble_eq_true rfl) dX5_wouldFall_7 ⟨Nat.zero_le _, Nat.zero_le _⟩ (fun H locs hW => ?_)
  refine x_ifb_eq C (tgt := 33) dX5_wouldFall_10 (by decide) (fun c_1 => ?_) (fun c_1 => ?_)
  · exact absurd ⟨z_inR (by omega) (by decide), z_inR (by omega) (by decide)⟩ c_1
  · refine lv_aload_n C.x C.b dX5_wouldFall_13 rfl (lv_at hl 0 rfl) ?_
    refine x_get C hW 0 4 1 (Cn := RX5) (T := TX5) (N := 15) rfl rfl (by decide) hinX5 hf9 rfl dX5_wouldFall_14 ?_
    refine lv_aload_n C.x C.b dX5_wouldFall_17 rfl (lv_at hl 0 rfl) ?_
    refine x_get C hW 0 4 1 (Cn := RX5) (T := TX5) (N := 15) rfl rfl (by decide) hinX5 hf9 rfl dX5_wouldFall_18 ?_
    refine lv_iload_n C.x C.b dX5_wouldFall_21 rfl (lv_at hl 1 rfl) ?_
    refine lv_iload_n C.x C.b dX5_wouldFall_22 rfl (lv_at hl 2 rfl) ?_
    refine x_cSI C hW (As := [.int (nI g), .int (nI b), .int (nI z)]) (rest := [.int (nI g)]) (wr := [(h0, .inr (4, [.int (nI 0), .int (nI g), .ref k1, .ref k2, .int (nI sp), .int (nI pl), .int (nI tu), .int (nI fr), .int (nI nf), .ref k3, .ref k4, .ref k5, .ref k6, .ref k7, .ref k8])), (k1, aI E 9 w), (k2, aI E 5 aw), (k3, aI E 4 my), (k4, aI E 120 fe), (k5, aI E 44 be), (k6, aI E 4 sk), (k7, aI E 4 cl), (k8, aI E 40 ex)]) (wn := [(h0, .inr (4, [.int (nI 0), .int (nI g), .ref k1, .ref k2, .int (nI sp), .int (nI pl), .int (nI tu), .int (nI fr), .int (nI nf), .ref k3, .ref k4, .ref k5, .ref k6, .ref k7, .ref k8])), (k1, aI E 9 w), (k2, aI E 5 aw), (k3, aI E 4 my), (k4, aI E 120 fe), (k5, aI E 44 be), (k6, aI E 4 sk), (k7, aI E 4 cl), (k8, aI E 40 ex)]) (met_X5_roll l E g b z (by omega) (by omega) (by omega)) gX5_wouldFall_X5_roll rfl 3 rfl ⟨rfl, rfl⟩ ⟨by decide +kernel, by decide +kernel, by decide +kernel⟩ ⟨Nat.le_of_ble_eq_true rfl, Nat.le_of_ble_eq_true rfl⟩ [] [0, 1, 2, 3, 4, 5, 6, 7, 8] [0, 1, 2, 3, 4, 5, 6, 7, 8] rfl (by decide) rfl (by decide) (by decide) rfl (by decide) hl.1 rfl (Nat.le_of_ble_eq_true rfl) dX5_wouldFall_23 ⟨Nat.zero_le _, Nat.zero_le _⟩ (fun H locs hW => ?_)
    refine lv_ixor C.x C.b dX5_wouldFall_26 ?_
    refine x_toi (y := nI (feN g b z)) ((z_xor _ _).trans (congrArg nI (fe_xor hg))) ?_
    refine x_cSI C hW (As := [.int (nI (feN g b z))]) (rest := []) (wr := [(h0, .inr (4, [.int (nI 0), .int (nI g), .ref k1, .ref k2, .int (nI sp), .int (nI pl), .int (nI tu), .int (nI fr), .int (nI nf), .ref k3, .ref k4, .ref k5, .ref k6, .ref k7, .ref k8])), (k1, aI E 9 w), (k2, aI E 5 aw), (k3, aI E 4 my), (k4, aI E 120 fe), (k5, aI E 44 be), (k6, aI E 4 sk), (k7, aI E 4 cl), (k8, aI E 40 ex)]) (wn := [(h0, .inr (4, [.int (nI 0), .int (nI g), .ref k1, .ref k2, .int (nI sp), .int (nI pl), .int (nI tu), .int (nI fr), .int (nI nf), .ref k3, .ref k4, .ref k5, .ref k6, .ref k7, .ref k8])), (k1, aI E 9 w), (k2, aI E 5 aw), (k3, aI E 4 my), (k4, aI E 120 fe), (k5, aI E 44 be), (k6, aI E 4 sk), (k7, aI E 4 cl), (k8, aI E 40 ex)]) (met_J6_bitCount_0f7a4 l E (feN g b z) (fe_lt hg)) gX5_wouldFall_J6_bitCount_0f7a4 rfl 1 rfl ⟨rfl, rfl⟩ ⟨by decide +kernel, by decide +kernel, by decide +kernel⟩ ⟨Nat.le_of_ble_eq_true rfl, Nat.le_of_ble_eq_true rfl⟩ [] [0, 1, 2, 3, 4, 5, 6, 7, 8] [0, 1, 2, 3, 4, 5, 6, 7, 8] rfl (by decide) rfl (by decide) (by decide) rfl (by decide) hl.1 rfl (Nat.le_of_ble_eq_true rfl) dX5_wouldFall_27 ⟨Nat.zero_le _, Nat.zero_le _⟩ (fun H locs hW => ?_)
    refine lv_goto (tgt := 38) C.x C.b dX5_wouldFall_30 (by decide) ?_
    exact x_iret C hW rfl rfl rfl dX5_wouldFall_38

set_option maxHeartbeats 4000000 in
set_option maxRecDepth 100000 in
theorem met_X5_wouldFall_bad (l : Launch) (E : EV) (h0 k1 k2 k3 k4 k5 k6 k7 k8 : Nat) (x : Int32) (g sp pl tu fr nf : Nat) (w aw my fe be sk cl ex : Nat → Nat) (v u : Int32) (hb : ¬ ((nI 0 ≤ v ∧ v ≤ nI 4) ∧ (nI 0 ≤ u ∧ u ≤ nI 4))) : MI l yX5_wouldFall wsX5_wouldFall { frames := 2, cells := 0, slots := 0, locals := 43 } E [.ref h0, .int v, .int u] [(h0, .inr (4, [.int x, .int (nI g), .ref k1, .ref k2, .int (nI sp), .int (nI pl), .int (nI tu), .int (nI fr), .int (nI nf), .ref k3, .ref k4, .ref k5, .ref k6, .ref k7, .ref k8])), (k1, aI E 9 w), (k2, aI E 5 aw), (k3, aI E 4 my), (k4, aI E 120 fe), (k5, aI E 44 be), (k6, aI E 4 sk), (k7, aI E 4 cl), (k8, aI E 40 ex)] (nI 0) [(h0, .inr (4, [.int (nI 1), .int (nI g), .ref k1, .ref k2, .int (nI sp), .int (nI pl), .int (nI tu), .int (nI fr), .int (nI nf), .ref k3, .ref k4, .ref k5, .ref k6, .ref k7, .ref k8])), (k1, aI E 9 w), (k2, aI E 5 aw), (k3, aI E 4 my), (k4, aI E 120 fe), (k5, aI E 44 be), (k6, aI E 4 sk), (k7, aI E 4 cl), (k8, aI E 40 ex)] := by
  refine sI (own := RX5) (cc := cX5_wouldFall) (maxL := 3) (ret := (some .int)) rfl (by decide) rfl (Nat.le_of_ble_eq_true rfl) ?_
  intro p e s m below meth c C hnm ls hl hW
  have hl : lv_has ls 3 [(0, .ref h0), (1, .int v), (2, .int u)] := hl
  have hW : WD E _ s [(h0, .inr (4, [.int x, .int (nI g), .ref k1, .ref k2, .int (nI sp), .int (nI pl), .int (nI tu), .int (nI fr), .int (nI nf), .ref k3, .ref k4, .ref k5, .ref k6, .ref k7, .ref k8])), (k1, aI E 9 w), (k2, aI E 5 aw), (k3, aI E 4 my), (k4, aI E 120 fe), (k5, aI E 44 be), (k6, aI E 4 sk), (k7, aI E 4 cl), (k8, aI E 40 ex)] s.heap [] := hW
  have hinX5 : ∀ w ∈ u_ws RX5 TX5 15, w ∈ wsX5_wouldFall := by decide +kernel
  have hf41 : Cond.fieldLink RX5 41 (TX5 0).1 (TX5 0).2.1 (TX5 0).2.2.1 ∈ wsX5_wouldFall := by decide +kernel
  refine lv_aload_n C.x C.b dX5_wouldFall_0 rfl (lv_at hl 0 rfl) ?_
  refine lv_iconst (v := nI 0) C.x C.b dX5_wouldFall_1 (by decide) ?_
  refine x_put C hW 0 4 0 (Cn := RX5) (T := TX5) (N := 15) (w' := [(h0, .inr (4, [.int (nI 0), .int (nI g), .ref k1, .ref k2, .int (nI sp), .int (nI pl), .int (nI tu), .int (nI fr), .int (nI nf), .ref k3, .ref k4, .ref k5, .ref k6, .ref k7, .ref k8])), (k1, aI E 9 w), (k2, aI E 5 aw), (k3, aI E 4 my), (k4, aI E 120 fe), (k5, aI E 44 be), (k6, aI E 4 sk), (k7, aI E 4 cl), (k8, aI E 40 ex)]) tyX5 tyX5_ok nmX5 rfl rfl (by decide) hinX5 hf41 rfl (by decide +kernel) (Nat.le_of_ble_eq_true rfl) dX5_wouldFall_2 rfl (fun H locs hW => ?_)
  refine lv_iload_n C.x C.b dX5_wouldFall_5 rfl (lv_at hl 1 rfl) ?_
  refine lv_iload_n C.x C.b dX5_wouldFall_6 rfl (lv_at hl 2 rfl) ?_
  refine x_cSI C hW (As := [.int v, .int u]) (rest := []) (wr := [(h0, .inr (4, [.int (nI 0), .int (nI g), .ref k1, .ref k2, .int (nI sp), .int (nI pl), .int (nI tu), .int (nI fr), .int (nI nf), .ref k3, .ref k4, .ref k5, .ref k6, .ref k7, .ref k8])), (k1, aI E 9 w), (k2, aI E 5 aw), (k3, aI E 4 my), (k4, aI E 120 fe), (k5, aI E 44 be), (k6, aI E 4 sk), (k7, aI E 4 cl), (k8, aI E 40 ex)]) (wn := [(h0, .inr (4, [.int (nI 0), .int (nI g), .ref k1, .ref k2, .int (nI sp), .int (nI pl), .int (nI tu), .int (nI fr), .int (nI nf), .ref k3, .ref k4, .ref k5, .ref k6, .ref k7, .ref k8])), (k1, aI E 9 w), (k2, aI E 5 aw), (k3, aI E 4 my), (k4, aI E 120 fe), (k5, aI E 44 be), (k6, aI E 4 sk), (k7, aI E 4 cl), (k8, aI E 40 ex)]) (met_X5_isThrow l E v u) gX5_wouldFall_X5_isThrow rfl 2 rfl ⟨rfl, rfl⟩ ⟨by decide +kernel, by decide +kernel, by decide +kernel⟩ ⟨Nat.le_of_ble_eq_true rfl, Nat.le_of_ble_eq_true rfl⟩ [] [0, 1, 2, 3, 4, 5, 6, 7, 8] [0, 1, 2, 3, 4, 5, 6, 7, 8] rfl (by decide) rfl (by decide) (by decide) rfl (by decide) hl.1 rfl (Nat.le_of_ble_eq_true rfl) dX5_wouldFall_7 ⟨Nat.zero_le _, Nat.zero_le _⟩ (fun H locs hW => ?_)
  refine x_ifb_eq C (tgt := 33) dX5_wouldFall_10 (by decide) (fun c_1 => ?_) (fun c_1 => ?_)
  · refine lv_aload_n C.x C.b dX5_wouldFall_33 rfl (lv_at hl 0 rfl) ?_
    refine lv_iconst (v := nI 1) C.x C.b dX5_wouldFall_34 (by decide) ?_
    refine x_cVI C hW (As := [.int (nI 1)]) (rest := []) (wr := []) (wn := [(h0, .inr (4, [.int (nI 1), .int (nI g), .ref k1, .ref k2, .int (nI sp), .int (nI pl), .int (nI tu), .int (nI fr), .int (nI nf), .ref k3, .ref k4, .ref k5, .ref k6, .ref k7, .ref k8])), (k1, aI E 9 w), (k2, aI E 5 aw), (k3, aI E 4 my), (k4, aI E 120 fe), (k5, aI E 44 be), (k6, aI E 4 sk), (k7, aI E 4 cl), (k8, aI E 40 ex)]) (Cn := RX5) (met_X5_no l E h0 k1 k2 k3 k4 k5 k6 k7 k8 (nI 0) g sp pl tu fr nf w aw my fe be sk cl ex 1) gX5_wouldFall_X5_no rfl 1 rfl ⟨rfl, rfl⟩ ⟨rfl, by decide +kernel, by decide +kernel, by decide +kernel⟩ ⟨Nat.le_of_ble_eq_true rfl, Nat.le_of_ble_eq_true rfl⟩ [0, 1, 2, 3, 4, 5, 6, 7, 8] [] [0, 1, 2, 3, 4, 5, 6, 7, 8] rfl (by decide) rfl (by decide) (by decide) rfl (by decide) 0 4 rfl rfl hl.1 rfl (Nat.le_of_ble_eq_true rfl) dX5_wouldFall_35 ⟨Nat.zero_le _, Nat.zero_le _⟩ (fun H locs hW => ?_)
    exact x_iret C hW rfl rfl rfl dX5_wouldFall_38
  · exact absurd c_1 hb

set_option maxHeartbeats 4000000 in
set_option maxRecDepth 100000 in
theorem met_X5_lastToFall_ok (l : Launch) (E : EV) (h0 k1 k2 k3 k4 k5 k6 k7 k8 : Nat) (x : Int32) (g sp pl tu fr nf : Nat) (w aw my fe be sk cl ex : Nat → Nat) (b z : Nat) (hb : b < 5) (hz : z < 5) (hg : g < 512) : MI l yX5_lastToFall wsX5_lastToFall { frames := 6, cells := 0, slots := 0, locals := 138 } E [.ref h0, .int (nI b), .int (nI z)] [(h0, .inr (4, [.int x, .int (nI g), .ref k1, .ref k2, .int (nI sp), .int (nI pl), .int (nI tu), .int (nI fr), .int (nI nf), .ref k3, .ref k4, .ref k5, .ref k6, .ref k7, .ref k8])), (k1, aI E 9 w), (k2, aI E 5 aw), (k3, aI E 4 my), (k4, aI E 120 fe), (k5, aI E 44 be), (k6, aI E 4 sk), (k7, aI E 4 cl), (k8, aI E 40 ex)] (laF (feN g b z) 9) [(h0, .inr (4, [.int (nI 0), .int (nI g), .ref k1, .ref k2, .int (nI sp), .int (nI pl), .int (nI tu), .int (nI fr), .int (nI nf), .ref k3, .ref k4, .ref k5, .ref k6, .ref k7, .ref k8])), (k1, aI E 9 w), (k2, aI E 5 aw), (k3, aI E 4 my), (k4, aI E 120 fe), (k5, aI E 44 be), (k6, aI E 4 sk), (k7, aI E 4 cl), (k8, aI E 40 ex)] := by
  refine sI (own := RX5) (cc := cX5_lastToFall) (maxL := 4) (ret := (some .int)) rfl (by decide) rfl (Nat.le_of_ble_eq_true rfl) ?_
  intro p e s m below meth c C hnm ls hl hW
  have hl : lv_has ls 4 [(0, .ref h0), (1, .int (nI b)), (2, .int (nI z))] := hl
  have hW : WD E _ s [(h0, .inr (4, [.int x, .int (nI g), .ref k1, .ref k2, .int (nI sp), .int (nI pl), .int (nI tu), .int (nI fr), .int (nI nf), .ref k3, .ref k4, .ref k5, .ref k6, .ref k7, .ref k8])), (k1, aI E 9 w), (k2, aI E 5 aw), (k3, aI E 4 my), (k4, aI E 120 fe), (k5, aI E 44 be), (k6, aI E 4 sk), (k7, aI E 4 cl), (k8, aI E 40 ex)] s.heap [] := hW
  have hinX5 : ∀ w ∈ u_ws RX5 TX5 15, w ∈ wsX5_lastToFall := by decide +kernel
  have hf41 : Cond.fieldLink RX5 41 (TX5 0).1 (TX5 0).2.1 (TX5 0).2.2.1 ∈ wsX5_lastToFall := by decide +kernel
  have hf9 : Cond.fieldLink RX5 9 (TX5 1).1 (TX5 1).2.1 (TX5 1).2.2.1 ∈ wsX5_lastToFall := by decide +kernel
  refine lv_aload_n C.x C.b dX5_lastToFall_0 rfl (lv_at hl 0 rfl) ?_
  refine lv_iconst (v := nI 0) C.x C.b dX5_lastToFall_1 (by decide) ?_
  refine x_put C hW 0 4 0 (Cn := RX5) (T := TX5) (N := 15) (w' := [(h0, .inr (4, [.int (nI 0), .int (nI g), .ref k1, .ref k2, .int (nI sp), .int (nI pl), .int (nI tu), .int (nI fr), .int (nI nf), .ref k3, .ref k4, .ref k5, .ref k6, .ref k7, .ref k8])), (k1, aI E 9 w), (k2, aI E 5 aw), (k3, aI E 4 my), (k4, aI E 120 fe), (k5, aI E 44 be), (k6, aI E 4 sk), (k7, aI E 4 cl), (k8, aI E 40 ex)]) tyX5 tyX5_ok nmX5 rfl rfl (by decide) hinX5 hf41 rfl (by decide +kernel) (Nat.le_of_ble_eq_true rfl) dX5_lastToFall_2 rfl (fun H locs hW => ?_)
  refine lv_iload_n C.x C.b dX5_lastToFall_5 rfl (lv_at hl 1 rfl) ?_
  refine lv_iload_n C.x C.b dX5_lastToFall_6 rfl (lv_at hl 2 rfl) ?_
  refine x_cSI C hW (As := [.int (nI b), .int (nI z)]) (rest := []) (wr := [(h0, .inr (4, [.int (nI 0), .int (nI g), .ref k1, .ref k2, .int (nI sp), .int (nI pl), .int (nI tu), .int (nI fr), .int (nI nf), .ref k3, .ref k4, .ref k5, .ref k6, .ref k7, .ref k8])), (k1, aI E 9 w), (k2, aI E 5 aw), (k3, aI E 4 my), (k4, aI E 120 fe), (k5, aI E 44 be), (k6, aI E 4 sk), (k7, aI E 4 cl), (k8, aI E 40 ex)]) (wn := [(h0, .inr (4, [.int (nI 0), .int (nI g), .ref k1, .ref k2, .int (nI sp), .int (nI pl), .int (nI tu), .int (nI fr), .int (nI nf), .ref k3, .ref k4, .ref k5, .ref k6, .ref k7, .ref k8])), (k1, aI E 9 w), (k2, aI E 5 aw), (k3, aI E 4 my), (k4, aI E 120 fe), (k5, aI E 44 be), (k6, aI E 4 sk), (k7, aI E 4 cl), (k8, aI E 40 ex)]) (met_X5_isThrow l E (nI b) (nI z)) gX5_lastToFall_X5_isThrow rfl 2 rfl ⟨rfl, rfl⟩ ⟨by decide +kernel, by decide +kernel, by decide +kernel⟩ ⟨Nat.le_of_ble_eq_true rfl, Nat.le_of_ble_eq_true rfl⟩ [] [0, 1, 2, 3, 4, 5, 6, 7, 8] [0, 1, 2, 3, 4, 5, 6, 7, 8] rfl (by decide) rfl (by decide) (by decide) rfl (by decide) hl.1 rfl (Nat.le_of_ble_eq_true rfl) dX5_lastToFall_7 ⟨Nat.zero_le _, Nat.zero_le _⟩ (fun H locs hW => ?_)
  refine x_ifb_ne C (tgt := 19) dX5_lastToFall_10 (by decide) (fun c_1 => ?_) (fun c_1 => ?_)
  · refine lv_aload_n C.x C.b dX5_lastToFall_19 rfl (lv_at hl 0 rfl) ?_
    refine x_get C hW 0 4 1 (Cn := RX5) (T := TX5) (N := 15) rfl rfl (by decide) hinX5 hf9 rfl dX5_lastToFall_20 ?_
    refine lv_aload_n C.x C.b dX5_lastToFall_23 rfl (lv_at hl 0 rfl) ?_
    refine x_get C hW 0 4 1 (Cn := RX5) (T := TX5) (N := 15) rfl rfl (by decide) hinX5 hf9 rfl dX5_lastToFall_24 ?_
    refine lv_iload_n C.x C.b dX5_lastToFall_27 rfl (lv_at hl 1 rfl) ?_
    refine lv_iload_n C.x C.b dX5_lastToFall_28 rfl (lv_at hl 2 rfl) ?_
    refine x_cSI C hW (As := [.int (nI g), .int (nI b), .int (nI z)]) (rest := [.int (nI g)]) (wr := [(h0, .inr (4, [.int (nI 0), .int (nI g), .ref k1, .ref k2, .int (nI sp), .int (nI pl), .int (nI tu), .int (nI fr), .int (nI nf), .ref k3, .ref k4, .ref k5, .ref k6, .ref k7, .ref k8])), (k1, aI E 9 w), (k2, aI E 5 aw), (k3, aI E 4 my), (k4, aI E 120 fe), (k5, aI E 44 be), (k6, aI E 4 sk), (k7, aI E 4 cl), (k8, aI E 40 ex)]) (wn := [(h0, .inr (4, [.int (nI 0), .int (nI g), .ref k1, .ref k2, .int (nI sp), .int (nI pl), .int (nI tu), .int (nI fr), .int (nI nf), .ref k3, .ref k4, .ref k5, .ref k6, .ref k7, .ref k8])), (k1, aI E 9 w), (k2, aI E 5 aw), (k3, aI E 4 my), (k4, aI E 120 fe), (k5, aI E 44 be), (k6, aI E 4 sk), (k7, aI E 4 cl), (k8, aI E 40 ex)]) (met_X5_roll l E g b z (by omega) (by omega) (by omega)) gX5_lastToFall_X5_roll rfl 3 rfl ⟨rfl, rfl⟩ ⟨by decide +kernel, by decide +kernel, by decide +kernel⟩ ⟨Nat.le_of_ble_eq_true rfl, Nat.le_of_ble_eq_true rfl⟩ [] [0, 1, 2, 3, 4, 5, 6, 7, 8] [0, 1, 2, 3, 4, 5, 6, 7, 8] rfl (by decide) rfl (by decide) (by decide) rfl (by decide) hl.1 rfl (Nat.le_of_ble_eq_true rfl) dX5_lastToFall_29 ⟨Nat.zero_le _, Nat.zero_le _⟩ (fun H locs hW => ?_)
    refine lv_ixor C.x C.b dX5_lastToFall_32 ?_
    refine x_toi (y := nI (feN g b z)) ((z_xor _ _).trans (congrArg nI (fe_xor hg))) ?_
    refine lv_istore_n (lv' := [(3, .int (nI (feN g b z))), (0, .ref h0), (1, .int (nI b)), (2, .int (nI z))]) C.x C.b dX5_lastToFall_33 rfl hl (by decide) rfl (fun ls hl => ?_)
    refine lv_iload_n C.x C.b dX5_lastToFall_34 rfl (lv_at hl 0 rfl) ?_
    refine x_if_ne C (by have := fe_lt (b := b) (z := z) hg; omega) (tgt := 42) dX5_lastToFall_35 (by decide) (fun c_2 => ?_) (fun c_2 => ?_)
    · refine lv_bipush (v := nI 31) C.x C.b dX5_lastToFall_42 (by decide) ?_
      refine lv_iload_n C.x C.b dX5_lastToFall_44 rfl (lv_at hl 0 rfl) ?_
      refine x_cSI C hW (As := [.int (nI (feN g b z))]) (rest := [.int (nI 31)]) (wr := [(h0, .inr (4, [.int (nI 0), .int (nI g), .ref k1, .ref k2, .int (nI sp), .int (nI pl), .int (nI tu), .int (nI fr), .int (nI nf), .ref k3, .ref k4, .ref k5, .ref k6, .ref k7, .ref k8])), (k1, aI E 9 w), (k2, aI E 5 aw), (k3, aI E 4 my), (k4, aI E 120 fe), (k5, aI E 44 be), (k6, aI E 4 sk), (k7, aI E 4 cl), (k8, aI E 40 ex)]) (wn := [(h0, .inr (4, [.int (nI 0), .int (nI g), .ref k1, .ref k2, .int (nI sp), .int (nI pl), .int (nI tu), .int (nI fr), .int (nI nf), .ref k3, .ref k4, .ref k5, .ref k6, .ref k7, .ref k8])), (k1, aI E 9 w), (k2, aI E 5 aw), (k3, aI E 4 my), (k4, aI E 120 fe), (k5, aI E 44 be), (k6, aI E 4 sk), (k7, aI E 4 cl), (k8, aI E 40 ex)]) (met_J6_numberOfLeadingZeros_0f7a4 l E (feN g b z) (fe_lt hg) (by assumption)) gX5_lastToFall_J6_numberOfLeadingZeros_0f7a4 rfl 1 rfl ⟨rfl, rfl⟩ ⟨by decide +kernel, by decide +kernel, by decide +kernel⟩ ⟨Nat.le_of_ble_eq_true rfl, Nat.le_of_ble_eq_true rfl⟩ [] [0, 1, 2, 3, 4, 5, 6, 7, 8] [0, 1, 2, 3, 4, 5, 6, 7, 8] rfl (by decide) rfl (by decide) (by decide) rfl (by decide) hl.1 rfl (Nat.le_of_ble_eq_true rfl) dX5_lastToFall_45 ⟨Nat.zero_le _, Nat.zero_le _⟩ (fun H locs hW => ?_)
      refine lv_isub C.x C.b dX5_lastToFall_48 ?_
      refine x_toi (y := nI (31 - nlN (feN g b z))) (pk_sub (by unfold nlN; (repeat' split) <;> decide)) ?_
      exact x_iret C hW rfl (by first | exact nl_la _ (fe_lt hg) (by assumption) | (have e0 : feN g b z = 0 := (by assumption); rw [e0, la_0])) rfl dX5_lastToFall_49
    · refine lv_iconst (v := (-1)) C.x C.b dX5_lastToFall_38 (by decide) ?_
      refine lv_goto (tgt := 49) C.x C.b dX5_lastToFall_39 (by decide) ?_
      exact x_iret C hW rfl (by first | exact nl_la _ (fe_lt hg) (by assumption) | (have e0 : feN g b z = 0 := (by assumption); rw [e0, la_0])) rfl dX5_lastToFall_49
  · exact absurd ⟨z_inR (by omega) (by decide), z_inR (by omega) (by decide)⟩ c_1

set_option maxHeartbeats 4000000 in
set_option maxRecDepth 100000 in
theorem met_X5_lastToFall_bad (l : Launch) (E : EV) (h0 k1 k2 k3 k4 k5 k6 k7 k8 : Nat) (x : Int32) (g sp pl tu fr nf : Nat) (w aw my fe be sk cl ex : Nat → Nat) (v u : Int32) (hb : ¬ ((nI 0 ≤ v ∧ v ≤ nI 4) ∧ (nI 0 ≤ u ∧ u ≤ nI 4))) : MI l yX5_lastToFall wsX5_lastToFall { frames := 2, cells := 0, slots := 0, locals := 43 } E [.ref h0, .int v, .int u] [(h0, .inr (4, [.int x, .int (nI g), .ref k1, .ref k2, .int (nI sp), .int (nI pl), .int (nI tu), .int (nI fr), .int (nI nf), .ref k3, .ref k4, .ref k5, .ref k6, .ref k7, .ref k8])), (k1, aI E 9 w), (k2, aI E 5 aw), (k3, aI E 4 my), (k4, aI E 120 fe), (k5, aI E 44 be), (k6, aI E 4 sk), (k7, aI E 4 cl), (k8, aI E 40 ex)] (nI 0) [(h0, .inr (4, [.int (nI 1), .int (nI g), .ref k1, .ref k2, .int (nI sp), .int (nI pl), .int (nI tu), .int (nI fr), .int (nI nf), .ref k3, .ref k4, .ref k5, .ref k6, .ref k7, .ref k8])), (k1, aI E 9 w), (k2, aI E 5 aw), (k3, aI E 4 my), (k4, aI E 120 fe), (k5, aI E 44 be), (k6, aI E 4 sk), (k7, aI E 4 cl), (k8, aI E 40 ex)] := by
  refine sI (own := RX5) (cc := cX5_lastToFall) (maxL := 4) (ret := (some .int)) rfl (by decide) rfl (Nat.le_of_ble_eq_true rfl) ?_
  intro p e s m below meth c C hnm ls hl hW
  have hl : lv_has ls 4 [(0, .ref h0), (1, .int v), (2, .int u)] := hl
  have hW : WD E _ s [(h0, .inr (4, [.int x, .int (nI g), .ref k1, .ref k2, .int (nI sp), .int (nI pl), .int (nI tu), .int (nI fr), .int (nI nf), .ref k3, .ref k4, .ref k5, .ref k6, .ref k7, .ref k8])), (k1, aI E 9 w), (k2, aI E 5 aw), (k3, aI E 4 my), (k4, aI E 120 fe), (k5, aI E 44 be), (k6, aI E 4 sk), (k7, aI E 4 cl), (k8, aI E 40 ex)] s.heap [] := hW
  have hinX5 : ∀ w ∈ u_ws RX5 TX5 15, w ∈ wsX5_lastToFall := by decide +kernel
  have hf41 : Cond.fieldLink RX5 41 (TX5 0).1 (TX5 0).2.1 (TX5 0).2.2.1 ∈ wsX5_lastToFall := by decide +kernel
  refine lv_aload_n C.x C.b dX5_lastToFall_0 rfl (lv_at hl 0 rfl) ?_
  refine lv_iconst (v := nI 0) C.x C.b dX5_lastToFall_1 (by decide) ?_
  refine x_put C hW 0 4 0 (Cn := RX5) (T := TX5) (N := 15) (w' := [(h0, .inr (4, [.int (nI 0), .int (nI g), .ref k1, .ref k2, .int (nI sp), .int (nI pl), .int (nI tu), .int (nI fr), .int (nI nf), .ref k3, .ref k4, .ref k5, .ref k6, .ref k7, .ref k8])), (k1, aI E 9 w), (k2, aI E 5 aw), (k3, aI E 4 my), (k4, aI E 120 fe), (k5, aI E 44 be), (k6, aI E 4 sk), (k7, aI E 4 cl), (k8, aI E 40 ex)]) tyX5 tyX5_ok nmX5 rfl rfl (by decide) hinX5 hf41 rfl (by decide +kernel) (Nat.le_of_ble_eq_true rfl) dX5_lastToFall_2 rfl (fun H locs hW => ?_)
  refine lv_iload_n C.x C.b dX5_lastToFall_5 rfl (lv_at hl 1 rfl) ?_
  refine lv_iload_n C.x C.b dX5_lastToFall_6 rfl (lv_at hl 2 rfl) ?_
  refine x_cSI C hW (As := [.int v, .int u]) (rest := []) (wr := [(h0, .inr (4, [.int (nI 0), .int (nI g), .ref k1, .ref k2, .int (nI sp), .int (nI pl), .int (nI tu), .int (nI fr), .int (nI nf), .ref k3, .ref k4, .ref k5, .ref k6, .ref k7, .ref k8])), (k1, aI E 9 w), (k2, aI E 5 aw), (k3, aI E 4 my), (k4, aI E 120 fe), (k5, aI E 44 be), (k6, aI E 4 sk), (k7, aI E 4 cl), (k8, aI E 40 ex)]) (wn := [(h0, .inr (4, [.int (nI 0), .int (nI g), .ref k1, .ref k2, .int (nI sp), .int (nI pl), .int (nI tu), .int (nI fr), .int (nI nf), .ref k3, .ref k4, .ref k5, .ref k6, .ref k7, .ref k8])), (k1, aI E 9 w), (k2, aI E 5 aw), (k3, aI E 4 my), (k4, aI E 120 fe), (k5, aI E 44 be), (k6, aI E 4 sk), (k7, aI E 4 cl), (k8, aI E 40 ex)]) (met_X5_isThrow l E v u) gX5_lastToFall_X5_isThrow rfl 2 rfl ⟨rfl, rfl⟩ ⟨by decide +kernel, by decide +kernel, by decide +kernel⟩ ⟨Nat.le_of_ble_eq_true rfl, Nat.le_of_ble_eq_true rfl⟩ [] [0, 1, 2, 3, 4, 5, 6, 7, 8] [0, 1, 2, 3, 4, 5, 6, 7, 8] rfl (by decide) rfl (by decide) (by decide) rfl (by decide) hl.1 rfl (Nat.le_of_ble_eq_true rfl) dX5_lastToFall_7 ⟨Nat.zero_le _, Nat.zero_le _⟩ (fun H locs hW => ?_)
  refine x_ifb_ne C (tgt := 19) dX5_lastToFall_10 (by decide) (fun c_1 => ?_) (fun c_1 => ?_)
  · exact absurd c_1 hb
  · refine lv_aload_n C.x C.b dX5_lastToFall_13 rfl (lv_at hl 0 rfl) ?_
    refine lv_iconst (v := nI 1) C.x C.b dX5_lastToFall_14 (by decide) ?_
    refine x_cVI C hW (As := [.int (nI 1)]) (rest := []) (wr := []) (wn := [(h0, .inr (4, [.int (nI 1), .int (nI g), .ref k1, .ref k2, .int (nI sp), .int (nI pl), .int (nI tu), .int (nI fr), .int (nI nf), .ref k3, .ref k4, .ref k5, .ref k6, .ref k7, .ref k8])), (k1, aI E 9 w), (k2, aI E 5 aw), (k3, aI E 4 my), (k4, aI E 120 fe), (k5, aI E 44 be), (k6, aI E 4 sk), (k7, aI E 4 cl), (k8, aI E 40 ex)]) (Cn := RX5) (met_X5_no l E h0 k1 k2 k3 k4 k5 k6 k7 k8 (nI 0) g sp pl tu fr nf w aw my fe be sk cl ex 1) gX5_lastToFall_X5_no rfl 1 rfl ⟨rfl, rfl⟩ ⟨rfl, by decide +kernel, by decide +kernel, by decide +kernel⟩ ⟨Nat.le_of_ble_eq_true rfl, Nat.le_of_ble_eq_true rfl⟩ [0, 1, 2, 3, 4, 5, 6, 7, 8] [] [0, 1, 2, 3, 4, 5, 6, 7, 8] rfl (by decide) rfl (by decide) (by decide) rfl (by decide) 0 4 rfl rfl hl.1 rfl (Nat.le_of_ble_eq_true rfl) dX5_lastToFall_15 ⟨Nat.zero_le _, Nat.zero_le _⟩ (fun H locs hW => ?_)
    exact x_iret C hW rfl rfl rfl dX5_lastToFall_18

set_option maxHeartbeats 4000000 in
set_option maxRecDepth 100000 in
theorem met_X5_best (l : Launch) (E : EV) (h0 k1 k2 k3 k4 k5 k6 k7 k8 : Nat) (x : Int32) (g sp pl tu fr nf : Nat) (w aw my fe be sk cl ex : Nat → Nat) (hg : g < 512) (ha : ∀ i, aw i ≤ 2) : MI l yX5_best wsX5_best { frames := 6, cells := 0, slots := 0, locals := 138 } E [.ref h0] [(h0, .inr (4, [.int x, .int (nI g), .ref k1, .ref k2, .int (nI sp), .int (nI pl), .int (nI tu), .int (nI fr), .int (nI nf), .ref k3, .ref k4, .ref k5, .ref k6, .ref k7, .ref k8])), (k1, aI E 9 w), (k2, aI E 5 aw), (k3, aI E 4 my), (k4, aI E 120 fe), (k5, aI E 44 be), (k6, aI E 4 sk), (k7, aI E 4 cl), (k8, aI E 40 ex)] ((beS g aw 5).1) [(h0, .inr (4, [.int x, .int (nI g), .ref k1, .ref k2, .int (nI sp), .int (nI pl), .int (nI tu), .int (nI fr), .int (nI nf), .ref k3, .ref k4, .ref k5, .ref k6, .ref k7, .ref k8])), (k1, aI E 9 w), (k2, aI E 5 aw), (k3, aI E 4 my), (k4, aI E 120 fe), (k5, aI E 44 be), (k6, aI E 4 sk), (k7, aI E 4 cl), (k8, aI E 40 ex)] := by
  refine sI (own := RX5) (cc := cX5_best) (maxL := 6) (ret := (some .int)) rfl (by decide) rfl (Nat.le_of_ble_eq_true rfl) ?_
  intro p e s m below meth c C hnm ls hl hW
  have hl : lv_has ls 6 [(0, .ref h0)] := hl
  have hW : WD E _ s [(h0, .inr (4, [.int x, .int (nI g), .ref k1, .ref k2, .int (nI sp), .int (nI pl), .int (nI tu), .int (nI fr), .int (nI nf), .ref k3, .ref k4, .ref k5, .ref k6, .ref k7, .ref k8])), (k1, aI E 9 w), (k2, aI E 5 aw), (k3, aI E 4 my), (k4, aI E 120 fe), (k5, aI E 44 be), (k6, aI E 4 sk), (k7, aI E 4 cl), (k8, aI E 40 ex)] s.heap [] := hW
  have hinX5 : ∀ w ∈ u_ws RX5 TX5 15, w ∈ wsX5_best := by decide +kernel
  have hf9 : Cond.fieldLink RX5 9 (TX5 1).1 (TX5 1).2.1 (TX5 1).2.2.1 ∈ wsX5_best := by decide +kernel
  have hf17 : Cond.fieldLink RX5 17 (TX5 3).1 (TX5 3).2.1 (TX5 3).2.2.1 ∈ wsX5_best := by decide +kernel
  refine lv_iconst (v := (-1)) C.x C.b dX5_best_0 (by decide) ?_
  refine lv_istore_n (lv' := [(1, .int ((-1 : Int32))), (0, .ref h0)]) C.x C.b dX5_best_1 rfl hl (by decide) rfl (fun ls hl => ?_)
  refine lv_iconst (v := (-1)) C.x C.b dX5_best_2 (by decide) ?_
  refine lv_istore_n (lv' := [(2, .int ((-1 : Int32))), (1, .int ((-1 : Int32))), (0, .ref h0)]) C.x C.b dX5_best_3 rfl hl (by decide) rfl (fun ls hl => ?_)
  refine lv_iconst (v := nI 0) C.x C.b dX5_best_4 (by decide) ?_
  refine lv_istore_n (lv' := [(3, .int (nI 0)), (2, .int ((-1 : Int32))), (1, .int ((-1 : Int32))), (0, .ref h0)]) C.x C.b dX5_best_5 rfl hl (by decide) rfl (fun ls hl => ?_)
  have lp_1 : ∀ (n1 b : Nat), b ≤ 5 → 5 + 1 ≤ b + n1 → ∀ (H : Heap) (locs : List Loc) (ls : Array Slot), WD E (va_A [(h0, .inr (4, [.int x, .int (nI g), .ref k1, .ref k2, .int (nI sp), .int (nI pl), .int (nI tu), .int (nI fr), .int (nI nf), .ref k3, .ref k4, .ref k5, .ref k6, .ref k7, .ref k8])), (k1, aI E 9 w), (k2, aI E 5 aw), (k3, aI E 4 my), (k4, aI E 120 fe), (k5, aI E 44 be), (k6, aI E 4 sk), (k7, aI E 4 cl), (k8, aI E 40 ex)] s.heap.size) s [(h0, .inr (4, [.int x, .int (nI g), .ref k1, .ref k2, .int (nI sp), .int (nI pl), .int (nI tu), .int (nI fr), .int (nI nf), .ref k3, .ref k4, .ref k5, .ref k6, .ref k7, .ref k8])), (k1, aI E 9 w), (k2, aI E 5 aw), (k3, aI E 4 my), (k4, aI E 120 fe), (k5, aI E 44 be), (k6, aI E 4 sk), (k7, aI E 4 cl), (k8, aI E 40 ex)] H locs → lv_has ls 6 [(3, .int (nI b)), (2, .int ((beS g aw b).2)), (1, .int ((beS g aw b).1)), (0, .ref h0)] → W p l e ({ frames := 6, cells := 0, slots := 0, locals := 138 } : Room) s m ([.ref h0] : List Value).toArray below meth c H locs 0 0 (QI E [(h0, .inr (4, [.int x, .int (nI g), .ref k1, .ref k2, .int (nI sp), .int (nI pl), .int (nI tu), .int (nI fr), .int (nI nf), .ref k3, .ref k4, .ref k5, .ref k6, .ref k7, .ref k8])), (k1, aI E 9 w), (k2, aI E 5 aw), (k3, aI E 4 my), (k4, aI E 120 fe), (k5, aI E 44 be), (k6, aI E 4 sk), (k7, aI E 4 cl), (k8, aI E 40 ex)] ((beS g aw 5).1) [(h0, .inr (4, [.int x, .int (nI g), .ref k1, .ref k2, .int (nI sp), .int (nI pl), .int (nI tu), .int (nI fr), .int (nI nf), .ref k3, .ref k4, .ref k5, .ref k6, .ref k7, .ref k8])), (k1, aI E 9 w), (k2, aI E 5 aw), (k3, aI E 4 my), (k4, aI E 120 fe), (k5, aI E 44 be), (k6, aI E 4 sk), (k7, aI E 4 cl), (k8, aI E 40 ex)] below ([.ref h0] : List Value).toArray s) (F0 m 6 ls []) := by
    intro n1
    induction n1 with
    | zero => intro b hb hn; exact absurd hn (by omega)
    | succ n1 ih1 =>
      intro b hb hn  H locs ls hW hl
      refine lv_iload_n C.x C.b dX5_best_6 rfl (lv_at hl 0 rfl) ?_
      refine lv_iconst (v := nI 5) C.x C.b dX5_best_7 (by decide) ?_
      refine x_icmp_ge C (by omega) (by omega) (tgt := 81) dX5_best_8 (by decide) (fun c_2 => ?_) (fun c_2 => ?_)
      · obtain rfl : b = 5 := by omega
        refine lv_iload_n C.x C.b dX5_best_81 rfl (lv_at hl 2 rfl) ?_
        exact x_iret C hW rfl rfl rfl dX5_best_82
      · refine lv_iconst (v := nI 0) C.x C.b dX5_best_11 (by decide) ?_
        refine lv_istore (lv' := [(4, .int (nI 0)), (3, .int (nI b)), (2, .int ((beS g aw b).2)), (1, .int ((beS g aw b).1)), (0, .ref h0)]) C.x C.b dX5_best_12 hl (by decide) rfl (fun ls hl => ?_)
        have lp_3 : ∀ (n3 z : Nat), z ≤ 5 → 5 + 1 ≤ z + n3 → (aw b = 0 ∨ z = 0) → ∀ (H : Heap) (locs : List Loc) (ls : Array Slot), WD E (va_A [(h0, .inr (4, [.int x, .int (nI g), .ref k1, .ref k2, .int (nI sp), .int (nI pl), .int (nI tu), .int (nI fr), .int (nI nf), .ref k3, .ref k4, .ref k5, .ref k6, .ref k7, .ref k8])), (k1, aI E 9 w), (k2, aI E 5 aw), (k3, aI E 4 my), (k4, aI E 120 fe), (k5, aI E 44 be), (k6, aI E 4 sk), (k7, aI E 4 cl), (k8, aI E 40 ex)] s.heap.size) s [(h0, .inr (4, [.int x, .int (nI g), .ref k1, .ref k2, .int (nI sp), .int (nI pl), .int (nI tu), .int (nI fr), .int (nI nf), .ref k3, .ref k4, .ref k5, .ref k6, .ref k7, .ref k8])), (k1, aI E 9 w), (k2, aI E 5 aw), (k3, aI E 4 my), (k4, aI E 120 fe), (k5, aI E 44 be), (k6, aI E 4 sk), (k7, aI E 4 cl), (k8, aI E 40 ex)] H locs → lv_has ls 6 [(4, .int (nI z)), (3, .int (nI b)), (2, .int ((bzS g b (beS g aw b) z).2)), (1, .int ((bzS g b (beS g aw b) z).1)), (0, .ref h0)] → W p l e ({ frames := 6, cells := 0, slots := 0, locals := 138 } : Room) s m ([.ref h0] : List Value).toArray below meth c H locs 0 0 (QI E [(h0, .inr (4, [.int x, .int (nI g), .ref k1, .ref k2, .int (nI sp), .int (nI pl), .int (nI tu), .int (nI fr), .int (nI nf), .ref k3, .ref k4, .ref k5, .ref k6, .ref k7, .ref k8])), (k1, aI E 9 w), (k2, aI E 5 aw), (k3, aI E 4 my), (k4, aI E 120 fe), (k5, aI E 44 be), (k6, aI E 4 sk), (k7, aI E 4 cl), (k8, aI E 40 ex)] ((beS g aw 5).1) [(h0, .inr (4, [.int x, .int (nI g), .ref k1, .ref k2, .int (nI sp), .int (nI pl), .int (nI tu), .int (nI fr), .int (nI nf), .ref k3, .ref k4, .ref k5, .ref k6, .ref k7, .ref k8])), (k1, aI E 9 w), (k2, aI E 5 aw), (k3, aI E 4 my), (k4, aI E 120 fe), (k5, aI E 44 be), (k6, aI E 4 sk), (k7, aI E 4 cl), (k8, aI E 40 ex)] below ([.ref h0] : List Value).toArray s) (F0 m 14 ls []) := by
          intro n3
          induction n3 with
          | zero => intro z hz hn; exact absurd hn (by omega)
          | succ n3 ih3 =>
            intro z hz hn haz H locs ls hW hl
            refine lv_iload C.x C.b dX5_best_14 (lv_at hl 0 rfl) ?_
            refine lv_iconst (v := nI 5) C.x C.b dX5_best_16 (by decide) ?_
            refine x_icmp_ge C (by omega) (by omega) (tgt := 75) dX5_best_17 (by decide) (fun c_4 => ?_) (fun c_4 => ?_)
            · refine lv_iinc (k := 1) (v := nI (b + 1)) (lv' := [(3, .int (nI (b + 1))), (4, .int (nI z)), (2, .int ((bzS g b (beS g aw b) z).2)), (1, .int ((bzS g b (beS g aw b) z).1)), (0, .ref h0)]) C.x C.b dX5_best_75 hl rfl (z_inc b 1) (by decide) rfl (fun ls hl => ?_)
              refine lv_goto (tgt := 6) C.x C.b dX5_best_78 (by decide) ?_
              exact ih1 (b + 1) (by omega) (by omega)  _ _ _ (hW.to rfl) (lv_to (lv_sub (l' := [(3, .int (nI (b + 1))), (2, .int ((bzS g b (beS g aw b) z).2)), (1, .int ((bzS g b (beS g aw b) z).1)), (0, .ref h0)]) hl [0, 2, 3, 4] rfl) (by first | (have e0 : aw b = 0 := (by omega); have e1 : z = 5 := (by omega); subst e1; rw [beS_y e0]; done) | (have e1 : z = 0 := (by omega); subst e1; rw [beS_n (by assumption)]; rfl)))
            · have h9 := ha b
              refine lv_aload_n C.x C.b dX5_best_20 rfl (lv_at hl 4 rfl) ?_
              refine x_get C hW 0 4 3 (Cn := RX5) (T := TX5) (N := 15) rfl rfl (by decide) hinX5 hf17 rfl dX5_best_21 ?_
              refine lv_iload_n C.x C.b dX5_best_24 rfl (lv_at hl 1 rfl) ?_
              refine x_ald C hW 2 b rfl rfl (by omega) (by decide) dX5_best_25 ?_
              refine x_if_ne C (by omega) (tgt := 75) dX5_best_26 (by decide) (fun c_5 => ?_) (fun c_5 => ?_)
              · refine lv_iinc (k := 1) (v := nI (b + 1)) (lv' := [(3, .int (nI (b + 1))), (4, .int (nI z)), (2, .int ((bzS g b (beS g aw b) z).2)), (1, .int ((bzS g b (beS g aw b) z).1)), (0, .ref h0)]) C.x C.b dX5_best_75 hl rfl (z_inc b 1) (by decide) rfl (fun ls hl => ?_)
                refine lv_goto (tgt := 6) C.x C.b dX5_best_78 (by decide) ?_
                exact ih1 (b + 1) (by omega) (by omega)  _ _ _ (hW.to rfl) (lv_to (lv_sub (l' := [(3, .int (nI (b + 1))), (2, .int ((bzS g b (beS g aw b) z).2)), (1, .int ((bzS g b (beS g aw b) z).1)), (0, .ref h0)]) hl [0, 2, 3, 4] rfl) (by first | (have e0 : aw b = 0 := (by omega); have e1 : z = 5 := (by omega); subst e1; rw [beS_y e0]; done) | (have e1 : z = 0 := (by omega); subst e1; rw [beS_n (by assumption)]; rfl)))
              · refine lv_aload_n C.x C.b dX5_best_29 rfl (lv_at hl 4 rfl) ?_
                refine x_get C hW 0 4 1 (Cn := RX5) (T := TX5) (N := 15) rfl rfl (by decide) hinX5 hf9 rfl dX5_best_30 ?_
                refine lv_aload_n C.x C.b dX5_best_33 rfl (lv_at hl 4 rfl) ?_
                refine x_get C hW 0 4 1 (Cn := RX5) (T := TX5) (N := 15) rfl rfl (by decide) hinX5 hf9 rfl dX5_best_34 ?_
                refine lv_iload_n C.x C.b dX5_best_37 rfl (lv_at hl 1 rfl) ?_
                refine lv_iload C.x C.b dX5_best_38 (lv_at hl 0 rfl) ?_
                refine x_cSI C hW (As := [.int (nI g), .int (nI b), .int (nI z)]) (rest := [.int (nI g)]) (wr := [(h0, .inr (4, [.int x, .int (nI g), .ref k1, .ref k2, .int (nI sp), .int (nI pl), .int (nI tu), .int (nI fr), .int (nI nf), .ref k3, .ref k4, .ref k5, .ref k6, .ref k7, .ref k8])), (k1, aI E 9 w), (k2, aI E 5 aw), (k3, aI E 4 my), (k4, aI E 120 fe), (k5, aI E 44 be), (k6, aI E 4 sk), (k7, aI E 4 cl), (k8, aI E 40 ex)]) (wn := [(h0, .inr (4, [.int x, .int (nI g), .ref k1, .ref k2, .int (nI sp), .int (nI pl), .int (nI tu), .int (nI fr), .int (nI nf), .ref k3, .ref k4, .ref k5, .ref k6, .ref k7, .ref k8])), (k1, aI E 9 w), (k2, aI E 5 aw), (k3, aI E 4 my), (k4, aI E 120 fe), (k5, aI E 44 be), (k6, aI E 4 sk), (k7, aI E 4 cl), (k8, aI E 40 ex)]) (met_X5_roll l E g b z (by omega) (by omega) (by omega)) gX5_best_X5_roll rfl 3 rfl ⟨rfl, rfl⟩ ⟨by decide +kernel, by decide +kernel, by decide +kernel⟩ ⟨Nat.le_of_ble_eq_true rfl, Nat.le_of_ble_eq_true rfl⟩ [] [0, 1, 2, 3, 4, 5, 6, 7, 8] [0, 1, 2, 3, 4, 5, 6, 7, 8] rfl (by decide) rfl (by decide) (by decide) rfl (by decide) hl.1 rfl (Nat.le_of_ble_eq_true rfl) dX5_best_40 ⟨Nat.zero_le _, Nat.zero_le _⟩ (fun H locs hW => ?_)
                refine lv_ixor C.x C.b dX5_best_43 ?_
                refine x_toi (y := nI (feN g b z)) ((z_xor _ _).trans (congrArg nI (fe_xor hg))) ?_
                refine x_cSI C hW (As := [.int (nI (feN g b z))]) (rest := []) (wr := [(h0, .inr (4, [.int x, .int (nI g), .ref k1, .ref k2, .int (nI sp), .int (nI pl), .int (nI tu), .int (nI fr), .int (nI nf), .ref k3, .ref k4, .ref k5, .ref k6, .ref k7, .ref k8])), (k1, aI E 9 w), (k2, aI E 5 aw), (k3, aI E 4 my), (k4, aI E 120 fe), (k5, aI E 44 be), (k6, aI E 4 sk), (k7, aI E 4 cl), (k8, aI E 40 ex)]) (wn := [(h0, .inr (4, [.int x, .int (nI g), .ref k1, .ref k2, .int (nI sp), .int (nI pl), .int (nI tu), .int (nI fr), .int (nI nf), .ref k3, .ref k4, .ref k5, .ref k6, .ref k7, .ref k8])), (k1, aI E 9 w), (k2, aI E 5 aw), (k3, aI E 4 my), (k4, aI E 120 fe), (k5, aI E 44 be), (k6, aI E 4 sk), (k7, aI E 4 cl), (k8, aI E 40 ex)]) (met_J6_bitCount_0f7a4 l E (feN g b z) (fe_lt hg)) gX5_best_J6_bitCount_0f7a4 rfl 1 rfl ⟨rfl, rfl⟩ ⟨by decide +kernel, by decide +kernel, by decide +kernel⟩ ⟨Nat.le_of_ble_eq_true rfl, Nat.le_of_ble_eq_true rfl⟩ [] [0, 1, 2, 3, 4, 5, 6, 7, 8] [0, 1, 2, 3, 4, 5, 6, 7, 8] rfl (by decide) rfl (by decide) (by decide) rfl (by decide) hl.1 rfl (Nat.le_of_ble_eq_true rfl) dX5_best_44 ⟨Nat.zero_le _, Nat.zero_le _⟩ (fun H locs hW => ?_)
                refine lv_istore (lv' := [(5, .int (nI (pcN (feN g b z)))), (4, .int (nI z)), (3, .int (nI b)), (2, .int ((bzS g b (beS g aw b) z).2)), (1, .int ((bzS g b (beS g aw b) z).1)), (0, .ref h0)]) C.x C.b dX5_best_47 hl (by decide) rfl (fun ls hl => ?_)
                refine lv_iload C.x C.b dX5_best_49 (lv_at hl 0 rfl) ?_
                refine lv_iload_n C.x C.b dX5_best_51 rfl (lv_at hl 3 rfl) ?_
                refine lv_icmp_gt C.x C.b (tgt := 58) dX5_best_52 (by decide) (fun c_6 => ?_) (fun c_6 => ?_)
                · have c_6 : (bzS g b (beS g aw b) z).2 < nI (pcN (feN g b z)) := c_6
                  refine lv_bipush (v := nI 10) C.x C.b dX5_best_58 (by decide) ?_
                  refine lv_iload_n C.x C.b dX5_best_60 rfl (lv_at hl 2 rfl) ?_
                  refine x_imul C dX5_best_61 ?_
                  refine lv_iload C.x C.b dX5_best_62 (lv_at hl 1 rfl) ?_
                  refine x_iadd C dX5_best_64 ?_
                  refine lv_istore_n (lv' := [(1, .int (nI ((10 * b) + z))), (5, .int (nI (pcN (feN g b z)))), (4, .int (nI z)), (3, .int (nI b)), (2, .int ((bzS g b (beS g aw b) z).2)), (0, .ref h0)]) C.x C.b dX5_best_65 rfl hl (by decide) rfl (fun ls hl => ?_)
                  refine lv_iload C.x C.b dX5_best_66 (lv_at hl 1 rfl) ?_
                  refine lv_istore_n (lv' := [(2, .int (nI (pcN (feN g b z)))), (1, .int (nI ((10 * b) + z))), (5, .int (nI (pcN (feN g b z)))), (4, .int (nI z)), (3, .int (nI b)), (0, .ref h0)]) C.x C.b dX5_best_68 rfl hl (by decide) rfl (fun ls hl => ?_)
                  refine lv_iinc (k := 3) (v := nI (z + 1)) (lv' := [(4, .int (nI (z + 1))), (2, .int (nI (pcN (feN g b z)))), (1, .int (nI ((10 * b) + z))), (5, .int (nI (pcN (feN g b z)))), (3, .int (nI b)), (0, .ref h0)]) C.x C.b dX5_best_69 hl rfl (z_inc z 1) (by decide) rfl (fun ls hl => ?_)
                  refine lv_goto (tgt := 14) C.x C.b dX5_best_72 (by decide) ?_
                  exact ih3 (z + 1) (by omega) (by omega) (Or.inl (by assumption)) _ _ _ (hW.to rfl) (lv_to (lv_sub (l' := [(4, .int (nI (z + 1))), (3, .int (nI b)), (2, .int (nI (pcN (feN g b z)))), (1, .int (nI ((10 * b) + z))), (0, .ref h0)]) hl [0, 4, 1, 2, 5] rfl) (by first | (rw [bzS_k (Int32.not_lt.mp (by assumption))]; done) | (rw [bzS_u (Int32.not_le.mpr (by assumption))]; done)))
                · have c_6 : ¬ ((bzS g b (beS g aw b) z).2 < nI (pcN (feN g b z))) := c_6
                  refine lv_goto (tgt := 69) C.x C.b dX5_best_55 (by decide) ?_
                  refine lv_iinc (k := 1) (v := nI (z + 1)) (lv' := [(4, .int (nI (z + 1))), (5, .int (nI (pcN (feN g b z)))), (3, .int (nI b)), (2, .int ((bzS g b (beS g aw b) z).2)), (1, .int ((bzS g b (beS g aw b) z).1)), (0, .ref h0)]) C.x C.b dX5_best_69 hl rfl (z_inc z 1) (by decide) rfl (fun ls hl => ?_)
                  refine lv_goto (tgt := 14) C.x C.b dX5_best_72 (by decide) ?_
                  exact ih3 (z + 1) (by omega) (by omega) (Or.inl (by assumption)) _ _ _ (hW.to rfl) (lv_to (lv_sub (l' := [(4, .int (nI (z + 1))), (3, .int (nI b)), (2, .int ((bzS g b (beS g aw b) z).2)), (1, .int ((bzS g b (beS g aw b) z).1)), (0, .ref h0)]) hl [0, 2, 3, 4, 5] rfl) (by first | (rw [bzS_k (Int32.not_lt.mp (by assumption))]; done) | (rw [bzS_u (Int32.not_le.mpr (by assumption))]; done)))
        exact lp_3 (5 + 1) 0 (by omega) (by omega) (Or.inr rfl) _ _ _ (hW.to rfl) (lv_to (lv_sub (l' := [(4, .int (nI 0)), (3, .int (nI b)), (2, .int ((beS g aw b).2)), (1, .int ((beS g aw b).1)), (0, .ref h0)]) hl [0, 1, 2, 3, 4] rfl) rfl)
  exact lp_1 (5 + 1) 0 (by omega) (by omega)  _ _ _ (hW.to rfl) (lv_to (lv_sub (l' := [(3, .int (nI 0)), (2, .int ((-1 : Int32))), (1, .int ((-1 : Int32))), (0, .ref h0)]) hl [0, 1, 2, 3] rfl) rfl)
