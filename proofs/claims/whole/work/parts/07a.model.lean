/-! THE REFERENCE, 1 -/
set_option maxHeartbeats 4000000 in
set_option maxRecDepth 100000 in
theorem met_X5_thrown (l : Launch) (E : EV) (h0 k1 k2 k3 k4 k5 k6 k7 k8 : Nat) (x : Int32) (g sp pl tu fr nf : Nat) (w aw my fe be sk cl ex : Nat → Nat)  : MI l yX5_thrown wsX5_thrown { frames := 0, cells := 0, slots := 0, locals := 0 } E [.ref h0] [(h0, .inr (4, [.int x, .int (nI g), .ref k1, .ref k2, .int (nI sp), .int (nI pl), .int (nI tu), .int (nI fr), .int (nI nf), .ref k3, .ref k4, .ref k5, .ref k6, .ref k7, .ref k8])), (k1, aI E 9 w), (k2, aI E 5 aw), (k3, aI E 4 my), (k4, aI E 120 fe), (k5, aI E 44 be), (k6, aI E 4 sk), (k7, aI E 4 cl), (k8, aI E 40 ex)] x [(h0, .inr (4, [.int x, .int (nI g), .ref k1, .ref k2, .int (nI sp), .int (nI pl), .int (nI tu), .int (nI fr), .int (nI nf), .ref k3, .ref k4, .ref k5, .ref k6, .ref k7, .ref k8])), (k1, aI E 9 w), (k2, aI E 5 aw), (k3, aI E 4 my), (k4, aI E 120 fe), (k5, aI E 44 be), (k6, aI E 4 sk), (k7, aI E 4 cl), (k8, aI E 40 ex)] := by
  refine sI (own := RX5) (cc := cX5_thrown) (maxL := 1) (ret := (some .int)) rfl (by decide) rfl (Nat.le_of_ble_eq_true rfl) ?_
  intro p e s m below meth c C hnm ls hl hW
  have hl : lv_has ls 1 [(0, .ref h0)] := hl
  have hW : WD E _ s [(h0, .inr (4, [.int x, .int (nI g), .ref k1, .ref k2, .int (nI sp), .int (nI pl), .int (nI tu), .int (nI fr), .int (nI nf), .ref k3, .ref k4, .ref k5, .ref k6, .ref k7, .ref k8])), (k1, aI E 9 w), (k2, aI E 5 aw), (k3, aI E 4 my), (k4, aI E 120 fe), (k5, aI E 44 be), (k6, aI E 4 sk), (k7, aI E 4 cl), (k8, aI E 40 ex)] s.heap [] := hW
  have hinX5 : ∀ w ∈ u_ws RX5 TX5 15, w ∈ wsX5_thrown := by decide +kernel
  have hf41 : Cond.fieldLink RX5 41 (TX5 0).1 (TX5 0).2.1 (TX5 0).2.2.1 ∈ wsX5_thrown := by decide +kernel
  refine lv_aload_n C.x C.b dX5_thrown_0 rfl (lv_at hl 0 rfl) ?_
  refine x_get C hW 0 4 0 (Cn := RX5) (T := TX5) (N := 15) rfl rfl (by decide) hinX5 hf41 rfl dX5_thrown_1 ?_
  exact x_iret C hW rfl rfl rfl dX5_thrown_4

set_option maxHeartbeats 4000000 in
set_option maxRecDepth 100000 in
theorem met_X5_no (l : Launch) (E : EV) (h0 k1 k2 k3 k4 k5 k6 k7 k8 : Nat) (x : Int32) (g sp pl tu fr nf : Nat) (w aw my fe be sk cl ex : Nat → Nat) (k : Nat)  : MI l yX5_no wsX5_no { frames := 0, cells := 0, slots := 0, locals := 0 } E [.ref h0, .int (nI k)] [(h0, .inr (4, [.int x, .int (nI g), .ref k1, .ref k2, .int (nI sp), .int (nI pl), .int (nI tu), .int (nI fr), .int (nI nf), .ref k3, .ref k4, .ref k5, .ref k6, .ref k7, .ref k8])), (k1, aI E 9 w), (k2, aI E 5 aw), (k3, aI E 4 my), (k4, aI E 120 fe), (k5, aI E 44 be), (k6, aI E 4 sk), (k7, aI E 4 cl), (k8, aI E 40 ex)] (nI 0) [(h0, .inr (4, [.int (nI k), .int (nI g), .ref k1, .ref k2, .int (nI sp), .int (nI pl), .int (nI tu), .int (nI fr), .int (nI nf), .ref k3, .ref k4, .ref k5, .ref k6, .ref k7, .ref k8])), (k1, aI E 9 w), (k2, aI E 5 aw), (k3, aI E 4 my), (k4, aI E 120 fe), (k5, aI E 44 be), (k6, aI E 4 sk), (k7, aI E 4 cl), (k8, aI E 40 ex)] := by
  refine sI (own := RX5) (cc := cX5_no) (maxL := 2) (ret := (some .int)) rfl (by decide) rfl (Nat.le_of_ble_eq_true rfl) ?_
  intro p e s m below meth c C hnm ls hl hW
  have hl : lv_has ls 2 [(0, .ref h0), (1, .int (nI k))] := hl
  have hW : WD E _ s [(h0, .inr (4, [.int x, .int (nI g), .ref k1, .ref k2, .int (nI sp), .int (nI pl), .int (nI tu), .int (nI fr), .int (nI nf), .ref k3, .ref k4, .ref k5, .ref k6, .ref k7, .ref k8])), (k1, aI E 9 w), (k2, aI E 5 aw), (k3, aI E 4 my), (k4, aI E 120 fe), (k5, aI E 44 be), (k6, aI E 4 sk), (k7, aI E 4 cl), (k8, aI E 40 ex)] s.heap [] := hW
  have hinX5 : ∀ w ∈ u_ws RX5 TX5 15, w ∈ wsX5_no := by decide +kernel
  have hf41 : Cond.fieldLink RX5 41 (TX5 0).1 (TX5 0).2.1 (TX5 0).2.2.1 ∈ wsX5_no := by decide +kernel
  refine lv_aload_n C.x C.b dX5_no_0 rfl (lv_at hl 0 rfl) ?_
  refine lv_iload_n C.x C.b dX5_no_1 rfl (lv_at hl 1 rfl) ?_
  refine x_put C hW 0 4 0 (Cn := RX5) (T := TX5) (N := 15) (w' := [(h0, .inr (4, [.int (nI k), .int (nI g), .ref k1, .ref k2, .int (nI sp), .int (nI pl), .int (nI tu), .int (nI fr), .int (nI nf), .ref k3, .ref k4, .ref k5, .ref k6, .ref k7, .ref k8])), (k1, aI E 9 w), (k2, aI E 5 aw), (k3, aI E 4 my), (k4, aI E 120 fe), (k5, aI E 44 be), (k6, aI E 4 sk), (k7, aI E 4 cl), (k8, aI E 40 ex)]) tyX5 tyX5_ok nmX5 rfl rfl (by decide) hinX5 hf41 rfl (by decide +kernel) (Nat.le_of_ble_eq_true rfl) dX5_no_2 rfl (fun H locs hW => ?_)
  refine lv_iconst (v := nI 0) C.x C.b dX5_no_5 (by decide) ?_
  exact x_iret C hW rfl rfl rfl dX5_no_6

set_option maxHeartbeats 4000000 in
set_option maxRecDepth 100000 in
theorem met_X5_isNot (l : Launch) (E : EV) (h0 k1 k2 k3 k4 k5 k6 k7 k8 : Nat) (x : Int32) (g sp pl tu fr nf : Nat) (w aw my fe be sk cl ex : Nat → Nat) (k : Nat)  : MI l yX5_isNot wsX5_isNot { frames := 0, cells := 0, slots := 0, locals := 0 } E [.ref h0, .int (nI k)] [(h0, .inr (4, [.int x, .int (nI g), .ref k1, .ref k2, .int (nI sp), .int (nI pl), .int (nI tu), .int (nI fr), .int (nI nf), .ref k3, .ref k4, .ref k5, .ref k6, .ref k7, .ref k8])), (k1, aI E 9 w), (k2, aI E 5 aw), (k3, aI E 4 my), (k4, aI E 120 fe), (k5, aI E 44 be), (k6, aI E 4 sk), (k7, aI E 4 cl), (k8, aI E 40 ex)] (nI 0) [(h0, .inr (4, [.int (nI k), .int (nI g), .ref k1, .ref k2, .int (nI sp), .int (nI pl), .int (nI tu), .int (nI fr), .int (nI nf), .ref k3, .ref k4, .ref k5, .ref k6, .ref k7, .ref k8])), (k1, aI E 9 w), (k2, aI E 5 aw), (k3, aI E 4 my), (k4, aI E 120 fe), (k5, aI E 44 be), (k6, aI E 4 sk), (k7, aI E 4 cl), (k8, aI E 40 ex)] := by
  refine sI (own := RX5) (cc := cX5_isNot) (maxL := 2) (ret := (some .boolean)) rfl (by decide) rfl (Nat.le_of_ble_eq_true rfl) ?_
  intro p e s m below meth c C hnm ls hl hW
  have hl : lv_has ls 2 [(0, .ref h0), (1, .int (nI k))] := hl
  have hW : WD E _ s [(h0, .inr (4, [.int x, .int (nI g), .ref k1, .ref k2, .int (nI sp), .int (nI pl), .int (nI tu), .int (nI fr), .int (nI nf), .ref k3, .ref k4, .ref k5, .ref k6, .ref k7, .ref k8])), (k1, aI E 9 w), (k2, aI E 5 aw), (k3, aI E 4 my), (k4, aI E 120 fe), (k5, aI E 44 be), (k6, aI E 4 sk), (k7, aI E 4 cl), (k8, aI E 40 ex)] s.heap [] := hW
  have hinX5 : ∀ w ∈ u_ws RX5 TX5 15, w ∈ wsX5_isNot := by decide +kernel
  have hf41 : Cond.fieldLink RX5 41 (TX5 0).1 (TX5 0).2.1 (TX5 0).2.2.1 ∈ wsX5_isNot := by decide +kernel
  refine lv_aload_n C.x C.b dX5_isNot_0 rfl (lv_at hl 0 rfl) ?_
  refine lv_iload_n C.x C.b dX5_isNot_1 rfl (lv_at hl 1 rfl) ?_
  refine x_put C hW 0 4 0 (Cn := RX5) (T := TX5) (N := 15) (w' := [(h0, .inr (4, [.int (nI k), .int (nI g), .ref k1, .ref k2, .int (nI sp), .int (nI pl), .int (nI tu), .int (nI fr), .int (nI nf), .ref k3, .ref k4, .ref k5, .ref k6, .ref k7, .ref k8])), (k1, aI E 9 w), (k2, aI E 5 aw), (k3, aI E 4 my), (k4, aI E 120 fe), (k5, aI E 44 be), (k6, aI E 4 sk), (k7, aI E 4 cl), (k8, aI E 40 ex)]) tyX5 tyX5_ok nmX5 rfl rfl (by decide) hinX5 hf41 rfl (by decide +kernel) (Nat.le_of_ble_eq_true rfl) dX5_isNot_2 rfl (fun H locs hW => ?_)
  refine lv_iconst (v := nI 0) C.x C.b dX5_isNot_5 (by decide) ?_
  exact x_iret C hW (by first | rfl | exact z_narb _) rfl rfl dX5_isNot_6

set_option maxHeartbeats 4000000 in
set_option maxRecDepth 100000 in
theorem met_X5_ok (l : Launch) (E : EV) (h0 k1 k2 k3 k4 k5 k6 k7 k8 : Nat) (x : Int32) (g sp pl tu fr nf : Nat) (w aw my fe be sk cl ex : Nat → Nat) (v : Int32)  : MI l yX5_ok wsX5_ok { frames := 0, cells := 0, slots := 0, locals := 0 } E [.ref h0, .int v] [(h0, .inr (4, [.int x, .int (nI g), .ref k1, .ref k2, .int (nI sp), .int (nI pl), .int (nI tu), .int (nI fr), .int (nI nf), .ref k3, .ref k4, .ref k5, .ref k6, .ref k7, .ref k8])), (k1, aI E 9 w), (k2, aI E 5 aw), (k3, aI E 4 my), (k4, aI E 120 fe), (k5, aI E 44 be), (k6, aI E 4 sk), (k7, aI E 4 cl), (k8, aI E 40 ex)] v [(h0, .inr (4, [.int (nI 0), .int (nI g), .ref k1, .ref k2, .int (nI sp), .int (nI pl), .int (nI tu), .int (nI fr), .int (nI nf), .ref k3, .ref k4, .ref k5, .ref k6, .ref k7, .ref k8])), (k1, aI E 9 w), (k2, aI E 5 aw), (k3, aI E 4 my), (k4, aI E 120 fe), (k5, aI E 44 be), (k6, aI E 4 sk), (k7, aI E 4 cl), (k8, aI E 40 ex)] := by
  refine sI (own := RX5) (cc := cX5_ok) (maxL := 2) (ret := (some .int)) rfl (by decide) rfl (Nat.le_of_ble_eq_true rfl) ?_
  intro p e s m below meth c C hnm ls hl hW
  have hl : lv_has ls 2 [(0, .ref h0), (1, .int v)] := hl
  have hW : WD E _ s [(h0, .inr (4, [.int x, .int (nI g), .ref k1, .ref k2, .int (nI sp), .int (nI pl), .int (nI tu), .int (nI fr), .int (nI nf), .ref k3, .ref k4, .ref k5, .ref k6, .ref k7, .ref k8])), (k1, aI E 9 w), (k2, aI E 5 aw), (k3, aI E 4 my), (k4, aI E 120 fe), (k5, aI E 44 be), (k6, aI E 4 sk), (k7, aI E 4 cl), (k8, aI E 40 ex)] s.heap [] := hW
  have hinX5 : ∀ w ∈ u_ws RX5 TX5 15, w ∈ wsX5_ok := by decide +kernel
  have hf41 : Cond.fieldLink RX5 41 (TX5 0).1 (TX5 0).2.1 (TX5 0).2.2.1 ∈ wsX5_ok := by decide +kernel
  refine lv_aload_n C.x C.b dX5_ok_0 rfl (lv_at hl 0 rfl) ?_
  refine lv_iconst (v := nI 0) C.x C.b dX5_ok_1 (by decide) ?_
  refine x_put C hW 0 4 0 (Cn := RX5) (T := TX5) (N := 15) (w' := [(h0, .inr (4, [.int (nI 0), .int (nI g), .ref k1, .ref k2, .int (nI sp), .int (nI pl), .int (nI tu), .int (nI fr), .int (nI nf), .ref k3, .ref k4, .ref k5, .ref k6, .ref k7, .ref k8])), (k1, aI E 9 w), (k2, aI E 5 aw), (k3, aI E 4 my), (k4, aI E 120 fe), (k5, aI E 44 be), (k6, aI E 4 sk), (k7, aI E 4 cl), (k8, aI E 40 ex)]) tyX5 tyX5_ok nmX5 rfl rfl (by decide) hinX5 hf41 rfl (by decide +kernel) (Nat.le_of_ble_eq_true rfl) dX5_ok_2 rfl (fun H locs hW => ?_)
  refine lv_iload_n C.x C.b dX5_ok_5 rfl (lv_at hl 1 rfl) ?_
  exact x_iret C hW rfl rfl rfl dX5_ok_6

set_option maxHeartbeats 4000000 in
set_option maxRecDepth 100000 in
theorem met_X5_isIn (l : Launch) (E : EV) (v lo hi : Int32)  : MI l yX5_isIn wsX5_isIn { frames := 0, cells := 0, slots := 0, locals := 0 } E [.int v, .int lo, .int hi] [] (nI (if lo ≤ v ∧ v ≤ hi then 1 else 0)) [] := by
  refine sI (own := RX5) (cc := cX5_isIn) (maxL := 3) (ret := (some .boolean)) rfl (by decide) rfl (Nat.le_of_ble_eq_true rfl) ?_
  intro p e s m below meth c C hnm ls hl hW
  have hl : lv_has ls 3 [(0, .int v), (1, .int lo), (2, .int hi)] := hl
  have hW : WD E _ s [] s.heap [] := hW
  refine lv_iload_n C.x C.b dX5_isIn_0 rfl (lv_at hl 0 rfl) ?_
  refine lv_iload_n C.x C.b dX5_isIn_1 rfl (lv_at hl 1 rfl) ?_
  refine lv_icmp_lt C.x C.b (tgt := 14) dX5_isIn_2 (by decide) (fun c_1 => ?_) (fun c_1 => ?_)
  · have c_1 : v < lo := c_1
    refine lv_iconst (v := nI 0) C.x C.b dX5_isIn_14 (by decide) ?_
    exact x_iret C hW (by first | rfl | exact z_narb _) (by first | (rw [if_pos ⟨Int32.not_lt.mp c_1, Int32.not_lt.mp c_2⟩]; done) | (rw [if_neg (fun q => absurd c_1 (Int32.not_lt.mpr q.1))]; done) | (rw [if_neg (fun q => absurd c_2 (Int32.not_lt.mpr q.2))]; done)) rfl dX5_isIn_15
  · have c_1 : ¬ (v < lo) := c_1
    refine lv_iload_n C.x C.b dX5_isIn_5 rfl (lv_at hl 0 rfl) ?_
    refine lv_iload_n C.x C.b dX5_isIn_6 rfl (lv_at hl 2 rfl) ?_
    refine lv_icmp_gt C.x C.b (tgt := 14) dX5_isIn_7 (by decide) (fun c_2 => ?_) (fun c_2 => ?_)
    · have c_2 : hi < v := c_2
      refine lv_iconst (v := nI 0) C.x C.b dX5_isIn_14 (by decide) ?_
      exact x_iret C hW (by first | rfl | exact z_narb _) (by first | (rw [if_pos ⟨Int32.not_lt.mp c_1, Int32.not_lt.mp c_2⟩]; done) | (rw [if_neg (fun q => absurd c_1 (Int32.not_lt.mpr q.1))]; done) | (rw [if_neg (fun q => absurd c_2 (Int32.not_lt.mpr q.2))]; done)) rfl dX5_isIn_15
    · have c_2 : ¬ (hi < v) := c_2
      refine lv_iconst (v := nI 1) C.x C.b dX5_isIn_10 (by decide) ?_
      refine lv_goto (tgt := 15) C.x C.b dX5_isIn_11 (by decide) ?_
      exact x_iret C hW (by first | rfl | exact z_narb _) (by first | (rw [if_pos ⟨Int32.not_lt.mp c_1, Int32.not_lt.mp c_2⟩]; done) | (rw [if_neg (fun q => absurd c_1 (Int32.not_lt.mpr q.1))]; done) | (rw [if_neg (fun q => absurd c_2 (Int32.not_lt.mpr q.2))]; done)) rfl dX5_isIn_15

set_option maxHeartbeats 4000000 in
set_option maxRecDepth 100000 in
theorem met_X5_isPin (l : Launch) (E : EV) (v : Int32)  : MI l yX5_isPin wsX5_isPin { frames := 1, cells := 0, slots := 0, locals := 22 } E [.int v] [] (nI (if nI 0 ≤ v ∧ v ≤ nI 8 then 1 else 0)) [] := by
  refine sI (own := RX5) (cc := cX5_isPin) (maxL := 1) (ret := (some .boolean)) rfl (by decide) rfl (Nat.le_of_ble_eq_true rfl) ?_
  intro p e s m below meth c C hnm ls hl hW
  have hl : lv_has ls 1 [(0, .int v)] := hl
  have hW : WD E _ s [] s.heap [] := hW
  refine lv_iload_n C.x C.b dX5_isPin_0 rfl (lv_at hl 0 rfl) ?_
  refine lv_iconst (v := nI 0) C.x C.b dX5_isPin_1 (by decide) ?_
  refine lv_bipush (v := nI 8) C.x C.b dX5_isPin_2 (by decide) ?_
  refine x_cSI C hW (As := [.int v, .int (nI 0), .int (nI 8)]) (rest := []) (wr := []) (wn := []) (met_X5_isIn l E v (nI 0) (nI 8)) gX5_isPin_X5_isIn rfl 3 rfl ⟨rfl, rfl⟩ ⟨by decide +kernel, by decide +kernel, by decide +kernel⟩ ⟨Nat.le_of_ble_eq_true rfl, Nat.le_of_ble_eq_true rfl⟩ [] [] [] rfl (by decide) rfl (by decide) (by decide) rfl (by decide) hl.1 rfl (Nat.le_of_ble_eq_true rfl) dX5_isPin_4 ⟨Nat.zero_le _, Nat.zero_le _⟩ (fun H locs hW => ?_)
  exact x_iret C hW (by first | rfl | exact z_narb _) (by first | rfl | (simp []; done) | (rw [if_pos (by omega)]; done) | (rw [if_neg (by omega)]; done) | (exfalso; omega) | ((repeat' split) <;> first | rfl | contradiction | (exfalso; omega))) rfl dX5_isPin_7

set_option maxHeartbeats 4000000 in
set_option maxRecDepth 100000 in
theorem met_X5_isThrow (l : Launch) (E : EV) (v u : Int32)  : MI l yX5_isThrow wsX5_isThrow { frames := 1, cells := 0, slots := 0, locals := 22 } E [.int v, .int u] [] (nI (if (nI 0 ≤ v ∧ v ≤ nI 4) ∧ (nI 0 ≤ u ∧ u ≤ nI 4) then 1 else 0)) [] := by
  refine sI (own := RX5) (cc := cX5_isThrow) (maxL := 2) (ret := (some .boolean)) rfl (by decide) rfl (Nat.le_of_ble_eq_true rfl) ?_
  intro p e s m below meth c C hnm ls hl hW
  have hl : lv_has ls 2 [(0, .int v), (1, .int u)] := hl
  have hW : WD E _ s [] s.heap [] := hW
  refine lv_iload_n C.x C.b dX5_isThrow_0 rfl (lv_at hl 0 rfl) ?_
  refine lv_iconst (v := nI 0) C.x C.b dX5_isThrow_1 (by decide) ?_
  refine lv_iconst (v := nI 4) C.x C.b dX5_isThrow_2 (by decide) ?_
  refine x_cSI C hW (As := [.int v, .int (nI 0), .int (nI 4)]) (rest := []) (wr := []) (wn := []) (met_X5_isIn l E v (nI 0) (nI 4)) gX5_isThrow_X5_isIn rfl 3 rfl ⟨rfl, rfl⟩ ⟨by decide +kernel, by decide +kernel, by decide +kernel⟩ ⟨Nat.le_of_ble_eq_true rfl, Nat.le_of_ble_eq_true rfl⟩ [] [] [] rfl (by decide) rfl (by decide) (by decide) rfl (by decide) hl.1 rfl (Nat.le_of_ble_eq_true rfl) dX5_isThrow_3 ⟨Nat.zero_le _, Nat.zero_le _⟩ (fun H locs hW => ?_)
  refine x_ifb_eq C (tgt := 22) dX5_isThrow_6 (by decide) (fun c_1 => ?_) (fun c_1 => ?_)
  · refine lv_iconst (v := nI 0) C.x C.b dX5_isThrow_22 (by decide) ?_
    exact x_iret C hW (by first | rfl | exact z_narb _) (by first | (rw [if_pos (by assumption)]; done) | (rw [if_pos ⟨by assumption, by assumption⟩]; done) | (rw [if_neg (by assumption)]; done) | (rw [if_neg (fun q => absurd q.1 (by assumption))]; done) | (rw [if_neg (fun q => absurd q.2 (by assumption))]; done)) rfl dX5_isThrow_23
  · refine lv_iload_n C.x C.b dX5_isThrow_9 rfl (lv_at hl 1 rfl) ?_
    refine lv_iconst (v := nI 0) C.x C.b dX5_isThrow_10 (by decide) ?_
    refine lv_iconst (v := nI 4) C.x C.b dX5_isThrow_11 (by decide) ?_
    refine x_cSI C hW (As := [.int u, .int (nI 0), .int (nI 4)]) (rest := []) (wr := []) (wn := []) (met_X5_isIn l E u (nI 0) (nI 4)) gX5_isThrow_X5_isIn rfl 3 rfl ⟨rfl, rfl⟩ ⟨by decide +kernel, by decide +kernel, by decide +kernel⟩ ⟨Nat.le_of_ble_eq_true rfl, Nat.le_of_ble_eq_true rfl⟩ [] [] [] rfl (by decide) rfl (by decide) (by decide) rfl (by decide) hl.1 rfl (Nat.le_of_ble_eq_true rfl) dX5_isThrow_12 ⟨Nat.zero_le _, Nat.zero_le _⟩ (fun H locs hW => ?_)
    refine x_ifb_eq C (tgt := 22) dX5_isThrow_15 (by decide) (fun c_2 => ?_) (fun c_2 => ?_)
    · refine lv_iconst (v := nI 0) C.x C.b dX5_isThrow_22 (by decide) ?_
      exact x_iret C hW (by first | rfl | exact z_narb _) (by first | (rw [if_pos (by assumption)]; done) | (rw [if_pos ⟨by assumption, by assumption⟩]; done) | (rw [if_neg (by assumption)]; done) | (rw [if_neg (fun q => absurd q.1 (by assumption))]; done) | (rw [if_neg (fun q => absurd q.2 (by assumption))]; done)) rfl dX5_isThrow_23
    · refine lv_iconst (v := nI 1) C.x C.b dX5_isThrow_18 (by decide) ?_
      refine lv_goto (tgt := 23) C.x C.b dX5_isThrow_19 (by decide) ?_
      exact x_iret C hW (by first | rfl | exact z_narb _) (by first | (rw [if_pos (by assumption)]; done) | (rw [if_pos ⟨by assumption, by assumption⟩]; done) | (rw [if_neg (by assumption)]; done) | (rw [if_neg (fun q => absurd q.1 (by assumption))]; done) | (rw [if_neg (fun q => absurd q.2 (by assumption))]; done)) rfl dX5_isThrow_23

set_option maxHeartbeats 4000000 in
set_option maxRecDepth 100000 in
theorem met_X5_isPlayer (l : Launch) (E : EV) (h0 k1 k2 k3 k4 k5 k6 k7 k8 : Nat) (x : Int32) (g sp pl tu fr nf : Nat) (w aw my fe be sk cl ex : Nat → Nat) (v : Int32)  : MI l yX5_isPlayer wsX5_isPlayer { frames := 1, cells := 0, slots := 0, locals := 22 } E [.ref h0, .int v] [(h0, .inr (4, [.int x, .int (nI g), .ref k1, .ref k2, .int (nI sp), .int (nI pl), .int (nI tu), .int (nI fr), .int (nI nf), .ref k3, .ref k4, .ref k5, .ref k6, .ref k7, .ref k8])), (k1, aI E 9 w), (k2, aI E 5 aw), (k3, aI E 4 my), (k4, aI E 120 fe), (k5, aI E 44 be), (k6, aI E 4 sk), (k7, aI E 4 cl), (k8, aI E 40 ex)] (nI (if nI 0 ≤ v ∧ v ≤ nI pl - nI 1 then 1 else 0)) [(h0, .inr (4, [.int x, .int (nI g), .ref k1, .ref k2, .int (nI sp), .int (nI pl), .int (nI tu), .int (nI fr), .int (nI nf), .ref k3, .ref k4, .ref k5, .ref k6, .ref k7, .ref k8])), (k1, aI E 9 w), (k2, aI E 5 aw), (k3, aI E 4 my), (k4, aI E 120 fe), (k5, aI E 44 be), (k6, aI E 4 sk), (k7, aI E 4 cl), (k8, aI E 40 ex)] := by
  refine sI (own := RX5) (cc := cX5_isPlayer) (maxL := 2) (ret := (some .boolean)) rfl (by decide) rfl (Nat.le_of_ble_eq_true rfl) ?_
  intro p e s m below meth c C hnm ls hl hW
  have hl : lv_has ls 2 [(0, .ref h0), (1, .int v)] := hl
  have hW : WD E _ s [(h0, .inr (4, [.int x, .int (nI g), .ref k1, .ref k2, .int (nI sp), .int (nI pl), .int (nI tu), .int (nI fr), .int (nI nf), .ref k3, .ref k4, .ref k5, .ref k6, .ref k7, .ref k8])), (k1, aI E 9 w), (k2, aI E 5 aw), (k3, aI E 4 my), (k4, aI E 120 fe), (k5, aI E 44 be), (k6, aI E 4 sk), (k7, aI E 4 cl), (k8, aI E 40 ex)] s.heap [] := hW
  have hinX5 : ∀ w ∈ u_ws RX5 TX5 15, w ∈ wsX5_isPlayer := by decide +kernel
  have hf48 : Cond.fieldLink RX5 48 (TX5 5).1 (TX5 5).2.1 (TX5 5).2.2.1 ∈ wsX5_isPlayer := by decide +kernel
  refine lv_iload_n C.x C.b dX5_isPlayer_0 rfl (lv_at hl 1 rfl) ?_
  refine lv_iconst (v := nI 0) C.x C.b dX5_isPlayer_1 (by decide) ?_
  refine lv_aload_n C.x C.b dX5_isPlayer_2 rfl (lv_at hl 0 rfl) ?_
  refine x_get C hW 0 4 5 (Cn := RX5) (T := TX5) (N := 15) rfl rfl (by decide) hinX5 hf48 rfl dX5_isPlayer_3 ?_
  refine lv_iconst (v := nI 1) C.x C.b dX5_isPlayer_6 (by decide) ?_
  refine lv_isub C.x C.b dX5_isPlayer_7 ?_
  refine x_cSI C hW (As := [.int v, .int (nI 0), .int (nI pl - nI 1)]) (rest := []) (wr := [(h0, .inr (4, [.int x, .int (nI g), .ref k1, .ref k2, .int (nI sp), .int (nI pl), .int (nI tu), .int (nI fr), .int (nI nf), .ref k3, .ref k4, .ref k5, .ref k6, .ref k7, .ref k8])), (k1, aI E 9 w), (k2, aI E 5 aw), (k3, aI E 4 my), (k4, aI E 120 fe), (k5, aI E 44 be), (k6, aI E 4 sk), (k7, aI E 4 cl), (k8, aI E 40 ex)]) (wn := [(h0, .inr (4, [.int x, .int (nI g), .ref k1, .ref k2, .int (nI sp), .int (nI pl), .int (nI tu), .int (nI fr), .int (nI nf), .ref k3, .ref k4, .ref k5, .ref k6, .ref k7, .ref k8])), (k1, aI E 9 w), (k2, aI E 5 aw), (k3, aI E 4 my), (k4, aI E 120 fe), (k5, aI E 44 be), (k6, aI E 4 sk), (k7, aI E 4 cl), (k8, aI E 40 ex)]) (met_X5_isIn l E v (nI 0) (nI pl - nI 1)) gX5_isPlayer_X5_isIn rfl 3 rfl ⟨rfl, rfl⟩ ⟨by decide +kernel, by decide +kernel, by decide +kernel⟩ ⟨Nat.le_of_ble_eq_true rfl, Nat.le_of_ble_eq_true rfl⟩ [] [0, 1, 2, 3, 4, 5, 6, 7, 8] [0, 1, 2, 3, 4, 5, 6, 7, 8] rfl (by decide) rfl (by decide) (by decide) rfl (by decide) hl.1 rfl (Nat.le_of_ble_eq_true rfl) dX5_isPlayer_8 ⟨Nat.zero_le _, Nat.zero_le _⟩ (fun H locs hW => ?_)
  exact x_iret C hW (by first | rfl | exact z_narb _) (by first | rfl | (simp []; done) | (rw [if_pos (by omega)]; done) | (rw [if_neg (by omega)]; done) | (exfalso; omega) | ((repeat' split) <;> first | rfl | contradiction | (exfalso; omega))) rfl dX5_isPlayer_11

set_option maxHeartbeats 4000000 in
set_option maxRecDepth 100000 in
theorem met_X5_pinAt (l : Launch) (E : EV) (r z : Int32)  : MI l yX5_pinAt wsX5_pinAt { frames := 1, cells := 0, slots := 0, locals := 22 } E [.int r, .int z] [] (pinV (pinQ r z)) [] := by
  refine sI (own := RX5) (cc := cX5_pinAt) (maxL := 2) (ret := (some .int)) rfl (by decide) rfl (Nat.le_of_ble_eq_true rfl) ?_
  intro p e s m below meth c C hnm ls hl hW
  have hl : lv_has ls 2 [(0, .int r), (1, .int z)] := hl
  have hW : WD E _ s [] s.heap [] := hW
  refine lv_iload_n C.x C.b dX5_pinAt_0 rfl (lv_at hl 0 rfl) ?_
  refine lv_iconst (v := nI 0) C.x C.b dX5_pinAt_1 (by decide) ?_
  refine lv_iconst (v := nI 4) C.x C.b dX5_pinAt_2 (by decide) ?_
  refine x_cSI C hW (As := [.int r, .int (nI 0), .int (nI 4)]) (rest := []) (wr := []) (wn := []) (met_X5_isIn l E r (nI 0) (nI 4)) gX5_pinAt_X5_isIn rfl 3 rfl ⟨rfl, rfl⟩ ⟨by decide +kernel, by decide +kernel, by decide +kernel⟩ ⟨Nat.le_of_ble_eq_true rfl, Nat.le_of_ble_eq_true rfl⟩ [] [] [] rfl (by decide) rfl (by decide) (by decide) rfl (by decide) hl.1 rfl (Nat.le_of_ble_eq_true rfl) dX5_pinAt_3 ⟨Nat.zero_le _, Nat.zero_le _⟩ (fun H locs hW => ?_)
  refine x_ifb_eq C (tgt := 30) dX5_pinAt_6 (by decide) (fun c_1 => ?_) (fun c_1 => ?_)
  · refine lv_iconst (v := (-1)) C.x C.b dX5_pinAt_30 (by decide) ?_
    exact x_iret C hW rfl (by first | (rw [pinQ_nI ha hb]; exact tPL_eq _ (by omega)) | (exact (pinV_m1.mpr (pinQ_bad (by first | exact Or.inl c_1 | exact Or.inr c_2))).symm)) rfl dX5_pinAt_31
  · refine lv_iload_n C.x C.b dX5_pinAt_9 rfl (lv_at hl 1 rfl) ?_
    refine lv_iconst (v := nI 0) C.x C.b dX5_pinAt_10 (by decide) ?_
    refine lv_iconst (v := nI 4) C.x C.b dX5_pinAt_11 (by decide) ?_
    refine x_cSI C hW (As := [.int z, .int (nI 0), .int (nI 4)]) (rest := []) (wr := []) (wn := []) (met_X5_isIn l E z (nI 0) (nI 4)) gX5_pinAt_X5_isIn rfl 3 rfl ⟨rfl, rfl⟩ ⟨by decide +kernel, by decide +kernel, by decide +kernel⟩ ⟨Nat.le_of_ble_eq_true rfl, Nat.le_of_ble_eq_true rfl⟩ [] [] [] rfl (by decide) rfl (by decide) (by decide) rfl (by decide) hl.1 rfl (Nat.le_of_ble_eq_true rfl) dX5_pinAt_12 ⟨Nat.zero_le _, Nat.zero_le _⟩ (fun H locs hW => ?_)
    refine x_ifb_eq C (tgt := 30) dX5_pinAt_15 (by decide) (fun c_2 => ?_) (fun c_2 => ?_)
    · refine lv_iconst (v := (-1)) C.x C.b dX5_pinAt_30 (by decide) ?_
      exact x_iret C hW rfl (by first | (rw [pinQ_nI ha hb]; exact tPL_eq _ (by omega)) | (exact (pinV_m1.mpr (pinQ_bad (by first | exact Or.inl c_1 | exact Or.inr c_2))).symm)) rfl dX5_pinAt_31
    · obtain ⟨a, ha, rfl⟩ := z_in5b c_1.1 c_1.2
      obtain ⟨b, hb, rfl⟩ := z_in5b c_2.1 c_2.2
      refine x_gets C hW C.G.2.1 (by decide +kernel) dX5_pinAt_18 (fun t_4 hT_3 => ?_)
      refine lv_iconst (v := nI 5) C.x C.b dX5_pinAt_21 (by decide) ?_
      refine lv_iload_n C.x C.b dX5_pinAt_22 rfl (lv_at hl 0 rfl) ?_
      refine lv_imul C.x C.b dX5_pinAt_23 ?_
      refine lv_iload_n C.x C.b dX5_pinAt_24 rfl (lv_at hl 1 rfl) ?_
      refine lv_iadd C.x C.b dX5_pinAt_25 ?_
      refine x_tab C hW hT_3 (a * 5 + b) (by rw [← nI_add, ← pk_mul, Int32.mul_comm]) (by omega) (by decide) dX5_pinAt_26 ?_
      refine lv_goto (tgt := 31) C.x C.b dX5_pinAt_27 (by decide) ?_
      exact x_iret C hW rfl (by first | (rw [pinQ_nI ha hb]; exact tPL_eq _ (by omega)) | (exact (pinV_m1.mpr (pinQ_bad (by first | exact Or.inl c_1 | exact Or.inr c_2))).symm)) rfl dX5_pinAt_31

set_option maxHeartbeats 4000000 in
set_option maxRecDepth 100000 in
theorem met_X5_hit_0 (l : Launch) (E : EV) (g k : Nat) (f : Int32) (hk : k ≤ 9) (hs : g < 512) (hf : f.toInt ≤ 0) : MI l yX5_hit wsX5_hit { frames := 0, cells := 0, slots := 0, locals := 0 } E [.int (nI g), .int (pinV k), .int f] [] (nI (hiF 0 g k f)) [] := by
  refine sI (own := RX5) (cc := cX5_hit) (maxL := 4) (ret := (some .int)) rfl (by decide) rfl (Nat.le_of_ble_eq_true rfl) ?_
  intro p e s m below meth c C hnm ls hl hW
  have hl : lv_has ls 4 [(0, .int (nI g)), (1, .int (pinV k)), (2, .int f)] := hl
  have hW : WD E _ s [] s.heap [] := hW
  refine lv_iload_n C.x C.b dX5_hit_0 rfl (lv_at hl 1 rfl) ?_
  refine lv_iconst (v := (-1)) C.x C.b dX5_hit_1 (by decide) ?_
  refine lv_icmp_eq C.x C.b (tgt := 18) dX5_hit_2 (by decide) (fun c_1 => ?_) (fun c_1 => ?_)
  · have c_1 : pinV k = (-1 : Int32) := c_1
    refine lv_iload_n C.x C.b dX5_hit_18 rfl (lv_at hl 0 rfl) ?_
    exact x_iret C hW rfl (by first | (rw [hiF_no (fun q => absurd q.1 (pinV_m1.mp c_1))]; done) | (rw [hiF_no (fun q => by omega)]; done) | (rw [hiF_no (fun q => absurd q.2.2 (fun z => z (Int32.not_le.mp (by assumption))))]; done)) rfl dX5_hit_19
  · have c_1 : ¬ (pinV k = (-1 : Int32)) := c_1
    have hp : k < 9 := pinV_lt (by assumption)
    refine lv_iload_n C.x C.b dX5_hit_5 rfl (lv_at hl 0 rfl) ?_
    refine lv_iload_n C.x C.b dX5_hit_6 rfl (lv_at hl 1 rfl) ?_
    refine lv_ishr C.x C.b dX5_hit_7 ?_
    refine x_toi (y := nI (g / 2 ^ k)) (pinV_shr hp (by omega)) ?_
    refine lv_iconst (v := nI 1) C.x C.b dX5_hit_8 (by decide) ?_
    refine x_iand1 C dX5_hit_9 ?_
    refine x_if_eq C (by omega) (tgt := 18) dX5_hit_10 (by decide) (fun c_2 => ?_) (fun c_2 => ?_)
    · refine lv_iload_n C.x C.b dX5_hit_18 rfl (lv_at hl 0 rfl) ?_
      exact x_iret C hW rfl (by first | (rw [hiF_no (fun q => absurd q.1 (pinV_m1.mp c_1))]; done) | (rw [hiF_no (fun q => by omega)]; done) | (rw [hiF_no (fun q => absurd q.2.2 (fun z => z (Int32.not_le.mp (by assumption))))]; done)) rfl dX5_hit_19
    · refine lv_iload_n C.x C.b dX5_hit_13 rfl (lv_at hl 2 rfl) ?_
      refine lv_iconst (v := nI 1) C.x C.b dX5_hit_14 (by decide) ?_
      refine lv_icmp_ge C.x C.b (tgt := 20) dX5_hit_15 (by decide) (fun c_3 => ?_) (fun c_3 => ?_)
      · exact absurd (z_lt1 (by omega)) (Int32.not_lt.mpr c_3)
      · have c_3 : ¬ (1 ≤ f) := c_3
        refine lv_iload_n C.x C.b dX5_hit_18 rfl (lv_at hl 0 rfl) ?_
        exact x_iret C hW rfl (by first | (rw [hiF_no (fun q => absurd q.1 (pinV_m1.mp c_1))]; done) | (rw [hiF_no (fun q => by omega)]; done) | (rw [hiF_no (fun q => absurd q.2.2 (fun z => z (Int32.not_le.mp (by assumption))))]; done)) rfl dX5_hit_19

set_option maxHeartbeats 4000000 in
set_option maxRecDepth 100000 in
theorem met_X5_hit_1 (l : Launch) (E : EV) (g k : Nat) (f : Int32) (hk : k ≤ 9) (hs : g < 512) (hf : f.toInt ≤ 2) : MI l yX5_hit wsX5_hit { frames := 2, cells := 0, slots := 0, locals := 43 } E [.int (nI g), .int (pinV k), .int f] [] (nI (hiF 1 g k f)) [] := by
  refine sI (own := RX5) (cc := cX5_hit) (maxL := 4) (ret := (some .int)) rfl (by decide) rfl (Nat.le_of_ble_eq_true rfl) ?_
  intro p e s m below meth c C hnm ls hl hW
  have hl : lv_has ls 4 [(0, .int (nI g)), (1, .int (pinV k)), (2, .int f)] := hl
  have hW : WD E _ s [] s.heap [] := hW
  refine lv_iload_n C.x C.b dX5_hit_0 rfl (lv_at hl 1 rfl) ?_
  refine lv_iconst (v := (-1)) C.x C.b dX5_hit_1 (by decide) ?_
  refine lv_icmp_eq C.x C.b (tgt := 18) dX5_hit_2 (by decide) (fun c_1 => ?_) (fun c_1 => ?_)
  · have c_1 : pinV k = (-1 : Int32) := c_1
    refine lv_iload_n C.x C.b dX5_hit_18 rfl (lv_at hl 0 rfl) ?_
    exact x_iret C hW rfl (by first | (rw [hiF_no (fun q => absurd q.1 (pinV_m1.mp c_1))]; done) | (rw [hiF_no (fun q => by omega)]; done) | (rw [hiF_no (fun q => absurd q.2.2 (fun z => z (Int32.not_le.mp (by assumption))))]; done)) rfl dX5_hit_19
  · have c_1 : ¬ (pinV k = (-1 : Int32)) := c_1
    have hp : k < 9 := pinV_lt (by assumption)
    refine lv_iload_n C.x C.b dX5_hit_5 rfl (lv_at hl 0 rfl) ?_
    refine lv_iload_n C.x C.b dX5_hit_6 rfl (lv_at hl 1 rfl) ?_
    refine lv_ishr C.x C.b dX5_hit_7 ?_
    refine x_toi (y := nI (g / 2 ^ k)) (pinV_shr hp (by omega)) ?_
    refine lv_iconst (v := nI 1) C.x C.b dX5_hit_8 (by decide) ?_
    refine x_iand1 C dX5_hit_9 ?_
    refine x_if_eq C (by omega) (tgt := 18) dX5_hit_10 (by decide) (fun c_2 => ?_) (fun c_2 => ?_)
    · refine lv_iload_n C.x C.b dX5_hit_18 rfl (lv_at hl 0 rfl) ?_
      exact x_iret C hW rfl (by first | (rw [hiF_no (fun q => absurd q.1 (pinV_m1.mp c_1))]; done) | (rw [hiF_no (fun q => by omega)]; done) | (rw [hiF_no (fun q => absurd q.2.2 (fun z => z (Int32.not_le.mp (by assumption))))]; done)) rfl dX5_hit_19
    · refine lv_iload_n C.x C.b dX5_hit_13 rfl (lv_at hl 2 rfl) ?_
      refine lv_iconst (v := nI 1) C.x C.b dX5_hit_14 (by decide) ?_
      refine lv_icmp_ge C.x C.b (tgt := 20) dX5_hit_15 (by decide) (fun c_3 => ?_) (fun c_3 => ?_)
      · have c_3 : 1 ≤ f := c_3
        have hf1 : ¬ f < 1 := Int32.not_lt.mpr (by assumption)
        have hf2 : (f - 2).toInt ≤ 0 := z_sub2 hf1 (by omega)
        refine lv_iload_n C.x C.b dX5_hit_20 rfl (lv_at hl 0 rfl) ?_
        refine lv_iconst (v := nI 1) C.x C.b dX5_hit_21 (by decide) ?_
        refine lv_iload_n C.x C.b dX5_hit_22 rfl (lv_at hl 1 rfl) ?_
        refine lv_ishl C.x C.b dX5_hit_23 ?_
        refine x_toi (y := nI (2 ^ k)) (pinV_shl hp) ?_
        refine lv_iconst (v := nI 4294967295) C.x C.b dX5_hit_24 (by decide) ?_
        refine x_ixor C dX5_hit_25 ?_
        refine lv_iand C.x C.b dX5_hit_26 ?_
        refine x_toi (y := nI (dropK g k)) (z_and _ _) ?_
        refine x_gets C hW C.G.2.2.1 (by decide +kernel) dX5_hit_27 (fun t_5 hT_4 => ?_)
        refine lv_iload_n C.x C.b dX5_hit_30 rfl (lv_at hl 1 rfl) ?_
        refine x_tab C hW hT_4 k (pinV_nI hp) (by omega) (by decide) dX5_hit_31 ?_
        refine lv_iconst (v := nI 1) C.x C.b dX5_hit_32 (by decide) ?_
        refine lv_iadd C.x C.b dX5_hit_33 ?_
        refine x_gets C hW C.G.2.2.2.1 (by decide +kernel) dX5_hit_34 (fun t_7 hT_6 => ?_)
        refine lv_iload_n C.x C.b dX5_hit_37 rfl (lv_at hl 1 rfl) ?_
        refine x_tab C hW hT_6 k (pinV_nI hp) (by omega) (by decide) dX5_hit_38 ?_
        refine lv_iconst (v := nI 1) C.x C.b dX5_hit_39 (by decide) ?_
        refine lv_isub C.x C.b dX5_hit_40 ?_
        refine x_cSI C hW (As := [.int (tRO k + 1), .int (tLA k - 1)]) (rest := [.int (nI (dropK g k))]) (wr := []) (wn := []) (met_X5_pinAt l E (tRO k + 1) (tLA k - 1)) gX5_hit_X5_pinAt rfl 2 rfl ⟨rfl, rfl⟩ ⟨by decide +kernel, by decide +kernel, by decide +kernel⟩ ⟨Nat.le_of_ble_eq_true rfl, Nat.le_of_ble_eq_true rfl⟩ [] [] [] rfl (by decide) rfl (by decide) (by decide) rfl (by decide) hl.1 rfl (Nat.le_of_ble_eq_true rfl) dX5_hit_41 ⟨Nat.zero_le _, Nat.zero_le _⟩ (fun H locs hW => ?_)
        refine lv_iload_n C.x C.b dX5_hit_44 rfl (lv_at hl 2 rfl) ?_
        refine lv_iconst (v := nI 2) C.x C.b dX5_hit_45 (by decide) ?_
        refine lv_isub C.x C.b dX5_hit_46 ?_
        refine x_cSI C hW (As := [.int (nI (dropK g k)), .int (pinV (pinQ (tRO k + 1) (tLA k - 1))), .int (f - 2)]) (rest := []) (wr := []) (wn := []) (met_X5_hit_0 l E (dropK g k) (pinQ (tRO k + 1) (tLA k - 1)) (f - 2) (pinQ_le _ _) (Nat.lt_of_le_of_lt (dropK_le _ _) hs) hf2) gX5_hit_X5_hit rfl 3 rfl ⟨rfl, rfl⟩ ⟨by decide +kernel, by decide +kernel, by decide +kernel⟩ ⟨Nat.le_of_ble_eq_true rfl, Nat.le_of_ble_eq_true rfl⟩ [] [] [] rfl (by decide) rfl (by decide) (by decide) rfl (by decide) hl.1 rfl (Nat.le_of_ble_eq_true rfl) dX5_hit_47 ⟨Nat.zero_le _, Nat.zero_le _⟩ (fun H locs hW => ?_)
        refine lv_istore_n (lv' := [(3, .int (nI (hiF 0 (dropK g k) (pinQ (tRO k + 1) (tLA k - 1)) (f - 2)))), (0, .int (nI g)), (1, .int (pinV k)), (2, .int f)]) C.x C.b dX5_hit_50 rfl hl (by decide) rfl (fun ls hl => ?_)
        refine lv_iload_n C.x C.b dX5_hit_51 rfl (lv_at hl 0 rfl) ?_
        refine x_gets C hW C.G.2.2.1 (by decide +kernel) dX5_hit_52 (fun t_9 hT_8 => ?_)
        refine lv_iload_n C.x C.b dX5_hit_55 rfl (lv_at hl 2 rfl) ?_
        refine x_tab C hW hT_8 k (pinV_nI hp) (by omega) (by decide) dX5_hit_56 ?_
        refine lv_iconst (v := nI 1) C.x C.b dX5_hit_57 (by decide) ?_
        refine lv_iadd C.x C.b dX5_hit_58 ?_
        refine x_gets C hW C.G.2.2.2.1 (by decide +kernel) dX5_hit_59 (fun t_11 hT_10 => ?_)
        refine lv_iload_n C.x C.b dX5_hit_62 rfl (lv_at hl 2 rfl) ?_
        refine x_tab C hW hT_10 k (pinV_nI hp) (by omega) (by decide) dX5_hit_63 ?_
        refine lv_iconst (v := nI 1) C.x C.b dX5_hit_64 (by decide) ?_
        refine lv_iadd C.x C.b dX5_hit_65 ?_
        refine x_cSI C hW (As := [.int (tRO k + 1), .int (tLA k + 1)]) (rest := [.int (nI (hiF 0 (dropK g k) (pinQ (tRO k + 1) (tLA k - 1)) (f - 2)))]) (wr := []) (wn := []) (met_X5_pinAt l E (tRO k + 1) (tLA k + 1)) gX5_hit_X5_pinAt rfl 2 rfl ⟨rfl, rfl⟩ ⟨by decide +kernel, by decide +kernel, by decide +kernel⟩ ⟨Nat.le_of_ble_eq_true rfl, Nat.le_of_ble_eq_true rfl⟩ [] [] [] rfl (by decide) rfl (by decide) (by decide) rfl (by decide) hl.1 rfl (Nat.le_of_ble_eq_true rfl) dX5_hit_66 ⟨Nat.zero_le _, Nat.zero_le _⟩ (fun H locs hW => ?_)
        refine lv_iload_n C.x C.b dX5_hit_69 rfl (lv_at hl 3 rfl) ?_
        refine lv_iconst (v := nI 2) C.x C.b dX5_hit_70 (by decide) ?_
        refine lv_isub C.x C.b dX5_hit_71 ?_
        refine x_cSI C hW (As := [.int (nI (hiF 0 (dropK g k) (pinQ (tRO k + 1) (tLA k - 1)) (f - 2))), .int (pinV (pinQ (tRO k + 1) (tLA k + 1))), .int (f - 2)]) (rest := []) (wr := []) (wn := []) (met_X5_hit_0 l E (hiF 0 (dropK g k) (pinQ (tRO k + 1) (tLA k - 1)) (f - 2)) (pinQ (tRO k + 1) (tLA k + 1)) (f - 2) (pinQ_le _ _) (Nat.lt_of_le_of_lt (hiF_le _ _ _ _) (Nat.lt_of_le_of_lt (dropK_le _ _) hs)) hf2) gX5_hit_X5_hit rfl 3 rfl ⟨rfl, rfl⟩ ⟨by decide +kernel, by decide +kernel, by decide +kernel⟩ ⟨Nat.le_of_ble_eq_true rfl, Nat.le_of_ble_eq_true rfl⟩ [] [] [] rfl (by decide) rfl (by decide) (by decide) rfl (by decide) hl.1 rfl (Nat.le_of_ble_eq_true rfl) dX5_hit_72 ⟨Nat.zero_le _, Nat.zero_le _⟩ (fun H locs hW => ?_)
        exact x_iret C hW rfl (by rw [hiF_go hp (by omega) hf1]) rfl dX5_hit_75
      · have c_3 : ¬ (1 ≤ f) := c_3
        refine lv_iload_n C.x C.b dX5_hit_18 rfl (lv_at hl 0 rfl) ?_
        exact x_iret C hW rfl (by first | (rw [hiF_no (fun q => absurd q.1 (pinV_m1.mp c_1))]; done) | (rw [hiF_no (fun q => by omega)]; done) | (rw [hiF_no (fun q => absurd q.2.2 (fun z => z (Int32.not_le.mp (by assumption))))]; done)) rfl dX5_hit_19

set_option maxHeartbeats 4000000 in
set_option maxRecDepth 100000 in
theorem met_X5_hit_2 (l : Launch) (E : EV) (g k : Nat) (f : Int32) (hk : k ≤ 9) (hs : g < 512) (hf : f.toInt ≤ 4) : MI l yX5_hit wsX5_hit { frames := 3, cells := 0, slots := 0, locals := 66 } E [.int (nI g), .int (pinV k), .int f] [] (nI (hiF 2 g k f)) [] := by
  refine sI (own := RX5) (cc := cX5_hit) (maxL := 4) (ret := (some .int)) rfl (by decide) rfl (Nat.le_of_ble_eq_true rfl) ?_
  intro p e s m below meth c C hnm ls hl hW
  have hl : lv_has ls 4 [(0, .int (nI g)), (1, .int (pinV k)), (2, .int f)] := hl
  have hW : WD E _ s [] s.heap [] := hW
  refine lv_iload_n C.x C.b dX5_hit_0 rfl (lv_at hl 1 rfl) ?_
  refine lv_iconst (v := (-1)) C.x C.b dX5_hit_1 (by decide) ?_
  refine lv_icmp_eq C.x C.b (tgt := 18) dX5_hit_2 (by decide) (fun c_1 => ?_) (fun c_1 => ?_)
  · have c_1 : pinV k = (-1 : Int32) := c_1
    refine lv_iload_n C.x C.b dX5_hit_18 rfl (lv_at hl 0 rfl) ?_
    exact x_iret C hW rfl (by first | (rw [hiF_no (fun q => absurd q.1 (pinV_m1.mp c_1))]; done) | (rw [hiF_no (fun q => by omega)]; done) | (rw [hiF_no (fun q => absurd q.2.2 (fun z => z (Int32.not_le.mp (by assumption))))]; done)) rfl dX5_hit_19
  · have c_1 : ¬ (pinV k = (-1 : Int32)) := c_1
    have hp : k < 9 := pinV_lt (by assumption)
    refine lv_iload_n C.x C.b dX5_hit_5 rfl (lv_at hl 0 rfl) ?_
    refine lv_iload_n C.x C.b dX5_hit_6 rfl (lv_at hl 1 rfl) ?_
    refine lv_ishr C.x C.b dX5_hit_7 ?_
    refine x_toi (y := nI (g / 2 ^ k)) (pinV_shr hp (by omega)) ?_
    refine lv_iconst (v := nI 1) C.x C.b dX5_hit_8 (by decide) ?_
    refine x_iand1 C dX5_hit_9 ?_
    refine x_if_eq C (by omega) (tgt := 18) dX5_hit_10 (by decide) (fun c_2 => ?_) (fun c_2 => ?_)
    · refine lv_iload_n C.x C.b dX5_hit_18 rfl (lv_at hl 0 rfl) ?_
      exact x_iret C hW rfl (by first | (rw [hiF_no (fun q => absurd q.1 (pinV_m1.mp c_1))]; done) | (rw [hiF_no (fun q => by omega)]; done) | (rw [hiF_no (fun q => absurd q.2.2 (fun z => z (Int32.not_le.mp (by assumption))))]; done)) rfl dX5_hit_19
    · refine lv_iload_n C.x C.b dX5_hit_13 rfl (lv_at hl 2 rfl) ?_
      refine lv_iconst (v := nI 1) C.x C.b dX5_hit_14 (by decide) ?_
      refine lv_icmp_ge C.x C.b (tgt := 20) dX5_hit_15 (by decide) (fun c_3 => ?_) (fun c_3 => ?_)
      · have c_3 : 1 ≤ f := c_3
        have hf1 : ¬ f < 1 := Int32.not_lt.mpr (by assumption)
        have hf2 : (f - 2).toInt ≤ 2 := z_sub2 hf1 (by omega)
        refine lv_iload_n C.x C.b dX5_hit_20 rfl (lv_at hl 0 rfl) ?_
        refine lv_iconst (v := nI 1) C.x C.b dX5_hit_21 (by decide) ?_
        refine lv_iload_n C.x C.b dX5_hit_22 rfl (lv_at hl 1 rfl) ?_
        refine lv_ishl C.x C.b dX5_hit_23 ?_
        refine x_toi (y := nI (2 ^ k)) (pinV_shl hp) ?_
        refine lv_iconst (v := nI 4294967295) C.x C.b dX5_hit_24 (by decide) ?_
        refine x_ixor C dX5_hit_25 ?_
        refine lv_iand C.x C.b dX5_hit_26 ?_
        refine x_toi (y := nI (dropK g k)) (z_and _ _) ?_
        refine x_gets C hW C.G.2.2.1 (by decide +kernel) dX5_hit_27 (fun t_5 hT_4 => ?_)
        refine lv_iload_n C.x C.b dX5_hit_30 rfl (lv_at hl 1 rfl) ?_
        refine x_tab C hW hT_4 k (pinV_nI hp) (by omega) (by decide) dX5_hit_31 ?_
        refine lv_iconst (v := nI 1) C.x C.b dX5_hit_32 (by decide) ?_
        refine lv_iadd C.x C.b dX5_hit_33 ?_
        refine x_gets C hW C.G.2.2.2.1 (by decide +kernel) dX5_hit_34 (fun t_7 hT_6 => ?_)
        refine lv_iload_n C.x C.b dX5_hit_37 rfl (lv_at hl 1 rfl) ?_
        refine x_tab C hW hT_6 k (pinV_nI hp) (by omega) (by decide) dX5_hit_38 ?_
        refine lv_iconst (v := nI 1) C.x C.b dX5_hit_39 (by decide) ?_
        refine lv_isub C.x C.b dX5_hit_40 ?_
        refine x_cSI C hW (As := [.int (tRO k + 1), .int (tLA k - 1)]) (rest := [.int (nI (dropK g k))]) (wr := []) (wn := []) (met_X5_pinAt l E (tRO k + 1) (tLA k - 1)) gX5_hit_X5_pinAt rfl 2 rfl ⟨rfl, rfl⟩ ⟨by decide +kernel, by decide +kernel, by decide +kernel⟩ ⟨Nat.le_of_ble_eq_true rfl, Nat.le_of_ble_eq_true rfl⟩ [] [] [] rfl (by decide) rfl (by decide) (by decide) rfl (by decide) hl.1 rfl (Nat.le_of_ble_eq_true rfl) dX5_hit_41 ⟨Nat.zero_le _, Nat.zero_le _⟩ (fun H locs hW => ?_)
        refine lv_iload_n C.x C.b dX5_hit_44 rfl (lv_at hl 2 rfl) ?_
        refine lv_iconst (v := nI 2) C.x C.b dX5_hit_45 (by decide) ?_
        refine lv_isub C.x C.b dX5_hit_46 ?_
        refine x_cSI C hW (As := [.int (nI (dropK g k)), .int (pinV (pinQ (tRO k + 1) (tLA k - 1))), .int (f - 2)]) (rest := []) (wr := []) (wn := []) (met_X5_hit_1 l E (dropK g k) (pinQ (tRO k + 1) (tLA k - 1)) (f - 2) (pinQ_le _ _) (Nat.lt_of_le_of_lt (dropK_le _ _) hs) hf2) gX5_hit_X5_hit rfl 3 rfl ⟨rfl, rfl⟩ ⟨by decide +kernel, by decide +kernel, by decide +kernel⟩ ⟨Nat.le_of_ble_eq_true rfl, Nat.le_of_ble_eq_true rfl⟩ [] [] [] rfl (by decide) rfl (by decide) (by decide) rfl (by decide) hl.1 rfl (Nat.le_of_ble_eq_true rfl) dX5_hit_47 ⟨Nat.zero_le _, Nat.zero_le _⟩ (fun H locs hW => ?_)
        refine lv_istore_n (lv' := [(3, .int (nI (hiF 1 (dropK g k) (pinQ (tRO k + 1) (tLA k - 1)) (f - 2)))), (0, .int (nI g)), (1, .int (pinV k)), (2, .int f)]) C.x C.b dX5_hit_50 rfl hl (by decide) rfl (fun ls hl => ?_)
        refine lv_iload_n C.x C.b dX5_hit_51 rfl (lv_at hl 0 rfl) ?_
        refine x_gets C hW C.G.2.2.1 (by decide +kernel) dX5_hit_52 (fun t_9 hT_8 => ?_)
        refine lv_iload_n C.x C.b dX5_hit_55 rfl (lv_at hl 2 rfl) ?_
        refine x_tab C hW hT_8 k (pinV_nI hp) (by omega) (by decide) dX5_hit_56 ?_
        refine lv_iconst (v := nI 1) C.x C.b dX5_hit_57 (by decide) ?_
        refine lv_iadd C.x C.b dX5_hit_58 ?_
        refine x_gets C hW C.G.2.2.2.1 (by decide +kernel) dX5_hit_59 (fun t_11 hT_10 => ?_)
        refine lv_iload_n C.x C.b dX5_hit_62 rfl (lv_at hl 2 rfl) ?_
        refine x_tab C hW hT_10 k (pinV_nI hp) (by omega) (by decide) dX5_hit_63 ?_
        refine lv_iconst (v := nI 1) C.x C.b dX5_hit_64 (by decide) ?_
        refine lv_iadd C.x C.b dX5_hit_65 ?_
        refine x_cSI C hW (As := [.int (tRO k + 1), .int (tLA k + 1)]) (rest := [.int (nI (hiF 1 (dropK g k) (pinQ (tRO k + 1) (tLA k - 1)) (f - 2)))]) (wr := []) (wn := []) (met_X5_pinAt l E (tRO k + 1) (tLA k + 1)) gX5_hit_X5_pinAt rfl 2 rfl ⟨rfl, rfl⟩ ⟨by decide +kernel, by decide +kernel, by decide +kernel⟩ ⟨Nat.le_of_ble_eq_true rfl, Nat.le_of_ble_eq_true rfl⟩ [] [] [] rfl (by decide) rfl (by decide) (by decide) rfl (by decide) hl.1 rfl (Nat.le_of_ble_eq_true rfl) dX5_hit_66 ⟨Nat.zero_le _, Nat.zero_le _⟩ (fun H locs hW => ?_)
        refine lv_iload_n C.x C.b dX5_hit_69 rfl (lv_at hl 3 rfl) ?_
        refine lv_iconst (v := nI 2) C.x C.b dX5_hit_70 (by decide) ?_
        refine lv_isub C.x C.b dX5_hit_71 ?_
        refine x_cSI C hW (As := [.int (nI (hiF 1 (dropK g k) (pinQ (tRO k + 1) (tLA k - 1)) (f - 2))), .int (pinV (pinQ (tRO k + 1) (tLA k + 1))), .int (f - 2)]) (rest := []) (wr := []) (wn := []) (met_X5_hit_1 l E (hiF 1 (dropK g k) (pinQ (tRO k + 1) (tLA k - 1)) (f - 2)) (pinQ (tRO k + 1) (tLA k + 1)) (f - 2) (pinQ_le _ _) (Nat.lt_of_le_of_lt (hiF_le _ _ _ _) (Nat.lt_of_le_of_lt (dropK_le _ _) hs)) hf2) gX5_hit_X5_hit rfl 3 rfl ⟨rfl, rfl⟩ ⟨by decide +kernel, by decide +kernel, by decide +kernel⟩ ⟨Nat.le_of_ble_eq_true rfl, Nat.le_of_ble_eq_true rfl⟩ [] [] [] rfl (by decide) rfl (by decide) (by decide) rfl (by decide) hl.1 rfl (Nat.le_of_ble_eq_true rfl) dX5_hit_72 ⟨Nat.zero_le _, Nat.zero_le _⟩ (fun H locs hW => ?_)
        exact x_iret C hW rfl (by rw [hiF_go hp (by omega) hf1]) rfl dX5_hit_75
      · have c_3 : ¬ (1 ≤ f) := c_3
        refine lv_iload_n C.x C.b dX5_hit_18 rfl (lv_at hl 0 rfl) ?_
        exact x_iret C hW rfl (by first | (rw [hiF_no (fun q => absurd q.1 (pinV_m1.mp c_1))]; done) | (rw [hiF_no (fun q => by omega)]; done) | (rw [hiF_no (fun q => absurd q.2.2 (fun z => z (Int32.not_le.mp (by assumption))))]; done)) rfl dX5_hit_19

set_option maxHeartbeats 4000000 in
set_option maxRecDepth 100000 in
theorem met_X5_hit_3 (l : Launch) (E : EV) (g k : Nat) (f : Int32) (hk : k ≤ 9) (hs : g < 512) (hf : f.toInt ≤ 6) : MI l yX5_hit wsX5_hit { frames := 4, cells := 0, slots := 0, locals := 89 } E [.int (nI g), .int (pinV k), .int f] [] (nI (hiF 3 g k f)) [] := by
  refine sI (own := RX5) (cc := cX5_hit) (maxL := 4) (ret := (some .int)) rfl (by decide) rfl (Nat.le_of_ble_eq_true rfl) ?_
  intro p e s m below meth c C hnm ls hl hW
  have hl : lv_has ls 4 [(0, .int (nI g)), (1, .int (pinV k)), (2, .int f)] := hl
  have hW : WD E _ s [] s.heap [] := hW
  refine lv_iload_n C.x C.b dX5_hit_0 rfl (lv_at hl 1 rfl) ?_
  refine lv_iconst (v := (-1)) C.x C.b dX5_hit_1 (by decide) ?_
  refine lv_icmp_eq C.x C.b (tgt := 18) dX5_hit_2 (by decide) (fun c_1 => ?_) (fun c_1 => ?_)
  · have c_1 : pinV k = (-1 : Int32) := c_1
    refine lv_iload_n C.x C.b dX5_hit_18 rfl (lv_at hl 0 rfl) ?_
    exact x_iret C hW rfl (by first | (rw [hiF_no (fun q => absurd q.1 (pinV_m1.mp c_1))]; done) | (rw [hiF_no (fun q => by omega)]; done) | (rw [hiF_no (fun q => absurd q.2.2 (fun z => z (Int32.not_le.mp (by assumption))))]; done)) rfl dX5_hit_19
  · have c_1 : ¬ (pinV k = (-1 : Int32)) := c_1
    have hp : k < 9 := pinV_lt (by assumption)
    refine lv_iload_n C.x C.b dX5_hit_5 rfl (lv_at hl 0 rfl) ?_
    refine lv_iload_n C.x C.b dX5_hit_6 rfl (lv_at hl 1 rfl) ?_
    refine lv_ishr C.x C.b dX5_hit_7 ?_
    refine x_toi (y := nI (g / 2 ^ k)) (pinV_shr hp (by omega)) ?_
    refine lv_iconst (v := nI 1) C.x C.b dX5_hit_8 (by decide) ?_
    refine x_iand1 C dX5_hit_9 ?_
    refine x_if_eq C (by omega) (tgt := 18) dX5_hit_10 (by decide) (fun c_2 => ?_) (fun c_2 => ?_)
    · refine lv_iload_n C.x C.b dX5_hit_18 rfl (lv_at hl 0 rfl) ?_
      exact x_iret C hW rfl (by first | (rw [hiF_no (fun q => absurd q.1 (pinV_m1.mp c_1))]; done) | (rw [hiF_no (fun q => by omega)]; done) | (rw [hiF_no (fun q => absurd q.2.2 (fun z => z (Int32.not_le.mp (by assumption))))]; done)) rfl dX5_hit_19
    · refine lv_iload_n C.x C.b dX5_hit_13 rfl (lv_at hl 2 rfl) ?_
      refine lv_iconst (v := nI 1) C.x C.b dX5_hit_14 (by decide) ?_
      refine lv_icmp_ge C.x C.b (tgt := 20) dX5_hit_15 (by decide) (fun c_3 => ?_) (fun c_3 => ?_)
      · have c_3 : 1 ≤ f := c_3
        have hf1 : ¬ f < 1 := Int32.not_lt.mpr (by assumption)
        have hf2 : (f - 2).toInt ≤ 4 := z_sub2 hf1 (by omega)
        refine lv_iload_n C.x C.b dX5_hit_20 rfl (lv_at hl 0 rfl) ?_
        refine lv_iconst (v := nI 1) C.x C.b dX5_hit_21 (by decide) ?_
        refine lv_iload_n C.x C.b dX5_hit_22 rfl (lv_at hl 1 rfl) ?_
        refine lv_ishl C.x C.b dX5_hit_23 ?_
        refine x_toi (y := nI (2 ^ k)) (pinV_shl hp) ?_
        refine lv_iconst (v := nI 4294967295) C.x C.b dX5_hit_24 (by decide) ?_
        refine x_ixor C dX5_hit_25 ?_
        refine lv_iand C.x C.b dX5_hit_26 ?_
        refine x_toi (y := nI (dropK g k)) (z_and _ _) ?_
        refine x_gets C hW C.G.2.2.1 (by decide +kernel) dX5_hit_27 (fun t_5 hT_4 => ?_)
        refine lv_iload_n C.x C.b dX5_hit_30 rfl (lv_at hl 1 rfl) ?_
        refine x_tab C hW hT_4 k (pinV_nI hp) (by omega) (by decide) dX5_hit_31 ?_
        refine lv_iconst (v := nI 1) C.x C.b dX5_hit_32 (by decide) ?_
        refine lv_iadd C.x C.b dX5_hit_33 ?_
        refine x_gets C hW C.G.2.2.2.1 (by decide +kernel) dX5_hit_34 (fun t_7 hT_6 => ?_)
        refine lv_iload_n C.x C.b dX5_hit_37 rfl (lv_at hl 1 rfl) ?_
        refine x_tab C hW hT_6 k (pinV_nI hp) (by omega) (by decide) dX5_hit_38 ?_
        refine lv_iconst (v := nI 1) C.x C.b dX5_hit_39 (by decide) ?_
        refine lv_isub C.x C.b dX5_hit_40 ?_
        refine x_cSI C hW (As := [.int (tRO k + 1), .int (tLA k - 1)]) (rest := [.int (nI (dropK g k))]) (wr := []) (wn := []) (met_X5_pinAt l E (tRO k + 1) (tLA k - 1)) gX5_hit_X5_pinAt rfl 2 rfl ⟨rfl, rfl⟩ ⟨by decide +kernel, by decide +kernel, by decide +kernel⟩ ⟨Nat.le_of_ble_eq_true rfl, Nat.le_of_ble_eq_true rfl⟩ [] [] [] rfl (by decide) rfl (by decide) (by decide) rfl (by decide) hl.1 rfl (Nat.le_of_ble_eq_true rfl) dX5_hit_41 ⟨Nat.zero_le _, Nat.zero_le _⟩ (fun H locs hW => ?_)
        refine lv_iload_n C.x C.b dX5_hit_44 rfl (lv_at hl 2 rfl) ?_
        refine lv_iconst (v := nI 2) C.x C.b dX5_hit_45 (by decide) ?_
        refine lv_isub C.x C.b dX5_hit_46 ?_
        refine x_cSI C hW (As := [.int (nI (dropK g k)), .int (pinV (pinQ (tRO k + 1) (tLA k - 1))), .int (f - 2)]) (rest := []) (wr := []) (wn := []) (met_X5_hit_2 l E (dropK g k) (pinQ (tRO k + 1) (tLA k - 1)) (f - 2) (pinQ_le _ _) (Nat.lt_of_le_of_lt (dropK_le _ _) hs) hf2) gX5_hit_X5_hit rfl 3 rfl ⟨rfl, rfl⟩ ⟨by decide +kernel, by decide +kernel, by decide +kernel⟩ ⟨Nat.le_of_ble_eq_true rfl, Nat.le_of_ble_eq_true rfl⟩ [] [] [] rfl (by decide) rfl (by decide) (by decide) rfl (by decide) hl.1 rfl (Nat.le_of_ble_eq_true rfl) dX5_hit_47 ⟨Nat.zero_le _, Nat.zero_le _⟩ (fun H locs hW => ?_)
        refine lv_istore_n (lv' := [(3, .int (nI (hiF 2 (dropK g k) (pinQ (tRO k + 1) (tLA k - 1)) (f - 2)))), (0, .int (nI g)), (1, .int (pinV k)), (2, .int f)]) C.x C.b dX5_hit_50 rfl hl (by decide) rfl (fun ls hl => ?_)
        refine lv_iload_n C.x C.b dX5_hit_51 rfl (lv_at hl 0 rfl) ?_
        refine x_gets C hW C.G.2.2.1 (by decide +kernel) dX5_hit_52 (fun t_9 hT_8 => ?_)
        refine lv_iload_n C.x C.b dX5_hit_55 rfl (lv_at hl 2 rfl) ?_
        refine x_tab C hW hT_8 k (pinV_nI hp) (by omega) (by decide) dX5_hit_56 ?_
        refine lv_iconst (v := nI 1) C.x C.b dX5_hit_57 (by decide) ?_
        refine lv_iadd C.x C.b dX5_hit_58 ?_
        refine x_gets C hW C.G.2.2.2.1 (by decide +kernel) dX5_hit_59 (fun t_11 hT_10 => ?_)
        refine lv_iload_n C.x C.b dX5_hit_62 rfl (lv_at hl 2 rfl) ?_
        refine x_tab C hW hT_10 k (pinV_nI hp) (by omega) (by decide) dX5_hit_63 ?_
        refine lv_iconst (v := nI 1) C.x C.b dX5_hit_64 (by decide) ?_
        refine lv_iadd C.x C.b dX5_hit_65 ?_
        refine x_cSI C hW (As := [.int (tRO k + 1), .int (tLA k + 1)]) (rest := [.int (nI (hiF 2 (dropK g k) (pinQ (tRO k + 1) (tLA k - 1)) (f - 2)))]) (wr := []) (wn := []) (met_X5_pinAt l E (tRO k + 1) (tLA k + 1)) gX5_hit_X5_pinAt rfl 2 rfl ⟨rfl, rfl⟩ ⟨by decide +kernel, by decide +kernel, by decide +kernel⟩ ⟨Nat.le_of_ble_eq_true rfl, Nat.le_of_ble_eq_true rfl⟩ [] [] [] rfl (by decide) rfl (by decide) (by decide) rfl (by decide) hl.1 rfl (Nat.le_of_ble_eq_true rfl) dX5_hit_66 ⟨Nat.zero_le _, Nat.zero_le _⟩ (fun H locs hW => ?_)
        refine lv_iload_n C.x C.b dX5_hit_69 rfl (lv_at hl 3 rfl) ?_
        refine lv_iconst (v := nI 2) C.x C.b dX5_hit_70 (by decide) ?_
        refine lv_isub C.x C.b dX5_hit_71 ?_
        refine x_cSI C hW (As := [.int (nI (hiF 2 (dropK g k) (pinQ (tRO k + 1) (tLA k - 1)) (f - 2))), .int (pinV (pinQ (tRO k + 1) (tLA k + 1))), .int (f - 2)]) (rest := []) (wr := []) (wn := []) (met_X5_hit_2 l E (hiF 2 (dropK g k) (pinQ (tRO k + 1) (tLA k - 1)) (f - 2)) (pinQ (tRO k + 1) (tLA k + 1)) (f - 2) (pinQ_le _ _) (Nat.lt_of_le_of_lt (hiF_le _ _ _ _) (Nat.lt_of_le_of_lt (dropK_le _ _) hs)) hf2) gX5_hit_X5_hit rfl 3 rfl ⟨rfl, rfl⟩ ⟨by decide +kernel, by decide +kernel, by decide +kernel⟩ ⟨Nat.le_of_ble_eq_true rfl, Nat.le_of_ble_eq_true rfl⟩ [] [] [] rfl (by decide) rfl (by decide) (by decide) rfl (by decide) hl.1 rfl (Nat.le_of_ble_eq_true rfl) dX5_hit_72 ⟨Nat.zero_le _, Nat.zero_le _⟩ (fun H locs hW => ?_)
        exact x_iret C hW rfl (by rw [hiF_go hp (by omega) hf1]) rfl dX5_hit_75
      · have c_3 : ¬ (1 ≤ f) := c_3
        refine lv_iload_n C.x C.b dX5_hit_18 rfl (lv_at hl 0 rfl) ?_
        exact x_iret C hW rfl (by first | (rw [hiF_no (fun q => absurd q.1 (pinV_m1.mp c_1))]; done) | (rw [hiF_no (fun q => by omega)]; done) | (rw [hiF_no (fun q => absurd q.2.2 (fun z => z (Int32.not_le.mp (by assumption))))]; done)) rfl dX5_hit_19

set_option maxHeartbeats 4000000 in
set_option maxRecDepth 100000 in
theorem met_X5_roll (l : Launch) (E : EV) (g b z : Nat) (hg : g < 512) (hb : b < 5) (hz : z < 5) : MI l yX5_roll wsX5_roll { frames := 5, cells := 0, slots := 0, locals := 112 } E [.int (nI g), .int (nI b), .int (nI z)] [] (nI (roN g b z)) [] := by
  refine sI (own := RX5) (cc := cX5_roll) (maxL := 7) (ret := (some .int)) rfl (by decide) rfl (Nat.le_of_ble_eq_true rfl) ?_
  intro p e s m below meth c C hnm ls hl hW
  have hl : lv_has ls 7 [(0, .int (nI g)), (1, .int (nI b)), (2, .int (nI z))] := hl
  have hW : WD E _ s [] s.heap [] := hW
  refine lv_iload_n C.x C.b dX5_roll_0 rfl (lv_at hl 0 rfl) ?_
  refine lv_istore_n (lv' := [(3, .int (nI g)), (0, .int (nI g)), (1, .int (nI b)), (2, .int (nI z))]) C.x C.b dX5_roll_1 rfl hl (by decide) rfl (fun ls hl => ?_)
  refine lv_iload_n C.x C.b dX5_roll_2 rfl (lv_at hl 2 rfl) ?_
  refine lv_iconst (v := nI 2) C.x C.b dX5_roll_3 (by decide) ?_
  refine x_iadd C dX5_roll_4 ?_
  refine lv_istore (lv' := [(4, .int (nI (b + 2))), (3, .int (nI g)), (0, .int (nI g)), (1, .int (nI b)), (2, .int (nI z))]) C.x C.b dX5_roll_5 hl (by decide) rfl (fun ls hl => ?_)
  refine lv_iconst (v := nI 0) C.x C.b dX5_roll_7 (by decide) ?_
  refine lv_istore (lv' := [(5, .int (nI 0)), (4, .int (nI (b + 2))), (3, .int (nI g)), (0, .int (nI g)), (1, .int (nI b)), (2, .int (nI z))]) C.x C.b dX5_roll_8 hl (by decide) rfl (fun ls hl => ?_)
  have lp_1 : ∀ (n1 i : Nat), i ≤ 5 → 5 + 1 ≤ i + n1 → ∀ (H : Heap) (locs : List Loc) (ls : Array Slot), WD E (va_A [] s.heap.size) s [] H locs → lv_has ls 7 [(5, .int (nI i)), (4, .int (nI ((roS g b z i).2))), (3, .int (nI ((roS g b z i).1))), (0, .int (nI g)), (1, .int (nI b)), (2, .int (nI z))] → W p l e ({ frames := 5, cells := 0, slots := 0, locals := 112 } : Room) s m ([.int (nI g), .int (nI b), .int (nI z)] : List Value).toArray below meth c H locs 0 0 (QI E [] (nI (roN g b z)) [] below ([.int (nI g), .int (nI b), .int (nI z)] : List Value).toArray s) (F0 m 10 ls []) := by
    intro n1
    induction n1 with
    | zero => intro i hi hn; exact absurd hn (by omega)
    | succ n1 ih1 =>
      intro i hi hn  H locs ls hW hl
      have hro := ro_le g b z i
      refine lv_iload C.x C.b dX5_roll_10 (lv_at hl 0 rfl) ?_
      refine lv_iconst (v := nI 5) C.x C.b dX5_roll_12 (by decide) ?_
      refine x_icmp_ge C (by omega) (by omega) (tgt := 65) dX5_roll_13 (by decide) (fun c_2 => ?_) (fun c_2 => ?_)
      · refine lv_iload_n C.x C.b dX5_roll_65 rfl (lv_at hl 2 rfl) ?_
        exact x_iret C hW rfl (by first | (rw [roN, ro_stop (i := i) (by omega) 5 (by omega)]; done) | (have h5 : i = 5 := (by omega); subst h5; rfl)) rfl dX5_roll_66
      · refine lv_iload C.x C.b dX5_roll_16 (lv_at hl 1 rfl) ?_
        refine x_if_le C (by omega) (tgt := 65) dX5_roll_18 (by decide) (fun c_3 => ?_) (fun c_3 => ?_)
        · refine lv_iload_n C.x C.b dX5_roll_65 rfl (lv_at hl 2 rfl) ?_
          exact x_iret C hW rfl (by first | (rw [roN, ro_stop (i := i) (by omega) 5 (by omega)]; done) | (have h5 : i = 5 := (by omega); subst h5; rfl)) rfl dX5_roll_66
        · refine lv_iload C.x C.b dX5_roll_21 (lv_at hl 0 rfl) ?_
          refine lv_iload_n C.x C.b dX5_roll_23 rfl (lv_at hl 5 rfl) ?_
          refine x_cSI C hW (As := [.int (nI i), .int (nI z)]) (rest := []) (wr := []) (wn := []) (met_X5_pinAt l E (nI i) (nI z)) gX5_roll_X5_pinAt rfl 2 rfl ⟨rfl, rfl⟩ ⟨by decide +kernel, by decide +kernel, by decide +kernel⟩ ⟨Nat.le_of_ble_eq_true rfl, Nat.le_of_ble_eq_true rfl⟩ [] [] [] rfl (by decide) rfl (by decide) (by decide) rfl (by decide) hl.1 rfl (Nat.le_of_ble_eq_true rfl) dX5_roll_24 ⟨Nat.zero_le _, Nat.zero_le _⟩ (fun H locs hW => ?_)
          refine lv_istore (lv' := [(6, .int (pinV (pinQ (nI i) (nI z)))), (5, .int (nI i)), (4, .int (nI ((roS g b z i).2))), (3, .int (nI ((roS g b z i).1))), (0, .int (nI g)), (1, .int (nI b)), (2, .int (nI z))]) C.x C.b dX5_roll_27 hl (by decide) rfl (fun ls hl => ?_)
          refine lv_iload C.x C.b dX5_roll_29 (lv_at hl 0 rfl) ?_
          refine lv_iconst (v := (-1)) C.x C.b dX5_roll_31 (by decide) ?_
          refine lv_icmp_eq C.x C.b (tgt := 59) dX5_roll_32 (by decide) (fun c_4 => ?_) (fun c_4 => ?_)
          · have c_4 : pinV (pinQ (nI i) (nI z)) = (-1 : Int32) := c_4
            refine lv_iinc (k := 1) (v := nI (i + 1)) (lv' := [(5, .int (nI (i + 1))), (6, .int (pinV (pinQ (nI i) (nI z)))), (4, .int (nI ((roS g b z i).2))), (3, .int (nI ((roS g b z i).1))), (0, .int (nI g)), (1, .int (nI b)), (2, .int (nI z))]) C.x C.b dX5_roll_59 hl rfl (z_inc i 1) (by decide) rfl (fun ls hl => ?_)
            refine lv_goto (tgt := 10) C.x C.b dX5_roll_62 (by decide) ?_
            exact ih1 (i + 1) (by omega) (by omega)  _ _ _ (hW.to rfl) (lv_to (lv_sub (l' := [(5, .int (nI (i + 1))), (4, .int (nI ((roS g b z i).2))), (3, .int (nI ((roS g b z i).1))), (0, .int (nI g)), (1, .int (nI b)), (2, .int (nI z))]) hl [0, 2, 3, 4, 5, 6] rfl) (by first | (rw [roM_no (by omega) (fun q => absurd q.1 (pinV_m1.mp (by assumption)))]; done) | (rw [roM_no (by omega) (fun q => by omega)]; done) | (rw [roM_yes (by omega) hp (by omega)]; done)))
          · have c_4 : ¬ (pinV (pinQ (nI i) (nI z)) = (-1 : Int32)) := c_4
            have hp : pinQ (nI i) (nI z) < 9 := pinV_lt (by assumption)
            refine lv_iload_n C.x C.b dX5_roll_35 rfl (lv_at hl 3 rfl) ?_
            refine lv_iload C.x C.b dX5_roll_36 (lv_at hl 0 rfl) ?_
            refine lv_ishr C.x C.b dX5_roll_38 ?_
            refine x_toi (y := nI ((roS g b z i).1 / 2 ^ (pinQ (nI i) (nI z)))) (pinV_shr hp (by omega)) ?_
            refine lv_iconst (v := nI 1) C.x C.b dX5_roll_39 (by decide) ?_
            refine x_iand1 C dX5_roll_40 ?_
            refine x_if_ne C (by omega) (tgt := 47) dX5_roll_41 (by decide) (fun c_5 => ?_) (fun c_5 => ?_)
            · refine lv_iload_n C.x C.b dX5_roll_47 rfl (lv_at hl 3 rfl) ?_
              refine lv_iload C.x C.b dX5_roll_48 (lv_at hl 0 rfl) ?_
              refine lv_iload C.x C.b dX5_roll_50 (lv_at hl 2 rfl) ?_
              refine x_cSI C hW (As := [.int (nI ((roS g b z i).1)), .int (pinV (pinQ (nI i) (nI z))), .int (nI ((roS g b z i).2))]) (rest := []) (wr := []) (wn := []) (met_X5_hit_3 l E ((roS g b z i).1) (pinQ (nI i) (nI z)) (nI ((roS g b z i).2)) (pinQ_le _ _) (by omega) (by rw [nI_toInt (by omega)]; omega)) gX5_roll_X5_hit rfl 3 rfl ⟨rfl, rfl⟩ ⟨by decide +kernel, by decide +kernel, by decide +kernel⟩ ⟨Nat.le_of_ble_eq_true rfl, Nat.le_of_ble_eq_true rfl⟩ [] [] [] rfl (by decide) rfl (by decide) (by decide) rfl (by decide) hl.1 rfl (Nat.le_of_ble_eq_true rfl) dX5_roll_52 ⟨Nat.zero_le _, Nat.zero_le _⟩ (fun H locs hW => ?_)
              refine lv_istore_n (lv' := [(3, .int (nI (hiF 3 ((roS g b z i).1) (pinQ (nI i) (nI z)) (nI ((roS g b z i).2))))), (6, .int (pinV (pinQ (nI i) (nI z)))), (5, .int (nI i)), (4, .int (nI ((roS g b z i).2))), (0, .int (nI g)), (1, .int (nI b)), (2, .int (nI z))]) C.x C.b dX5_roll_55 rfl hl (by decide) rfl (fun ls hl => ?_)
              refine lv_iinc (k := 3) (v := nI (((roS g b z i).2) - 1)) (lv' := [(4, .int (nI (((roS g b z i).2) - 1))), (3, .int (nI (hiF 3 ((roS g b z i).1) (pinQ (nI i) (nI z)) (nI ((roS g b z i).2))))), (6, .int (pinV (pinQ (nI i) (nI z)))), (5, .int (nI i)), (0, .int (nI g)), (1, .int (nI b)), (2, .int (nI z))]) C.x C.b dX5_roll_56 hl rfl (z_dec1 (by omega)) (by decide) rfl (fun ls hl => ?_)
              refine lv_iinc (k := 3) (v := nI (i + 1)) (lv' := [(5, .int (nI (i + 1))), (4, .int (nI (((roS g b z i).2) - 1))), (3, .int (nI (hiF 3 ((roS g b z i).1) (pinQ (nI i) (nI z)) (nI ((roS g b z i).2))))), (6, .int (pinV (pinQ (nI i) (nI z)))), (0, .int (nI g)), (1, .int (nI b)), (2, .int (nI z))]) C.x C.b dX5_roll_59 hl rfl (z_inc i 1) (by decide) rfl (fun ls hl => ?_)
              refine lv_goto (tgt := 10) C.x C.b dX5_roll_62 (by decide) ?_
              exact ih1 (i + 1) (by omega) (by omega)  _ _ _ (hW.to rfl) (lv_to (lv_sub (l' := [(5, .int (nI (i + 1))), (4, .int (nI (((roS g b z i).2) - 1))), (3, .int (nI (hiF 3 ((roS g b z i).1) (pinQ (nI i) (nI z)) (nI ((roS g b z i).2))))), (0, .int (nI g)), (1, .int (nI b)), (2, .int (nI z))]) hl [0, 1, 2, 4, 5, 6] rfl) (by first | (rw [roM_no (by omega) (fun q => absurd q.1 (pinV_m1.mp (by assumption)))]; done) | (rw [roM_no (by omega) (fun q => by omega)]; done) | (rw [roM_yes (by omega) hp (by omega)]; done)))
            · refine lv_goto (tgt := 59) C.x C.b dX5_roll_44 (by decide) ?_
              refine lv_iinc (k := 1) (v := nI (i + 1)) (lv' := [(5, .int (nI (i + 1))), (6, .int (pinV (pinQ (nI i) (nI z)))), (4, .int (nI ((roS g b z i).2))), (3, .int (nI ((roS g b z i).1))), (0, .int (nI g)), (1, .int (nI b)), (2, .int (nI z))]) C.x C.b dX5_roll_59 hl rfl (z_inc i 1) (by decide) rfl (fun ls hl => ?_)
              refine lv_goto (tgt := 10) C.x C.b dX5_roll_62 (by decide) ?_
              exact ih1 (i + 1) (by omega) (by omega)  _ _ _ (hW.to rfl) (lv_to (lv_sub (l' := [(5, .int (nI (i + 1))), (4, .int (nI ((roS g b z i).2))), (3, .int (nI ((roS g b z i).1))), (0, .int (nI g)), (1, .int (nI b)), (2, .int (nI z))]) hl [0, 2, 3, 4, 5, 6] rfl) (by first | (rw [roM_no (by omega) (fun q => absurd q.1 (pinV_m1.mp (by assumption)))]; done) | (rw [roM_no (by omega) (fun q => by omega)]; done) | (rw [roM_yes (by omega) hp (by omega)]; done)))
  exact lp_1 (5 + 1) 0 (by omega) (by omega)  _ _ _ (hW.to rfl) (lv_to (lv_sub (l' := [(5, .int (nI 0)), (4, .int (nI (b + 2))), (3, .int (nI g)), (0, .int (nI g)), (1, .int (nI b)), (2, .int (nI z))]) hl [0, 1, 2, 3, 4, 5] rfl) rfl)
