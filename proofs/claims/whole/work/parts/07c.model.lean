/-! THE REFERENCE, 3 -/
set_option maxHeartbeats 4000000 in
set_option maxRecDepth 100000 in
theorem met_X5_isCleared_0 (l : Launch) (E : EV) (g u : Nat) (hg : g < 512) (hu : u < 32) : MI l yX5_isCleared wsX5_isCleared { frames := 0, cells := 0, slots := 0, locals := 0 } E [.int (nI g), .int (nI u), .int (nI 0)] [] (nI (if ccB 0 g u = true then 1 else 0)) [] := by
  refine sI (own := RX5) (cc := cX5_isCleared) (maxL := 6) (ret := (some .boolean)) rfl (by decide) rfl (Nat.le_of_ble_eq_true rfl) ?_
  intro p e s m below meth c C hnm ls hl hW
  have hl : lv_has ls 6 [(0, .int (nI g)), (1, .int (nI u)), (2, .int (nI 0))] := hl
  have hW : WD E _ s [] s.heap [] := hW
  refine lv_iload_n C.x C.b dX5_isCleared_0 rfl (lv_at hl 0 rfl) ?_
  refine x_if_ne C (by omega) (tgt := 6) dX5_isCleared_1 (by decide) (fun c_1 => ?_) (fun c_1 => ?_)
  · refine lv_iconst (v := nI 0) C.x C.b dX5_isCleared_6 (by decide) ?_
    refine lv_istore_n (lv' := [(3, .int (nI 0)), (0, .int (nI g)), (1, .int (nI u)), (2, .int (nI 0))]) C.x C.b dX5_isCleared_7 rfl hl (by decide) rfl (fun ls hl => ?_)
    refine lv_iload_n C.x C.b dX5_isCleared_8 rfl (lv_at hl 0 rfl) ?_
    refine lv_iconst (v := nI 5) C.x C.b dX5_isCleared_9 (by decide) ?_
    refine x_icmp_ge C (by omega) (by omega) (tgt := 83) dX5_isCleared_10 (by decide) (fun c_2 => ?_) (fun c_2 => ?_)
    · exact absurd c_2 (by decide)
    · refine lv_iload_n C.x C.b dX5_isCleared_13 rfl (lv_at hl 3 rfl) ?_
      refine x_if_le C (by omega) (tgt := 83) dX5_isCleared_14 (by decide) (fun c_3 => ?_) (fun c_3 => ?_)
      · refine lv_iconst (v := nI 0) C.x C.b dX5_isCleared_83 (by decide) ?_
        exact x_iret C hW (by first | rfl | exact z_narb _) (by simp [ccB, c_1, c_2, c_3]) rfl dX5_isCleared_84
      · exact absurd (by decide) c_3
  · refine lv_iconst (v := nI 1) C.x C.b dX5_isCleared_4 (by decide) ?_
    exact x_iret C hW (by first | rfl | exact z_narb _) (by have e0 : g = 0 := (by assumption); rw [e0, if_pos ccB_0]) rfl dX5_isCleared_5

set_option maxHeartbeats 4000000 in
set_option maxRecDepth 100000 in
theorem met_X5_isCleared_1 (l : Launch) (E : EV) (g u : Nat) (hg : g < 512) (hu : u < 32) : MI l yX5_isCleared wsX5_isCleared { frames := 6, cells := 0, slots := 0, locals := 138 } E [.int (nI g), .int (nI u), .int (nI 1)] [] (nI (if ccB 1 g u = true then 1 else 0)) [] := by
  refine sI (own := RX5) (cc := cX5_isCleared) (maxL := 6) (ret := (some .boolean)) rfl (by decide) rfl (Nat.le_of_ble_eq_true rfl) ?_
  intro p e s m below meth c C hnm ls hl hW
  have hl : lv_has ls 6 [(0, .int (nI g)), (1, .int (nI u)), (2, .int (nI 1))] := hl
  have hW : WD E _ s [] s.heap [] := hW
  refine lv_iload_n C.x C.b dX5_isCleared_0 rfl (lv_at hl 0 rfl) ?_
  refine x_if_ne C (by omega) (tgt := 6) dX5_isCleared_1 (by decide) (fun c_1 => ?_) (fun c_1 => ?_)
  · refine lv_iconst (v := nI 0) C.x C.b dX5_isCleared_6 (by decide) ?_
    refine lv_istore_n (lv' := [(3, .int (nI 0)), (0, .int (nI g)), (1, .int (nI u)), (2, .int (nI 1))]) C.x C.b dX5_isCleared_7 rfl hl (by decide) rfl (fun ls hl => ?_)
    have lp_2 : ∀ (n2 b : Nat), b ≤ 5 → 5 + 1 ≤ b + n2 → (∀ b', b' < b → ∀ z', z' < 5 → ccG (ccB 0) g u b' z' = false) → ∀ (H : Heap) (locs : List Loc) (ls : Array Slot), WD E (va_A [] s.heap.size) s [] H locs → lv_has ls 6 [(3, .int (nI b)), (0, .int (nI g)), (1, .int (nI u)), (2, .int (nI 1))] → W p l e ({ frames := 6, cells := 0, slots := 0, locals := 138 } : Room) s m ([.int (nI g), .int (nI u), .int (nI 1)] : List Value).toArray below meth c H locs 0 0 (QI E [] (nI (if ccB 1 g u = true then 1 else 0)) [] below ([.int (nI g), .int (nI u), .int (nI 1)] : List Value).toArray s) (F0 m 8 ls []) := by
      intro n2
      induction n2 with
      | zero => intro b hb hn; exact absurd hn (by omega)
      | succ n2 ih2 =>
        intro b hb hn hib H locs ls hW hl
        refine lv_iload_n C.x C.b dX5_isCleared_8 rfl (lv_at hl 0 rfl) ?_
        refine lv_iconst (v := nI 5) C.x C.b dX5_isCleared_9 (by decide) ?_
        refine x_icmp_ge C (by omega) (by omega) (tgt := 83) dX5_isCleared_10 (by decide) (fun c_3 => ?_) (fun c_3 => ?_)
        · obtain rfl : b = 5 := by omega
          refine lv_iconst (v := nI 0) C.x C.b dX5_isCleared_83 (by decide) ?_
          exact x_iret C hW (by first | rfl | exact z_narb _) (by rw [if_neg (ccB_f (by assumption) hib)]) rfl dX5_isCleared_84
        · refine lv_iload_n C.x C.b dX5_isCleared_13 rfl (lv_at hl 3 rfl) ?_
          refine x_if_le C (by omega) (tgt := 83) dX5_isCleared_14 (by decide) (fun c_4 => ?_) (fun c_4 => ?_)
          · exact absurd c_4 (by decide)
          · refine lv_iload_n C.x C.b dX5_isCleared_17 rfl (lv_at hl 2 rfl) ?_
            refine lv_iload_n C.x C.b dX5_isCleared_18 rfl (lv_at hl 0 rfl) ?_
            refine x_ishr C (by omega) (by omega) dX5_isCleared_19 ?_
            refine lv_iconst (v := nI 1) C.x C.b dX5_isCleared_20 (by decide) ?_
            refine x_iand1 C dX5_isCleared_21 ?_
            refine lv_iconst (v := nI 1) C.x C.b dX5_isCleared_22 (by decide) ?_
            refine x_icmp_ne C (by omega) (by omega) (tgt := 29) dX5_isCleared_23 (by decide) (fun c_5 => ?_) (fun c_5 => ?_)
            · refine lv_iconst (v := nI 0) C.x C.b dX5_isCleared_29 (by decide) ?_
              refine lv_istore (lv' := [(4, .int (nI 0)), (3, .int (nI b)), (0, .int (nI g)), (1, .int (nI u)), (2, .int (nI 1))]) C.x C.b dX5_isCleared_30 hl (by decide) rfl (fun ls hl => ?_)
              have lp_6 : ∀ (n6 z : Nat), z ≤ 5 → 5 + 1 ≤ z + n6 → (∀ z', z' < z → ccG (ccB 0) g u b z' = false) → ∀ (H : Heap) (locs : List Loc) (ls : Array Slot), WD E (va_A [] s.heap.size) s [] H locs → lv_has ls 6 [(4, .int (nI z)), (3, .int (nI b)), (0, .int (nI g)), (1, .int (nI u)), (2, .int (nI 1))] → W p l e ({ frames := 6, cells := 0, slots := 0, locals := 138 } : Room) s m ([.int (nI g), .int (nI u), .int (nI 1)] : List Value).toArray below meth c H locs 0 0 (QI E [] (nI (if ccB 1 g u = true then 1 else 0)) [] below ([.int (nI g), .int (nI u), .int (nI 1)] : List Value).toArray s) (F0 m 32 ls []) := by
                intro n6
                induction n6 with
                | zero => intro z hz hn; exact absurd hn (by omega)
                | succ n6 ih6 =>
                  intro z hz hn hiz H locs ls hW hl
                  refine lv_iload C.x C.b dX5_isCleared_32 (lv_at hl 0 rfl) ?_
                  refine lv_iconst (v := nI 5) C.x C.b dX5_isCleared_34 (by decide) ?_
                  refine x_icmp_ge C (by omega) (by omega) (tgt := 77) dX5_isCleared_35 (by decide) (fun c_7 => ?_) (fun c_7 => ?_)
                  · refine lv_iinc (k := 1) (v := nI (b + 1)) (lv' := [(3, .int (nI (b + 1))), (4, .int (nI z)), (0, .int (nI g)), (1, .int (nI u)), (2, .int (nI 1))]) C.x C.b dX5_isCleared_77 hl rfl (z_inc b 1) (by decide) rfl (fun ls hl => ?_)
                    refine lv_goto (tgt := 8) C.x C.b dX5_isCleared_80 (by decide) ?_
                    exact ih2 (b + 1) (by omega) (by omega) (lt_s hib (by first | (intro z' hz'; exact hiz z' (by omega)) | (intro z' _; simp [ccG, c_1, c_3, c_4, c_5, c_7]))) _ _ _ (hW.to rfl) (lv_to (lv_sub (l' := [(3, .int (nI (b + 1))), (0, .int (nI g)), (1, .int (nI u)), (2, .int (nI 1))]) hl [0, 2, 3, 4] rfl) (by first | rfl | (simp [c_1, c_3, c_4, c_5, c_7]; done) | (rw [if_pos (by omega)]; done) | (rw [if_neg (by omega)]; done) | (exfalso; omega) | ((repeat' split) <;> first | rfl | contradiction | (exfalso; omega))))
                  · refine lv_iload_n C.x C.b dX5_isCleared_38 rfl (lv_at hl 2 rfl) ?_
                    refine lv_iload_n C.x C.b dX5_isCleared_39 rfl (lv_at hl 1 rfl) ?_
                    refine lv_iload C.x C.b dX5_isCleared_40 (lv_at hl 0 rfl) ?_
                    refine x_cSI C hW (As := [.int (nI g), .int (nI b), .int (nI z)]) (rest := []) (wr := []) (wn := []) (met_X5_roll l E g b z (by omega) (by omega) (by omega)) gX5_isCleared_X5_roll rfl 3 rfl ⟨rfl, rfl⟩ ⟨by decide +kernel, by decide +kernel, by decide +kernel⟩ ⟨Nat.le_of_ble_eq_true rfl, Nat.le_of_ble_eq_true rfl⟩ [] [] [] rfl (by decide) rfl (by decide) (by decide) rfl (by decide) hl.1 rfl (Nat.le_of_ble_eq_true rfl) dX5_isCleared_42 ⟨Nat.zero_le _, Nat.zero_le _⟩ (fun H locs hW => ?_)
                    refine lv_istore (lv' := [(5, .int (nI (roN g b z))), (4, .int (nI z)), (3, .int (nI b)), (0, .int (nI g)), (1, .int (nI u)), (2, .int (nI 1))]) C.x C.b dX5_isCleared_45 hl (by decide) rfl (fun ls hl => ?_)
                    refine lv_iload C.x C.b dX5_isCleared_47 (lv_at hl 0 rfl) ?_
                    refine lv_iload_n C.x C.b dX5_isCleared_49 rfl (lv_at hl 3 rfl) ?_
                    refine x_icmp_eq C (by have := ro_lt (b := b) (z := z) hg; omega) (by omega) (tgt := 71) dX5_isCleared_50 (by decide) (fun c_8 => ?_) (fun c_8 => ?_)
                    · refine lv_iinc (k := 1) (v := nI (z + 1)) (lv' := [(4, .int (nI (z + 1))), (5, .int (nI (roN g b z))), (3, .int (nI b)), (0, .int (nI g)), (1, .int (nI u)), (2, .int (nI 1))]) C.x C.b dX5_isCleared_71 hl rfl (z_inc z 1) (by decide) rfl (fun ls hl => ?_)
                      refine lv_goto (tgt := 32) C.x C.b dX5_isCleared_74 (by decide) ?_
                      exact ih6 (z + 1) (by omega) (by omega) (lt_s hiz (by simp [ccG, c_1, c_3, c_4, c_5, c_7, c_8])) _ _ _ (hW.to rfl) (lv_to (lv_sub (l' := [(4, .int (nI (z + 1))), (3, .int (nI b)), (0, .int (nI g)), (1, .int (nI u)), (2, .int (nI 1))]) hl [0, 2, 3, 4, 5] rfl) (by first | rfl | (simp [c_1, c_3, c_4, c_5, c_7, c_8]; done) | (rw [if_pos (by omega)]; done) | (rw [if_neg (by omega)]; done) | (exfalso; omega) | ((repeat' split) <;> first | rfl | contradiction | (exfalso; omega))))
                    · refine lv_iload C.x C.b dX5_isCleared_53 (lv_at hl 0 rfl) ?_
                      refine lv_iload_n C.x C.b dX5_isCleared_55 rfl (lv_at hl 4 rfl) ?_
                      refine lv_iconst (v := nI 1) C.x C.b dX5_isCleared_56 (by decide) ?_
                      refine lv_iload_n C.x C.b dX5_isCleared_57 rfl (lv_at hl 2 rfl) ?_
                      refine x_ishl1 C (by omega) dX5_isCleared_58 ?_
                      refine x_ior C dX5_isCleared_59 ?_
                      refine lv_iload_n C.x C.b dX5_isCleared_60 rfl (lv_at hl 5 rfl) ?_
                      refine lv_iconst (v := nI 1) C.x C.b dX5_isCleared_61 (by decide) ?_
                      refine lv_isub C.x C.b dX5_isCleared_62 ?_
                      refine x_toi (y := nI 0) (by decide) ?_
                      refine x_cSI C hW (As := [.int (nI (roN g b z)), .int (nI (u ||| (2 ^ b))), .int (nI 0)]) (rest := []) (wr := []) (wn := []) (met_X5_isCleared_0 l E (roN g b z) (u ||| (2 ^ b)) (ro_lt hg) (or_lt32 hu (by omega))) gX5_isCleared_X5_isCleared rfl 3 rfl ⟨rfl, rfl⟩ ⟨by decide +kernel, by decide +kernel, by decide +kernel⟩ ⟨Nat.le_of_ble_eq_true rfl, Nat.le_of_ble_eq_true rfl⟩ [] [] [] rfl (by decide) rfl (by decide) (by decide) rfl (by decide) hl.1 rfl (Nat.le_of_ble_eq_true rfl) dX5_isCleared_63 ⟨Nat.zero_le _, Nat.zero_le _⟩ (fun H locs hW => ?_)
                      refine x_ifb_eq C (tgt := 71) dX5_isCleared_66 (by decide) (fun c_9 => ?_) (fun c_9 => ?_)
                      · refine lv_iinc (k := 1) (v := nI (z + 1)) (lv' := [(4, .int (nI (z + 1))), (5, .int (nI (roN g b z))), (3, .int (nI b)), (0, .int (nI g)), (1, .int (nI u)), (2, .int (nI 1))]) C.x C.b dX5_isCleared_71 hl rfl (z_inc z 1) (by decide) rfl (fun ls hl => ?_)
                        refine lv_goto (tgt := 32) C.x C.b dX5_isCleared_74 (by decide) ?_
                        exact ih6 (z + 1) (by omega) (by omega) (lt_s hiz (by simp [ccG, c_1, c_3, c_4, c_5, c_7, c_8, c_9])) _ _ _ (hW.to rfl) (lv_to (lv_sub (l' := [(4, .int (nI (z + 1))), (3, .int (nI b)), (0, .int (nI g)), (1, .int (nI u)), (2, .int (nI 1))]) hl [0, 2, 3, 4, 5] rfl) (by first | rfl | (simp [c_1, c_3, c_4, c_5, c_7, c_8, c_9]; done) | (rw [if_pos (by omega)]; done) | (rw [if_neg (by omega)]; done) | (exfalso; omega) | ((repeat' split) <;> first | rfl | contradiction | (exfalso; omega))))
                      · refine lv_iconst (v := nI 1) C.x C.b dX5_isCleared_69 (by decide) ?_
                        exact x_iret C hW (by first | rfl | exact z_narb _) (by rw [if_pos (ccB_t (b := b) (z := z) (by omega) (by omega) (by simp [ccG, c_1, c_3, c_4, c_5, c_7, c_8, c_9]))]) rfl dX5_isCleared_70
              exact lp_6 (5 + 1) 0 (by omega) (by omega) (fun _ h => absurd h (Nat.not_lt_zero _)) _ _ _ (hW.to rfl) (lv_to (lv_sub (l' := [(4, .int (nI 0)), (3, .int (nI b)), (0, .int (nI g)), (1, .int (nI u)), (2, .int (nI 1))]) hl [0, 1, 2, 3, 4] rfl) rfl)
            · refine lv_goto (tgt := 77) C.x C.b dX5_isCleared_26 (by decide) ?_
              refine lv_iinc (k := 0) (v := nI (b + 1)) (lv' := [(3, .int (nI (b + 1))), (0, .int (nI g)), (1, .int (nI u)), (2, .int (nI 1))]) C.x C.b dX5_isCleared_77 hl rfl (z_inc b 1) (by decide) rfl (fun ls hl => ?_)
              refine lv_goto (tgt := 8) C.x C.b dX5_isCleared_80 (by decide) ?_
              exact ih2 (b + 1) (by omega) (by omega) (lt_s hib (by first | (intro z' hz'; exact hiz z' (by omega)) | (intro z' _; simp [ccG, c_1, c_3, c_4, c_5]))) _ _ _ (hW.to rfl) (lv_to (lv_sub (l' := [(3, .int (nI (b + 1))), (0, .int (nI g)), (1, .int (nI u)), (2, .int (nI 1))]) hl [0, 1, 2, 3] rfl) (by first | rfl | (simp [c_1, c_3, c_4, c_5]; done) | (rw [if_pos (by omega)]; done) | (rw [if_neg (by omega)]; done) | (exfalso; omega) | ((repeat' split) <;> first | rfl | contradiction | (exfalso; omega))))
    exact lp_2 (5 + 1) 0 (by omega) (by omega) (fun _ h => absurd h (Nat.not_lt_zero _)) _ _ _ (hW.to rfl) (lv_to (lv_sub (l' := [(3, .int (nI 0)), (0, .int (nI g)), (1, .int (nI u)), (2, .int (nI 1))]) hl [0, 1, 2, 3] rfl) rfl)
  · refine lv_iconst (v := nI 1) C.x C.b dX5_isCleared_4 (by decide) ?_
    exact x_iret C hW (by first | rfl | exact z_narb _) (by have e0 : g = 0 := (by assumption); rw [e0, if_pos ccB_0]) rfl dX5_isCleared_5

set_option maxHeartbeats 4000000 in
set_option maxRecDepth 100000 in
theorem met_X5_isCleared_2 (l : Launch) (E : EV) (g u : Nat) (hg : g < 512) (hu : u < 32) : MI l yX5_isCleared wsX5_isCleared { frames := 7, cells := 0, slots := 0, locals := 163 } E [.int (nI g), .int (nI u), .int (nI 2)] [] (nI (if ccB 2 g u = true then 1 else 0)) [] := by
  refine sI (own := RX5) (cc := cX5_isCleared) (maxL := 6) (ret := (some .boolean)) rfl (by decide) rfl (Nat.le_of_ble_eq_true rfl) ?_
  intro p e s m below meth c C hnm ls hl hW
  have hl : lv_has ls 6 [(0, .int (nI g)), (1, .int (nI u)), (2, .int (nI 2))] := hl
  have hW : WD E _ s [] s.heap [] := hW
  refine lv_iload_n C.x C.b dX5_isCleared_0 rfl (lv_at hl 0 rfl) ?_
  refine x_if_ne C (by omega) (tgt := 6) dX5_isCleared_1 (by decide) (fun c_1 => ?_) (fun c_1 => ?_)
  · refine lv_iconst (v := nI 0) C.x C.b dX5_isCleared_6 (by decide) ?_
    refine lv_istore_n (lv' := [(3, .int (nI 0)), (0, .int (nI g)), (1, .int (nI u)), (2, .int (nI 2))]) C.x C.b dX5_isCleared_7 rfl hl (by decide) rfl (fun ls hl => ?_)
    have lp_2 : ∀ (n2 b : Nat), b ≤ 5 → 5 + 1 ≤ b + n2 → (∀ b', b' < b → ∀ z', z' < 5 → ccG (ccB 1) g u b' z' = false) → ∀ (H : Heap) (locs : List Loc) (ls : Array Slot), WD E (va_A [] s.heap.size) s [] H locs → lv_has ls 6 [(3, .int (nI b)), (0, .int (nI g)), (1, .int (nI u)), (2, .int (nI 2))] → W p l e ({ frames := 7, cells := 0, slots := 0, locals := 163 } : Room) s m ([.int (nI g), .int (nI u), .int (nI 2)] : List Value).toArray below meth c H locs 0 0 (QI E [] (nI (if ccB 2 g u = true then 1 else 0)) [] below ([.int (nI g), .int (nI u), .int (nI 2)] : List Value).toArray s) (F0 m 8 ls []) := by
      intro n2
      induction n2 with
      | zero => intro b hb hn; exact absurd hn (by omega)
      | succ n2 ih2 =>
        intro b hb hn hib H locs ls hW hl
        refine lv_iload_n C.x C.b dX5_isCleared_8 rfl (lv_at hl 0 rfl) ?_
        refine lv_iconst (v := nI 5) C.x C.b dX5_isCleared_9 (by decide) ?_
        refine x_icmp_ge C (by omega) (by omega) (tgt := 83) dX5_isCleared_10 (by decide) (fun c_3 => ?_) (fun c_3 => ?_)
        · obtain rfl : b = 5 := by omega
          refine lv_iconst (v := nI 0) C.x C.b dX5_isCleared_83 (by decide) ?_
          exact x_iret C hW (by first | rfl | exact z_narb _) (by rw [if_neg (ccB_f (by assumption) hib)]) rfl dX5_isCleared_84
        · refine lv_iload_n C.x C.b dX5_isCleared_13 rfl (lv_at hl 3 rfl) ?_
          refine x_if_le C (by omega) (tgt := 83) dX5_isCleared_14 (by decide) (fun c_4 => ?_) (fun c_4 => ?_)
          · exact absurd c_4 (by decide)
          · refine lv_iload_n C.x C.b dX5_isCleared_17 rfl (lv_at hl 2 rfl) ?_
            refine lv_iload_n C.x C.b dX5_isCleared_18 rfl (lv_at hl 0 rfl) ?_
            refine x_ishr C (by omega) (by omega) dX5_isCleared_19 ?_
            refine lv_iconst (v := nI 1) C.x C.b dX5_isCleared_20 (by decide) ?_
            refine x_iand1 C dX5_isCleared_21 ?_
            refine lv_iconst (v := nI 1) C.x C.b dX5_isCleared_22 (by decide) ?_
            refine x_icmp_ne C (by omega) (by omega) (tgt := 29) dX5_isCleared_23 (by decide) (fun c_5 => ?_) (fun c_5 => ?_)
            · refine lv_iconst (v := nI 0) C.x C.b dX5_isCleared_29 (by decide) ?_
              refine lv_istore (lv' := [(4, .int (nI 0)), (3, .int (nI b)), (0, .int (nI g)), (1, .int (nI u)), (2, .int (nI 2))]) C.x C.b dX5_isCleared_30 hl (by decide) rfl (fun ls hl => ?_)
              have lp_6 : ∀ (n6 z : Nat), z ≤ 5 → 5 + 1 ≤ z + n6 → (∀ z', z' < z → ccG (ccB 1) g u b z' = false) → ∀ (H : Heap) (locs : List Loc) (ls : Array Slot), WD E (va_A [] s.heap.size) s [] H locs → lv_has ls 6 [(4, .int (nI z)), (3, .int (nI b)), (0, .int (nI g)), (1, .int (nI u)), (2, .int (nI 2))] → W p l e ({ frames := 7, cells := 0, slots := 0, locals := 163 } : Room) s m ([.int (nI g), .int (nI u), .int (nI 2)] : List Value).toArray below meth c H locs 0 0 (QI E [] (nI (if ccB 2 g u = true then 1 else 0)) [] below ([.int (nI g), .int (nI u), .int (nI 2)] : List Value).toArray s) (F0 m 32 ls []) := by
                intro n6
                induction n6 with
                | zero => intro z hz hn; exact absurd hn (by omega)
                | succ n6 ih6 =>
                  intro z hz hn hiz H locs ls hW hl
                  refine lv_iload C.x C.b dX5_isCleared_32 (lv_at hl 0 rfl) ?_
                  refine lv_iconst (v := nI 5) C.x C.b dX5_isCleared_34 (by decide) ?_
                  refine x_icmp_ge C (by omega) (by omega) (tgt := 77) dX5_isCleared_35 (by decide) (fun c_7 => ?_) (fun c_7 => ?_)
                  · refine lv_iinc (k := 1) (v := nI (b + 1)) (lv' := [(3, .int (nI (b + 1))), (4, .int (nI z)), (0, .int (nI g)), (1, .int (nI u)), (2, .int (nI 2))]) C.x C.b dX5_isCleared_77 hl rfl (z_inc b 1) (by decide) rfl (fun ls hl => ?_)
                    refine lv_goto (tgt := 8) C.x C.b dX5_isCleared_80 (by decide) ?_
                    exact ih2 (b + 1) (by omega) (by omega) (lt_s hib (by first | (intro z' hz'; exact hiz z' (by omega)) | (intro z' _; simp [ccG, c_1, c_3, c_4, c_5, c_7]))) _ _ _ (hW.to rfl) (lv_to (lv_sub (l' := [(3, .int (nI (b + 1))), (0, .int (nI g)), (1, .int (nI u)), (2, .int (nI 2))]) hl [0, 2, 3, 4] rfl) (by first | rfl | (simp [c_1, c_3, c_4, c_5, c_7]; done) | (rw [if_pos (by omega)]; done) | (rw [if_neg (by omega)]; done) | (exfalso; omega) | ((repeat' split) <;> first | rfl | contradiction | (exfalso; omega))))
                  · refine lv_iload_n C.x C.b dX5_isCleared_38 rfl (lv_at hl 2 rfl) ?_
                    refine lv_iload_n C.x C.b dX5_isCleared_39 rfl (lv_at hl 1 rfl) ?_
                    refine lv_iload C.x C.b dX5_isCleared_40 (lv_at hl 0 rfl) ?_
                    refine x_cSI C hW (As := [.int (nI g), .int (nI b), .int (nI z)]) (rest := []) (wr := []) (wn := []) (met_X5_roll l E g b z (by omega) (by omega) (by omega)) gX5_isCleared_X5_roll rfl 3 rfl ⟨rfl, rfl⟩ ⟨by decide +kernel, by decide +kernel, by decide +kernel⟩ ⟨Nat.le_of_ble_eq_true rfl, Nat.le_of_ble_eq_true rfl⟩ [] [] [] rfl (by decide) rfl (by decide) (by decide) rfl (by decide) hl.1 rfl (Nat.le_of_ble_eq_true rfl) dX5_isCleared_42 ⟨Nat.zero_le _, Nat.zero_le _⟩ (fun H locs hW => ?_)
                    refine lv_istore (lv' := [(5, .int (nI (roN g b z))), (4, .int (nI z)), (3, .int (nI b)), (0, .int (nI g)), (1, .int (nI u)), (2, .int (nI 2))]) C.x C.b dX5_isCleared_45 hl (by decide) rfl (fun ls hl => ?_)
                    refine lv_iload C.x C.b dX5_isCleared_47 (lv_at hl 0 rfl) ?_
                    refine lv_iload_n C.x C.b dX5_isCleared_49 rfl (lv_at hl 3 rfl) ?_
                    refine x_icmp_eq C (by have := ro_lt (b := b) (z := z) hg; omega) (by omega) (tgt := 71) dX5_isCleared_50 (by decide) (fun c_8 => ?_) (fun c_8 => ?_)
                    · refine lv_iinc (k := 1) (v := nI (z + 1)) (lv' := [(4, .int (nI (z + 1))), (5, .int (nI (roN g b z))), (3, .int (nI b)), (0, .int (nI g)), (1, .int (nI u)), (2, .int (nI 2))]) C.x C.b dX5_isCleared_71 hl rfl (z_inc z 1) (by decide) rfl (fun ls hl => ?_)
                      refine lv_goto (tgt := 32) C.x C.b dX5_isCleared_74 (by decide) ?_
                      exact ih6 (z + 1) (by omega) (by omega) (lt_s hiz (by simp [ccG, c_1, c_3, c_4, c_5, c_7, c_8])) _ _ _ (hW.to rfl) (lv_to (lv_sub (l' := [(4, .int (nI (z + 1))), (3, .int (nI b)), (0, .int (nI g)), (1, .int (nI u)), (2, .int (nI 2))]) hl [0, 2, 3, 4, 5] rfl) (by first | rfl | (simp [c_1, c_3, c_4, c_5, c_7, c_8]; done) | (rw [if_pos (by omega)]; done) | (rw [if_neg (by omega)]; done) | (exfalso; omega) | ((repeat' split) <;> first | rfl | contradiction | (exfalso; omega))))
                    · refine lv_iload C.x C.b dX5_isCleared_53 (lv_at hl 0 rfl) ?_
                      refine lv_iload_n C.x C.b dX5_isCleared_55 rfl (lv_at hl 4 rfl) ?_
                      refine lv_iconst (v := nI 1) C.x C.b dX5_isCleared_56 (by decide) ?_
                      refine lv_iload_n C.x C.b dX5_isCleared_57 rfl (lv_at hl 2 rfl) ?_
                      refine x_ishl1 C (by omega) dX5_isCleared_58 ?_
                      refine x_ior C dX5_isCleared_59 ?_
                      refine lv_iload_n C.x C.b dX5_isCleared_60 rfl (lv_at hl 5 rfl) ?_
                      refine lv_iconst (v := nI 1) C.x C.b dX5_isCleared_61 (by decide) ?_
                      refine lv_isub C.x C.b dX5_isCleared_62 ?_
                      refine x_toi (y := nI 1) (by decide) ?_
                      refine x_cSI C hW (As := [.int (nI (roN g b z)), .int (nI (u ||| (2 ^ b))), .int (nI 1)]) (rest := []) (wr := []) (wn := []) (met_X5_isCleared_1 l E (roN g b z) (u ||| (2 ^ b)) (ro_lt hg) (or_lt32 hu (by omega))) gX5_isCleared_X5_isCleared rfl 3 rfl ⟨rfl, rfl⟩ ⟨by decide +kernel, by decide +kernel, by decide +kernel⟩ ⟨Nat.le_of_ble_eq_true rfl, Nat.le_of_ble_eq_true rfl⟩ [] [] [] rfl (by decide) rfl (by decide) (by decide) rfl (by decide) hl.1 rfl (Nat.le_of_ble_eq_true rfl) dX5_isCleared_63 ⟨Nat.zero_le _, Nat.zero_le _⟩ (fun H locs hW => ?_)
                      refine x_ifb_eq C (tgt := 71) dX5_isCleared_66 (by decide) (fun c_9 => ?_) (fun c_9 => ?_)
                      · refine lv_iinc (k := 1) (v := nI (z + 1)) (lv' := [(4, .int (nI (z + 1))), (5, .int (nI (roN g b z))), (3, .int (nI b)), (0, .int (nI g)), (1, .int (nI u)), (2, .int (nI 2))]) C.x C.b dX5_isCleared_71 hl rfl (z_inc z 1) (by decide) rfl (fun ls hl => ?_)
                        refine lv_goto (tgt := 32) C.x C.b dX5_isCleared_74 (by decide) ?_
                        exact ih6 (z + 1) (by omega) (by omega) (lt_s hiz (by simp [ccG, c_1, c_3, c_4, c_5, c_7, c_8, c_9])) _ _ _ (hW.to rfl) (lv_to (lv_sub (l' := [(4, .int (nI (z + 1))), (3, .int (nI b)), (0, .int (nI g)), (1, .int (nI u)), (2, .int (nI 2))]) hl [0, 2, 3, 4, 5] rfl) (by first | rfl | (simp [c_1, c_3, c_4, c_5, c_7, c_8, c_9]; done) | (rw [if_pos (by omega)]; done) | (rw [if_neg (by omega)]; done) | (exfalso; omega) | ((repeat' split) <;> first | rfl | contradiction | (exfalso; omega))))
                      · refine lv_iconst (v := nI 1) C.x C.b dX5_isCleared_69 (by decide) ?_
                        exact x_iret C hW (by first | rfl | exact z_narb _) (by rw [if_pos (ccB_t (b := b) (z := z) (by omega) (by omega) (by simp [ccG, c_1, c_3, c_4, c_5, c_7, c_8, c_9]))]) rfl dX5_isCleared_70
              exact lp_6 (5 + 1) 0 (by omega) (by omega) (fun _ h => absurd h (Nat.not_lt_zero _)) _ _ _ (hW.to rfl) (lv_to (lv_sub (l' := [(4, .int (nI 0)), (3, .int (nI b)), (0, .int (nI g)), (1, .int (nI u)), (2, .int (nI 2))]) hl [0, 1, 2, 3, 4] rfl) rfl)
            · refine lv_goto (tgt := 77) C.x C.b dX5_isCleared_26 (by decide) ?_
              refine lv_iinc (k := 0) (v := nI (b + 1)) (lv' := [(3, .int (nI (b + 1))), (0, .int (nI g)), (1, .int (nI u)), (2, .int (nI 2))]) C.x C.b dX5_isCleared_77 hl rfl (z_inc b 1) (by decide) rfl (fun ls hl => ?_)
              refine lv_goto (tgt := 8) C.x C.b dX5_isCleared_80 (by decide) ?_
              exact ih2 (b + 1) (by omega) (by omega) (lt_s hib (by first | (intro z' hz'; exact hiz z' (by omega)) | (intro z' _; simp [ccG, c_1, c_3, c_4, c_5]))) _ _ _ (hW.to rfl) (lv_to (lv_sub (l' := [(3, .int (nI (b + 1))), (0, .int (nI g)), (1, .int (nI u)), (2, .int (nI 2))]) hl [0, 1, 2, 3] rfl) (by first | rfl | (simp [c_1, c_3, c_4, c_5]; done) | (rw [if_pos (by omega)]; done) | (rw [if_neg (by omega)]; done) | (exfalso; omega) | ((repeat' split) <;> first | rfl | contradiction | (exfalso; omega))))
    exact lp_2 (5 + 1) 0 (by omega) (by omega) (fun _ h => absurd h (Nat.not_lt_zero _)) _ _ _ (hW.to rfl) (lv_to (lv_sub (l' := [(3, .int (nI 0)), (0, .int (nI g)), (1, .int (nI u)), (2, .int (nI 2))]) hl [0, 1, 2, 3] rfl) rfl)
  · refine lv_iconst (v := nI 1) C.x C.b dX5_isCleared_4 (by decide) ?_
    exact x_iret C hW (by first | rfl | exact z_narb _) (by have e0 : g = 0 := (by assumption); rw [e0, if_pos ccB_0]) rfl dX5_isCleared_5

set_option maxHeartbeats 4000000 in
set_option maxRecDepth 100000 in
theorem met_X5_isCleared_3 (l : Launch) (E : EV) (g u : Nat) (hg : g < 512) (hu : u < 32) : MI l yX5_isCleared wsX5_isCleared { frames := 8, cells := 0, slots := 0, locals := 188 } E [.int (nI g), .int (nI u), .int (nI 3)] [] (nI (if ccB 3 g u = true then 1 else 0)) [] := by
  refine sI (own := RX5) (cc := cX5_isCleared) (maxL := 6) (ret := (some .boolean)) rfl (by decide) rfl (Nat.le_of_ble_eq_true rfl) ?_
  intro p e s m below meth c C hnm ls hl hW
  have hl : lv_has ls 6 [(0, .int (nI g)), (1, .int (nI u)), (2, .int (nI 3))] := hl
  have hW : WD E _ s [] s.heap [] := hW
  refine lv_iload_n C.x C.b dX5_isCleared_0 rfl (lv_at hl 0 rfl) ?_
  refine x_if_ne C (by omega) (tgt := 6) dX5_isCleared_1 (by decide) (fun c_1 => ?_) (fun c_1 => ?_)
  · refine lv_iconst (v := nI 0) C.x C.b dX5_isCleared_6 (by decide) ?_
    refine lv_istore_n (lv' := [(3, .int (nI 0)), (0, .int (nI g)), (1, .int (nI u)), (2, .int (nI 3))]) C.x C.b dX5_isCleared_7 rfl hl (by decide) rfl (fun ls hl => ?_)
    have lp_2 : ∀ (n2 b : Nat), b ≤ 5 → 5 + 1 ≤ b + n2 → (∀ b', b' < b → ∀ z', z' < 5 → ccG (ccB 2) g u b' z' = false) → ∀ (H : Heap) (locs : List Loc) (ls : Array Slot), WD E (va_A [] s.heap.size) s [] H locs → lv_has ls 6 [(3, .int (nI b)), (0, .int (nI g)), (1, .int (nI u)), (2, .int (nI 3))] → W p l e ({ frames := 8, cells := 0, slots := 0, locals := 188 } : Room) s m ([.int (nI g), .int (nI u), .int (nI 3)] : List Value).toArray below meth c H locs 0 0 (QI E [] (nI (if ccB 3 g u = true then 1 else 0)) [] below ([.int (nI g), .int (nI u), .int (nI 3)] : List Value).toArray s) (F0 m 8 ls []) := by
      intro n2
      induction n2 with
      | zero => intro b hb hn; exact absurd hn (by omega)
      | succ n2 ih2 =>
        intro b hb hn hib H locs ls hW hl
        refine lv_iload_n C.x C.b dX5_isCleared_8 rfl (lv_at hl 0 rfl) ?_
        refine lv_iconst (v := nI 5) C.x C.b dX5_isCleared_9 (by decide) ?_
        refine x_icmp_ge C (by omega) (by omega) (tgt := 83) dX5_isCleared_10 (by decide) (fun c_3 => ?_) (fun c_3 => ?_)
        · obtain rfl : b = 5 := by omega
          refine lv_iconst (v := nI 0) C.x C.b dX5_isCleared_83 (by decide) ?_
          exact x_iret C hW (by first | rfl | exact z_narb _) (by rw [if_neg (ccB_f (by assumption) hib)]) rfl dX5_isCleared_84
        · refine lv_iload_n C.x C.b dX5_isCleared_13 rfl (lv_at hl 3 rfl) ?_
          refine x_if_le C (by omega) (tgt := 83) dX5_isCleared_14 (by decide) (fun c_4 => ?_) (fun c_4 => ?_)
          · exact absurd c_4 (by decide)
          · refine lv_iload_n C.x C.b dX5_isCleared_17 rfl (lv_at hl 2 rfl) ?_
            refine lv_iload_n C.x C.b dX5_isCleared_18 rfl (lv_at hl 0 rfl) ?_
            refine x_ishr C (by omega) (by omega) dX5_isCleared_19 ?_
            refine lv_iconst (v := nI 1) C.x C.b dX5_isCleared_20 (by decide) ?_
            refine x_iand1 C dX5_isCleared_21 ?_
            refine lv_iconst (v := nI 1) C.x C.b dX5_isCleared_22 (by decide) ?_
            refine x_icmp_ne C (by omega) (by omega) (tgt := 29) dX5_isCleared_23 (by decide) (fun c_5 => ?_) (fun c_5 => ?_)
            · refine lv_iconst (v := nI 0) C.x C.b dX5_isCleared_29 (by decide) ?_
              refine lv_istore (lv' := [(4, .int (nI 0)), (3, .int (nI b)), (0, .int (nI g)), (1, .int (nI u)), (2, .int (nI 3))]) C.x C.b dX5_isCleared_30 hl (by decide) rfl (fun ls hl => ?_)
              have lp_6 : ∀ (n6 z : Nat), z ≤ 5 → 5 + 1 ≤ z + n6 → (∀ z', z' < z → ccG (ccB 2) g u b z' = false) → ∀ (H : Heap) (locs : List Loc) (ls : Array Slot), WD E (va_A [] s.heap.size) s [] H locs → lv_has ls 6 [(4, .int (nI z)), (3, .int (nI b)), (0, .int (nI g)), (1, .int (nI u)), (2, .int (nI 3))] → W p l e ({ frames := 8, cells := 0, slots := 0, locals := 188 } : Room) s m ([.int (nI g), .int (nI u), .int (nI 3)] : List Value).toArray below meth c H locs 0 0 (QI E [] (nI (if ccB 3 g u = true then 1 else 0)) [] below ([.int (nI g), .int (nI u), .int (nI 3)] : List Value).toArray s) (F0 m 32 ls []) := by
                intro n6
                induction n6 with
                | zero => intro z hz hn; exact absurd hn (by omega)
                | succ n6 ih6 =>
                  intro z hz hn hiz H locs ls hW hl
                  refine lv_iload C.x C.b dX5_isCleared_32 (lv_at hl 0 rfl) ?_
                  refine lv_iconst (v := nI 5) C.x C.b dX5_isCleared_34 (by decide) ?_
                  refine x_icmp_ge C (by omega) (by omega) (tgt := 77) dX5_isCleared_35 (by decide) (fun c_7 => ?_) (fun c_7 => ?_)
                  · refine lv_iinc (k := 1) (v := nI (b + 1)) (lv' := [(3, .int (nI (b + 1))), (4, .int (nI z)), (0, .int (nI g)), (1, .int (nI u)), (2, .int (nI 3))]) C.x C.b dX5_isCleared_77 hl rfl (z_inc b 1) (by decide) rfl (fun ls hl => ?_)
                    refine lv_goto (tgt := 8) C.x C.b dX5_isCleared_80 (by decide) ?_
                    exact ih2 (b + 1) (by omega) (by omega) (lt_s hib (by first | (intro z' hz'; exact hiz z' (by omega)) | (intro z' _; simp [ccG, c_1, c_3, c_4, c_5, c_7]))) _ _ _ (hW.to rfl) (lv_to (lv_sub (l' := [(3, .int (nI (b + 1))), (0, .int (nI g)), (1, .int (nI u)), (2, .int (nI 3))]) hl [0, 2, 3, 4] rfl) (by first | rfl | (simp [c_1, c_3, c_4, c_5, c_7]; done) | (rw [if_pos (by omega)]; done) | (rw [if_neg (by omega)]; done) | (exfalso; omega) | ((repeat' split) <;> first | rfl | contradiction | (exfalso; omega))))
                  · refine lv_iload_n C.x C.b dX5_isCleared_38 rfl (lv_at hl 2 rfl) ?_
                    refine lv_iload_n C.x C.b dX5_isCleared_39 rfl (lv_at hl 1 rfl) ?_
                    refine lv_iload C.x C.b dX5_isCleared_40 (lv_at hl 0 rfl) ?_
                    refine x_cSI C hW (As := [.int (nI g), .int (nI b), .int (nI z)]) (rest := []) (wr := []) (wn := []) (met_X5_roll l E g b z (by omega) (by omega) (by omega)) gX5_isCleared_X5_roll rfl 3 rfl ⟨rfl, rfl⟩ ⟨by decide +kernel, by decide +kernel, by decide +kernel⟩ ⟨Nat.le_of_ble_eq_true rfl, Nat.le_of_ble_eq_true rfl⟩ [] [] [] rfl (by decide) rfl (by decide) (by decide) rfl (by decide) hl.1 rfl (Nat.le_of_ble_eq_true rfl) dX5_isCleared_42 ⟨Nat.zero_le _, Nat.zero_le _⟩ (fun H locs hW => ?_)
                    refine lv_istore (lv' := [(5, .int (nI (roN g b z))), (4, .int (nI z)), (3, .int (nI b)), (0, .int (nI g)), (1, .int (nI u)), (2, .int (nI 3))]) C.x C.b dX5_isCleared_45 hl (by decide) rfl (fun ls hl => ?_)
                    refine lv_iload C.x C.b dX5_isCleared_47 (lv_at hl 0 rfl) ?_
                    refine lv_iload_n C.x C.b dX5_isCleared_49 rfl (lv_at hl 3 rfl) ?_
                    refine x_icmp_eq C (by have := ro_lt (b := b) (z := z) hg; omega) (by omega) (tgt := 71) dX5_isCleared_50 (by decide) (fun c_8 => ?_) (fun c_8 => ?_)
                    · refine lv_iinc (k := 1) (v := nI (z + 1)) (lv' := [(4, .int (nI (z + 1))), (5, .int (nI (roN g b z))), (3, .int (nI b)), (0, .int (nI g)), (1, .int (nI u)), (2, .int (nI 3))]) C.x C.b dX5_isCleared_71 hl rfl (z_inc z 1) (by decide) rfl (fun ls hl => ?_)
                      refine lv_goto (tgt := 32) C.x C.b dX5_isCleared_74 (by decide) ?_
                      exact ih6 (z + 1) (by omega) (by omega) (lt_s hiz (by simp [ccG, c_1, c_3, c_4, c_5, c_7, c_8])) _ _ _ (hW.to rfl) (lv_to (lv_sub (l' := [(4, .int (nI (z + 1))), (3, .int (nI b)), (0, .int (nI g)), (1, .int (nI u)), (2, .int (nI 3))]) hl [0, 2, 3, 4, 5] rfl) (by first | rfl | (simp [c_1, c_3, c_4, c_5, c_7, c_8]; done) | (rw [if_pos (by omega)]; done) | (rw [if_neg (by omega)]; done) | (exfalso; omega) | ((repeat' split) <;> first | rfl | contradiction | (exfalso; omega))))
                    · refine lv_iload C.x C.b dX5_isCleared_53 (lv_at hl 0 rfl) ?_
                      refine lv_iload_n C.x C.b dX5_isCleared_55 rfl (lv_at hl 4 rfl) ?_
                      refine lv_iconst (v := nI 1) C.x C.b dX5_isCleared_56 (by decide) ?_
                      refine lv_iload_n C.x C.b dX5_isCleared_57 rfl (lv_at hl 2 rfl) ?_
                      refine x_ishl1 C (by omega) dX5_isCleared_58 ?_
                      refine x_ior C dX5_isCleared_59 ?_
                      refine lv_iload_n C.x C.b dX5_isCleared_60 rfl (lv_at hl 5 rfl) ?_
                      refine lv_iconst (v := nI 1) C.x C.b dX5_isCleared_61 (by decide) ?_
                      refine lv_isub C.x C.b dX5_isCleared_62 ?_
                      refine x_toi (y := nI 2) (by decide) ?_
                      refine x_cSI C hW (As := [.int (nI (roN g b z)), .int (nI (u ||| (2 ^ b))), .int (nI 2)]) (rest := []) (wr := []) (wn := []) (met_X5_isCleared_2 l E (roN g b z) (u ||| (2 ^ b)) (ro_lt hg) (or_lt32 hu (by omega))) gX5_isCleared_X5_isCleared rfl 3 rfl ⟨rfl, rfl⟩ ⟨by decide +kernel, by decide +kernel, by decide +kernel⟩ ⟨Nat.le_of_ble_eq_true rfl, Nat.le_of_ble_eq_true rfl⟩ [] [] [] rfl (by decide) rfl (by decide) (by decide) rfl (by decide) hl.1 rfl (Nat.le_of_ble_eq_true rfl) dX5_isCleared_63 ⟨Nat.zero_le _, Nat.zero_le _⟩ (fun H locs hW => ?_)
                      refine x_ifb_eq C (tgt := 71) dX5_isCleared_66 (by decide) (fun c_9 => ?_) (fun c_9 => ?_)
                      · refine lv_iinc (k := 1) (v := nI (z + 1)) (lv' := [(4, .int (nI (z + 1))), (5, .int (nI (roN g b z))), (3, .int (nI b)), (0, .int (nI g)), (1, .int (nI u)), (2, .int (nI 3))]) C.x C.b dX5_isCleared_71 hl rfl (z_inc z 1) (by decide) rfl (fun ls hl => ?_)
                        refine lv_goto (tgt := 32) C.x C.b dX5_isCleared_74 (by decide) ?_
                        exact ih6 (z + 1) (by omega) (by omega) (lt_s hiz (by simp [ccG, c_1, c_3, c_4, c_5, c_7, c_8, c_9])) _ _ _ (hW.to rfl) (lv_to (lv_sub (l' := [(4, .int (nI (z + 1))), (3, .int (nI b)), (0, .int (nI g)), (1, .int (nI u)), (2, .int (nI 3))]) hl [0, 2, 3, 4, 5] rfl) (by first | rfl | (simp [c_1, c_3, c_4, c_5, c_7, c_8, c_9]; done) | (rw [if_pos (by omega)]; done) | (rw [if_neg (by omega)]; done) | (exfalso; omega) | ((repeat' split) <;> first | rfl | contradiction | (exfalso; omega))))
                      · refine lv_iconst (v := nI 1) C.x C.b dX5_isCleared_69 (by decide) ?_
                        exact x_iret C hW (by first | rfl | exact z_narb _) (by rw [if_pos (ccB_t (b := b) (z := z) (by omega) (by omega) (by simp [ccG, c_1, c_3, c_4, c_5, c_7, c_8, c_9]))]) rfl dX5_isCleared_70
              exact lp_6 (5 + 1) 0 (by omega) (by omega) (fun _ h => absurd h (Nat.not_lt_zero _)) _ _ _ (hW.to rfl) (lv_to (lv_sub (l' := [(4, .int (nI 0)), (3, .int (nI b)), (0, .int (nI g)), (1, .int (nI u)), (2, .int (nI 3))]) hl [0, 1, 2, 3, 4] rfl) rfl)
            · refine lv_goto (tgt := 77) C.x C.b dX5_isCleared_26 (by decide) ?_
              refine lv_iinc (k := 0) (v := nI (b + 1)) (lv' := [(3, .int (nI (b + 1))), (0, .int (nI g)), (1, .int (nI u)), (2, .int (nI 3))]) C.x C.b dX5_isCleared_77 hl rfl (z_inc b 1) (by decide) rfl (fun ls hl => ?_)
              refine lv_goto (tgt := 8) C.x C.b dX5_isCleared_80 (by decide) ?_
              exact ih2 (b + 1) (by omega) (by omega) (lt_s hib (by first | (intro z' hz'; exact hiz z' (by omega)) | (intro z' _; simp [ccG, c_1, c_3, c_4, c_5]))) _ _ _ (hW.to rfl) (lv_to (lv_sub (l' := [(3, .int (nI (b + 1))), (0, .int (nI g)), (1, .int (nI u)), (2, .int (nI 3))]) hl [0, 1, 2, 3] rfl) (by first | rfl | (simp [c_1, c_3, c_4, c_5]; done) | (rw [if_pos (by omega)]; done) | (rw [if_neg (by omega)]; done) | (exfalso; omega) | ((repeat' split) <;> first | rfl | contradiction | (exfalso; omega))))
    exact lp_2 (5 + 1) 0 (by omega) (by omega) (fun _ h => absurd h (Nat.not_lt_zero _)) _ _ _ (hW.to rfl) (lv_to (lv_sub (l' := [(3, .int (nI 0)), (0, .int (nI g)), (1, .int (nI u)), (2, .int (nI 3))]) hl [0, 1, 2, 3] rfl) rfl)
  · refine lv_iconst (v := nI 1) C.x C.b dX5_isCleared_4 (by decide) ?_
    exact x_iret C hW (by first | rfl | exact z_narb _) (by have e0 : g = 0 := (by assumption); rw [e0, if_pos ccB_0]) rfl dX5_isCleared_5

set_option maxHeartbeats 4000000 in
set_option maxRecDepth 100000 in
theorem met_X5_clear (l : Launch) (E : EV) (h0 k1 k2 k3 k4 k5 k6 k7 k8 : Nat) (x : Int32) (g sp pl tu fr nf : Nat) (w aw my fe be sk cl ex : Nat → Nat) (hg : g < 512) : MI l yX5_clear wsX5_clear { frames := 9, cells := 0, slots := 0, locals := 213 } E [.ref h0] [(h0, .inr (4, [.int x, .int (nI g), .ref k1, .ref k2, .int (nI sp), .int (nI pl), .int (nI tu), .int (nI fr), .int (nI nf), .ref k3, .ref k4, .ref k5, .ref k6, .ref k7, .ref k8])), (k1, aI E 9 w), (k2, aI E 5 aw), (k3, aI E 4 my), (k4, aI E 120 fe), (k5, aI E 44 be), (k6, aI E 4 sk), (k7, aI E 4 cl), (k8, aI E 40 ex)] (tcF g) [(h0, .inr (4, [.int x, .int (nI g), .ref k1, .ref k2, .int (nI sp), .int (nI pl), .int (nI tu), .int (nI fr), .int (nI nf), .ref k3, .ref k4, .ref k5, .ref k6, .ref k7, .ref k8])), (k1, aI E 9 w), (k2, aI E 5 aw), (k3, aI E 4 my), (k4, aI E 120 fe), (k5, aI E 44 be), (k6, aI E 4 sk), (k7, aI E 4 cl), (k8, aI E 40 ex)] := by
  refine sI (own := RX5) (cc := cX5_clear) (maxL := 2) (ret := (some .int)) rfl (by decide) rfl (Nat.le_of_ble_eq_true rfl) ?_
  intro p e s m below meth c C hnm ls hl hW
  have hl : lv_has ls 2 [(0, .ref h0)] := hl
  have hW : WD E _ s [(h0, .inr (4, [.int x, .int (nI g), .ref k1, .ref k2, .int (nI sp), .int (nI pl), .int (nI tu), .int (nI fr), .int (nI nf), .ref k3, .ref k4, .ref k5, .ref k6, .ref k7, .ref k8])), (k1, aI E 9 w), (k2, aI E 5 aw), (k3, aI E 4 my), (k4, aI E 120 fe), (k5, aI E 44 be), (k6, aI E 4 sk), (k7, aI E 4 cl), (k8, aI E 40 ex)] s.heap [] := hW
  have hinX5 : ∀ w ∈ u_ws RX5 TX5 15, w ∈ wsX5_clear := by decide +kernel
  have hf9 : Cond.fieldLink RX5 9 (TX5 1).1 (TX5 1).2.1 (TX5 1).2.2.1 ∈ wsX5_clear := by decide +kernel
  refine lv_iconst (v := nI 0) C.x C.b dX5_clear_0 (by decide) ?_
  refine lv_istore_n (lv' := [(1, .int (nI 0)), (0, .ref h0)]) C.x C.b dX5_clear_1 rfl hl (by decide) rfl (fun ls hl => ?_)
  refine lv_iload_n C.x C.b dX5_clear_2 rfl (lv_at hl 0 rfl) ?_
  refine lv_iconst (v := nI 3) C.x C.b dX5_clear_3 (by decide) ?_
  refine x_icmp_gt C (by omega) (by omega) (tgt := 27) dX5_clear_4 (by decide) (fun c_1 => ?_) (fun c_1 => ?_)
  · exact absurd c_1 (by decide)
  · refine lv_aload_n C.x C.b dX5_clear_7 rfl (lv_at hl 1 rfl) ?_
    refine x_get C hW 0 4 1 (Cn := RX5) (T := TX5) (N := 15) rfl rfl (by decide) hinX5 hf9 rfl dX5_clear_8 ?_
    refine lv_iconst (v := nI 0) C.x C.b dX5_clear_11 (by decide) ?_
    refine lv_iload_n C.x C.b dX5_clear_12 rfl (lv_at hl 0 rfl) ?_
    refine x_cSI C hW (As := [.int (nI g), .int (nI 0), .int (nI 0)]) (rest := []) (wr := [(h0, .inr (4, [.int x, .int (nI g), .ref k1, .ref k2, .int (nI sp), .int (nI pl), .int (nI tu), .int (nI fr), .int (nI nf), .ref k3, .ref k4, .ref k5, .ref k6, .ref k7, .ref k8])), (k1, aI E 9 w), (k2, aI E 5 aw), (k3, aI E 4 my), (k4, aI E 120 fe), (k5, aI E 44 be), (k6, aI E 4 sk), (k7, aI E 4 cl), (k8, aI E 40 ex)]) (wn := [(h0, .inr (4, [.int x, .int (nI g), .ref k1, .ref k2, .int (nI sp), .int (nI pl), .int (nI tu), .int (nI fr), .int (nI nf), .ref k3, .ref k4, .ref k5, .ref k6, .ref k7, .ref k8])), (k1, aI E 9 w), (k2, aI E 5 aw), (k3, aI E 4 my), (k4, aI E 120 fe), (k5, aI E 44 be), (k6, aI E 4 sk), (k7, aI E 4 cl), (k8, aI E 40 ex)]) (met_X5_isCleared_0 l E g 0 (by omega) (by omega)) gX5_clear_X5_isCleared rfl 3 rfl ⟨rfl, rfl⟩ ⟨by decide +kernel, by decide +kernel, by decide +kernel⟩ ⟨Nat.le_of_ble_eq_true rfl, Nat.le_of_ble_eq_true rfl⟩ [] [0, 1, 2, 3, 4, 5, 6, 7, 8] [0, 1, 2, 3, 4, 5, 6, 7, 8] rfl (by decide) rfl (by decide) (by decide) rfl (by decide) hl.1 rfl (Nat.le_of_ble_eq_true rfl) dX5_clear_13 ⟨Nat.zero_le _, Nat.zero_le _⟩ (fun H locs hW => ?_)
    refine x_ifb_eq C (tgt := 21) dX5_clear_16 (by decide) (fun c_2 => ?_) (fun c_2 => ?_)
    · refine lv_iinc (k := 0) (v := nI 1) (lv' := [(1, .int (nI 1)), (0, .ref h0)]) C.x C.b dX5_clear_21 hl rfl (by decide) (by decide) rfl (fun ls hl => ?_)
      refine lv_goto (tgt := 2) C.x C.b dX5_clear_24 (by decide) ?_
      refine lv_iload_n C.x C.b dX5_clear_2 rfl (lv_at hl 0 rfl) ?_
      refine lv_iconst (v := nI 3) C.x C.b dX5_clear_3 (by decide) ?_
      refine x_icmp_gt C (by omega) (by omega) (tgt := 27) dX5_clear_4 (by decide) (fun c_3 => ?_) (fun c_3 => ?_)
      · exact absurd c_3 (by decide)
      · refine lv_aload_n C.x C.b dX5_clear_7 rfl (lv_at hl 1 rfl) ?_
        refine x_get C hW 0 4 1 (Cn := RX5) (T := TX5) (N := 15) rfl rfl (by decide) hinX5 hf9 rfl dX5_clear_8 ?_
        refine lv_iconst (v := nI 0) C.x C.b dX5_clear_11 (by decide) ?_
        refine lv_iload_n C.x C.b dX5_clear_12 rfl (lv_at hl 0 rfl) ?_
        refine x_cSI C hW (As := [.int (nI g), .int (nI 0), .int (nI 1)]) (rest := []) (wr := [(h0, .inr (4, [.int x, .int (nI g), .ref k1, .ref k2, .int (nI sp), .int (nI pl), .int (nI tu), .int (nI fr), .int (nI nf), .ref k3, .ref k4, .ref k5, .ref k6, .ref k7, .ref k8])), (k1, aI E 9 w), (k2, aI E 5 aw), (k3, aI E 4 my), (k4, aI E 120 fe), (k5, aI E 44 be), (k6, aI E 4 sk), (k7, aI E 4 cl), (k8, aI E 40 ex)]) (wn := [(h0, .inr (4, [.int x, .int (nI g), .ref k1, .ref k2, .int (nI sp), .int (nI pl), .int (nI tu), .int (nI fr), .int (nI nf), .ref k3, .ref k4, .ref k5, .ref k6, .ref k7, .ref k8])), (k1, aI E 9 w), (k2, aI E 5 aw), (k3, aI E 4 my), (k4, aI E 120 fe), (k5, aI E 44 be), (k6, aI E 4 sk), (k7, aI E 4 cl), (k8, aI E 40 ex)]) (met_X5_isCleared_1 l E g 0 (by omega) (by omega)) gX5_clear_X5_isCleared rfl 3 rfl ⟨rfl, rfl⟩ ⟨by decide +kernel, by decide +kernel, by decide +kernel⟩ ⟨Nat.le_of_ble_eq_true rfl, Nat.le_of_ble_eq_true rfl⟩ [] [0, 1, 2, 3, 4, 5, 6, 7, 8] [0, 1, 2, 3, 4, 5, 6, 7, 8] rfl (by decide) rfl (by decide) (by decide) rfl (by decide) hl.1 rfl (Nat.le_of_ble_eq_true rfl) dX5_clear_13 ⟨Nat.zero_le _, Nat.zero_le _⟩ (fun H locs hW => ?_)
        refine x_ifb_eq C (tgt := 21) dX5_clear_16 (by decide) (fun c_4 => ?_) (fun c_4 => ?_)
        · refine lv_iinc (k := 0) (v := nI 2) (lv' := [(1, .int (nI 2)), (0, .ref h0)]) C.x C.b dX5_clear_21 hl rfl (by decide) (by decide) rfl (fun ls hl => ?_)
          refine lv_goto (tgt := 2) C.x C.b dX5_clear_24 (by decide) ?_
          refine lv_iload_n C.x C.b dX5_clear_2 rfl (lv_at hl 0 rfl) ?_
          refine lv_iconst (v := nI 3) C.x C.b dX5_clear_3 (by decide) ?_
          refine x_icmp_gt C (by omega) (by omega) (tgt := 27) dX5_clear_4 (by decide) (fun c_5 => ?_) (fun c_5 => ?_)
          · exact absurd c_5 (by decide)
          · refine lv_aload_n C.x C.b dX5_clear_7 rfl (lv_at hl 1 rfl) ?_
            refine x_get C hW 0 4 1 (Cn := RX5) (T := TX5) (N := 15) rfl rfl (by decide) hinX5 hf9 rfl dX5_clear_8 ?_
            refine lv_iconst (v := nI 0) C.x C.b dX5_clear_11 (by decide) ?_
            refine lv_iload_n C.x C.b dX5_clear_12 rfl (lv_at hl 0 rfl) ?_
            refine x_cSI C hW (As := [.int (nI g), .int (nI 0), .int (nI 2)]) (rest := []) (wr := [(h0, .inr (4, [.int x, .int (nI g), .ref k1, .ref k2, .int (nI sp), .int (nI pl), .int (nI tu), .int (nI fr), .int (nI nf), .ref k3, .ref k4, .ref k5, .ref k6, .ref k7, .ref k8])), (k1, aI E 9 w), (k2, aI E 5 aw), (k3, aI E 4 my), (k4, aI E 120 fe), (k5, aI E 44 be), (k6, aI E 4 sk), (k7, aI E 4 cl), (k8, aI E 40 ex)]) (wn := [(h0, .inr (4, [.int x, .int (nI g), .ref k1, .ref k2, .int (nI sp), .int (nI pl), .int (nI tu), .int (nI fr), .int (nI nf), .ref k3, .ref k4, .ref k5, .ref k6, .ref k7, .ref k8])), (k1, aI E 9 w), (k2, aI E 5 aw), (k3, aI E 4 my), (k4, aI E 120 fe), (k5, aI E 44 be), (k6, aI E 4 sk), (k7, aI E 4 cl), (k8, aI E 40 ex)]) (met_X5_isCleared_2 l E g 0 (by omega) (by omega)) gX5_clear_X5_isCleared rfl 3 rfl ⟨rfl, rfl⟩ ⟨by decide +kernel, by decide +kernel, by decide +kernel⟩ ⟨Nat.le_of_ble_eq_true rfl, Nat.le_of_ble_eq_true rfl⟩ [] [0, 1, 2, 3, 4, 5, 6, 7, 8] [0, 1, 2, 3, 4, 5, 6, 7, 8] rfl (by decide) rfl (by decide) (by decide) rfl (by decide) hl.1 rfl (Nat.le_of_ble_eq_true rfl) dX5_clear_13 ⟨Nat.zero_le _, Nat.zero_le _⟩ (fun H locs hW => ?_)
            refine x_ifb_eq C (tgt := 21) dX5_clear_16 (by decide) (fun c_6 => ?_) (fun c_6 => ?_)
            · refine lv_iinc (k := 0) (v := nI 3) (lv' := [(1, .int (nI 3)), (0, .ref h0)]) C.x C.b dX5_clear_21 hl rfl (by decide) (by decide) rfl (fun ls hl => ?_)
              refine lv_goto (tgt := 2) C.x C.b dX5_clear_24 (by decide) ?_
              refine lv_iload_n C.x C.b dX5_clear_2 rfl (lv_at hl 0 rfl) ?_
              refine lv_iconst (v := nI 3) C.x C.b dX5_clear_3 (by decide) ?_
              refine x_icmp_gt C (by omega) (by omega) (tgt := 27) dX5_clear_4 (by decide) (fun c_7 => ?_) (fun c_7 => ?_)
              · exact absurd c_7 (by decide)
              · refine lv_aload_n C.x C.b dX5_clear_7 rfl (lv_at hl 1 rfl) ?_
                refine x_get C hW 0 4 1 (Cn := RX5) (T := TX5) (N := 15) rfl rfl (by decide) hinX5 hf9 rfl dX5_clear_8 ?_
                refine lv_iconst (v := nI 0) C.x C.b dX5_clear_11 (by decide) ?_
                refine lv_iload_n C.x C.b dX5_clear_12 rfl (lv_at hl 0 rfl) ?_
                refine x_cSI C hW (As := [.int (nI g), .int (nI 0), .int (nI 3)]) (rest := []) (wr := [(h0, .inr (4, [.int x, .int (nI g), .ref k1, .ref k2, .int (nI sp), .int (nI pl), .int (nI tu), .int (nI fr), .int (nI nf), .ref k3, .ref k4, .ref k5, .ref k6, .ref k7, .ref k8])), (k1, aI E 9 w), (k2, aI E 5 aw), (k3, aI E 4 my), (k4, aI E 120 fe), (k5, aI E 44 be), (k6, aI E 4 sk), (k7, aI E 4 cl), (k8, aI E 40 ex)]) (wn := [(h0, .inr (4, [.int x, .int (nI g), .ref k1, .ref k2, .int (nI sp), .int (nI pl), .int (nI tu), .int (nI fr), .int (nI nf), .ref k3, .ref k4, .ref k5, .ref k6, .ref k7, .ref k8])), (k1, aI E 9 w), (k2, aI E 5 aw), (k3, aI E 4 my), (k4, aI E 120 fe), (k5, aI E 44 be), (k6, aI E 4 sk), (k7, aI E 4 cl), (k8, aI E 40 ex)]) (met_X5_isCleared_3 l E g 0 (by omega) (by omega)) gX5_clear_X5_isCleared rfl 3 rfl ⟨rfl, rfl⟩ ⟨by decide +kernel, by decide +kernel, by decide +kernel⟩ ⟨Nat.le_of_ble_eq_true rfl, Nat.le_of_ble_eq_true rfl⟩ [] [0, 1, 2, 3, 4, 5, 6, 7, 8] [0, 1, 2, 3, 4, 5, 6, 7, 8] rfl (by decide) rfl (by decide) (by decide) rfl (by decide) hl.1 rfl (Nat.le_of_ble_eq_true rfl) dX5_clear_13 ⟨Nat.zero_le _, Nat.zero_le _⟩ (fun H locs hW => ?_)
                refine x_ifb_eq C (tgt := 21) dX5_clear_16 (by decide) (fun c_8 => ?_) (fun c_8 => ?_)
                · refine lv_iinc (k := 0) (v := nI 4) (lv' := [(1, .int (nI 4)), (0, .ref h0)]) C.x C.b dX5_clear_21 hl rfl (by decide) (by decide) rfl (fun ls hl => ?_)
                  refine lv_goto (tgt := 2) C.x C.b dX5_clear_24 (by decide) ?_
                  refine lv_iload_n C.x C.b dX5_clear_2 rfl (lv_at hl 0 rfl) ?_
                  refine lv_iconst (v := nI 3) C.x C.b dX5_clear_3 (by decide) ?_
                  refine x_icmp_gt C (by omega) (by omega) (tgt := 27) dX5_clear_4 (by decide) (fun c_9 => ?_) (fun c_9 => ?_)
                  · refine lv_iconst (v := (-1)) C.x C.b dX5_clear_27 (by decide) ?_
                    exact x_iret C hW rfl (by simp only [tcF, c_1, c_2, c_3, c_4, c_5, c_6, c_7, c_8, c_9, Bool.false_eq_true, if_true, if_false, ↓reduceIte]) rfl dX5_clear_28
                  · exact absurd (by decide) c_9
                · refine lv_iload_n C.x C.b dX5_clear_19 rfl (lv_at hl 0 rfl) ?_
                  exact x_iret C hW rfl (by simp only [tcF, c_1, c_2, c_3, c_4, c_5, c_6, c_7, c_8, Bool.false_eq_true, if_true, if_false, ↓reduceIte]) rfl dX5_clear_20
            · refine lv_iload_n C.x C.b dX5_clear_19 rfl (lv_at hl 0 rfl) ?_
              exact x_iret C hW rfl (by simp only [tcF, c_1, c_2, c_3, c_4, c_5, c_6, Bool.false_eq_true, if_true, if_false, ↓reduceIte]) rfl dX5_clear_20
        · refine lv_iload_n C.x C.b dX5_clear_19 rfl (lv_at hl 0 rfl) ?_
          exact x_iret C hW rfl (by simp only [tcF, c_1, c_2, c_3, c_4, Bool.false_eq_true, if_true, if_false, ↓reduceIte]) rfl dX5_clear_20
    · refine lv_iload_n C.x C.b dX5_clear_19 rfl (lv_at hl 0 rfl) ?_
      exact x_iret C hW rfl (by simp only [tcF, c_1, c_2, Bool.false_eq_true, if_true, if_false, ↓reduceIte]) rfl dX5_clear_20

set_option maxHeartbeats 4000000 in
set_option maxRecDepth 100000 in
theorem met_X5_bestThrow (l : Launch) (E : EV) (h0 k1 k2 k3 k4 k5 k6 k7 k8 : Nat) (x : Int32) (g sp pl tu fr nf : Nat) (w aw my fe be sk cl ex : Nat → Nat) (hg : g < 512) (ha : ∀ i, aw i ≤ 2) : MI l yX5_bestThrow wsX5_bestThrow { frames := 7, cells := 0, slots := 0, locals := 163 } E [.ref h0] [(h0, .inr (4, [.int x, .int (nI g), .ref k1, .ref k2, .int (nI sp), .int (nI pl), .int (nI tu), .int (nI fr), .int (nI nf), .ref k3, .ref k4, .ref k5, .ref k6, .ref k7, .ref k8])), (k1, aI E 9 w), (k2, aI E 5 aw), (k3, aI E 4 my), (k4, aI E 120 fe), (k5, aI E 44 be), (k6, aI E 4 sk), (k7, aI E 4 cl), (k8, aI E 40 ex)] ((beS g aw 5).1) [(h0, .inr (4, [.int (nI 0), .int (nI g), .ref k1, .ref k2, .int (nI sp), .int (nI pl), .int (nI tu), .int (nI fr), .int (nI nf), .ref k3, .ref k4, .ref k5, .ref k6, .ref k7, .ref k8])), (k1, aI E 9 w), (k2, aI E 5 aw), (k3, aI E 4 my), (k4, aI E 120 fe), (k5, aI E 44 be), (k6, aI E 4 sk), (k7, aI E 4 cl), (k8, aI E 40 ex)] := by
  refine sI (own := RX5) (cc := cX5_bestThrow) (maxL := 1) (ret := (some .int)) rfl (by decide) rfl (Nat.le_of_ble_eq_true rfl) ?_
  intro p e s m below meth c C hnm ls hl hW
  have hl : lv_has ls 1 [(0, .ref h0)] := hl
  have hW : WD E _ s [(h0, .inr (4, [.int x, .int (nI g), .ref k1, .ref k2, .int (nI sp), .int (nI pl), .int (nI tu), .int (nI fr), .int (nI nf), .ref k3, .ref k4, .ref k5, .ref k6, .ref k7, .ref k8])), (k1, aI E 9 w), (k2, aI E 5 aw), (k3, aI E 4 my), (k4, aI E 120 fe), (k5, aI E 44 be), (k6, aI E 4 sk), (k7, aI E 4 cl), (k8, aI E 40 ex)] s.heap [] := hW
  refine lv_aload_n C.x C.b dX5_bestThrow_0 rfl (lv_at hl 0 rfl) ?_
  refine lv_aload_n C.x C.b dX5_bestThrow_1 rfl (lv_at hl 0 rfl) ?_
  refine x_cVI C hW (As := []) (rest := [.ref h0]) (wr := []) (wn := [(h0, .inr (4, [.int x, .int (nI g), .ref k1, .ref k2, .int (nI sp), .int (nI pl), .int (nI tu), .int (nI fr), .int (nI nf), .ref k3, .ref k4, .ref k5, .ref k6, .ref k7, .ref k8])), (k1, aI E 9 w), (k2, aI E 5 aw), (k3, aI E 4 my), (k4, aI E 120 fe), (k5, aI E 44 be), (k6, aI E 4 sk), (k7, aI E 4 cl), (k8, aI E 40 ex)]) (Cn := RX5) (met_X5_best l E h0 k1 k2 k3 k4 k5 k6 k7 k8 x g sp pl tu fr nf w aw my fe be sk cl ex (by omega) ha) gX5_bestThrow_X5_best rfl 0 rfl ⟨rfl, rfl⟩ ⟨rfl, by decide +kernel, by decide +kernel, by decide +kernel⟩ ⟨Nat.le_of_ble_eq_true rfl, Nat.le_of_ble_eq_true rfl⟩ [0, 1, 2, 3, 4, 5, 6, 7, 8] [] [0, 1, 2, 3, 4, 5, 6, 7, 8] rfl (by decide) rfl (by decide) (by decide) rfl (by decide) 0 4 rfl rfl hl.1 rfl (Nat.le_of_ble_eq_true rfl) dX5_bestThrow_2 ⟨Nat.zero_le _, Nat.zero_le _⟩ (fun H locs hW => ?_)
  refine x_cVI C hW (As := [.int ((beS g aw 5).1)]) (rest := []) (wr := []) (wn := [(h0, .inr (4, [.int (nI 0), .int (nI g), .ref k1, .ref k2, .int (nI sp), .int (nI pl), .int (nI tu), .int (nI fr), .int (nI nf), .ref k3, .ref k4, .ref k5, .ref k6, .ref k7, .ref k8])), (k1, aI E 9 w), (k2, aI E 5 aw), (k3, aI E 4 my), (k4, aI E 120 fe), (k5, aI E 44 be), (k6, aI E 4 sk), (k7, aI E 4 cl), (k8, aI E 40 ex)]) (Cn := RX5) (met_X5_ok l E h0 k1 k2 k3 k4 k5 k6 k7 k8 x g sp pl tu fr nf w aw my fe be sk cl ex ((beS g aw 5).1)) gX5_bestThrow_X5_ok rfl 1 rfl ⟨rfl, rfl⟩ ⟨rfl, by decide +kernel, by decide +kernel, by decide +kernel⟩ ⟨Nat.le_of_ble_eq_true rfl, Nat.le_of_ble_eq_true rfl⟩ [0, 1, 2, 3, 4, 5, 6, 7, 8] [] [0, 1, 2, 3, 4, 5, 6, 7, 8] rfl (by decide) rfl (by decide) (by decide) rfl (by decide) 0 4 rfl rfl hl.1 rfl (Nat.le_of_ble_eq_true rfl) dX5_bestThrow_5 ⟨Nat.zero_le _, Nat.zero_le _⟩ (fun H locs hW => ?_)
  exact x_iret C hW rfl (by first | rfl | (simp []; done) | (rw [if_pos (by omega)]; done) | (rw [if_neg (by omega)]; done) | (exfalso; omega) | ((repeat' split) <;> first | rfl | contradiction | (exfalso; omega))) rfl dX5_bestThrow_8

set_option maxHeartbeats 4000000 in
set_option maxRecDepth 100000 in
theorem met_X5_throwsToClear (l : Launch) (E : EV) (h0 k1 k2 k3 k4 k5 k6 k7 k8 : Nat) (x : Int32) (g sp pl tu fr nf : Nat) (w aw my fe be sk cl ex : Nat → Nat) (hg : g < 512) : MI l yX5_throwsToClear wsX5_throwsToClear { frames := 10, cells := 0, slots := 0, locals := 234 } E [.ref h0] [(h0, .inr (4, [.int x, .int (nI g), .ref k1, .ref k2, .int (nI sp), .int (nI pl), .int (nI tu), .int (nI fr), .int (nI nf), .ref k3, .ref k4, .ref k5, .ref k6, .ref k7, .ref k8])), (k1, aI E 9 w), (k2, aI E 5 aw), (k3, aI E 4 my), (k4, aI E 120 fe), (k5, aI E 44 be), (k6, aI E 4 sk), (k7, aI E 4 cl), (k8, aI E 40 ex)] (tcF g) [(h0, .inr (4, [.int (nI 0), .int (nI g), .ref k1, .ref k2, .int (nI sp), .int (nI pl), .int (nI tu), .int (nI fr), .int (nI nf), .ref k3, .ref k4, .ref k5, .ref k6, .ref k7, .ref k8])), (k1, aI E 9 w), (k2, aI E 5 aw), (k3, aI E 4 my), (k4, aI E 120 fe), (k5, aI E 44 be), (k6, aI E 4 sk), (k7, aI E 4 cl), (k8, aI E 40 ex)] := by
  refine sI (own := RX5) (cc := cX5_throwsToClear) (maxL := 1) (ret := (some .int)) rfl (by decide) rfl (Nat.le_of_ble_eq_true rfl) ?_
  intro p e s m below meth c C hnm ls hl hW
  have hl : lv_has ls 1 [(0, .ref h0)] := hl
  have hW : WD E _ s [(h0, .inr (4, [.int x, .int (nI g), .ref k1, .ref k2, .int (nI sp), .int (nI pl), .int (nI tu), .int (nI fr), .int (nI nf), .ref k3, .ref k4, .ref k5, .ref k6, .ref k7, .ref k8])), (k1, aI E 9 w), (k2, aI E 5 aw), (k3, aI E 4 my), (k4, aI E 120 fe), (k5, aI E 44 be), (k6, aI E 4 sk), (k7, aI E 4 cl), (k8, aI E 40 ex)] s.heap [] := hW
  refine lv_aload_n C.x C.b dX5_throwsToClear_0 rfl (lv_at hl 0 rfl) ?_
  refine lv_aload_n C.x C.b dX5_throwsToClear_1 rfl (lv_at hl 0 rfl) ?_
  refine x_cVI C hW (As := []) (rest := [.ref h0]) (wr := []) (wn := [(h0, .inr (4, [.int x, .int (nI g), .ref k1, .ref k2, .int (nI sp), .int (nI pl), .int (nI tu), .int (nI fr), .int (nI nf), .ref k3, .ref k4, .ref k5, .ref k6, .ref k7, .ref k8])), (k1, aI E 9 w), (k2, aI E 5 aw), (k3, aI E 4 my), (k4, aI E 120 fe), (k5, aI E 44 be), (k6, aI E 4 sk), (k7, aI E 4 cl), (k8, aI E 40 ex)]) (Cn := RX5) (met_X5_clear l E h0 k1 k2 k3 k4 k5 k6 k7 k8 x g sp pl tu fr nf w aw my fe be sk cl ex (by omega)) gX5_throwsToClear_X5_clear rfl 0 rfl ⟨rfl, rfl⟩ ⟨rfl, by decide +kernel, by decide +kernel, by decide +kernel⟩ ⟨Nat.le_of_ble_eq_true rfl, Nat.le_of_ble_eq_true rfl⟩ [0, 1, 2, 3, 4, 5, 6, 7, 8] [] [0, 1, 2, 3, 4, 5, 6, 7, 8] rfl (by decide) rfl (by decide) (by decide) rfl (by decide) 0 4 rfl rfl hl.1 rfl (Nat.le_of_ble_eq_true rfl) dX5_throwsToClear_2 ⟨Nat.zero_le _, Nat.zero_le _⟩ (fun H locs hW => ?_)
  refine x_cVI C hW (As := [.int (tcF g)]) (rest := []) (wr := []) (wn := [(h0, .inr (4, [.int (nI 0), .int (nI g), .ref k1, .ref k2, .int (nI sp), .int (nI pl), .int (nI tu), .int (nI fr), .int (nI nf), .ref k3, .ref k4, .ref k5, .ref k6, .ref k7, .ref k8])), (k1, aI E 9 w), (k2, aI E 5 aw), (k3, aI E 4 my), (k4, aI E 120 fe), (k5, aI E 44 be), (k6, aI E 4 sk), (k7, aI E 4 cl), (k8, aI E 40 ex)]) (Cn := RX5) (met_X5_ok l E h0 k1 k2 k3 k4 k5 k6 k7 k8 x g sp pl tu fr nf w aw my fe be sk cl ex (tcF g)) gX5_throwsToClear_X5_ok rfl 1 rfl ⟨rfl, rfl⟩ ⟨rfl, by decide +kernel, by decide +kernel, by decide +kernel⟩ ⟨Nat.le_of_ble_eq_true rfl, Nat.le_of_ble_eq_true rfl⟩ [0, 1, 2, 3, 4, 5, 6, 7, 8] [] [0, 1, 2, 3, 4, 5, 6, 7, 8] rfl (by decide) rfl (by decide) (by decide) rfl (by decide) 0 4 rfl rfl hl.1 rfl (Nat.le_of_ble_eq_true rfl) dX5_throwsToClear_5 ⟨Nat.zero_le _, Nat.zero_le _⟩ (fun H locs hW => ?_)
  exact x_iret C hW rfl (by first | rfl | (simp []; done) | (rw [if_pos (by omega)]; done) | (rw [if_neg (by omega)]; done) | (exfalso; omega) | ((repeat' split) <;> first | rfl | contradiction | (exfalso; omega))) rfl dX5_throwsToClear_8

set_option maxHeartbeats 4000000 in
set_option maxRecDepth 100000 in
theorem met_X5_wouldBreak (l : Launch) (E : EV) (h0 k1 k2 k3 k4 k5 k6 k7 k8 : Nat) (x : Int32) (g sp pl tu fr nf : Nat) (w aw my fe be sk cl ex : Nat → Nat) (hg : g < 512) (hw : ∀ i, w i ≤ 12) : MI l yX5_wouldBreak wsX5_wouldBreak { frames := 0, cells := 0, slots := 0, locals := 0 } E [.ref h0] [(h0, .inr (4, [.int x, .int (nI g), .ref k1, .ref k2, .int (nI sp), .int (nI pl), .int (nI tu), .int (nI fr), .int (nI nf), .ref k3, .ref k4, .ref k5, .ref k6, .ref k7, .ref k8])), (k1, aI E 9 w), (k2, aI E 5 aw), (k3, aI E 4 my), (k4, aI E 120 fe), (k5, aI E 44 be), (k6, aI E 4 sk), (k7, aI E 4 cl), (k8, aI E 40 ex)] (nI (wbM g w 9)) [(h0, .inr (4, [.int (nI 0), .int (nI g), .ref k1, .ref k2, .int (nI sp), .int (nI pl), .int (nI tu), .int (nI fr), .int (nI nf), .ref k3, .ref k4, .ref k5, .ref k6, .ref k7, .ref k8])), (k1, aI E 9 w), (k2, aI E 5 aw), (k3, aI E 4 my), (k4, aI E 120 fe), (k5, aI E 44 be), (k6, aI E 4 sk), (k7, aI E 4 cl), (k8, aI E 40 ex)] := by
  refine sI (own := RX5) (cc := cX5_wouldBreak) (maxL := 3) (ret := (some .int)) rfl (by decide) rfl (Nat.le_of_ble_eq_true rfl) ?_
  intro p e s m below meth c C hnm ls hl hW
  have hl : lv_has ls 3 [(0, .ref h0)] := hl
  have hW : WD E _ s [(h0, .inr (4, [.int x, .int (nI g), .ref k1, .ref k2, .int (nI sp), .int (nI pl), .int (nI tu), .int (nI fr), .int (nI nf), .ref k3, .ref k4, .ref k5, .ref k6, .ref k7, .ref k8])), (k1, aI E 9 w), (k2, aI E 5 aw), (k3, aI E 4 my), (k4, aI E 120 fe), (k5, aI E 44 be), (k6, aI E 4 sk), (k7, aI E 4 cl), (k8, aI E 40 ex)] s.heap [] := hW
  have hinX5 : ∀ w ∈ u_ws RX5 TX5 15, w ∈ wsX5_wouldBreak := by decide +kernel
  have hf41 : Cond.fieldLink RX5 41 (TX5 0).1 (TX5 0).2.1 (TX5 0).2.2.1 ∈ wsX5_wouldBreak := by decide +kernel
  have hf9 : Cond.fieldLink RX5 9 (TX5 1).1 (TX5 1).2.1 (TX5 1).2.2.1 ∈ wsX5_wouldBreak := by decide +kernel
  have hf13 : Cond.fieldLink RX5 13 (TX5 2).1 (TX5 2).2.1 (TX5 2).2.2.1 ∈ wsX5_wouldBreak := by decide +kernel
  refine lv_aload_n C.x C.b dX5_wouldBreak_0 rfl (lv_at hl 0 rfl) ?_
  refine lv_iconst (v := nI 0) C.x C.b dX5_wouldBreak_1 (by decide) ?_
  refine x_put C hW 0 4 0 (Cn := RX5) (T := TX5) (N := 15) (w' := [(h0, .inr (4, [.int (nI 0), .int (nI g), .ref k1, .ref k2, .int (nI sp), .int (nI pl), .int (nI tu), .int (nI fr), .int (nI nf), .ref k3, .ref k4, .ref k5, .ref k6, .ref k7, .ref k8])), (k1, aI E 9 w), (k2, aI E 5 aw), (k3, aI E 4 my), (k4, aI E 120 fe), (k5, aI E 44 be), (k6, aI E 4 sk), (k7, aI E 4 cl), (k8, aI E 40 ex)]) tyX5 tyX5_ok nmX5 rfl rfl (by decide) hinX5 hf41 rfl (by decide +kernel) (Nat.le_of_ble_eq_true rfl) dX5_wouldBreak_2 rfl (fun H locs hW => ?_)
  refine lv_iconst (v := nI 0) C.x C.b dX5_wouldBreak_5 (by decide) ?_
  refine lv_istore_n (lv' := [(1, .int (nI 0)), (0, .ref h0)]) C.x C.b dX5_wouldBreak_6 rfl hl (by decide) rfl (fun ls hl => ?_)
  refine lv_iconst (v := nI 0) C.x C.b dX5_wouldBreak_7 (by decide) ?_
  refine lv_istore_n (lv' := [(2, .int (nI 0)), (1, .int (nI 0)), (0, .ref h0)]) C.x C.b dX5_wouldBreak_8 rfl hl (by decide) rfl (fun ls hl => ?_)
  have lp_1 : ∀ (n1 i : Nat), i ≤ 9 → 9 + 1 ≤ i + n1 → ∀ (H : Heap) (locs : List Loc) (ls : Array Slot), WD E (va_A [(h0, .inr (4, [.int x, .int (nI g), .ref k1, .ref k2, .int (nI sp), .int (nI pl), .int (nI tu), .int (nI fr), .int (nI nf), .ref k3, .ref k4, .ref k5, .ref k6, .ref k7, .ref k8])), (k1, aI E 9 w), (k2, aI E 5 aw), (k3, aI E 4 my), (k4, aI E 120 fe), (k5, aI E 44 be), (k6, aI E 4 sk), (k7, aI E 4 cl), (k8, aI E 40 ex)] s.heap.size) s [(h0, .inr (4, [.int (nI 0), .int (nI g), .ref k1, .ref k2, .int (nI sp), .int (nI pl), .int (nI tu), .int (nI fr), .int (nI nf), .ref k3, .ref k4, .ref k5, .ref k6, .ref k7, .ref k8])), (k1, aI E 9 w), (k2, aI E 5 aw), (k3, aI E 4 my), (k4, aI E 120 fe), (k5, aI E 44 be), (k6, aI E 4 sk), (k7, aI E 4 cl), (k8, aI E 40 ex)] H locs → lv_has ls 3 [(2, .int (nI i)), (1, .int (nI (wbM g w i))), (0, .ref h0)] → W p l e ({ frames := 0, cells := 0, slots := 0, locals := 0 } : Room) s m ([.ref h0] : List Value).toArray below meth c H locs 0 0 (QI E [(h0, .inr (4, [.int x, .int (nI g), .ref k1, .ref k2, .int (nI sp), .int (nI pl), .int (nI tu), .int (nI fr), .int (nI nf), .ref k3, .ref k4, .ref k5, .ref k6, .ref k7, .ref k8])), (k1, aI E 9 w), (k2, aI E 5 aw), (k3, aI E 4 my), (k4, aI E 120 fe), (k5, aI E 44 be), (k6, aI E 4 sk), (k7, aI E 4 cl), (k8, aI E 40 ex)] (nI (wbM g w 9)) [(h0, .inr (4, [.int (nI 0), .int (nI g), .ref k1, .ref k2, .int (nI sp), .int (nI pl), .int (nI tu), .int (nI fr), .int (nI nf), .ref k3, .ref k4, .ref k5, .ref k6, .ref k7, .ref k8])), (k1, aI E 9 w), (k2, aI E 5 aw), (k3, aI E 4 my), (k4, aI E 120 fe), (k5, aI E 44 be), (k6, aI E 4 sk), (k7, aI E 4 cl), (k8, aI E 40 ex)] below ([.ref h0] : List Value).toArray s) (F0 m 9 ls []) := by
    intro n1
    induction n1 with
    | zero => intro i hi hn; exact absurd hn (by omega)
    | succ n1 ih1 =>
      intro i hi hn  H locs ls hW hl
      have h9 := hw i
      refine lv_iload_n C.x C.b dX5_wouldBreak_9 rfl (lv_at hl 0 rfl) ?_
      refine lv_bipush (v := nI 9) C.x C.b dX5_wouldBreak_10 (by decide) ?_
      refine x_icmp_ge C (by omega) (by omega) (tgt := 49) dX5_wouldBreak_12 (by decide) (fun c_2 => ?_) (fun c_2 => ?_)
      · obtain rfl : i = 9 := by omega
        refine lv_iload_n C.x C.b dX5_wouldBreak_49 rfl (lv_at hl 1 rfl) ?_
        exact x_iret C hW rfl rfl rfl dX5_wouldBreak_50
      · refine lv_iload_n C.x C.b dX5_wouldBreak_15 rfl (lv_at hl 1 rfl) ?_
        refine lv_aload_n C.x C.b dX5_wouldBreak_16 rfl (lv_at hl 2 rfl) ?_
        refine x_get C hW 0 4 2 (Cn := RX5) (T := TX5) (N := 15) rfl rfl (by decide) hinX5 hf13 rfl dX5_wouldBreak_17 ?_
        refine lv_iload_n C.x C.b dX5_wouldBreak_20 rfl (lv_at hl 0 rfl) ?_
        refine x_ald C hW 1 i rfl rfl (by omega) (by decide) dX5_wouldBreak_21 ?_
        refine lv_aload_n C.x C.b dX5_wouldBreak_22 rfl (lv_at hl 2 rfl) ?_
        refine x_get C hW 0 4 1 (Cn := RX5) (T := TX5) (N := 15) rfl rfl (by decide) hinX5 hf9 rfl dX5_wouldBreak_23 ?_
        refine lv_iload_n C.x C.b dX5_wouldBreak_26 rfl (lv_at hl 0 rfl) ?_
        refine x_ishr C (by omega) (by omega) dX5_wouldBreak_27 ?_
        refine lv_iconst (v := nI 1) C.x C.b dX5_wouldBreak_28 (by decide) ?_
        refine x_iand1 C dX5_wouldBreak_29 ?_
        refine x_iadd C dX5_wouldBreak_30 ?_
        refine lv_bipush (v := nI 12) C.x C.b dX5_wouldBreak_31 (by decide) ?_
        refine x_icmp_ne C (by omega) (by omega) (tgt := 40) dX5_wouldBreak_33 (by decide) (fun c_3 => ?_) (fun c_3 => ?_)
        · refine lv_iconst (v := nI 0) C.x C.b dX5_wouldBreak_40 (by decide) ?_
          refine x_iadd C dX5_wouldBreak_41 ?_
          refine lv_istore_n (lv' := [(1, .int (nI ((wbM g w i) + 0))), (2, .int (nI i)), (0, .ref h0)]) C.x C.b dX5_wouldBreak_42 rfl hl (by decide) rfl (fun ls hl => ?_)
          refine lv_iinc (k := 1) (v := nI (i + 1)) (lv' := [(2, .int (nI (i + 1))), (1, .int (nI ((wbM g w i) + 0))), (0, .ref h0)]) C.x C.b dX5_wouldBreak_43 hl rfl (z_inc i 1) (by decide) rfl (fun ls hl => ?_)
          refine lv_goto (tgt := 9) C.x C.b dX5_wouldBreak_46 (by decide) ?_
          exact ih1 (i + 1) (by omega) (by omega)  _ _ _ (hW.to rfl) (lv_to (lv_sub (l' := [(2, .int (nI (i + 1))), (1, .int (nI ((wbM g w i) + 0))), (0, .ref h0)]) hl [0, 1, 2] rfl) (by first | rfl | (simp [wbM, c_2, c_3]; done) | (rw [if_pos (by omega)]; done) | (rw [if_neg (by omega)]; done) | (exfalso; omega) | (simp only [wbM]; (repeat' split) <;> first | rfl | contradiction | (exfalso; omega))))
        · refine lv_iconst (v := nI 1) C.x C.b dX5_wouldBreak_36 (by decide) ?_
          refine lv_goto (tgt := 41) C.x C.b dX5_wouldBreak_37 (by decide) ?_
          refine x_iadd C dX5_wouldBreak_41 ?_
          refine lv_istore_n (lv' := [(1, .int (nI ((wbM g w i) + 1))), (2, .int (nI i)), (0, .ref h0)]) C.x C.b dX5_wouldBreak_42 rfl hl (by decide) rfl (fun ls hl => ?_)
          refine lv_iinc (k := 1) (v := nI (i + 1)) (lv' := [(2, .int (nI (i + 1))), (1, .int (nI ((wbM g w i) + 1))), (0, .ref h0)]) C.x C.b dX5_wouldBreak_43 hl rfl (z_inc i 1) (by decide) rfl (fun ls hl => ?_)
          refine lv_goto (tgt := 9) C.x C.b dX5_wouldBreak_46 (by decide) ?_
          exact ih1 (i + 1) (by omega) (by omega)  _ _ _ (hW.to rfl) (lv_to (lv_sub (l' := [(2, .int (nI (i + 1))), (1, .int (nI ((wbM g w i) + 1))), (0, .ref h0)]) hl [0, 1, 2] rfl) (by first | rfl | (simp [wbM, c_2, c_3]; done) | (rw [if_pos (by omega)]; done) | (rw [if_neg (by omega)]; done) | (exfalso; omega) | (simp only [wbM]; (repeat' split) <;> first | rfl | contradiction | (exfalso; omega))))
  exact lp_1 (9 + 1) 0 (by omega) (by omega)  _ _ _ (hW.to rfl) (lv_to (lv_sub (l' := [(2, .int (nI 0)), (1, .int (nI 0)), (0, .ref h0)]) hl [0, 1, 2] rfl) rfl)

set_option maxHeartbeats 4000000 in
set_option maxRecDepth 100000 in
theorem met_X5_replaceString_ok (l : Launch) (E : EV) (h0 k1 k2 k3 k4 k5 k6 k7 k8 : Nat) (x : Int32) (g sp pl tu fr nf : Nat) (w aw my fe be sk cl ex : Nat → Nat) (q : Nat) (hq : q < 9) (hs : 1 ≤ sp) (hs2 : sp < 20000) : MI l yX5_replaceString wsX5_replaceString { frames := 2, cells := 0, slots := 0, locals := 42 } E [.ref h0, .int (nI q)] [(h0, .inr (4, [.int x, .int (nI g), .ref k1, .ref k2, .int (nI sp), .int (nI pl), .int (nI tu), .int (nI fr), .int (nI nf), .ref k3, .ref k4, .ref k5, .ref k6, .ref k7, .ref k8])), (k1, aI E 9 w), (k2, aI E 5 aw), (k3, aI E 4 my), (k4, aI E 120 fe), (k5, aI E 44 be), (k6, aI E 4 sk), (k7, aI E 4 cl), (k8, aI E 40 ex)] (nI (sp - 1)) [(h0, .inr (4, [.int (nI 0), .int (nI g), .ref k1, .ref k2, .int (nI (sp - 1)), .int (nI pl), .int (nI tu), .int (nI fr), .int (nI nf), .ref k3, .ref k4, .ref k5, .ref k6, .ref k7, .ref k8])), (k1, aI E 9 (upN w q 0)), (k2, aI E 5 aw), (k3, aI E 4 my), (k4, aI E 120 fe), (k5, aI E 44 be), (k6, aI E 4 sk), (k7, aI E 4 cl), (k8, aI E 40 ex)] := by
  refine sI (own := RX5) (cc := cX5_replaceString) (maxL := 2) (ret := (some .int)) rfl (by decide) rfl (Nat.le_of_ble_eq_true rfl) ?_
  intro p e s m below meth c C hnm ls hl hW
  have hl : lv_has ls 2 [(0, .ref h0), (1, .int (nI q))] := hl
  have hW : WD E _ s [(h0, .inr (4, [.int x, .int (nI g), .ref k1, .ref k2, .int (nI sp), .int (nI pl), .int (nI tu), .int (nI fr), .int (nI nf), .ref k3, .ref k4, .ref k5, .ref k6, .ref k7, .ref k8])), (k1, aI E 9 w), (k2, aI E 5 aw), (k3, aI E 4 my), (k4, aI E 120 fe), (k5, aI E 44 be), (k6, aI E 4 sk), (k7, aI E 4 cl), (k8, aI E 40 ex)] s.heap [] := hW
  have hinX5 : ∀ w ∈ u_ws RX5 TX5 15, w ∈ wsX5_replaceString := by decide +kernel
  have hf41 : Cond.fieldLink RX5 41 (TX5 0).1 (TX5 0).2.1 (TX5 0).2.2.1 ∈ wsX5_replaceString := by decide +kernel
  have hf13 : Cond.fieldLink RX5 13 (TX5 2).1 (TX5 2).2.1 (TX5 2).2.2.1 ∈ wsX5_replaceString := by decide +kernel
  have hf20 : Cond.fieldLink RX5 20 (TX5 4).1 (TX5 4).2.1 (TX5 4).2.2.1 ∈ wsX5_replaceString := by decide +kernel
  refine lv_aload_n C.x C.b dX5_replaceString_0 rfl (lv_at hl 0 rfl) ?_
  refine lv_iconst (v := nI 0) C.x C.b dX5_replaceString_1 (by decide) ?_
  refine x_put C hW 0 4 0 (Cn := RX5) (T := TX5) (N := 15) (w' := [(h0, .inr (4, [.int (nI 0), .int (nI g), .ref k1, .ref k2, .int (nI sp), .int (nI pl), .int (nI tu), .int (nI fr), .int (nI nf), .ref k3, .ref k4, .ref k5, .ref k6, .ref k7, .ref k8])), (k1, aI E 9 w), (k2, aI E 5 aw), (k3, aI E 4 my), (k4, aI E 120 fe), (k5, aI E 44 be), (k6, aI E 4 sk), (k7, aI E 4 cl), (k8, aI E 40 ex)]) tyX5 tyX5_ok nmX5 rfl rfl (by decide) hinX5 hf41 rfl (by decide +kernel) (Nat.le_of_ble_eq_true rfl) dX5_replaceString_2 rfl (fun H locs hW => ?_)
  refine lv_iload_n C.x C.b dX5_replaceString_5 rfl (lv_at hl 1 rfl) ?_
  refine x_cSI C hW (As := [.int (nI q)]) (rest := []) (wr := [(h0, .inr (4, [.int (nI 0), .int (nI g), .ref k1, .ref k2, .int (nI sp), .int (nI pl), .int (nI tu), .int (nI fr), .int (nI nf), .ref k3, .ref k4, .ref k5, .ref k6, .ref k7, .ref k8])), (k1, aI E 9 w), (k2, aI E 5 aw), (k3, aI E 4 my), (k4, aI E 120 fe), (k5, aI E 44 be), (k6, aI E 4 sk), (k7, aI E 4 cl), (k8, aI E 40 ex)]) (wn := [(h0, .inr (4, [.int (nI 0), .int (nI g), .ref k1, .ref k2, .int (nI sp), .int (nI pl), .int (nI tu), .int (nI fr), .int (nI nf), .ref k3, .ref k4, .ref k5, .ref k6, .ref k7, .ref k8])), (k1, aI E 9 w), (k2, aI E 5 aw), (k3, aI E 4 my), (k4, aI E 120 fe), (k5, aI E 44 be), (k6, aI E 4 sk), (k7, aI E 4 cl), (k8, aI E 40 ex)]) (met_X5_isPin l E (nI q)) gX5_replaceString_X5_isPin rfl 1 rfl ⟨rfl, rfl⟩ ⟨by decide +kernel, by decide +kernel, by decide +kernel⟩ ⟨Nat.le_of_ble_eq_true rfl, Nat.le_of_ble_eq_true rfl⟩ [] [0, 1, 2, 3, 4, 5, 6, 7, 8] [0, 1, 2, 3, 4, 5, 6, 7, 8] rfl (by decide) rfl (by decide) (by decide) rfl (by decide) hl.1 rfl (Nat.le_of_ble_eq_true rfl) dX5_replaceString_6 ⟨Nat.zero_le _, Nat.zero_le _⟩ (fun H locs hW => ?_)
  refine x_ifb_ne C (tgt := 18) dX5_replaceString_9 (by decide) (fun c_1 => ?_) (fun c_1 => ?_)
  · refine lv_aload_n C.x C.b dX5_replaceString_18 rfl (lv_at hl 0 rfl) ?_
    refine x_get C hW 0 4 4 (Cn := RX5) (T := TX5) (N := 15) rfl rfl (by decide) hinX5 hf20 rfl dX5_replaceString_19 ?_
    refine x_if_ne C (by omega) (tgt := 31) dX5_replaceString_22 (by decide) (fun c_2 => ?_) (fun c_2 => ?_)
    · refine lv_aload_n C.x C.b dX5_replaceString_31 rfl (lv_at hl 0 rfl) ?_
      refine x_get C hW 0 4 2 (Cn := RX5) (T := TX5) (N := 15) rfl rfl (by decide) hinX5 hf13 rfl dX5_replaceString_32 ?_
      refine lv_iload_n C.x C.b dX5_replaceString_35 rfl (lv_at hl 1 rfl) ?_
      refine lv_iconst (v := nI 0) C.x C.b dX5_replaceString_36 (by decide) ?_
      refine x_ast C hW 1 q 0 rfl rfl rfl (by omega) (by decide) dX5_replaceString_37 (w' := [(h0, .inr (4, [.int (nI 0), .int (nI g), .ref k1, .ref k2, .int (nI sp), .int (nI pl), .int (nI tu), .int (nI fr), .int (nI nf), .ref k3, .ref k4, .ref k5, .ref k6, .ref k7, .ref k8])), (k1, aI E 9 (upN w q 0)), (k2, aI E 5 aw), (k3, aI E 4 my), (k4, aI E 120 fe), (k5, aI E 44 be), (k6, aI E 4 sk), (k7, aI E 4 cl), (k8, aI E 40 ex)]) rfl (fun H locs hW => ?_)
      refine lv_aload_n C.x C.b dX5_replaceString_38 rfl (lv_at hl 0 rfl) ?_
      refine lv_dup C.x C.b dX5_replaceString_39 rfl ?_
      refine x_get C hW 0 4 4 (Cn := RX5) (T := TX5) (N := 15) rfl rfl (by decide) hinX5 hf20 rfl dX5_replaceString_40 ?_
      refine lv_iconst (v := nI 1) C.x C.b dX5_replaceString_43 (by decide) ?_
      refine x_isub C (by omega) dX5_replaceString_44 ?_
      refine x_put C hW 0 4 4 (Cn := RX5) (T := TX5) (N := 15) (w' := [(h0, .inr (4, [.int (nI 0), .int (nI g), .ref k1, .ref k2, .int (nI (sp - 1)), .int (nI pl), .int (nI tu), .int (nI fr), .int (nI nf), .ref k3, .ref k4, .ref k5, .ref k6, .ref k7, .ref k8])), (k1, aI E 9 (upN w q 0)), (k2, aI E 5 aw), (k3, aI E 4 my), (k4, aI E 120 fe), (k5, aI E 44 be), (k6, aI E 4 sk), (k7, aI E 4 cl), (k8, aI E 40 ex)]) tyX5 tyX5_ok nmX5 rfl rfl (by decide) hinX5 hf20 rfl (by decide +kernel) (Nat.le_of_ble_eq_true rfl) dX5_replaceString_45 rfl (fun H locs hW => ?_)
      refine lv_aload_n C.x C.b dX5_replaceString_48 rfl (lv_at hl 0 rfl) ?_
      refine x_get C hW 0 4 4 (Cn := RX5) (T := TX5) (N := 15) rfl rfl (by decide) hinX5 hf20 rfl dX5_replaceString_49 ?_
      exact x_iret C hW rfl rfl rfl dX5_replaceString_52
    · exact absurd c_2 (by omega)
  · exact absurd (z_inR (by omega) (by decide)) c_1

set_option maxHeartbeats 4000000 in
set_option maxRecDepth 100000 in
theorem met_X5_replaceString_none (l : Launch) (E : EV) (h0 k1 k2 k3 k4 k5 k6 k7 k8 : Nat) (x : Int32) (g sp pl tu fr nf : Nat) (w aw my fe be sk cl ex : Nat → Nat) (q : Nat) (hq : q < 9) (hs : sp = 0) : MI l yX5_replaceString wsX5_replaceString { frames := 2, cells := 0, slots := 0, locals := 42 } E [.ref h0, .int (nI q)] [(h0, .inr (4, [.int x, .int (nI g), .ref k1, .ref k2, .int (nI sp), .int (nI pl), .int (nI tu), .int (nI fr), .int (nI nf), .ref k3, .ref k4, .ref k5, .ref k6, .ref k7, .ref k8])), (k1, aI E 9 w), (k2, aI E 5 aw), (k3, aI E 4 my), (k4, aI E 120 fe), (k5, aI E 44 be), (k6, aI E 4 sk), (k7, aI E 4 cl), (k8, aI E 40 ex)] (nI 0) [(h0, .inr (4, [.int (nI 2), .int (nI g), .ref k1, .ref k2, .int (nI sp), .int (nI pl), .int (nI tu), .int (nI fr), .int (nI nf), .ref k3, .ref k4, .ref k5, .ref k6, .ref k7, .ref k8])), (k1, aI E 9 w), (k2, aI E 5 aw), (k3, aI E 4 my), (k4, aI E 120 fe), (k5, aI E 44 be), (k6, aI E 4 sk), (k7, aI E 4 cl), (k8, aI E 40 ex)] := by
  refine sI (own := RX5) (cc := cX5_replaceString) (maxL := 2) (ret := (some .int)) rfl (by decide) rfl (Nat.le_of_ble_eq_true rfl) ?_
  intro p e s m below meth c C hnm ls hl hW
  have hl : lv_has ls 2 [(0, .ref h0), (1, .int (nI q))] := hl
  have hW : WD E _ s [(h0, .inr (4, [.int x, .int (nI g), .ref k1, .ref k2, .int (nI sp), .int (nI pl), .int (nI tu), .int (nI fr), .int (nI nf), .ref k3, .ref k4, .ref k5, .ref k6, .ref k7, .ref k8])), (k1, aI E 9 w), (k2, aI E 5 aw), (k3, aI E 4 my), (k4, aI E 120 fe), (k5, aI E 44 be), (k6, aI E 4 sk), (k7, aI E 4 cl), (k8, aI E 40 ex)] s.heap [] := hW
  have hinX5 : ∀ w ∈ u_ws RX5 TX5 15, w ∈ wsX5_replaceString := by decide +kernel
  have hf41 : Cond.fieldLink RX5 41 (TX5 0).1 (TX5 0).2.1 (TX5 0).2.2.1 ∈ wsX5_replaceString := by decide +kernel
  have hf20 : Cond.fieldLink RX5 20 (TX5 4).1 (TX5 4).2.1 (TX5 4).2.2.1 ∈ wsX5_replaceString := by decide +kernel
  refine lv_aload_n C.x C.b dX5_replaceString_0 rfl (lv_at hl 0 rfl) ?_
  refine lv_iconst (v := nI 0) C.x C.b dX5_replaceString_1 (by decide) ?_
  refine x_put C hW 0 4 0 (Cn := RX5) (T := TX5) (N := 15) (w' := [(h0, .inr (4, [.int (nI 0), .int (nI g), .ref k1, .ref k2, .int (nI sp), .int (nI pl), .int (nI tu), .int (nI fr), .int (nI nf), .ref k3, .ref k4, .ref k5, .ref k6, .ref k7, .ref k8])), (k1, aI E 9 w), (k2, aI E 5 aw), (k3, aI E 4 my), (k4, aI E 120 fe), (k5, aI E 44 be), (k6, aI E 4 sk), (k7, aI E 4 cl), (k8, aI E 40 ex)]) tyX5 tyX5_ok nmX5 rfl rfl (by decide) hinX5 hf41 rfl (by decide +kernel) (Nat.le_of_ble_eq_true rfl) dX5_replaceString_2 rfl (fun H locs hW => ?_)
  refine lv_iload_n C.x C.b dX5_replaceString_5 rfl (lv_at hl 1 rfl) ?_
  refine x_cSI C hW (As := [.int (nI q)]) (rest := []) (wr := [(h0, .inr (4, [.int (nI 0), .int (nI g), .ref k1, .ref k2, .int (nI sp), .int (nI pl), .int (nI tu), .int (nI fr), .int (nI nf), .ref k3, .ref k4, .ref k5, .ref k6, .ref k7, .ref k8])), (k1, aI E 9 w), (k2, aI E 5 aw), (k3, aI E 4 my), (k4, aI E 120 fe), (k5, aI E 44 be), (k6, aI E 4 sk), (k7, aI E 4 cl), (k8, aI E 40 ex)]) (wn := [(h0, .inr (4, [.int (nI 0), .int (nI g), .ref k1, .ref k2, .int (nI sp), .int (nI pl), .int (nI tu), .int (nI fr), .int (nI nf), .ref k3, .ref k4, .ref k5, .ref k6, .ref k7, .ref k8])), (k1, aI E 9 w), (k2, aI E 5 aw), (k3, aI E 4 my), (k4, aI E 120 fe), (k5, aI E 44 be), (k6, aI E 4 sk), (k7, aI E 4 cl), (k8, aI E 40 ex)]) (met_X5_isPin l E (nI q)) gX5_replaceString_X5_isPin rfl 1 rfl ⟨rfl, rfl⟩ ⟨by decide +kernel, by decide +kernel, by decide +kernel⟩ ⟨Nat.le_of_ble_eq_true rfl, Nat.le_of_ble_eq_true rfl⟩ [] [0, 1, 2, 3, 4, 5, 6, 7, 8] [0, 1, 2, 3, 4, 5, 6, 7, 8] rfl (by decide) rfl (by decide) (by decide) rfl (by decide) hl.1 rfl (Nat.le_of_ble_eq_true rfl) dX5_replaceString_6 ⟨Nat.zero_le _, Nat.zero_le _⟩ (fun H locs hW => ?_)
  refine x_ifb_ne C (tgt := 18) dX5_replaceString_9 (by decide) (fun c_1 => ?_) (fun c_1 => ?_)
  · refine lv_aload_n C.x C.b dX5_replaceString_18 rfl (lv_at hl 0 rfl) ?_
    refine x_get C hW 0 4 4 (Cn := RX5) (T := TX5) (N := 15) rfl rfl (by decide) hinX5 hf20 rfl dX5_replaceString_19 ?_
    refine x_if_ne C (by omega) (tgt := 31) dX5_replaceString_22 (by decide) (fun c_2 => ?_) (fun c_2 => ?_)
    · exact absurd c_2 (by omega)
    · refine lv_aload_n C.x C.b dX5_replaceString_25 rfl (lv_at hl 0 rfl) ?_
      refine lv_iconst (v := nI 2) C.x C.b dX5_replaceString_26 (by decide) ?_
      refine x_cVI C hW (As := [.int (nI 2)]) (rest := []) (wr := []) (wn := [(h0, .inr (4, [.int (nI 2), .int (nI g), .ref k1, .ref k2, .int (nI sp), .int (nI pl), .int (nI tu), .int (nI fr), .int (nI nf), .ref k3, .ref k4, .ref k5, .ref k6, .ref k7, .ref k8])), (k1, aI E 9 w), (k2, aI E 5 aw), (k3, aI E 4 my), (k4, aI E 120 fe), (k5, aI E 44 be), (k6, aI E 4 sk), (k7, aI E 4 cl), (k8, aI E 40 ex)]) (Cn := RX5) (met_X5_no l E h0 k1 k2 k3 k4 k5 k6 k7 k8 (nI 0) g sp pl tu fr nf w aw my fe be sk cl ex 2) gX5_replaceString_X5_no rfl 1 rfl ⟨rfl, rfl⟩ ⟨rfl, by decide +kernel, by decide +kernel, by decide +kernel⟩ ⟨Nat.le_of_ble_eq_true rfl, Nat.le_of_ble_eq_true rfl⟩ [0, 1, 2, 3, 4, 5, 6, 7, 8] [] [0, 1, 2, 3, 4, 5, 6, 7, 8] rfl (by decide) rfl (by decide) (by decide) rfl (by decide) 0 4 rfl rfl hl.1 rfl (Nat.le_of_ble_eq_true rfl) dX5_replaceString_27 ⟨Nat.zero_le _, Nat.zero_le _⟩ (fun H locs hW => ?_)
      exact x_iret C hW rfl rfl rfl dX5_replaceString_30
  · exact absurd (z_inR (by omega) (by decide)) c_1

set_option maxHeartbeats 4000000 in
set_option maxRecDepth 100000 in
theorem met_X5_replaceString_bad (l : Launch) (E : EV) (h0 k1 k2 k3 k4 k5 k6 k7 k8 : Nat) (x : Int32) (g sp pl tu fr nf : Nat) (w aw my fe be sk cl ex : Nat → Nat) (v : Int32) (hb : ¬ (nI 0 ≤ v ∧ v ≤ nI 8)) : MI l yX5_replaceString wsX5_replaceString { frames := 2, cells := 0, slots := 0, locals := 42 } E [.ref h0, .int v] [(h0, .inr (4, [.int x, .int (nI g), .ref k1, .ref k2, .int (nI sp), .int (nI pl), .int (nI tu), .int (nI fr), .int (nI nf), .ref k3, .ref k4, .ref k5, .ref k6, .ref k7, .ref k8])), (k1, aI E 9 w), (k2, aI E 5 aw), (k3, aI E 4 my), (k4, aI E 120 fe), (k5, aI E 44 be), (k6, aI E 4 sk), (k7, aI E 4 cl), (k8, aI E 40 ex)] (nI 0) [(h0, .inr (4, [.int (nI 1), .int (nI g), .ref k1, .ref k2, .int (nI sp), .int (nI pl), .int (nI tu), .int (nI fr), .int (nI nf), .ref k3, .ref k4, .ref k5, .ref k6, .ref k7, .ref k8])), (k1, aI E 9 w), (k2, aI E 5 aw), (k3, aI E 4 my), (k4, aI E 120 fe), (k5, aI E 44 be), (k6, aI E 4 sk), (k7, aI E 4 cl), (k8, aI E 40 ex)] := by
  refine sI (own := RX5) (cc := cX5_replaceString) (maxL := 2) (ret := (some .int)) rfl (by decide) rfl (Nat.le_of_ble_eq_true rfl) ?_
  intro p e s m below meth c C hnm ls hl hW
  have hl : lv_has ls 2 [(0, .ref h0), (1, .int v)] := hl
  have hW : WD E _ s [(h0, .inr (4, [.int x, .int (nI g), .ref k1, .ref k2, .int (nI sp), .int (nI pl), .int (nI tu), .int (nI fr), .int (nI nf), .ref k3, .ref k4, .ref k5, .ref k6, .ref k7, .ref k8])), (k1, aI E 9 w), (k2, aI E 5 aw), (k3, aI E 4 my), (k4, aI E 120 fe), (k5, aI E 44 be), (k6, aI E 4 sk), (k7, aI E 4 cl), (k8, aI E 40 ex)] s.heap [] := hW
  have hinX5 : ∀ w ∈ u_ws RX5 TX5 15, w ∈ wsX5_replaceString := by decide +kernel
  have hf41 : Cond.fieldLink RX5 41 (TX5 0).1 (TX5 0).2.1 (TX5 0).2.2.1 ∈ wsX5_replaceString := by decide +kernel
  refine lv_aload_n C.x C.b dX5_replaceString_0 rfl (lv_at hl 0 rfl) ?_
  refine lv_iconst (v := nI 0) C.x C.b dX5_replaceString_1 (by decide) ?_
  refine x_put C hW 0 4 0 (Cn := RX5) (T := TX5) (N := 15) (w' := [(h0, .inr (4, [.int (nI 0), .int (nI g), .ref k1, .ref k2, .int (nI sp), .int (nI pl), .int (nI tu), .int (nI fr), .int (nI nf), .ref k3, .ref k4, .ref k5, .ref k6, .ref k7, .ref k8])), (k1, aI E 9 w), (k2, aI E 5 aw), (k3, aI E 4 my), (k4, aI E 120 fe), (k5, aI E 44 be), (k6, aI E 4 sk), (k7, aI E 4 cl), (k8, aI E 40 ex)]) tyX5 tyX5_ok nmX5 rfl rfl (by decide) hinX5 hf41 rfl (by decide +kernel) (Nat.le_of_ble_eq_true rfl) dX5_replaceString_2 rfl (fun H locs hW => ?_)
  refine lv_iload_n C.x C.b dX5_replaceString_5 rfl (lv_at hl 1 rfl) ?_
  refine x_cSI C hW (As := [.int v]) (rest := []) (wr := [(h0, .inr (4, [.int (nI 0), .int (nI g), .ref k1, .ref k2, .int (nI sp), .int (nI pl), .int (nI tu), .int (nI fr), .int (nI nf), .ref k3, .ref k4, .ref k5, .ref k6, .ref k7, .ref k8])), (k1, aI E 9 w), (k2, aI E 5 aw), (k3, aI E 4 my), (k4, aI E 120 fe), (k5, aI E 44 be), (k6, aI E 4 sk), (k7, aI E 4 cl), (k8, aI E 40 ex)]) (wn := [(h0, .inr (4, [.int (nI 0), .int (nI g), .ref k1, .ref k2, .int (nI sp), .int (nI pl), .int (nI tu), .int (nI fr), .int (nI nf), .ref k3, .ref k4, .ref k5, .ref k6, .ref k7, .ref k8])), (k1, aI E 9 w), (k2, aI E 5 aw), (k3, aI E 4 my), (k4, aI E 120 fe), (k5, aI E 44 be), (k6, aI E 4 sk), (k7, aI E 4 cl), (k8, aI E 40 ex)]) (met_X5_isPin l E v) gX5_replaceString_X5_isPin rfl 1 rfl ⟨rfl, rfl⟩ ⟨by decide +kernel, by decide +kernel, by decide +kernel⟩ ⟨Nat.le_of_ble_eq_true rfl, Nat.le_of_ble_eq_true rfl⟩ [] [0, 1, 2, 3, 4, 5, 6, 7, 8] [0, 1, 2, 3, 4, 5, 6, 7, 8] rfl (by decide) rfl (by decide) (by decide) rfl (by decide) hl.1 rfl (Nat.le_of_ble_eq_true rfl) dX5_replaceString_6 ⟨Nat.zero_le _, Nat.zero_le _⟩ (fun H locs hW => ?_)
  refine x_ifb_ne C (tgt := 18) dX5_replaceString_9 (by decide) (fun c_1 => ?_) (fun c_1 => ?_)
  · exact absurd c_1 hb
  · refine lv_aload_n C.x C.b dX5_replaceString_12 rfl (lv_at hl 0 rfl) ?_
    refine lv_iconst (v := nI 1) C.x C.b dX5_replaceString_13 (by decide) ?_
    refine x_cVI C hW (As := [.int (nI 1)]) (rest := []) (wr := []) (wn := [(h0, .inr (4, [.int (nI 1), .int (nI g), .ref k1, .ref k2, .int (nI sp), .int (nI pl), .int (nI tu), .int (nI fr), .int (nI nf), .ref k3, .ref k4, .ref k5, .ref k6, .ref k7, .ref k8])), (k1, aI E 9 w), (k2, aI E 5 aw), (k3, aI E 4 my), (k4, aI E 120 fe), (k5, aI E 44 be), (k6, aI E 4 sk), (k7, aI E 4 cl), (k8, aI E 40 ex)]) (Cn := RX5) (met_X5_no l E h0 k1 k2 k3 k4 k5 k6 k7 k8 (nI 0) g sp pl tu fr nf w aw my fe be sk cl ex 1) gX5_replaceString_X5_no rfl 1 rfl ⟨rfl, rfl⟩ ⟨rfl, by decide +kernel, by decide +kernel, by decide +kernel⟩ ⟨Nat.le_of_ble_eq_true rfl, Nat.le_of_ble_eq_true rfl⟩ [0, 1, 2, 3, 4, 5, 6, 7, 8] [] [0, 1, 2, 3, 4, 5, 6, 7, 8] rfl (by decide) rfl (by decide) (by decide) rfl (by decide) 0 4 rfl rfl hl.1 rfl (Nat.le_of_ble_eq_true rfl) dX5_replaceString_14 ⟨Nat.zero_le _, Nat.zero_le _⟩ (fun H locs hW => ?_)
    exact x_iret C hW rfl rfl rfl dX5_replaceString_17

set_option maxHeartbeats 4000000 in
set_option maxRecDepth 100000 in
theorem met_X5_buyStrings_ok (l : Launch) (E : EV) (h0 k1 k2 k3 k4 k5 k6 k7 k8 : Nat) (x : Int32) (g sp pl tu fr nf : Nat) (w aw my fe be sk cl ex : Nat → Nat) (k : Nat) (h1 : 1 ≤ k) (h2 : k ≤ 20) : MI l yX5_buyStrings wsX5_buyStrings { frames := 1, cells := 0, slots := 0, locals := 22 } E [.ref h0, .int (nI k)] [(h0, .inr (4, [.int x, .int (nI g), .ref k1, .ref k2, .int (nI sp), .int (nI pl), .int (nI tu), .int (nI fr), .int (nI nf), .ref k3, .ref k4, .ref k5, .ref k6, .ref k7, .ref k8])), (k1, aI E 9 w), (k2, aI E 5 aw), (k3, aI E 4 my), (k4, aI E 120 fe), (k5, aI E 44 be), (k6, aI E 4 sk), (k7, aI E 4 cl), (k8, aI E 40 ex)] (nI (sp + k)) [(h0, .inr (4, [.int (nI 0), .int (nI g), .ref k1, .ref k2, .int (nI (sp + k)), .int (nI pl), .int (nI tu), .int (nI fr), .int (nI nf), .ref k3, .ref k4, .ref k5, .ref k6, .ref k7, .ref k8])), (k1, aI E 9 w), (k2, aI E 5 aw), (k3, aI E 4 my), (k4, aI E 120 fe), (k5, aI E 44 be), (k6, aI E 4 sk), (k7, aI E 4 cl), (k8, aI E 40 ex)] := by
  refine sI (own := RX5) (cc := cX5_buyStrings) (maxL := 2) (ret := (some .int)) rfl (by decide) rfl (Nat.le_of_ble_eq_true rfl) ?_
  intro p e s m below meth c C hnm ls hl hW
  have hl : lv_has ls 2 [(0, .ref h0), (1, .int (nI k))] := hl
  have hW : WD E _ s [(h0, .inr (4, [.int x, .int (nI g), .ref k1, .ref k2, .int (nI sp), .int (nI pl), .int (nI tu), .int (nI fr), .int (nI nf), .ref k3, .ref k4, .ref k5, .ref k6, .ref k7, .ref k8])), (k1, aI E 9 w), (k2, aI E 5 aw), (k3, aI E 4 my), (k4, aI E 120 fe), (k5, aI E 44 be), (k6, aI E 4 sk), (k7, aI E 4 cl), (k8, aI E 40 ex)] s.heap [] := hW
  have hinX5 : ∀ w ∈ u_ws RX5 TX5 15, w ∈ wsX5_buyStrings := by decide +kernel
  have hf41 : Cond.fieldLink RX5 41 (TX5 0).1 (TX5 0).2.1 (TX5 0).2.2.1 ∈ wsX5_buyStrings := by decide +kernel
  have hf20 : Cond.fieldLink RX5 20 (TX5 4).1 (TX5 4).2.1 (TX5 4).2.2.1 ∈ wsX5_buyStrings := by decide +kernel
  refine lv_aload_n C.x C.b dX5_buyStrings_0 rfl (lv_at hl 0 rfl) ?_
  refine lv_iconst (v := nI 0) C.x C.b dX5_buyStrings_1 (by decide) ?_
  refine x_put C hW 0 4 0 (Cn := RX5) (T := TX5) (N := 15) (w' := [(h0, .inr (4, [.int (nI 0), .int (nI g), .ref k1, .ref k2, .int (nI sp), .int (nI pl), .int (nI tu), .int (nI fr), .int (nI nf), .ref k3, .ref k4, .ref k5, .ref k6, .ref k7, .ref k8])), (k1, aI E 9 w), (k2, aI E 5 aw), (k3, aI E 4 my), (k4, aI E 120 fe), (k5, aI E 44 be), (k6, aI E 4 sk), (k7, aI E 4 cl), (k8, aI E 40 ex)]) tyX5 tyX5_ok nmX5 rfl rfl (by decide) hinX5 hf41 rfl (by decide +kernel) (Nat.le_of_ble_eq_true rfl) dX5_buyStrings_2 rfl (fun H locs hW => ?_)
  refine lv_iload_n C.x C.b dX5_buyStrings_5 rfl (lv_at hl 1 rfl) ?_
  refine lv_iconst (v := nI 1) C.x C.b dX5_buyStrings_6 (by decide) ?_
  refine lv_bipush (v := nI 20) C.x C.b dX5_buyStrings_7 (by decide) ?_
  refine x_cSI C hW (As := [.int (nI k), .int (nI 1), .int (nI 20)]) (rest := []) (wr := [(h0, .inr (4, [.int (nI 0), .int (nI g), .ref k1, .ref k2, .int (nI sp), .int (nI pl), .int (nI tu), .int (nI fr), .int (nI nf), .ref k3, .ref k4, .ref k5, .ref k6, .ref k7, .ref k8])), (k1, aI E 9 w), (k2, aI E 5 aw), (k3, aI E 4 my), (k4, aI E 120 fe), (k5, aI E 44 be), (k6, aI E 4 sk), (k7, aI E 4 cl), (k8, aI E 40 ex)]) (wn := [(h0, .inr (4, [.int (nI 0), .int (nI g), .ref k1, .ref k2, .int (nI sp), .int (nI pl), .int (nI tu), .int (nI fr), .int (nI nf), .ref k3, .ref k4, .ref k5, .ref k6, .ref k7, .ref k8])), (k1, aI E 9 w), (k2, aI E 5 aw), (k3, aI E 4 my), (k4, aI E 120 fe), (k5, aI E 44 be), (k6, aI E 4 sk), (k7, aI E 4 cl), (k8, aI E 40 ex)]) (met_X5_isIn l E (nI k) (nI 1) (nI 20)) gX5_buyStrings_X5_isIn rfl 3 rfl ⟨rfl, rfl⟩ ⟨by decide +kernel, by decide +kernel, by decide +kernel⟩ ⟨Nat.le_of_ble_eq_true rfl, Nat.le_of_ble_eq_true rfl⟩ [] [0, 1, 2, 3, 4, 5, 6, 7, 8] [0, 1, 2, 3, 4, 5, 6, 7, 8] rfl (by decide) rfl (by decide) (by decide) rfl (by decide) hl.1 rfl (Nat.le_of_ble_eq_true rfl) dX5_buyStrings_9 ⟨Nat.zero_le _, Nat.zero_le _⟩ (fun H locs hW => ?_)
  refine x_ifb_ne C (tgt := 21) dX5_buyStrings_12 (by decide) (fun c_1 => ?_) (fun c_1 => ?_)
  · refine lv_aload_n C.x C.b dX5_buyStrings_21 rfl (lv_at hl 0 rfl) ?_
    refine lv_dup C.x C.b dX5_buyStrings_22 rfl ?_
    refine x_get C hW 0 4 4 (Cn := RX5) (T := TX5) (N := 15) rfl rfl (by decide) hinX5 hf20 rfl dX5_buyStrings_23 ?_
    refine lv_iload_n C.x C.b dX5_buyStrings_26 rfl (lv_at hl 1 rfl) ?_
    refine x_iadd C dX5_buyStrings_27 ?_
    refine x_put C hW 0 4 4 (Cn := RX5) (T := TX5) (N := 15) (w' := [(h0, .inr (4, [.int (nI 0), .int (nI g), .ref k1, .ref k2, .int (nI (sp + k)), .int (nI pl), .int (nI tu), .int (nI fr), .int (nI nf), .ref k3, .ref k4, .ref k5, .ref k6, .ref k7, .ref k8])), (k1, aI E 9 w), (k2, aI E 5 aw), (k3, aI E 4 my), (k4, aI E 120 fe), (k5, aI E 44 be), (k6, aI E 4 sk), (k7, aI E 4 cl), (k8, aI E 40 ex)]) tyX5 tyX5_ok nmX5 rfl rfl (by decide) hinX5 hf20 rfl (by decide +kernel) (Nat.le_of_ble_eq_true rfl) dX5_buyStrings_28 rfl (fun H locs hW => ?_)
    refine lv_aload_n C.x C.b dX5_buyStrings_31 rfl (lv_at hl 0 rfl) ?_
    refine x_get C hW 0 4 4 (Cn := RX5) (T := TX5) (N := 15) rfl rfl (by decide) hinX5 hf20 rfl dX5_buyStrings_32 ?_
    exact x_iret C hW rfl rfl rfl dX5_buyStrings_35
  · exact absurd ⟨nI_le (a := 1) h1 (by omega), nI_le h2 (by decide)⟩ c_1

set_option maxHeartbeats 4000000 in
set_option maxRecDepth 100000 in
theorem met_X5_buyStrings_bad (l : Launch) (E : EV) (h0 k1 k2 k3 k4 k5 k6 k7 k8 : Nat) (x : Int32) (g sp pl tu fr nf : Nat) (w aw my fe be sk cl ex : Nat → Nat) (v : Int32) (hb : ¬ (nI 1 ≤ v ∧ v ≤ nI 20)) : MI l yX5_buyStrings wsX5_buyStrings { frames := 1, cells := 0, slots := 0, locals := 22 } E [.ref h0, .int v] [(h0, .inr (4, [.int x, .int (nI g), .ref k1, .ref k2, .int (nI sp), .int (nI pl), .int (nI tu), .int (nI fr), .int (nI nf), .ref k3, .ref k4, .ref k5, .ref k6, .ref k7, .ref k8])), (k1, aI E 9 w), (k2, aI E 5 aw), (k3, aI E 4 my), (k4, aI E 120 fe), (k5, aI E 44 be), (k6, aI E 4 sk), (k7, aI E 4 cl), (k8, aI E 40 ex)] (nI 0) [(h0, .inr (4, [.int (nI 1), .int (nI g), .ref k1, .ref k2, .int (nI sp), .int (nI pl), .int (nI tu), .int (nI fr), .int (nI nf), .ref k3, .ref k4, .ref k5, .ref k6, .ref k7, .ref k8])), (k1, aI E 9 w), (k2, aI E 5 aw), (k3, aI E 4 my), (k4, aI E 120 fe), (k5, aI E 44 be), (k6, aI E 4 sk), (k7, aI E 4 cl), (k8, aI E 40 ex)] := by
  refine sI (own := RX5) (cc := cX5_buyStrings) (maxL := 2) (ret := (some .int)) rfl (by decide) rfl (Nat.le_of_ble_eq_true rfl) ?_
  intro p e s m below meth c C hnm ls hl hW
  have hl : lv_has ls 2 [(0, .ref h0), (1, .int v)] := hl
  have hW : WD E _ s [(h0, .inr (4, [.int x, .int (nI g), .ref k1, .ref k2, .int (nI sp), .int (nI pl), .int (nI tu), .int (nI fr), .int (nI nf), .ref k3, .ref k4, .ref k5, .ref k6, .ref k7, .ref k8])), (k1, aI E 9 w), (k2, aI E 5 aw), (k3, aI E 4 my), (k4, aI E 120 fe), (k5, aI E 44 be), (k6, aI E 4 sk), (k7, aI E 4 cl), (k8, aI E 40 ex)] s.heap [] := hW
  have hinX5 : ∀ w ∈ u_ws RX5 TX5 15, w ∈ wsX5_buyStrings := by decide +kernel
  have hf41 : Cond.fieldLink RX5 41 (TX5 0).1 (TX5 0).2.1 (TX5 0).2.2.1 ∈ wsX5_buyStrings := by decide +kernel
  refine lv_aload_n C.x C.b dX5_buyStrings_0 rfl (lv_at hl 0 rfl) ?_
  refine lv_iconst (v := nI 0) C.x C.b dX5_buyStrings_1 (by decide) ?_
  refine x_put C hW 0 4 0 (Cn := RX5) (T := TX5) (N := 15) (w' := [(h0, .inr (4, [.int (nI 0), .int (nI g), .ref k1, .ref k2, .int (nI sp), .int (nI pl), .int (nI tu), .int (nI fr), .int (nI nf), .ref k3, .ref k4, .ref k5, .ref k6, .ref k7, .ref k8])), (k1, aI E 9 w), (k2, aI E 5 aw), (k3, aI E 4 my), (k4, aI E 120 fe), (k5, aI E 44 be), (k6, aI E 4 sk), (k7, aI E 4 cl), (k8, aI E 40 ex)]) tyX5 tyX5_ok nmX5 rfl rfl (by decide) hinX5 hf41 rfl (by decide +kernel) (Nat.le_of_ble_eq_true rfl) dX5_buyStrings_2 rfl (fun H locs hW => ?_)
  refine lv_iload_n C.x C.b dX5_buyStrings_5 rfl (lv_at hl 1 rfl) ?_
  refine lv_iconst (v := nI 1) C.x C.b dX5_buyStrings_6 (by decide) ?_
  refine lv_bipush (v := nI 20) C.x C.b dX5_buyStrings_7 (by decide) ?_
  refine x_cSI C hW (As := [.int v, .int (nI 1), .int (nI 20)]) (rest := []) (wr := [(h0, .inr (4, [.int (nI 0), .int (nI g), .ref k1, .ref k2, .int (nI sp), .int (nI pl), .int (nI tu), .int (nI fr), .int (nI nf), .ref k3, .ref k4, .ref k5, .ref k6, .ref k7, .ref k8])), (k1, aI E 9 w), (k2, aI E 5 aw), (k3, aI E 4 my), (k4, aI E 120 fe), (k5, aI E 44 be), (k6, aI E 4 sk), (k7, aI E 4 cl), (k8, aI E 40 ex)]) (wn := [(h0, .inr (4, [.int (nI 0), .int (nI g), .ref k1, .ref k2, .int (nI sp), .int (nI pl), .int (nI tu), .int (nI fr), .int (nI nf), .ref k3, .ref k4, .ref k5, .ref k6, .ref k7, .ref k8])), (k1, aI E 9 w), (k2, aI E 5 aw), (k3, aI E 4 my), (k4, aI E 120 fe), (k5, aI E 44 be), (k6, aI E 4 sk), (k7, aI E 4 cl), (k8, aI E 40 ex)]) (met_X5_isIn l E v (nI 1) (nI 20)) gX5_buyStrings_X5_isIn rfl 3 rfl ⟨rfl, rfl⟩ ⟨by decide +kernel, by decide +kernel, by decide +kernel⟩ ⟨Nat.le_of_ble_eq_true rfl, Nat.le_of_ble_eq_true rfl⟩ [] [0, 1, 2, 3, 4, 5, 6, 7, 8] [0, 1, 2, 3, 4, 5, 6, 7, 8] rfl (by decide) rfl (by decide) (by decide) rfl (by decide) hl.1 rfl (Nat.le_of_ble_eq_true rfl) dX5_buyStrings_9 ⟨Nat.zero_le _, Nat.zero_le _⟩ (fun H locs hW => ?_)
  refine x_ifb_ne C (tgt := 21) dX5_buyStrings_12 (by decide) (fun c_1 => ?_) (fun c_1 => ?_)
  · exact absurd c_1 hb
  · refine lv_aload_n C.x C.b dX5_buyStrings_15 rfl (lv_at hl 0 rfl) ?_
    refine lv_iconst (v := nI 1) C.x C.b dX5_buyStrings_16 (by decide) ?_
    refine x_cVI C hW (As := [.int (nI 1)]) (rest := []) (wr := []) (wn := [(h0, .inr (4, [.int (nI 1), .int (nI g), .ref k1, .ref k2, .int (nI sp), .int (nI pl), .int (nI tu), .int (nI fr), .int (nI nf), .ref k3, .ref k4, .ref k5, .ref k6, .ref k7, .ref k8])), (k1, aI E 9 w), (k2, aI E 5 aw), (k3, aI E 4 my), (k4, aI E 120 fe), (k5, aI E 44 be), (k6, aI E 4 sk), (k7, aI E 4 cl), (k8, aI E 40 ex)]) (Cn := RX5) (met_X5_no l E h0 k1 k2 k3 k4 k5 k6 k7 k8 (nI 0) g sp pl tu fr nf w aw my fe be sk cl ex 1) gX5_buyStrings_X5_no rfl 1 rfl ⟨rfl, rfl⟩ ⟨rfl, by decide +kernel, by decide +kernel, by decide +kernel⟩ ⟨Nat.le_of_ble_eq_true rfl, Nat.le_of_ble_eq_true rfl⟩ [0, 1, 2, 3, 4, 5, 6, 7, 8] [] [0, 1, 2, 3, 4, 5, 6, 7, 8] rfl (by decide) rfl (by decide) (by decide) rfl (by decide) 0 4 rfl rfl hl.1 rfl (Nat.le_of_ble_eq_true rfl) dX5_buyStrings_17 ⟨Nat.zero_le _, Nat.zero_le _⟩ (fun H locs hW => ?_)
    exact x_iret C hW rfl rfl rfl dX5_buyStrings_20

set_option maxHeartbeats 4000000 in
set_option maxRecDepth 100000 in
theorem met_X5_endFrame (l : Launch) (E : EV) (h0 k1 k2 k3 k4 k5 k6 k7 k8 : Nat) (x : Int32) (g sp pl tu fr nf : Nat) (w aw my fe be sk cl ex : Nat → Nat) (hw : ∀ i, w i ≤ 12) (hpl : pl ≤ 4) (htu : tu < 4) (hfr : fr < 10) (hnf : nf ≤ 3) (hg : g < 512) (hmy : ∀ j, my j ≤ 30) (hfe : ∀ j, fe j ≤ 9) (hbe : ∀ j, be j ≤ 30) : MV l yX5_endFrame wsX5_endFrame { frames := 2, cells := 0, slots := 0, locals := 46 } E [.ref h0] [(h0, .inr (4, [.int x, .int (nI g), .ref k1, .ref k2, .int (nI sp), .int (nI pl), .int (nI tu), .int (nI fr), .int (nI nf), .ref k3, .ref k4, .ref k5, .ref k6, .ref k7, .ref k8])), (k1, aI E 9 w), (k2, aI E 5 aw), (k3, aI E 4 my), (k4, aI E 120 fe), (k5, aI E 44 be), (k6, aI E 4 sk), (k7, aI E 4 cl), (k8, aI E 40 ex)] [(h0, .inr (4, [.int x, .int (nI (if (if tu + 1 = pl then fr + 1 else fr) = 10 then g else suN w 9)), .ref k1, .ref k2, .int (nI sp), .int (nI pl), .int (nI (if tu + 1 = pl then 0 else tu + 1)), .int (nI (if tu + 1 = pl then fr + 1 else fr)), .int (nI 0), .ref k3, .ref k4, .ref k5, .ref k6, .ref k7, .ref k8])), (k1, aI E 9 w), (k2, aI E 5 aw), (k3, aI E 4 my), (k4, aI E 120 fe), (k5, aI E 44 (upN be (11 * tu + fr + 1) (my tu))), (k6, aI E 4 (if g = 0 ∧ 0 < smQ my fe tu (be (11 * tu + fr)) (my tu) ∧ nf = 1 then upN sk tu (sk tu + 1) else sk)), (k7, aI E 4 (if g = 0 ∧ 0 < smQ my fe tu (be (11 * tu + fr)) (my tu) ∧ ¬ nf = 1 then upN cl tu (cl tu + 1) else cl)), (k8, aI E 40 (if g = 0 ∧ 0 < smQ my fe tu (be (11 * tu + fr)) (my tu) then upN ex (10 * tu + fr) (if nf = 1 then 2 else 1) else ex))] := by
  refine sV (own := RX5) (cc := cX5_endFrame) (maxL := 2) rfl (by decide) rfl (Nat.le_of_ble_eq_true rfl) ?_
  intro p e s m below meth c C hnm ls hl hW
  have hl : lv_has ls 2 [(0, .ref h0)] := hl
  have hW : WD E _ s [(h0, .inr (4, [.int x, .int (nI g), .ref k1, .ref k2, .int (nI sp), .int (nI pl), .int (nI tu), .int (nI fr), .int (nI nf), .ref k3, .ref k4, .ref k5, .ref k6, .ref k7, .ref k8])), (k1, aI E 9 w), (k2, aI E 5 aw), (k3, aI E 4 my), (k4, aI E 120 fe), (k5, aI E 44 be), (k6, aI E 4 sk), (k7, aI E 4 cl), (k8, aI E 40 ex)] s.heap [] := hW
  have hinX5 : ∀ w ∈ u_ws RX5 TX5 15, w ∈ wsX5_endFrame := by decide +kernel
  have hf9 : Cond.fieldLink RX5 9 (TX5 1).1 (TX5 1).2.1 (TX5 1).2.2.1 ∈ wsX5_endFrame := by decide +kernel
  have hf48 : Cond.fieldLink RX5 48 (TX5 5).1 (TX5 5).2.1 (TX5 5).2.2.1 ∈ wsX5_endFrame := by decide +kernel
  have hf88 : Cond.fieldLink RX5 88 (TX5 6).1 (TX5 6).2.1 (TX5 6).2.2.1 ∈ wsX5_endFrame := by decide +kernel
  have hf72 : Cond.fieldLink RX5 72 (TX5 7).1 (TX5 7).2.1 (TX5 7).2.2.1 ∈ wsX5_endFrame := by decide +kernel
  have hf97 : Cond.fieldLink RX5 97 (TX5 8).1 (TX5 8).2.1 (TX5 8).2.2.1 ∈ wsX5_endFrame := by decide +kernel
  have hf23 : Cond.fieldLink RX5 23 (TX5 9).1 (TX5 9).2.1 (TX5 9).2.2.1 ∈ wsX5_endFrame := by decide +kernel
  have hf29 : Cond.fieldLink RX5 29 (TX5 11).1 (TX5 11).2.1 (TX5 11).2.2.1 ∈ wsX5_endFrame := by decide +kernel
  have hf32 : Cond.fieldLink RX5 32 (TX5 12).1 (TX5 12).2.1 (TX5 12).2.2.1 ∈ wsX5_endFrame := by decide +kernel
  have hf35 : Cond.fieldLink RX5 35 (TX5 13).1 (TX5 13).2.1 (TX5 13).2.2.1 ∈ wsX5_endFrame := by decide +kernel
  have hf38 : Cond.fieldLink RX5 38 (TX5 14).1 (TX5 14).2.1 (TX5 14).2.2.1 ∈ wsX5_endFrame := by decide +kernel
  have t1 := hmy tu
  have t2 := hbe (11 * tu + fr)
  have t3 := smQ_le hfe hmy tu (be (11 * tu + fr)) (my tu)
  refine lv_aload_n C.x C.b dX5_endFrame_0 rfl (lv_at hl 0 rfl) ?_
  refine lv_aload_n C.x C.b dX5_endFrame_1 rfl (lv_at hl 0 rfl) ?_
  refine x_get C hW 0 4 6 (Cn := RX5) (T := TX5) (N := 15) rfl rfl (by decide) hinX5 hf88 rfl dX5_endFrame_2 ?_
  refine lv_aload_n C.x C.b dX5_endFrame_5 rfl (lv_at hl 0 rfl) ?_
  refine lv_aload_n C.x C.b dX5_endFrame_6 rfl (lv_at hl 0 rfl) ?_
  refine x_get C hW 0 4 6 (Cn := RX5) (T := TX5) (N := 15) rfl rfl (by decide) hinX5 hf88 rfl dX5_endFrame_7 ?_
  refine lv_aload_n C.x C.b dX5_endFrame_10 rfl (lv_at hl 0 rfl) ?_
  refine x_get C hW 0 4 7 (Cn := RX5) (T := TX5) (N := 15) rfl rfl (by decide) hinX5 hf72 rfl dX5_endFrame_11 ?_
  refine x_cVI C hW (As := [.int (nI tu), .int (nI fr)]) (rest := [.int (nI tu), .ref h0]) (wr := []) (wn := [(h0, .inr (4, [.int x, .int (nI g), .ref k1, .ref k2, .int (nI sp), .int (nI pl), .int (nI tu), .int (nI fr), .int (nI nf), .ref k3, .ref k4, .ref k5, .ref k6, .ref k7, .ref k8])), (k1, aI E 9 w), (k2, aI E 5 aw), (k3, aI E 4 my), (k4, aI E 120 fe), (k5, aI E 44 be), (k6, aI E 4 sk), (k7, aI E 4 cl), (k8, aI E 40 ex)]) (Cn := RX5) (met_X5_begin l E h0 k1 k2 k3 k4 k5 k6 k7 k8 x g sp pl tu fr nf w aw my fe be sk cl ex tu fr (by omega) (by omega)) gX5_endFrame_X5_begin rfl 2 rfl ⟨rfl, rfl⟩ ⟨rfl, by decide +kernel, by decide +kernel, by decide +kernel⟩ ⟨Nat.le_of_ble_eq_true rfl, Nat.le_of_ble_eq_true rfl⟩ [0, 1, 2, 3, 4, 5, 6, 7, 8] [] [0, 1, 2, 3, 4, 5, 6, 7, 8] rfl (by decide) rfl (by decide) (by decide) rfl (by decide) 0 4 rfl rfl hl.1 rfl (Nat.le_of_ble_eq_true rfl) dX5_endFrame_14 ⟨Nat.zero_le _, Nat.zero_le _⟩ (fun H locs hW => ?_)
  refine lv_aload_n C.x C.b dX5_endFrame_17 rfl (lv_at hl 0 rfl) ?_
  refine x_get C hW 0 4 9 (Cn := RX5) (T := TX5) (N := 15) rfl rfl (by decide) hinX5 hf23 rfl dX5_endFrame_18 ?_
  refine lv_aload_n C.x C.b dX5_endFrame_21 rfl (lv_at hl 0 rfl) ?_
  refine x_get C hW 0 4 6 (Cn := RX5) (T := TX5) (N := 15) rfl rfl (by decide) hinX5 hf88 rfl dX5_endFrame_22 ?_
  refine x_ald C hW 3 tu rfl rfl (by omega) (by decide) dX5_endFrame_25 ?_
  refine x_cVI C hW (As := [.int (nI tu), .int (nI (be (11 * tu + fr))), .int (nI (my tu))]) (rest := []) (wr := []) (wn := [(h0, .inr (4, [.int x, .int (nI g), .ref k1, .ref k2, .int (nI sp), .int (nI pl), .int (nI tu), .int (nI fr), .int (nI nf), .ref k3, .ref k4, .ref k5, .ref k6, .ref k7, .ref k8])), (k1, aI E 9 w), (k2, aI E 5 aw), (k3, aI E 4 my), (k4, aI E 120 fe), (k5, aI E 44 be), (k6, aI E 4 sk), (k7, aI E 4 cl), (k8, aI E 40 ex)]) (Cn := RX5) (met_X5_sum l E h0 k1 k2 k3 k4 k5 k6 k7 k8 x g sp pl tu fr nf w aw my fe be sk cl ex tu (be (11 * tu + fr)) (my tu) (by omega) hmy (by omega) (by omega)) gX5_endFrame_X5_sum rfl 3 rfl ⟨rfl, rfl⟩ ⟨rfl, by decide +kernel, by decide +kernel, by decide +kernel⟩ ⟨Nat.le_of_ble_eq_true rfl, Nat.le_of_ble_eq_true rfl⟩ [0, 1, 2, 3, 4, 5, 6, 7, 8] [] [0, 1, 2, 3, 4, 5, 6, 7, 8] rfl (by decide) rfl (by decide) (by decide) rfl (by decide) 0 4 rfl rfl hl.1 rfl (Nat.le_of_ble_eq_true rfl) dX5_endFrame_26 ⟨Nat.zero_le _, Nat.zero_le _⟩ (fun H locs hW => ?_)
  refine lv_istore_n (lv' := [(1, .int (nI (smQ my fe tu (be (11 * tu + fr)) (my tu)))), (0, .ref h0)]) C.x C.b dX5_endFrame_29 rfl hl (by decide) rfl (fun ls hl => ?_)
  refine lv_aload_n C.x C.b dX5_endFrame_30 rfl (lv_at hl 1 rfl) ?_
  refine x_get C hW 0 4 1 (Cn := RX5) (T := TX5) (N := 15) rfl rfl (by decide) hinX5 hf9 rfl dX5_endFrame_31 ?_
  refine x_if_ne C (by omega) (tgt := 83) dX5_endFrame_34 (by decide) (fun c_1 => ?_) (fun c_1 => ?_)
  · refine lv_aload_n C.x C.b dX5_endFrame_83 rfl (lv_at hl 1 rfl) ?_
    refine x_get C hW 0 4 1 (Cn := RX5) (T := TX5) (N := 15) rfl rfl (by decide) hinX5 hf9 rfl dX5_endFrame_84 ?_
    refine x_if_ne C (by omega) (tgt := 125) dX5_endFrame_87 (by decide) (fun c_2 => ?_) (fun c_2 => ?_)
    · refine lv_aload_n C.x C.b dX5_endFrame_125 rfl (lv_at hl 1 rfl) ?_
      refine x_get C hW 0 4 11 (Cn := RX5) (T := TX5) (N := 15) rfl rfl (by decide) hinX5 hf29 rfl dX5_endFrame_126 ?_
      refine lv_bipush (v := nI 11) C.x C.b dX5_endFrame_129 (by decide) ?_
      refine lv_aload_n C.x C.b dX5_endFrame_131 rfl (lv_at hl 1 rfl) ?_
      refine x_get C hW 0 4 6 (Cn := RX5) (T := TX5) (N := 15) rfl rfl (by decide) hinX5 hf88 rfl dX5_endFrame_132 ?_
      refine x_imul C dX5_endFrame_135 ?_
      refine lv_aload_n C.x C.b dX5_endFrame_136 rfl (lv_at hl 1 rfl) ?_
      refine x_get C hW 0 4 7 (Cn := RX5) (T := TX5) (N := 15) rfl rfl (by decide) hinX5 hf72 rfl dX5_endFrame_137 ?_
      refine x_iadd C dX5_endFrame_140 ?_
      refine lv_iconst (v := nI 1) C.x C.b dX5_endFrame_141 (by decide) ?_
      refine x_iadd C dX5_endFrame_142 ?_
      refine lv_aload_n C.x C.b dX5_endFrame_143 rfl (lv_at hl 1 rfl) ?_
      refine x_get C hW 0 4 9 (Cn := RX5) (T := TX5) (N := 15) rfl rfl (by decide) hinX5 hf23 rfl dX5_endFrame_144 ?_
      refine lv_aload_n C.x C.b dX5_endFrame_147 rfl (lv_at hl 1 rfl) ?_
      refine x_get C hW 0 4 6 (Cn := RX5) (T := TX5) (N := 15) rfl rfl (by decide) hinX5 hf88 rfl dX5_endFrame_148 ?_
      refine x_ald C hW 3 tu rfl rfl (by omega) (by decide) dX5_endFrame_151 ?_
      refine x_ast C hW 5 (((11 * tu) + fr) + 1) (my tu) rfl rfl rfl (by omega) (by decide) dX5_endFrame_152 (w' := [(h0, .inr (4, [.int x, .int (nI g), .ref k1, .ref k2, .int (nI sp), .int (nI pl), .int (nI tu), .int (nI fr), .int (nI nf), .ref k3, .ref k4, .ref k5, .ref k6, .ref k7, .ref k8])), (k1, aI E 9 w), (k2, aI E 5 aw), (k3, aI E 4 my), (k4, aI E 120 fe), (k5, aI E 44 (upN be (((11 * tu) + fr) + 1) (my tu))), (k6, aI E 4 sk), (k7, aI E 4 cl), (k8, aI E 40 ex)]) rfl (fun H locs hW => ?_)
      refine lv_aload_n C.x C.b dX5_endFrame_153 rfl (lv_at hl 1 rfl) ?_
      refine lv_iconst (v := nI 0) C.x C.b dX5_endFrame_154 (by decide) ?_
      refine x_put C hW 0 4 8 (Cn := RX5) (T := TX5) (N := 15) (w' := [(h0, .inr (4, [.int x, .int (nI g), .ref k1, .ref k2, .int (nI sp), .int (nI pl), .int (nI tu), .int (nI fr), .int (nI 0), .ref k3, .ref k4, .ref k5, .ref k6, .ref k7, .ref k8])), (k1, aI E 9 w), (k2, aI E 5 aw), (k3, aI E 4 my), (k4, aI E 120 fe), (k5, aI E 44 (upN be (((11 * tu) + fr) + 1) (my tu))), (k6, aI E 4 sk), (k7, aI E 4 cl), (k8, aI E 40 ex)]) tyX5 tyX5_ok nmX5 rfl rfl (by decide) hinX5 hf97 rfl (by decide +kernel) (Nat.le_of_ble_eq_true rfl) dX5_endFrame_155 rfl (fun H locs hW => ?_)
      refine lv_aload_n C.x C.b dX5_endFrame_158 rfl (lv_at hl 1 rfl) ?_
      refine lv_dup C.x C.b dX5_endFrame_159 rfl ?_
      refine x_get C hW 0 4 6 (Cn := RX5) (T := TX5) (N := 15) rfl rfl (by decide) hinX5 hf88 rfl dX5_endFrame_160 ?_
      refine lv_iconst (v := nI 1) C.x C.b dX5_endFrame_163 (by decide) ?_
      refine x_iadd C dX5_endFrame_164 ?_
      refine x_put C hW 0 4 6 (Cn := RX5) (T := TX5) (N := 15) (w' := [(h0, .inr (4, [.int x, .int (nI g), .ref k1, .ref k2, .int (nI sp), .int (nI pl), .int (nI (tu + 1)), .int (nI fr), .int (nI 0), .ref k3, .ref k4, .ref k5, .ref k6, .ref k7, .ref k8])), (k1, aI E 9 w), (k2, aI E 5 aw), (k3, aI E 4 my), (k4, aI E 120 fe), (k5, aI E 44 (upN be (((11 * tu) + fr) + 1) (my tu))), (k6, aI E 4 sk), (k7, aI E 4 cl), (k8, aI E 40 ex)]) tyX5 tyX5_ok nmX5 rfl rfl (by decide) hinX5 hf88 rfl (by decide +kernel) (Nat.le_of_ble_eq_true rfl) dX5_endFrame_165 rfl (fun H locs hW => ?_)
      refine lv_aload_n C.x C.b dX5_endFrame_168 rfl (lv_at hl 1 rfl) ?_
      refine x_get C hW 0 4 6 (Cn := RX5) (T := TX5) (N := 15) rfl rfl (by decide) hinX5 hf88 rfl dX5_endFrame_169 ?_
      refine lv_aload_n C.x C.b dX5_endFrame_172 rfl (lv_at hl 1 rfl) ?_
      refine x_get C hW 0 4 5 (Cn := RX5) (T := TX5) (N := 15) rfl rfl (by decide) hinX5 hf48 rfl dX5_endFrame_173 ?_
      refine x_icmp_ne C (by omega) (by omega) (tgt := 194) dX5_endFrame_176 (by decide) (fun c_3 => ?_) (fun c_3 => ?_)
      · refine lv_aload_n C.x C.b dX5_endFrame_194 rfl (lv_at hl 1 rfl) ?_
        refine x_cVI C hW (As := []) (rest := []) (wr := []) (wn := [(h0, .inr (4, [.int x, .int (nI g), .ref k1, .ref k2, .int (nI sp), .int (nI pl), .int (nI ((tu + 1))), .int (nI fr), .int (nI 0), .ref k3, .ref k4, .ref k5, .ref k6, .ref k7, .ref k8])), (k1, aI E 9 w), (k2, aI E 5 aw), (k3, aI E 4 my), (k4, aI E 120 fe), (k5, aI E 44 ((upN be (((11 * tu) + fr) + 1) (my tu)))), (k6, aI E 4 sk), (k7, aI E 4 cl), (k8, aI E 40 ex)]) (Cn := RX5) (met_X5_over l E h0 k1 k2 k3 k4 k5 k6 k7 k8 x g sp pl (tu + 1) fr 0 w aw my fe (upN be (((11 * tu) + fr) + 1) (my tu)) sk cl ex (by omega)) gX5_endFrame_X5_over rfl 0 rfl ⟨rfl, rfl⟩ ⟨rfl, by decide +kernel, by decide +kernel, by decide +kernel⟩ ⟨Nat.le_of_ble_eq_true rfl, Nat.le_of_ble_eq_true rfl⟩ [0, 1, 2, 3, 4, 5, 6, 7, 8] [] [0, 1, 2, 3, 4, 5, 6, 7, 8] rfl (by decide) rfl (by decide) (by decide) rfl (by decide) 0 4 rfl rfl hl.1 rfl (Nat.le_of_ble_eq_true rfl) dX5_endFrame_195 ⟨Nat.zero_le _, Nat.zero_le _⟩ (fun H locs hW => ?_)
        refine x_ifb_ne C (tgt := 205) dX5_endFrame_198 (by decide) (fun c_4 => ?_) (fun c_4 => ?_)
        · have q_5 : g = (if (if tu + 1 = pl then fr + 1 else fr) = 10 then g else suN w 9) := by first | rfl | ((repeat' split) <;> first | rfl | contradiction | (exfalso; omega))
          have q_6 : (tu + 1) = (if tu + 1 = pl then 0 else tu + 1) := by first | rfl | ((repeat' split) <;> first | rfl | contradiction | (exfalso; omega))
          have q_7 : fr = (if tu + 1 = pl then fr + 1 else fr) := by first | rfl | ((repeat' split) <;> first | rfl | contradiction | (exfalso; omega))
          have q_8 : (upN be (((11 * tu) + fr) + 1) (my tu)) = (upN be (11 * tu + fr + 1) (my tu)) := by first | rfl | ((repeat' split) <;> first | rfl | contradiction | (exfalso; omega))
          have q_9 : sk = (if g = 0 ∧ 0 < smQ my fe tu (be (11 * tu + fr)) (my tu) ∧ nf = 1 then upN sk tu (sk tu + 1) else sk) := by first | rfl | ((repeat' split) <;> first | rfl | contradiction | (exfalso; omega))
          have q_10 : cl = (if g = 0 ∧ 0 < smQ my fe tu (be (11 * tu + fr)) (my tu) ∧ ¬ nf = 1 then upN cl tu (cl tu + 1) else cl) := by first | rfl | ((repeat' split) <;> first | rfl | contradiction | (exfalso; omega))
          have q_11 : ex = (if g = 0 ∧ 0 < smQ my fe tu (be (11 * tu + fr)) (my tu) then upN ex (10 * tu + fr) (if nf = 1 then 2 else 1) else ex) := by first | rfl | ((repeat' split) <;> first | rfl | contradiction | (exfalso; omega))
          exact x_vret C hW (by rw [← q_11, ← q_10, ← q_9, ← q_5, ← q_7, ← q_6, ← q_8]) dX5_endFrame_205
        · refine lv_aload_n C.x C.b dX5_endFrame_201 rfl (lv_at hl 1 rfl) ?_
          refine x_cVV C hW (As := []) (rest := []) (wr := []) (wn := [(h0, .inr (4, [.int x, .int (nI (suN w 9)), .ref k1, .ref k2, .int (nI sp), .int (nI pl), .int (nI (((tu + 1)))), .int (nI fr), .int (nI 0), .ref k3, .ref k4, .ref k5, .ref k6, .ref k7, .ref k8])), (k1, aI E 9 w), (k2, aI E 5 aw), (k3, aI E 4 my), (k4, aI E 120 fe), (k5, aI E 44 (((upN be (((11 * tu) + fr) + 1) (my tu))))), (k6, aI E 4 sk), (k7, aI E 4 cl), (k8, aI E 40 ex)]) (Cn := RX5) (met_X5_putUp l E h0 k1 k2 k3 k4 k5 k6 k7 k8 x g sp pl ((tu + 1)) fr 0 w aw my fe ((upN be (((11 * tu) + fr) + 1) (my tu))) sk cl ex hw) gX5_endFrame_X5_putUp rfl 0 rfl ⟨rfl, rfl⟩ ⟨rfl, by decide +kernel, by decide +kernel, by decide +kernel⟩ ⟨Nat.le_of_ble_eq_true rfl, Nat.le_of_ble_eq_true rfl⟩ [0, 1, 2, 3, 4, 5, 6, 7, 8] [] [0, 1, 2, 3, 4, 5, 6, 7, 8] rfl (by decide) rfl (by decide) (by decide) rfl (by decide) 0 4 rfl rfl hl.1 rfl (Nat.le_of_ble_eq_true rfl) dX5_endFrame_202 ⟨Nat.zero_le _, Nat.zero_le _⟩ (fun H locs hW => ?_)
          have q_12 : suN w 9 = (if (if tu + 1 = pl then fr + 1 else fr) = 10 then g else suN w 9) := by first | rfl | ((repeat' split) <;> first | rfl | contradiction | (exfalso; omega))
          have q_13 : ((tu + 1)) = (if tu + 1 = pl then 0 else tu + 1) := by first | rfl | ((repeat' split) <;> first | rfl | contradiction | (exfalso; omega))
          have q_14 : fr = (if tu + 1 = pl then fr + 1 else fr) := by first | rfl | ((repeat' split) <;> first | rfl | contradiction | (exfalso; omega))
          have q_15 : ((upN be (((11 * tu) + fr) + 1) (my tu))) = (upN be (11 * tu + fr + 1) (my tu)) := by first | rfl | ((repeat' split) <;> first | rfl | contradiction | (exfalso; omega))
          have q_16 : sk = (if g = 0 ∧ 0 < smQ my fe tu (be (11 * tu + fr)) (my tu) ∧ nf = 1 then upN sk tu (sk tu + 1) else sk) := by first | rfl | ((repeat' split) <;> first | rfl | contradiction | (exfalso; omega))
          have q_17 : cl = (if g = 0 ∧ 0 < smQ my fe tu (be (11 * tu + fr)) (my tu) ∧ ¬ nf = 1 then upN cl tu (cl tu + 1) else cl) := by first | rfl | ((repeat' split) <;> first | rfl | contradiction | (exfalso; omega))
          have q_18 : ex = (if g = 0 ∧ 0 < smQ my fe tu (be (11 * tu + fr)) (my tu) then upN ex (10 * tu + fr) (if nf = 1 then 2 else 1) else ex) := by first | rfl | ((repeat' split) <;> first | rfl | contradiction | (exfalso; omega))
          exact x_vret C hW (by rw [← q_18, ← q_17, ← q_16, ← q_12, ← q_14, ← q_13, ← q_15]) dX5_endFrame_205
      · refine lv_aload_n C.x C.b dX5_endFrame_179 rfl (lv_at hl 1 rfl) ?_
        refine lv_iconst (v := nI 0) C.x C.b dX5_endFrame_180 (by decide) ?_
        refine x_put C hW 0 4 6 (Cn := RX5) (T := TX5) (N := 15) (w' := [(h0, .inr (4, [.int x, .int (nI g), .ref k1, .ref k2, .int (nI sp), .int (nI pl), .int (nI 0), .int (nI fr), .int (nI 0), .ref k3, .ref k4, .ref k5, .ref k6, .ref k7, .ref k8])), (k1, aI E 9 w), (k2, aI E 5 aw), (k3, aI E 4 my), (k4, aI E 120 fe), (k5, aI E 44 (upN be (((11 * tu) + fr) + 1) (my tu))), (k6, aI E 4 sk), (k7, aI E 4 cl), (k8, aI E 40 ex)]) tyX5 tyX5_ok nmX5 rfl rfl (by decide) hinX5 hf88 rfl (by decide +kernel) (Nat.le_of_ble_eq_true rfl) dX5_endFrame_181 rfl (fun H locs hW => ?_)
        refine lv_aload_n C.x C.b dX5_endFrame_184 rfl (lv_at hl 1 rfl) ?_
        refine lv_dup C.x C.b dX5_endFrame_185 rfl ?_
        refine x_get C hW 0 4 7 (Cn := RX5) (T := TX5) (N := 15) rfl rfl (by decide) hinX5 hf72 rfl dX5_endFrame_186 ?_
        refine lv_iconst (v := nI 1) C.x C.b dX5_endFrame_189 (by decide) ?_
        refine x_iadd C dX5_endFrame_190 ?_
        refine x_put C hW 0 4 7 (Cn := RX5) (T := TX5) (N := 15) (w' := [(h0, .inr (4, [.int x, .int (nI g), .ref k1, .ref k2, .int (nI sp), .int (nI pl), .int (nI 0), .int (nI (fr + 1)), .int (nI 0), .ref k3, .ref k4, .ref k5, .ref k6, .ref k7, .ref k8])), (k1, aI E 9 w), (k2, aI E 5 aw), (k3, aI E 4 my), (k4, aI E 120 fe), (k5, aI E 44 (upN be (((11 * tu) + fr) + 1) (my tu))), (k6, aI E 4 sk), (k7, aI E 4 cl), (k8, aI E 40 ex)]) tyX5 tyX5_ok nmX5 rfl rfl (by decide) hinX5 hf72 rfl (by decide +kernel) (Nat.le_of_ble_eq_true rfl) dX5_endFrame_191 rfl (fun H locs hW => ?_)
        refine lv_aload_n C.x C.b dX5_endFrame_194 rfl (lv_at hl 1 rfl) ?_
        refine x_cVI C hW (As := []) (rest := []) (wr := []) (wn := [(h0, .inr (4, [.int x, .int (nI g), .ref k1, .ref k2, .int (nI sp), .int (nI pl), .int (nI 0), .int (nI ((fr + 1))), .int (nI 0), .ref k3, .ref k4, .ref k5, .ref k6, .ref k7, .ref k8])), (k1, aI E 9 w), (k2, aI E 5 aw), (k3, aI E 4 my), (k4, aI E 120 fe), (k5, aI E 44 ((upN be (((11 * tu) + fr) + 1) (my tu)))), (k6, aI E 4 sk), (k7, aI E 4 cl), (k8, aI E 40 ex)]) (Cn := RX5) (met_X5_over l E h0 k1 k2 k3 k4 k5 k6 k7 k8 x g sp pl 0 (fr + 1) 0 w aw my fe (upN be (((11 * tu) + fr) + 1) (my tu)) sk cl ex (by omega)) gX5_endFrame_X5_over rfl 0 rfl ⟨rfl, rfl⟩ ⟨rfl, by decide +kernel, by decide +kernel, by decide +kernel⟩ ⟨Nat.le_of_ble_eq_true rfl, Nat.le_of_ble_eq_true rfl⟩ [0, 1, 2, 3, 4, 5, 6, 7, 8] [] [0, 1, 2, 3, 4, 5, 6, 7, 8] rfl (by decide) rfl (by decide) (by decide) rfl (by decide) 0 4 rfl rfl hl.1 rfl (Nat.le_of_ble_eq_true rfl) dX5_endFrame_195 ⟨Nat.zero_le _, Nat.zero_le _⟩ (fun H locs hW => ?_)
        refine x_ifb_ne C (tgt := 205) dX5_endFrame_198 (by decide) (fun c_19 => ?_) (fun c_19 => ?_)
        · have q_20 : g = (if (if tu + 1 = pl then fr + 1 else fr) = 10 then g else suN w 9) := by first | rfl | ((repeat' split) <;> first | rfl | contradiction | (exfalso; omega))
          have q_21 : 0 = (if tu + 1 = pl then 0 else tu + 1) := by first | rfl | ((repeat' split) <;> first | rfl | contradiction | (exfalso; omega))
          have q_22 : (fr + 1) = (if tu + 1 = pl then fr + 1 else fr) := by first | rfl | ((repeat' split) <;> first | rfl | contradiction | (exfalso; omega))
          have q_23 : (upN be (((11 * tu) + fr) + 1) (my tu)) = (upN be (11 * tu + fr + 1) (my tu)) := by first | rfl | ((repeat' split) <;> first | rfl | contradiction | (exfalso; omega))
          have q_24 : sk = (if g = 0 ∧ 0 < smQ my fe tu (be (11 * tu + fr)) (my tu) ∧ nf = 1 then upN sk tu (sk tu + 1) else sk) := by first | rfl | ((repeat' split) <;> first | rfl | contradiction | (exfalso; omega))
          have q_25 : cl = (if g = 0 ∧ 0 < smQ my fe tu (be (11 * tu + fr)) (my tu) ∧ ¬ nf = 1 then upN cl tu (cl tu + 1) else cl) := by first | rfl | ((repeat' split) <;> first | rfl | contradiction | (exfalso; omega))
          have q_26 : ex = (if g = 0 ∧ 0 < smQ my fe tu (be (11 * tu + fr)) (my tu) then upN ex (10 * tu + fr) (if nf = 1 then 2 else 1) else ex) := by first | rfl | ((repeat' split) <;> first | rfl | contradiction | (exfalso; omega))
          exact x_vret C hW (by rw [← q_26, ← q_25, ← q_24, ← q_20, ← q_22, ← q_21, ← q_23]) dX5_endFrame_205
        · refine lv_aload_n C.x C.b dX5_endFrame_201 rfl (lv_at hl 1 rfl) ?_
          refine x_cVV C hW (As := []) (rest := []) (wr := []) (wn := [(h0, .inr (4, [.int x, .int (nI (suN w 9)), .ref k1, .ref k2, .int (nI sp), .int (nI pl), .int (nI 0), .int (nI (((fr + 1)))), .int (nI 0), .ref k3, .ref k4, .ref k5, .ref k6, .ref k7, .ref k8])), (k1, aI E 9 w), (k2, aI E 5 aw), (k3, aI E 4 my), (k4, aI E 120 fe), (k5, aI E 44 (((upN be (((11 * tu) + fr) + 1) (my tu))))), (k6, aI E 4 sk), (k7, aI E 4 cl), (k8, aI E 40 ex)]) (Cn := RX5) (met_X5_putUp l E h0 k1 k2 k3 k4 k5 k6 k7 k8 x g sp pl 0 ((fr + 1)) 0 w aw my fe ((upN be (((11 * tu) + fr) + 1) (my tu))) sk cl ex hw) gX5_endFrame_X5_putUp rfl 0 rfl ⟨rfl, rfl⟩ ⟨rfl, by decide +kernel, by decide +kernel, by decide +kernel⟩ ⟨Nat.le_of_ble_eq_true rfl, Nat.le_of_ble_eq_true rfl⟩ [0, 1, 2, 3, 4, 5, 6, 7, 8] [] [0, 1, 2, 3, 4, 5, 6, 7, 8] rfl (by decide) rfl (by decide) (by decide) rfl (by decide) 0 4 rfl rfl hl.1 rfl (Nat.le_of_ble_eq_true rfl) dX5_endFrame_202 ⟨Nat.zero_le _, Nat.zero_le _⟩ (fun H locs hW => ?_)
          have q_27 : suN w 9 = (if (if tu + 1 = pl then fr + 1 else fr) = 10 then g else suN w 9) := by first | rfl | ((repeat' split) <;> first | rfl | contradiction | (exfalso; omega))
          have q_28 : 0 = (if tu + 1 = pl then 0 else tu + 1) := by first | rfl | ((repeat' split) <;> first | rfl | contradiction | (exfalso; omega))
          have q_29 : ((fr + 1)) = (if tu + 1 = pl then fr + 1 else fr) := by first | rfl | ((repeat' split) <;> first | rfl | contradiction | (exfalso; omega))
          have q_30 : ((upN be (((11 * tu) + fr) + 1) (my tu))) = (upN be (11 * tu + fr + 1) (my tu)) := by first | rfl | ((repeat' split) <;> first | rfl | contradiction | (exfalso; omega))
          have q_31 : sk = (if g = 0 ∧ 0 < smQ my fe tu (be (11 * tu + fr)) (my tu) ∧ nf = 1 then upN sk tu (sk tu + 1) else sk) := by first | rfl | ((repeat' split) <;> first | rfl | contradiction | (exfalso; omega))
          have q_32 : cl = (if g = 0 ∧ 0 < smQ my fe tu (be (11 * tu + fr)) (my tu) ∧ ¬ nf = 1 then upN cl tu (cl tu + 1) else cl) := by first | rfl | ((repeat' split) <;> first | rfl | contradiction | (exfalso; omega))
          have q_33 : ex = (if g = 0 ∧ 0 < smQ my fe tu (be (11 * tu + fr)) (my tu) then upN ex (10 * tu + fr) (if nf = 1 then 2 else 1) else ex) := by first | rfl | ((repeat' split) <;> first | rfl | contradiction | (exfalso; omega))
          exact x_vret C hW (by rw [← q_33, ← q_32, ← q_31, ← q_27, ← q_29, ← q_28, ← q_30]) dX5_endFrame_205
    · refine lv_iload_n C.x C.b dX5_endFrame_90 rfl (lv_at hl 0 rfl) ?_
      refine x_if_le C (by omega) (tgt := 125) dX5_endFrame_91 (by decide) (fun c_34 => ?_) (fun c_34 => ?_)
      · refine lv_aload_n C.x C.b dX5_endFrame_125 rfl (lv_at hl 1 rfl) ?_
        refine x_get C hW 0 4 11 (Cn := RX5) (T := TX5) (N := 15) rfl rfl (by decide) hinX5 hf29 rfl dX5_endFrame_126 ?_
        refine lv_bipush (v := nI 11) C.x C.b dX5_endFrame_129 (by decide) ?_
        refine lv_aload_n C.x C.b dX5_endFrame_131 rfl (lv_at hl 1 rfl) ?_
        refine x_get C hW 0 4 6 (Cn := RX5) (T := TX5) (N := 15) rfl rfl (by decide) hinX5 hf88 rfl dX5_endFrame_132 ?_
        refine x_imul C dX5_endFrame_135 ?_
        refine lv_aload_n C.x C.b dX5_endFrame_136 rfl (lv_at hl 1 rfl) ?_
        refine x_get C hW 0 4 7 (Cn := RX5) (T := TX5) (N := 15) rfl rfl (by decide) hinX5 hf72 rfl dX5_endFrame_137 ?_
        refine x_iadd C dX5_endFrame_140 ?_
        refine lv_iconst (v := nI 1) C.x C.b dX5_endFrame_141 (by decide) ?_
        refine x_iadd C dX5_endFrame_142 ?_
        refine lv_aload_n C.x C.b dX5_endFrame_143 rfl (lv_at hl 1 rfl) ?_
        refine x_get C hW 0 4 9 (Cn := RX5) (T := TX5) (N := 15) rfl rfl (by decide) hinX5 hf23 rfl dX5_endFrame_144 ?_
        refine lv_aload_n C.x C.b dX5_endFrame_147 rfl (lv_at hl 1 rfl) ?_
        refine x_get C hW 0 4 6 (Cn := RX5) (T := TX5) (N := 15) rfl rfl (by decide) hinX5 hf88 rfl dX5_endFrame_148 ?_
        refine x_ald C hW 3 tu rfl rfl (by omega) (by decide) dX5_endFrame_151 ?_
        refine x_ast C hW 5 (((11 * tu) + fr) + 1) (my tu) rfl rfl rfl (by omega) (by decide) dX5_endFrame_152 (w' := [(h0, .inr (4, [.int x, .int (nI g), .ref k1, .ref k2, .int (nI sp), .int (nI pl), .int (nI tu), .int (nI fr), .int (nI nf), .ref k3, .ref k4, .ref k5, .ref k6, .ref k7, .ref k8])), (k1, aI E 9 w), (k2, aI E 5 aw), (k3, aI E 4 my), (k4, aI E 120 fe), (k5, aI E 44 (upN be (((11 * tu) + fr) + 1) (my tu))), (k6, aI E 4 sk), (k7, aI E 4 cl), (k8, aI E 40 ex)]) rfl (fun H locs hW => ?_)
        refine lv_aload_n C.x C.b dX5_endFrame_153 rfl (lv_at hl 1 rfl) ?_
        refine lv_iconst (v := nI 0) C.x C.b dX5_endFrame_154 (by decide) ?_
        refine x_put C hW 0 4 8 (Cn := RX5) (T := TX5) (N := 15) (w' := [(h0, .inr (4, [.int x, .int (nI g), .ref k1, .ref k2, .int (nI sp), .int (nI pl), .int (nI tu), .int (nI fr), .int (nI 0), .ref k3, .ref k4, .ref k5, .ref k6, .ref k7, .ref k8])), (k1, aI E 9 w), (k2, aI E 5 aw), (k3, aI E 4 my), (k4, aI E 120 fe), (k5, aI E 44 (upN be (((11 * tu) + fr) + 1) (my tu))), (k6, aI E 4 sk), (k7, aI E 4 cl), (k8, aI E 40 ex)]) tyX5 tyX5_ok nmX5 rfl rfl (by decide) hinX5 hf97 rfl (by decide +kernel) (Nat.le_of_ble_eq_true rfl) dX5_endFrame_155 rfl (fun H locs hW => ?_)
        refine lv_aload_n C.x C.b dX5_endFrame_158 rfl (lv_at hl 1 rfl) ?_
        refine lv_dup C.x C.b dX5_endFrame_159 rfl ?_
        refine x_get C hW 0 4 6 (Cn := RX5) (T := TX5) (N := 15) rfl rfl (by decide) hinX5 hf88 rfl dX5_endFrame_160 ?_
        refine lv_iconst (v := nI 1) C.x C.b dX5_endFrame_163 (by decide) ?_
        refine x_iadd C dX5_endFrame_164 ?_
        refine x_put C hW 0 4 6 (Cn := RX5) (T := TX5) (N := 15) (w' := [(h0, .inr (4, [.int x, .int (nI g), .ref k1, .ref k2, .int (nI sp), .int (nI pl), .int (nI (tu + 1)), .int (nI fr), .int (nI 0), .ref k3, .ref k4, .ref k5, .ref k6, .ref k7, .ref k8])), (k1, aI E 9 w), (k2, aI E 5 aw), (k3, aI E 4 my), (k4, aI E 120 fe), (k5, aI E 44 (upN be (((11 * tu) + fr) + 1) (my tu))), (k6, aI E 4 sk), (k7, aI E 4 cl), (k8, aI E 40 ex)]) tyX5 tyX5_ok nmX5 rfl rfl (by decide) hinX5 hf88 rfl (by decide +kernel) (Nat.le_of_ble_eq_true rfl) dX5_endFrame_165 rfl (fun H locs hW => ?_)
        refine lv_aload_n C.x C.b dX5_endFrame_168 rfl (lv_at hl 1 rfl) ?_
        refine x_get C hW 0 4 6 (Cn := RX5) (T := TX5) (N := 15) rfl rfl (by decide) hinX5 hf88 rfl dX5_endFrame_169 ?_
        refine lv_aload_n C.x C.b dX5_endFrame_172 rfl (lv_at hl 1 rfl) ?_
        refine x_get C hW 0 4 5 (Cn := RX5) (T := TX5) (N := 15) rfl rfl (by decide) hinX5 hf48 rfl dX5_endFrame_173 ?_
        refine x_icmp_ne C (by omega) (by omega) (tgt := 194) dX5_endFrame_176 (by decide) (fun c_35 => ?_) (fun c_35 => ?_)
        · refine lv_aload_n C.x C.b dX5_endFrame_194 rfl (lv_at hl 1 rfl) ?_
          refine x_cVI C hW (As := []) (rest := []) (wr := []) (wn := [(h0, .inr (4, [.int x, .int (nI g), .ref k1, .ref k2, .int (nI sp), .int (nI pl), .int (nI ((tu + 1))), .int (nI fr), .int (nI 0), .ref k3, .ref k4, .ref k5, .ref k6, .ref k7, .ref k8])), (k1, aI E 9 w), (k2, aI E 5 aw), (k3, aI E 4 my), (k4, aI E 120 fe), (k5, aI E 44 ((upN be (((11 * tu) + fr) + 1) (my tu)))), (k6, aI E 4 sk), (k7, aI E 4 cl), (k8, aI E 40 ex)]) (Cn := RX5) (met_X5_over l E h0 k1 k2 k3 k4 k5 k6 k7 k8 x g sp pl (tu + 1) fr 0 w aw my fe (upN be (((11 * tu) + fr) + 1) (my tu)) sk cl ex (by omega)) gX5_endFrame_X5_over rfl 0 rfl ⟨rfl, rfl⟩ ⟨rfl, by decide +kernel, by decide +kernel, by decide +kernel⟩ ⟨Nat.le_of_ble_eq_true rfl, Nat.le_of_ble_eq_true rfl⟩ [0, 1, 2, 3, 4, 5, 6, 7, 8] [] [0, 1, 2, 3, 4, 5, 6, 7, 8] rfl (by decide) rfl (by decide) (by decide) rfl (by decide) 0 4 rfl rfl hl.1 rfl (Nat.le_of_ble_eq_true rfl) dX5_endFrame_195 ⟨Nat.zero_le _, Nat.zero_le _⟩ (fun H locs hW => ?_)
          refine x_ifb_ne C (tgt := 205) dX5_endFrame_198 (by decide) (fun c_36 => ?_) (fun c_36 => ?_)
          · have q_37 : g = (if (if tu + 1 = pl then fr + 1 else fr) = 10 then g else suN w 9) := by first | rfl | ((repeat' split) <;> first | rfl | contradiction | (exfalso; omega))
            have q_38 : (tu + 1) = (if tu + 1 = pl then 0 else tu + 1) := by first | rfl | ((repeat' split) <;> first | rfl | contradiction | (exfalso; omega))
            have q_39 : fr = (if tu + 1 = pl then fr + 1 else fr) := by first | rfl | ((repeat' split) <;> first | rfl | contradiction | (exfalso; omega))
            have q_40 : (upN be (((11 * tu) + fr) + 1) (my tu)) = (upN be (11 * tu + fr + 1) (my tu)) := by first | rfl | ((repeat' split) <;> first | rfl | contradiction | (exfalso; omega))
            have q_41 : sk = (if g = 0 ∧ 0 < smQ my fe tu (be (11 * tu + fr)) (my tu) ∧ nf = 1 then upN sk tu (sk tu + 1) else sk) := by first | rfl | ((repeat' split) <;> first | rfl | contradiction | (exfalso; omega))
            have q_42 : cl = (if g = 0 ∧ 0 < smQ my fe tu (be (11 * tu + fr)) (my tu) ∧ ¬ nf = 1 then upN cl tu (cl tu + 1) else cl) := by first | rfl | ((repeat' split) <;> first | rfl | contradiction | (exfalso; omega))
            have q_43 : ex = (if g = 0 ∧ 0 < smQ my fe tu (be (11 * tu + fr)) (my tu) then upN ex (10 * tu + fr) (if nf = 1 then 2 else 1) else ex) := by first | rfl | ((repeat' split) <;> first | rfl | contradiction | (exfalso; omega))
            exact x_vret C hW (by rw [← q_43, ← q_42, ← q_41, ← q_37, ← q_39, ← q_38, ← q_40]) dX5_endFrame_205
          · refine lv_aload_n C.x C.b dX5_endFrame_201 rfl (lv_at hl 1 rfl) ?_
            refine x_cVV C hW (As := []) (rest := []) (wr := []) (wn := [(h0, .inr (4, [.int x, .int (nI (suN w 9)), .ref k1, .ref k2, .int (nI sp), .int (nI pl), .int (nI (((tu + 1)))), .int (nI fr), .int (nI 0), .ref k3, .ref k4, .ref k5, .ref k6, .ref k7, .ref k8])), (k1, aI E 9 w), (k2, aI E 5 aw), (k3, aI E 4 my), (k4, aI E 120 fe), (k5, aI E 44 (((upN be (((11 * tu) + fr) + 1) (my tu))))), (k6, aI E 4 sk), (k7, aI E 4 cl), (k8, aI E 40 ex)]) (Cn := RX5) (met_X5_putUp l E h0 k1 k2 k3 k4 k5 k6 k7 k8 x g sp pl ((tu + 1)) fr 0 w aw my fe ((upN be (((11 * tu) + fr) + 1) (my tu))) sk cl ex hw) gX5_endFrame_X5_putUp rfl 0 rfl ⟨rfl, rfl⟩ ⟨rfl, by decide +kernel, by decide +kernel, by decide +kernel⟩ ⟨Nat.le_of_ble_eq_true rfl, Nat.le_of_ble_eq_true rfl⟩ [0, 1, 2, 3, 4, 5, 6, 7, 8] [] [0, 1, 2, 3, 4, 5, 6, 7, 8] rfl (by decide) rfl (by decide) (by decide) rfl (by decide) 0 4 rfl rfl hl.1 rfl (Nat.le_of_ble_eq_true rfl) dX5_endFrame_202 ⟨Nat.zero_le _, Nat.zero_le _⟩ (fun H locs hW => ?_)
            have q_44 : suN w 9 = (if (if tu + 1 = pl then fr + 1 else fr) = 10 then g else suN w 9) := by first | rfl | ((repeat' split) <;> first | rfl | contradiction | (exfalso; omega))
            have q_45 : ((tu + 1)) = (if tu + 1 = pl then 0 else tu + 1) := by first | rfl | ((repeat' split) <;> first | rfl | contradiction | (exfalso; omega))
            have q_46 : fr = (if tu + 1 = pl then fr + 1 else fr) := by first | rfl | ((repeat' split) <;> first | rfl | contradiction | (exfalso; omega))
            have q_47 : ((upN be (((11 * tu) + fr) + 1) (my tu))) = (upN be (11 * tu + fr + 1) (my tu)) := by first | rfl | ((repeat' split) <;> first | rfl | contradiction | (exfalso; omega))
            have q_48 : sk = (if g = 0 ∧ 0 < smQ my fe tu (be (11 * tu + fr)) (my tu) ∧ nf = 1 then upN sk tu (sk tu + 1) else sk) := by first | rfl | ((repeat' split) <;> first | rfl | contradiction | (exfalso; omega))
            have q_49 : cl = (if g = 0 ∧ 0 < smQ my fe tu (be (11 * tu + fr)) (my tu) ∧ ¬ nf = 1 then upN cl tu (cl tu + 1) else cl) := by first | rfl | ((repeat' split) <;> first | rfl | contradiction | (exfalso; omega))
            have q_50 : ex = (if g = 0 ∧ 0 < smQ my fe tu (be (11 * tu + fr)) (my tu) then upN ex (10 * tu + fr) (if nf = 1 then 2 else 1) else ex) := by first | rfl | ((repeat' split) <;> first | rfl | contradiction | (exfalso; omega))
            exact x_vret C hW (by rw [← q_50, ← q_49, ← q_48, ← q_44, ← q_46, ← q_45, ← q_47]) dX5_endFrame_205
        · refine lv_aload_n C.x C.b dX5_endFrame_179 rfl (lv_at hl 1 rfl) ?_
          refine lv_iconst (v := nI 0) C.x C.b dX5_endFrame_180 (by decide) ?_
          refine x_put C hW 0 4 6 (Cn := RX5) (T := TX5) (N := 15) (w' := [(h0, .inr (4, [.int x, .int (nI g), .ref k1, .ref k2, .int (nI sp), .int (nI pl), .int (nI 0), .int (nI fr), .int (nI 0), .ref k3, .ref k4, .ref k5, .ref k6, .ref k7, .ref k8])), (k1, aI E 9 w), (k2, aI E 5 aw), (k3, aI E 4 my), (k4, aI E 120 fe), (k5, aI E 44 (upN be (((11 * tu) + fr) + 1) (my tu))), (k6, aI E 4 sk), (k7, aI E 4 cl), (k8, aI E 40 ex)]) tyX5 tyX5_ok nmX5 rfl rfl (by decide) hinX5 hf88 rfl (by decide +kernel) (Nat.le_of_ble_eq_true rfl) dX5_endFrame_181 rfl (fun H locs hW => ?_)
          refine lv_aload_n C.x C.b dX5_endFrame_184 rfl (lv_at hl 1 rfl) ?_
          refine lv_dup C.x C.b dX5_endFrame_185 rfl ?_
          refine x_get C hW 0 4 7 (Cn := RX5) (T := TX5) (N := 15) rfl rfl (by decide) hinX5 hf72 rfl dX5_endFrame_186 ?_
          refine lv_iconst (v := nI 1) C.x C.b dX5_endFrame_189 (by decide) ?_
          refine x_iadd C dX5_endFrame_190 ?_
          refine x_put C hW 0 4 7 (Cn := RX5) (T := TX5) (N := 15) (w' := [(h0, .inr (4, [.int x, .int (nI g), .ref k1, .ref k2, .int (nI sp), .int (nI pl), .int (nI 0), .int (nI (fr + 1)), .int (nI 0), .ref k3, .ref k4, .ref k5, .ref k6, .ref k7, .ref k8])), (k1, aI E 9 w), (k2, aI E 5 aw), (k3, aI E 4 my), (k4, aI E 120 fe), (k5, aI E 44 (upN be (((11 * tu) + fr) + 1) (my tu))), (k6, aI E 4 sk), (k7, aI E 4 cl), (k8, aI E 40 ex)]) tyX5 tyX5_ok nmX5 rfl rfl (by decide) hinX5 hf72 rfl (by decide +kernel) (Nat.le_of_ble_eq_true rfl) dX5_endFrame_191 rfl (fun H locs hW => ?_)
          refine lv_aload_n C.x C.b dX5_endFrame_194 rfl (lv_at hl 1 rfl) ?_
          refine x_cVI C hW (As := []) (rest := []) (wr := []) (wn := [(h0, .inr (4, [.int x, .int (nI g), .ref k1, .ref k2, .int (nI sp), .int (nI pl), .int (nI 0), .int (nI ((fr + 1))), .int (nI 0), .ref k3, .ref k4, .ref k5, .ref k6, .ref k7, .ref k8])), (k1, aI E 9 w), (k2, aI E 5 aw), (k3, aI E 4 my), (k4, aI E 120 fe), (k5, aI E 44 ((upN be (((11 * tu) + fr) + 1) (my tu)))), (k6, aI E 4 sk), (k7, aI E 4 cl), (k8, aI E 40 ex)]) (Cn := RX5) (met_X5_over l E h0 k1 k2 k3 k4 k5 k6 k7 k8 x g sp pl 0 (fr + 1) 0 w aw my fe (upN be (((11 * tu) + fr) + 1) (my tu)) sk cl ex (by omega)) gX5_endFrame_X5_over rfl 0 rfl ⟨rfl, rfl⟩ ⟨rfl, by decide +kernel, by decide +kernel, by decide +kernel⟩ ⟨Nat.le_of_ble_eq_true rfl, Nat.le_of_ble_eq_true rfl⟩ [0, 1, 2, 3, 4, 5, 6, 7, 8] [] [0, 1, 2, 3, 4, 5, 6, 7, 8] rfl (by decide) rfl (by decide) (by decide) rfl (by decide) 0 4 rfl rfl hl.1 rfl (Nat.le_of_ble_eq_true rfl) dX5_endFrame_195 ⟨Nat.zero_le _, Nat.zero_le _⟩ (fun H locs hW => ?_)
          refine x_ifb_ne C (tgt := 205) dX5_endFrame_198 (by decide) (fun c_51 => ?_) (fun c_51 => ?_)
          · have q_52 : g = (if (if tu + 1 = pl then fr + 1 else fr) = 10 then g else suN w 9) := by first | rfl | ((repeat' split) <;> first | rfl | contradiction | (exfalso; omega))
            have q_53 : 0 = (if tu + 1 = pl then 0 else tu + 1) := by first | rfl | ((repeat' split) <;> first | rfl | contradiction | (exfalso; omega))
            have q_54 : (fr + 1) = (if tu + 1 = pl then fr + 1 else fr) := by first | rfl | ((repeat' split) <;> first | rfl | contradiction | (exfalso; omega))
            have q_55 : (upN be (((11 * tu) + fr) + 1) (my tu)) = (upN be (11 * tu + fr + 1) (my tu)) := by first | rfl | ((repeat' split) <;> first | rfl | contradiction | (exfalso; omega))
            have q_56 : sk = (if g = 0 ∧ 0 < smQ my fe tu (be (11 * tu + fr)) (my tu) ∧ nf = 1 then upN sk tu (sk tu + 1) else sk) := by first | rfl | ((repeat' split) <;> first | rfl | contradiction | (exfalso; omega))
            have q_57 : cl = (if g = 0 ∧ 0 < smQ my fe tu (be (11 * tu + fr)) (my tu) ∧ ¬ nf = 1 then upN cl tu (cl tu + 1) else cl) := by first | rfl | ((repeat' split) <;> first | rfl | contradiction | (exfalso; omega))
            have q_58 : ex = (if g = 0 ∧ 0 < smQ my fe tu (be (11 * tu + fr)) (my tu) then upN ex (10 * tu + fr) (if nf = 1 then 2 else 1) else ex) := by first | rfl | ((repeat' split) <;> first | rfl | contradiction | (exfalso; omega))
            exact x_vret C hW (by rw [← q_58, ← q_57, ← q_56, ← q_52, ← q_54, ← q_53, ← q_55]) dX5_endFrame_205
          · refine lv_aload_n C.x C.b dX5_endFrame_201 rfl (lv_at hl 1 rfl) ?_
            refine x_cVV C hW (As := []) (rest := []) (wr := []) (wn := [(h0, .inr (4, [.int x, .int (nI (suN w 9)), .ref k1, .ref k2, .int (nI sp), .int (nI pl), .int (nI 0), .int (nI (((fr + 1)))), .int (nI 0), .ref k3, .ref k4, .ref k5, .ref k6, .ref k7, .ref k8])), (k1, aI E 9 w), (k2, aI E 5 aw), (k3, aI E 4 my), (k4, aI E 120 fe), (k5, aI E 44 (((upN be (((11 * tu) + fr) + 1) (my tu))))), (k6, aI E 4 sk), (k7, aI E 4 cl), (k8, aI E 40 ex)]) (Cn := RX5) (met_X5_putUp l E h0 k1 k2 k3 k4 k5 k6 k7 k8 x g sp pl 0 ((fr + 1)) 0 w aw my fe ((upN be (((11 * tu) + fr) + 1) (my tu))) sk cl ex hw) gX5_endFrame_X5_putUp rfl 0 rfl ⟨rfl, rfl⟩ ⟨rfl, by decide +kernel, by decide +kernel, by decide +kernel⟩ ⟨Nat.le_of_ble_eq_true rfl, Nat.le_of_ble_eq_true rfl⟩ [0, 1, 2, 3, 4, 5, 6, 7, 8] [] [0, 1, 2, 3, 4, 5, 6, 7, 8] rfl (by decide) rfl (by decide) (by decide) rfl (by decide) 0 4 rfl rfl hl.1 rfl (Nat.le_of_ble_eq_true rfl) dX5_endFrame_202 ⟨Nat.zero_le _, Nat.zero_le _⟩ (fun H locs hW => ?_)
            have q_59 : suN w 9 = (if (if tu + 1 = pl then fr + 1 else fr) = 10 then g else suN w 9) := by first | rfl | ((repeat' split) <;> first | rfl | contradiction | (exfalso; omega))
            have q_60 : 0 = (if tu + 1 = pl then 0 else tu + 1) := by first | rfl | ((repeat' split) <;> first | rfl | contradiction | (exfalso; omega))
            have q_61 : ((fr + 1)) = (if tu + 1 = pl then fr + 1 else fr) := by first | rfl | ((repeat' split) <;> first | rfl | contradiction | (exfalso; omega))
            have q_62 : ((upN be (((11 * tu) + fr) + 1) (my tu))) = (upN be (11 * tu + fr + 1) (my tu)) := by first | rfl | ((repeat' split) <;> first | rfl | contradiction | (exfalso; omega))
            have q_63 : sk = (if g = 0 ∧ 0 < smQ my fe tu (be (11 * tu + fr)) (my tu) ∧ nf = 1 then upN sk tu (sk tu + 1) else sk) := by first | rfl | ((repeat' split) <;> first | rfl | contradiction | (exfalso; omega))
            have q_64 : cl = (if g = 0 ∧ 0 < smQ my fe tu (be (11 * tu + fr)) (my tu) ∧ ¬ nf = 1 then upN cl tu (cl tu + 1) else cl) := by first | rfl | ((repeat' split) <;> first | rfl | contradiction | (exfalso; omega))
            have q_65 : ex = (if g = 0 ∧ 0 < smQ my fe tu (be (11 * tu + fr)) (my tu) then upN ex (10 * tu + fr) (if nf = 1 then 2 else 1) else ex) := by first | rfl | ((repeat' split) <;> first | rfl | contradiction | (exfalso; omega))
            exact x_vret C hW (by rw [← q_65, ← q_64, ← q_63, ← q_59, ← q_61, ← q_60, ← q_62]) dX5_endFrame_205
      · refine lv_aload_n C.x C.b dX5_endFrame_94 rfl (lv_at hl 1 rfl) ?_
        refine x_get C hW 0 4 13 (Cn := RX5) (T := TX5) (N := 15) rfl rfl (by decide) hinX5 hf35 rfl dX5_endFrame_95 ?_
        refine lv_aload_n C.x C.b dX5_endFrame_98 rfl (lv_at hl 1 rfl) ?_
        refine x_get C hW 0 4 6 (Cn := RX5) (T := TX5) (N := 15) rfl rfl (by decide) hinX5 hf88 rfl dX5_endFrame_99 ?_
        refine lv_dup2_11 C.x C.b dX5_endFrame_102 rfl rfl ?_
        refine x_ald C hW 7 tu rfl rfl (by omega) (by decide) dX5_endFrame_103 ?_
        refine lv_iconst (v := nI 1) C.x C.b dX5_endFrame_104 (by decide) ?_
        refine x_iadd C dX5_endFrame_105 ?_
        refine x_ast C hW 7 tu ((cl tu) + 1) rfl rfl rfl (by omega) (by decide) dX5_endFrame_106 (w' := [(h0, .inr (4, [.int x, .int (nI g), .ref k1, .ref k2, .int (nI sp), .int (nI pl), .int (nI tu), .int (nI fr), .int (nI nf), .ref k3, .ref k4, .ref k5, .ref k6, .ref k7, .ref k8])), (k1, aI E 9 w), (k2, aI E 5 aw), (k3, aI E 4 my), (k4, aI E 120 fe), (k5, aI E 44 be), (k6, aI E 4 sk), (k7, aI E 4 (upN cl tu ((cl tu) + 1))), (k8, aI E 40 ex)]) rfl (fun H locs hW => ?_)
        refine lv_aload_n C.x C.b dX5_endFrame_107 rfl (lv_at hl 1 rfl) ?_
        refine x_get C hW 0 4 14 (Cn := RX5) (T := TX5) (N := 15) rfl rfl (by decide) hinX5 hf38 rfl dX5_endFrame_108 ?_
        refine lv_bipush (v := nI 10) C.x C.b dX5_endFrame_111 (by decide) ?_
        refine lv_aload_n C.x C.b dX5_endFrame_113 rfl (lv_at hl 1 rfl) ?_
        refine x_get C hW 0 4 6 (Cn := RX5) (T := TX5) (N := 15) rfl rfl (by decide) hinX5 hf88 rfl dX5_endFrame_114 ?_
        refine x_imul C dX5_endFrame_117 ?_
        refine lv_aload_n C.x C.b dX5_endFrame_118 rfl (lv_at hl 1 rfl) ?_
        refine x_get C hW 0 4 7 (Cn := RX5) (T := TX5) (N := 15) rfl rfl (by decide) hinX5 hf72 rfl dX5_endFrame_119 ?_
        refine x_iadd C dX5_endFrame_122 ?_
        refine lv_iconst (v := nI 1) C.x C.b dX5_endFrame_123 (by decide) ?_
        refine x_ast C hW 8 ((10 * tu) + fr) 1 rfl rfl rfl (by omega) (by decide) dX5_endFrame_124 (w' := [(h0, .inr (4, [.int x, .int (nI g), .ref k1, .ref k2, .int (nI sp), .int (nI pl), .int (nI tu), .int (nI fr), .int (nI nf), .ref k3, .ref k4, .ref k5, .ref k6, .ref k7, .ref k8])), (k1, aI E 9 w), (k2, aI E 5 aw), (k3, aI E 4 my), (k4, aI E 120 fe), (k5, aI E 44 be), (k6, aI E 4 sk), (k7, aI E 4 (upN cl tu ((cl tu) + 1))), (k8, aI E 40 (upN ex ((10 * tu) + fr) 1))]) rfl (fun H locs hW => ?_)
        refine lv_aload_n C.x C.b dX5_endFrame_125 rfl (lv_at hl 1 rfl) ?_
        refine x_get C hW 0 4 11 (Cn := RX5) (T := TX5) (N := 15) rfl rfl (by decide) hinX5 hf29 rfl dX5_endFrame_126 ?_
        refine lv_bipush (v := nI 11) C.x C.b dX5_endFrame_129 (by decide) ?_
        refine lv_aload_n C.x C.b dX5_endFrame_131 rfl (lv_at hl 1 rfl) ?_
        refine x_get C hW 0 4 6 (Cn := RX5) (T := TX5) (N := 15) rfl rfl (by decide) hinX5 hf88 rfl dX5_endFrame_132 ?_
        refine x_imul C dX5_endFrame_135 ?_
        refine lv_aload_n C.x C.b dX5_endFrame_136 rfl (lv_at hl 1 rfl) ?_
        refine x_get C hW 0 4 7 (Cn := RX5) (T := TX5) (N := 15) rfl rfl (by decide) hinX5 hf72 rfl dX5_endFrame_137 ?_
        refine x_iadd C dX5_endFrame_140 ?_
        refine lv_iconst (v := nI 1) C.x C.b dX5_endFrame_141 (by decide) ?_
        refine x_iadd C dX5_endFrame_142 ?_
        refine lv_aload_n C.x C.b dX5_endFrame_143 rfl (lv_at hl 1 rfl) ?_
        refine x_get C hW 0 4 9 (Cn := RX5) (T := TX5) (N := 15) rfl rfl (by decide) hinX5 hf23 rfl dX5_endFrame_144 ?_
        refine lv_aload_n C.x C.b dX5_endFrame_147 rfl (lv_at hl 1 rfl) ?_
        refine x_get C hW 0 4 6 (Cn := RX5) (T := TX5) (N := 15) rfl rfl (by decide) hinX5 hf88 rfl dX5_endFrame_148 ?_
        refine x_ald C hW 3 tu rfl rfl (by omega) (by decide) dX5_endFrame_151 ?_
        refine x_ast C hW 5 (((11 * tu) + fr) + 1) (my tu) rfl rfl rfl (by omega) (by decide) dX5_endFrame_152 (w' := [(h0, .inr (4, [.int x, .int (nI g), .ref k1, .ref k2, .int (nI sp), .int (nI pl), .int (nI tu), .int (nI fr), .int (nI nf), .ref k3, .ref k4, .ref k5, .ref k6, .ref k7, .ref k8])), (k1, aI E 9 w), (k2, aI E 5 aw), (k3, aI E 4 my), (k4, aI E 120 fe), (k5, aI E 44 (upN be (((11 * tu) + fr) + 1) (my tu))), (k6, aI E 4 sk), (k7, aI E 4 (upN cl tu ((cl tu) + 1))), (k8, aI E 40 (upN ex ((10 * tu) + fr) 1))]) rfl (fun H locs hW => ?_)
        refine lv_aload_n C.x C.b dX5_endFrame_153 rfl (lv_at hl 1 rfl) ?_
        refine lv_iconst (v := nI 0) C.x C.b dX5_endFrame_154 (by decide) ?_
        refine x_put C hW 0 4 8 (Cn := RX5) (T := TX5) (N := 15) (w' := [(h0, .inr (4, [.int x, .int (nI g), .ref k1, .ref k2, .int (nI sp), .int (nI pl), .int (nI tu), .int (nI fr), .int (nI 0), .ref k3, .ref k4, .ref k5, .ref k6, .ref k7, .ref k8])), (k1, aI E 9 w), (k2, aI E 5 aw), (k3, aI E 4 my), (k4, aI E 120 fe), (k5, aI E 44 (upN be (((11 * tu) + fr) + 1) (my tu))), (k6, aI E 4 sk), (k7, aI E 4 (upN cl tu ((cl tu) + 1))), (k8, aI E 40 (upN ex ((10 * tu) + fr) 1))]) tyX5 tyX5_ok nmX5 rfl rfl (by decide) hinX5 hf97 rfl (by decide +kernel) (Nat.le_of_ble_eq_true rfl) dX5_endFrame_155 rfl (fun H locs hW => ?_)
        refine lv_aload_n C.x C.b dX5_endFrame_158 rfl (lv_at hl 1 rfl) ?_
        refine lv_dup C.x C.b dX5_endFrame_159 rfl ?_
        refine x_get C hW 0 4 6 (Cn := RX5) (T := TX5) (N := 15) rfl rfl (by decide) hinX5 hf88 rfl dX5_endFrame_160 ?_
        refine lv_iconst (v := nI 1) C.x C.b dX5_endFrame_163 (by decide) ?_
        refine x_iadd C dX5_endFrame_164 ?_
        refine x_put C hW 0 4 6 (Cn := RX5) (T := TX5) (N := 15) (w' := [(h0, .inr (4, [.int x, .int (nI g), .ref k1, .ref k2, .int (nI sp), .int (nI pl), .int (nI (tu + 1)), .int (nI fr), .int (nI 0), .ref k3, .ref k4, .ref k5, .ref k6, .ref k7, .ref k8])), (k1, aI E 9 w), (k2, aI E 5 aw), (k3, aI E 4 my), (k4, aI E 120 fe), (k5, aI E 44 (upN be (((11 * tu) + fr) + 1) (my tu))), (k6, aI E 4 sk), (k7, aI E 4 (upN cl tu ((cl tu) + 1))), (k8, aI E 40 (upN ex ((10 * tu) + fr) 1))]) tyX5 tyX5_ok nmX5 rfl rfl (by decide) hinX5 hf88 rfl (by decide +kernel) (Nat.le_of_ble_eq_true rfl) dX5_endFrame_165 rfl (fun H locs hW => ?_)
        refine lv_aload_n C.x C.b dX5_endFrame_168 rfl (lv_at hl 1 rfl) ?_
        refine x_get C hW 0 4 6 (Cn := RX5) (T := TX5) (N := 15) rfl rfl (by decide) hinX5 hf88 rfl dX5_endFrame_169 ?_
        refine lv_aload_n C.x C.b dX5_endFrame_172 rfl (lv_at hl 1 rfl) ?_
        refine x_get C hW 0 4 5 (Cn := RX5) (T := TX5) (N := 15) rfl rfl (by decide) hinX5 hf48 rfl dX5_endFrame_173 ?_
        refine x_icmp_ne C (by omega) (by omega) (tgt := 194) dX5_endFrame_176 (by decide) (fun c_66 => ?_) (fun c_66 => ?_)
        · refine lv_aload_n C.x C.b dX5_endFrame_194 rfl (lv_at hl 1 rfl) ?_
          refine x_cVI C hW (As := []) (rest := []) (wr := []) (wn := [(h0, .inr (4, [.int x, .int (nI g), .ref k1, .ref k2, .int (nI sp), .int (nI pl), .int (nI ((tu + 1))), .int (nI fr), .int (nI 0), .ref k3, .ref k4, .ref k5, .ref k6, .ref k7, .ref k8])), (k1, aI E 9 w), (k2, aI E 5 aw), (k3, aI E 4 my), (k4, aI E 120 fe), (k5, aI E 44 ((upN be (((11 * tu) + fr) + 1) (my tu)))), (k6, aI E 4 sk), (k7, aI E 4 ((upN cl tu ((cl tu) + 1)))), (k8, aI E 40 ((upN ex ((10 * tu) + fr) 1)))]) (Cn := RX5) (met_X5_over l E h0 k1 k2 k3 k4 k5 k6 k7 k8 x g sp pl (tu + 1) fr 0 w aw my fe (upN be (((11 * tu) + fr) + 1) (my tu)) sk (upN cl tu ((cl tu) + 1)) (upN ex ((10 * tu) + fr) 1) (by omega)) gX5_endFrame_X5_over rfl 0 rfl ⟨rfl, rfl⟩ ⟨rfl, by decide +kernel, by decide +kernel, by decide +kernel⟩ ⟨Nat.le_of_ble_eq_true rfl, Nat.le_of_ble_eq_true rfl⟩ [0, 1, 2, 3, 4, 5, 6, 7, 8] [] [0, 1, 2, 3, 4, 5, 6, 7, 8] rfl (by decide) rfl (by decide) (by decide) rfl (by decide) 0 4 rfl rfl hl.1 rfl (Nat.le_of_ble_eq_true rfl) dX5_endFrame_195 ⟨Nat.zero_le _, Nat.zero_le _⟩ (fun H locs hW => ?_)
          refine x_ifb_ne C (tgt := 205) dX5_endFrame_198 (by decide) (fun c_67 => ?_) (fun c_67 => ?_)
          · have q_68 : g = (if (if tu + 1 = pl then fr + 1 else fr) = 10 then g else suN w 9) := by first | rfl | ((repeat' split) <;> first | rfl | contradiction | (exfalso; omega))
            have q_69 : (tu + 1) = (if tu + 1 = pl then 0 else tu + 1) := by first | rfl | ((repeat' split) <;> first | rfl | contradiction | (exfalso; omega))
            have q_70 : fr = (if tu + 1 = pl then fr + 1 else fr) := by first | rfl | ((repeat' split) <;> first | rfl | contradiction | (exfalso; omega))
            have q_71 : (upN be (((11 * tu) + fr) + 1) (my tu)) = (upN be (11 * tu + fr + 1) (my tu)) := by first | rfl | ((repeat' split) <;> first | rfl | contradiction | (exfalso; omega))
            have q_72 : sk = (if g = 0 ∧ 0 < smQ my fe tu (be (11 * tu + fr)) (my tu) ∧ nf = 1 then upN sk tu (sk tu + 1) else sk) := by first | rfl | ((repeat' split) <;> first | rfl | contradiction | (exfalso; omega))
            have q_73 : (upN cl tu ((cl tu) + 1)) = (if g = 0 ∧ 0 < smQ my fe tu (be (11 * tu + fr)) (my tu) ∧ ¬ nf = 1 then upN cl tu (cl tu + 1) else cl) := by first | rfl | ((repeat' split) <;> first | rfl | contradiction | (exfalso; omega))
            have q_74 : (upN ex ((10 * tu) + fr) 1) = (if g = 0 ∧ 0 < smQ my fe tu (be (11 * tu + fr)) (my tu) then upN ex (10 * tu + fr) (if nf = 1 then 2 else 1) else ex) := by first | rfl | ((repeat' split) <;> first | rfl | contradiction | (exfalso; omega))
            exact x_vret C hW (by rw [← q_74, ← q_73, ← q_72, ← q_68, ← q_70, ← q_69, ← q_71]) dX5_endFrame_205
          · refine lv_aload_n C.x C.b dX5_endFrame_201 rfl (lv_at hl 1 rfl) ?_
            refine x_cVV C hW (As := []) (rest := []) (wr := []) (wn := [(h0, .inr (4, [.int x, .int (nI (suN w 9)), .ref k1, .ref k2, .int (nI sp), .int (nI pl), .int (nI (((tu + 1)))), .int (nI fr), .int (nI 0), .ref k3, .ref k4, .ref k5, .ref k6, .ref k7, .ref k8])), (k1, aI E 9 w), (k2, aI E 5 aw), (k3, aI E 4 my), (k4, aI E 120 fe), (k5, aI E 44 (((upN be (((11 * tu) + fr) + 1) (my tu))))), (k6, aI E 4 sk), (k7, aI E 4 (((upN cl tu ((cl tu) + 1))))), (k8, aI E 40 (((upN ex ((10 * tu) + fr) 1))))]) (Cn := RX5) (met_X5_putUp l E h0 k1 k2 k3 k4 k5 k6 k7 k8 x g sp pl ((tu + 1)) fr 0 w aw my fe ((upN be (((11 * tu) + fr) + 1) (my tu))) sk ((upN cl tu ((cl tu) + 1))) ((upN ex ((10 * tu) + fr) 1)) hw) gX5_endFrame_X5_putUp rfl 0 rfl ⟨rfl, rfl⟩ ⟨rfl, by decide +kernel, by decide +kernel, by decide +kernel⟩ ⟨Nat.le_of_ble_eq_true rfl, Nat.le_of_ble_eq_true rfl⟩ [0, 1, 2, 3, 4, 5, 6, 7, 8] [] [0, 1, 2, 3, 4, 5, 6, 7, 8] rfl (by decide) rfl (by decide) (by decide) rfl (by decide) 0 4 rfl rfl hl.1 rfl (Nat.le_of_ble_eq_true rfl) dX5_endFrame_202 ⟨Nat.zero_le _, Nat.zero_le _⟩ (fun H locs hW => ?_)
            have q_75 : suN w 9 = (if (if tu + 1 = pl then fr + 1 else fr) = 10 then g else suN w 9) := by first | rfl | ((repeat' split) <;> first | rfl | contradiction | (exfalso; omega))
            have q_76 : ((tu + 1)) = (if tu + 1 = pl then 0 else tu + 1) := by first | rfl | ((repeat' split) <;> first | rfl | contradiction | (exfalso; omega))
            have q_77 : fr = (if tu + 1 = pl then fr + 1 else fr) := by first | rfl | ((repeat' split) <;> first | rfl | contradiction | (exfalso; omega))
            have q_78 : ((upN be (((11 * tu) + fr) + 1) (my tu))) = (upN be (11 * tu + fr + 1) (my tu)) := by first | rfl | ((repeat' split) <;> first | rfl | contradiction | (exfalso; omega))
            have q_79 : sk = (if g = 0 ∧ 0 < smQ my fe tu (be (11 * tu + fr)) (my tu) ∧ nf = 1 then upN sk tu (sk tu + 1) else sk) := by first | rfl | ((repeat' split) <;> first | rfl | contradiction | (exfalso; omega))
            have q_80 : ((upN cl tu ((cl tu) + 1))) = (if g = 0 ∧ 0 < smQ my fe tu (be (11 * tu + fr)) (my tu) ∧ ¬ nf = 1 then upN cl tu (cl tu + 1) else cl) := by first | rfl | ((repeat' split) <;> first | rfl | contradiction | (exfalso; omega))
            have q_81 : ((upN ex ((10 * tu) + fr) 1)) = (if g = 0 ∧ 0 < smQ my fe tu (be (11 * tu + fr)) (my tu) then upN ex (10 * tu + fr) (if nf = 1 then 2 else 1) else ex) := by first | rfl | ((repeat' split) <;> first | rfl | contradiction | (exfalso; omega))
            exact x_vret C hW (by rw [← q_81, ← q_80, ← q_79, ← q_75, ← q_77, ← q_76, ← q_78]) dX5_endFrame_205
        · refine lv_aload_n C.x C.b dX5_endFrame_179 rfl (lv_at hl 1 rfl) ?_
          refine lv_iconst (v := nI 0) C.x C.b dX5_endFrame_180 (by decide) ?_
          refine x_put C hW 0 4 6 (Cn := RX5) (T := TX5) (N := 15) (w' := [(h0, .inr (4, [.int x, .int (nI g), .ref k1, .ref k2, .int (nI sp), .int (nI pl), .int (nI 0), .int (nI fr), .int (nI 0), .ref k3, .ref k4, .ref k5, .ref k6, .ref k7, .ref k8])), (k1, aI E 9 w), (k2, aI E 5 aw), (k3, aI E 4 my), (k4, aI E 120 fe), (k5, aI E 44 (upN be (((11 * tu) + fr) + 1) (my tu))), (k6, aI E 4 sk), (k7, aI E 4 (upN cl tu ((cl tu) + 1))), (k8, aI E 40 (upN ex ((10 * tu) + fr) 1))]) tyX5 tyX5_ok nmX5 rfl rfl (by decide) hinX5 hf88 rfl (by decide +kernel) (Nat.le_of_ble_eq_true rfl) dX5_endFrame_181 rfl (fun H locs hW => ?_)
          refine lv_aload_n C.x C.b dX5_endFrame_184 rfl (lv_at hl 1 rfl) ?_
          refine lv_dup C.x C.b dX5_endFrame_185 rfl ?_
          refine x_get C hW 0 4 7 (Cn := RX5) (T := TX5) (N := 15) rfl rfl (by decide) hinX5 hf72 rfl dX5_endFrame_186 ?_
          refine lv_iconst (v := nI 1) C.x C.b dX5_endFrame_189 (by decide) ?_
          refine x_iadd C dX5_endFrame_190 ?_
          refine x_put C hW 0 4 7 (Cn := RX5) (T := TX5) (N := 15) (w' := [(h0, .inr (4, [.int x, .int (nI g), .ref k1, .ref k2, .int (nI sp), .int (nI pl), .int (nI 0), .int (nI (fr + 1)), .int (nI 0), .ref k3, .ref k4, .ref k5, .ref k6, .ref k7, .ref k8])), (k1, aI E 9 w), (k2, aI E 5 aw), (k3, aI E 4 my), (k4, aI E 120 fe), (k5, aI E 44 (upN be (((11 * tu) + fr) + 1) (my tu))), (k6, aI E 4 sk), (k7, aI E 4 (upN cl tu ((cl tu) + 1))), (k8, aI E 40 (upN ex ((10 * tu) + fr) 1))]) tyX5 tyX5_ok nmX5 rfl rfl (by decide) hinX5 hf72 rfl (by decide +kernel) (Nat.le_of_ble_eq_true rfl) dX5_endFrame_191 rfl (fun H locs hW => ?_)
          refine lv_aload_n C.x C.b dX5_endFrame_194 rfl (lv_at hl 1 rfl) ?_
          refine x_cVI C hW (As := []) (rest := []) (wr := []) (wn := [(h0, .inr (4, [.int x, .int (nI g), .ref k1, .ref k2, .int (nI sp), .int (nI pl), .int (nI 0), .int (nI ((fr + 1))), .int (nI 0), .ref k3, .ref k4, .ref k5, .ref k6, .ref k7, .ref k8])), (k1, aI E 9 w), (k2, aI E 5 aw), (k3, aI E 4 my), (k4, aI E 120 fe), (k5, aI E 44 ((upN be (((11 * tu) + fr) + 1) (my tu)))), (k6, aI E 4 sk), (k7, aI E 4 ((upN cl tu ((cl tu) + 1)))), (k8, aI E 40 ((upN ex ((10 * tu) + fr) 1)))]) (Cn := RX5) (met_X5_over l E h0 k1 k2 k3 k4 k5 k6 k7 k8 x g sp pl 0 (fr + 1) 0 w aw my fe (upN be (((11 * tu) + fr) + 1) (my tu)) sk (upN cl tu ((cl tu) + 1)) (upN ex ((10 * tu) + fr) 1) (by omega)) gX5_endFrame_X5_over rfl 0 rfl ⟨rfl, rfl⟩ ⟨rfl, by decide +kernel, by decide +kernel, by decide +kernel⟩ ⟨Nat.le_of_ble_eq_true rfl, Nat.le_of_ble_eq_true rfl⟩ [0, 1, 2, 3, 4, 5, 6, 7, 8] [] [0, 1, 2, 3, 4, 5, 6, 7, 8] rfl (by decide) rfl (by decide) (by decide) rfl (by decide) 0 4 rfl rfl hl.1 rfl (Nat.le_of_ble_eq_true rfl) dX5_endFrame_195 ⟨Nat.zero_le _, Nat.zero_le _⟩ (fun H locs hW => ?_)
          refine x_ifb_ne C (tgt := 205) dX5_endFrame_198 (by decide) (fun c_82 => ?_) (fun c_82 => ?_)
          · have q_83 : g = (if (if tu + 1 = pl then fr + 1 else fr) = 10 then g else suN w 9) := by first | rfl | ((repeat' split) <;> first | rfl | contradiction | (exfalso; omega))
            have q_84 : 0 = (if tu + 1 = pl then 0 else tu + 1) := by first | rfl | ((repeat' split) <;> first | rfl | contradiction | (exfalso; omega))
            have q_85 : (fr + 1) = (if tu + 1 = pl then fr + 1 else fr) := by first | rfl | ((repeat' split) <;> first | rfl | contradiction | (exfalso; omega))
            have q_86 : (upN be (((11 * tu) + fr) + 1) (my tu)) = (upN be (11 * tu + fr + 1) (my tu)) := by first | rfl | ((repeat' split) <;> first | rfl | contradiction | (exfalso; omega))
            have q_87 : sk = (if g = 0 ∧ 0 < smQ my fe tu (be (11 * tu + fr)) (my tu) ∧ nf = 1 then upN sk tu (sk tu + 1) else sk) := by first | rfl | ((repeat' split) <;> first | rfl | contradiction | (exfalso; omega))
            have q_88 : (upN cl tu ((cl tu) + 1)) = (if g = 0 ∧ 0 < smQ my fe tu (be (11 * tu + fr)) (my tu) ∧ ¬ nf = 1 then upN cl tu (cl tu + 1) else cl) := by first | rfl | ((repeat' split) <;> first | rfl | contradiction | (exfalso; omega))
            have q_89 : (upN ex ((10 * tu) + fr) 1) = (if g = 0 ∧ 0 < smQ my fe tu (be (11 * tu + fr)) (my tu) then upN ex (10 * tu + fr) (if nf = 1 then 2 else 1) else ex) := by first | rfl | ((repeat' split) <;> first | rfl | contradiction | (exfalso; omega))
            exact x_vret C hW (by rw [← q_89, ← q_88, ← q_87, ← q_83, ← q_85, ← q_84, ← q_86]) dX5_endFrame_205
          · refine lv_aload_n C.x C.b dX5_endFrame_201 rfl (lv_at hl 1 rfl) ?_
            refine x_cVV C hW (As := []) (rest := []) (wr := []) (wn := [(h0, .inr (4, [.int x, .int (nI (suN w 9)), .ref k1, .ref k2, .int (nI sp), .int (nI pl), .int (nI 0), .int (nI (((fr + 1)))), .int (nI 0), .ref k3, .ref k4, .ref k5, .ref k6, .ref k7, .ref k8])), (k1, aI E 9 w), (k2, aI E 5 aw), (k3, aI E 4 my), (k4, aI E 120 fe), (k5, aI E 44 (((upN be (((11 * tu) + fr) + 1) (my tu))))), (k6, aI E 4 sk), (k7, aI E 4 (((upN cl tu ((cl tu) + 1))))), (k8, aI E 40 (((upN ex ((10 * tu) + fr) 1))))]) (Cn := RX5) (met_X5_putUp l E h0 k1 k2 k3 k4 k5 k6 k7 k8 x g sp pl 0 ((fr + 1)) 0 w aw my fe ((upN be (((11 * tu) + fr) + 1) (my tu))) sk ((upN cl tu ((cl tu) + 1))) ((upN ex ((10 * tu) + fr) 1)) hw) gX5_endFrame_X5_putUp rfl 0 rfl ⟨rfl, rfl⟩ ⟨rfl, by decide +kernel, by decide +kernel, by decide +kernel⟩ ⟨Nat.le_of_ble_eq_true rfl, Nat.le_of_ble_eq_true rfl⟩ [0, 1, 2, 3, 4, 5, 6, 7, 8] [] [0, 1, 2, 3, 4, 5, 6, 7, 8] rfl (by decide) rfl (by decide) (by decide) rfl (by decide) 0 4 rfl rfl hl.1 rfl (Nat.le_of_ble_eq_true rfl) dX5_endFrame_202 ⟨Nat.zero_le _, Nat.zero_le _⟩ (fun H locs hW => ?_)
            have q_90 : suN w 9 = (if (if tu + 1 = pl then fr + 1 else fr) = 10 then g else suN w 9) := by first | rfl | ((repeat' split) <;> first | rfl | contradiction | (exfalso; omega))
            have q_91 : 0 = (if tu + 1 = pl then 0 else tu + 1) := by first | rfl | ((repeat' split) <;> first | rfl | contradiction | (exfalso; omega))
            have q_92 : ((fr + 1)) = (if tu + 1 = pl then fr + 1 else fr) := by first | rfl | ((repeat' split) <;> first | rfl | contradiction | (exfalso; omega))
            have q_93 : ((upN be (((11 * tu) + fr) + 1) (my tu))) = (upN be (11 * tu + fr + 1) (my tu)) := by first | rfl | ((repeat' split) <;> first | rfl | contradiction | (exfalso; omega))
            have q_94 : sk = (if g = 0 ∧ 0 < smQ my fe tu (be (11 * tu + fr)) (my tu) ∧ nf = 1 then upN sk tu (sk tu + 1) else sk) := by first | rfl | ((repeat' split) <;> first | rfl | contradiction | (exfalso; omega))
            have q_95 : ((upN cl tu ((cl tu) + 1))) = (if g = 0 ∧ 0 < smQ my fe tu (be (11 * tu + fr)) (my tu) ∧ ¬ nf = 1 then upN cl tu (cl tu + 1) else cl) := by first | rfl | ((repeat' split) <;> first | rfl | contradiction | (exfalso; omega))
            have q_96 : ((upN ex ((10 * tu) + fr) 1)) = (if g = 0 ∧ 0 < smQ my fe tu (be (11 * tu + fr)) (my tu) then upN ex (10 * tu + fr) (if nf = 1 then 2 else 1) else ex) := by first | rfl | ((repeat' split) <;> first | rfl | contradiction | (exfalso; omega))
            exact x_vret C hW (by rw [← q_96, ← q_95, ← q_94, ← q_90, ← q_92, ← q_91, ← q_93]) dX5_endFrame_205
  · refine lv_iload_n C.x C.b dX5_endFrame_37 rfl (lv_at hl 0 rfl) ?_
    refine x_if_le C (by omega) (tgt := 83) dX5_endFrame_38 (by decide) (fun c_97 => ?_) (fun c_97 => ?_)
    · refine lv_aload_n C.x C.b dX5_endFrame_83 rfl (lv_at hl 1 rfl) ?_
      refine x_get C hW 0 4 1 (Cn := RX5) (T := TX5) (N := 15) rfl rfl (by decide) hinX5 hf9 rfl dX5_endFrame_84 ?_
      refine x_if_ne C (by omega) (tgt := 125) dX5_endFrame_87 (by decide) (fun c_98 => ?_) (fun c_98 => ?_)
      · refine lv_aload_n C.x C.b dX5_endFrame_125 rfl (lv_at hl 1 rfl) ?_
        refine x_get C hW 0 4 11 (Cn := RX5) (T := TX5) (N := 15) rfl rfl (by decide) hinX5 hf29 rfl dX5_endFrame_126 ?_
        refine lv_bipush (v := nI 11) C.x C.b dX5_endFrame_129 (by decide) ?_
        refine lv_aload_n C.x C.b dX5_endFrame_131 rfl (lv_at hl 1 rfl) ?_
        refine x_get C hW 0 4 6 (Cn := RX5) (T := TX5) (N := 15) rfl rfl (by decide) hinX5 hf88 rfl dX5_endFrame_132 ?_
        refine x_imul C dX5_endFrame_135 ?_
        refine lv_aload_n C.x C.b dX5_endFrame_136 rfl (lv_at hl 1 rfl) ?_
        refine x_get C hW 0 4 7 (Cn := RX5) (T := TX5) (N := 15) rfl rfl (by decide) hinX5 hf72 rfl dX5_endFrame_137 ?_
        refine x_iadd C dX5_endFrame_140 ?_
        refine lv_iconst (v := nI 1) C.x C.b dX5_endFrame_141 (by decide) ?_
        refine x_iadd C dX5_endFrame_142 ?_
        refine lv_aload_n C.x C.b dX5_endFrame_143 rfl (lv_at hl 1 rfl) ?_
        refine x_get C hW 0 4 9 (Cn := RX5) (T := TX5) (N := 15) rfl rfl (by decide) hinX5 hf23 rfl dX5_endFrame_144 ?_
        refine lv_aload_n C.x C.b dX5_endFrame_147 rfl (lv_at hl 1 rfl) ?_
        refine x_get C hW 0 4 6 (Cn := RX5) (T := TX5) (N := 15) rfl rfl (by decide) hinX5 hf88 rfl dX5_endFrame_148 ?_
        refine x_ald C hW 3 tu rfl rfl (by omega) (by decide) dX5_endFrame_151 ?_
        refine x_ast C hW 5 (((11 * tu) + fr) + 1) (my tu) rfl rfl rfl (by omega) (by decide) dX5_endFrame_152 (w' := [(h0, .inr (4, [.int x, .int (nI g), .ref k1, .ref k2, .int (nI sp), .int (nI pl), .int (nI tu), .int (nI fr), .int (nI nf), .ref k3, .ref k4, .ref k5, .ref k6, .ref k7, .ref k8])), (k1, aI E 9 w), (k2, aI E 5 aw), (k3, aI E 4 my), (k4, aI E 120 fe), (k5, aI E 44 (upN be (((11 * tu) + fr) + 1) (my tu))), (k6, aI E 4 sk), (k7, aI E 4 cl), (k8, aI E 40 ex)]) rfl (fun H locs hW => ?_)
        refine lv_aload_n C.x C.b dX5_endFrame_153 rfl (lv_at hl 1 rfl) ?_
        refine lv_iconst (v := nI 0) C.x C.b dX5_endFrame_154 (by decide) ?_
        refine x_put C hW 0 4 8 (Cn := RX5) (T := TX5) (N := 15) (w' := [(h0, .inr (4, [.int x, .int (nI g), .ref k1, .ref k2, .int (nI sp), .int (nI pl), .int (nI tu), .int (nI fr), .int (nI 0), .ref k3, .ref k4, .ref k5, .ref k6, .ref k7, .ref k8])), (k1, aI E 9 w), (k2, aI E 5 aw), (k3, aI E 4 my), (k4, aI E 120 fe), (k5, aI E 44 (upN be (((11 * tu) + fr) + 1) (my tu))), (k6, aI E 4 sk), (k7, aI E 4 cl), (k8, aI E 40 ex)]) tyX5 tyX5_ok nmX5 rfl rfl (by decide) hinX5 hf97 rfl (by decide +kernel) (Nat.le_of_ble_eq_true rfl) dX5_endFrame_155 rfl (fun H locs hW => ?_)
        refine lv_aload_n C.x C.b dX5_endFrame_158 rfl (lv_at hl 1 rfl) ?_
        refine lv_dup C.x C.b dX5_endFrame_159 rfl ?_
        refine x_get C hW 0 4 6 (Cn := RX5) (T := TX5) (N := 15) rfl rfl (by decide) hinX5 hf88 rfl dX5_endFrame_160 ?_
        refine lv_iconst (v := nI 1) C.x C.b dX5_endFrame_163 (by decide) ?_
        refine x_iadd C dX5_endFrame_164 ?_
        refine x_put C hW 0 4 6 (Cn := RX5) (T := TX5) (N := 15) (w' := [(h0, .inr (4, [.int x, .int (nI g), .ref k1, .ref k2, .int (nI sp), .int (nI pl), .int (nI (tu + 1)), .int (nI fr), .int (nI 0), .ref k3, .ref k4, .ref k5, .ref k6, .ref k7, .ref k8])), (k1, aI E 9 w), (k2, aI E 5 aw), (k3, aI E 4 my), (k4, aI E 120 fe), (k5, aI E 44 (upN be (((11 * tu) + fr) + 1) (my tu))), (k6, aI E 4 sk), (k7, aI E 4 cl), (k8, aI E 40 ex)]) tyX5 tyX5_ok nmX5 rfl rfl (by decide) hinX5 hf88 rfl (by decide +kernel) (Nat.le_of_ble_eq_true rfl) dX5_endFrame_165 rfl (fun H locs hW => ?_)
        refine lv_aload_n C.x C.b dX5_endFrame_168 rfl (lv_at hl 1 rfl) ?_
        refine x_get C hW 0 4 6 (Cn := RX5) (T := TX5) (N := 15) rfl rfl (by decide) hinX5 hf88 rfl dX5_endFrame_169 ?_
        refine lv_aload_n C.x C.b dX5_endFrame_172 rfl (lv_at hl 1 rfl) ?_
        refine x_get C hW 0 4 5 (Cn := RX5) (T := TX5) (N := 15) rfl rfl (by decide) hinX5 hf48 rfl dX5_endFrame_173 ?_
        refine x_icmp_ne C (by omega) (by omega) (tgt := 194) dX5_endFrame_176 (by decide) (fun c_99 => ?_) (fun c_99 => ?_)
        · refine lv_aload_n C.x C.b dX5_endFrame_194 rfl (lv_at hl 1 rfl) ?_
          refine x_cVI C hW (As := []) (rest := []) (wr := []) (wn := [(h0, .inr (4, [.int x, .int (nI g), .ref k1, .ref k2, .int (nI sp), .int (nI pl), .int (nI ((tu + 1))), .int (nI fr), .int (nI 0), .ref k3, .ref k4, .ref k5, .ref k6, .ref k7, .ref k8])), (k1, aI E 9 w), (k2, aI E 5 aw), (k3, aI E 4 my), (k4, aI E 120 fe), (k5, aI E 44 ((upN be (((11 * tu) + fr) + 1) (my tu)))), (k6, aI E 4 sk), (k7, aI E 4 cl), (k8, aI E 40 ex)]) (Cn := RX5) (met_X5_over l E h0 k1 k2 k3 k4 k5 k6 k7 k8 x g sp pl (tu + 1) fr 0 w aw my fe (upN be (((11 * tu) + fr) + 1) (my tu)) sk cl ex (by omega)) gX5_endFrame_X5_over rfl 0 rfl ⟨rfl, rfl⟩ ⟨rfl, by decide +kernel, by decide +kernel, by decide +kernel⟩ ⟨Nat.le_of_ble_eq_true rfl, Nat.le_of_ble_eq_true rfl⟩ [0, 1, 2, 3, 4, 5, 6, 7, 8] [] [0, 1, 2, 3, 4, 5, 6, 7, 8] rfl (by decide) rfl (by decide) (by decide) rfl (by decide) 0 4 rfl rfl hl.1 rfl (Nat.le_of_ble_eq_true rfl) dX5_endFrame_195 ⟨Nat.zero_le _, Nat.zero_le _⟩ (fun H locs hW => ?_)
          refine x_ifb_ne C (tgt := 205) dX5_endFrame_198 (by decide) (fun c_100 => ?_) (fun c_100 => ?_)
          · have q_101 : g = (if (if tu + 1 = pl then fr + 1 else fr) = 10 then g else suN w 9) := by first | rfl | ((repeat' split) <;> first | rfl | contradiction | (exfalso; omega))
            have q_102 : (tu + 1) = (if tu + 1 = pl then 0 else tu + 1) := by first | rfl | ((repeat' split) <;> first | rfl | contradiction | (exfalso; omega))
            have q_103 : fr = (if tu + 1 = pl then fr + 1 else fr) := by first | rfl | ((repeat' split) <;> first | rfl | contradiction | (exfalso; omega))
            have q_104 : (upN be (((11 * tu) + fr) + 1) (my tu)) = (upN be (11 * tu + fr + 1) (my tu)) := by first | rfl | ((repeat' split) <;> first | rfl | contradiction | (exfalso; omega))
            have q_105 : sk = (if g = 0 ∧ 0 < smQ my fe tu (be (11 * tu + fr)) (my tu) ∧ nf = 1 then upN sk tu (sk tu + 1) else sk) := by first | rfl | ((repeat' split) <;> first | rfl | contradiction | (exfalso; omega))
            have q_106 : cl = (if g = 0 ∧ 0 < smQ my fe tu (be (11 * tu + fr)) (my tu) ∧ ¬ nf = 1 then upN cl tu (cl tu + 1) else cl) := by first | rfl | ((repeat' split) <;> first | rfl | contradiction | (exfalso; omega))
            have q_107 : ex = (if g = 0 ∧ 0 < smQ my fe tu (be (11 * tu + fr)) (my tu) then upN ex (10 * tu + fr) (if nf = 1 then 2 else 1) else ex) := by first | rfl | ((repeat' split) <;> first | rfl | contradiction | (exfalso; omega))
            exact x_vret C hW (by rw [← q_107, ← q_106, ← q_105, ← q_101, ← q_103, ← q_102, ← q_104]) dX5_endFrame_205
          · refine lv_aload_n C.x C.b dX5_endFrame_201 rfl (lv_at hl 1 rfl) ?_
            refine x_cVV C hW (As := []) (rest := []) (wr := []) (wn := [(h0, .inr (4, [.int x, .int (nI (suN w 9)), .ref k1, .ref k2, .int (nI sp), .int (nI pl), .int (nI (((tu + 1)))), .int (nI fr), .int (nI 0), .ref k3, .ref k4, .ref k5, .ref k6, .ref k7, .ref k8])), (k1, aI E 9 w), (k2, aI E 5 aw), (k3, aI E 4 my), (k4, aI E 120 fe), (k5, aI E 44 (((upN be (((11 * tu) + fr) + 1) (my tu))))), (k6, aI E 4 sk), (k7, aI E 4 cl), (k8, aI E 40 ex)]) (Cn := RX5) (met_X5_putUp l E h0 k1 k2 k3 k4 k5 k6 k7 k8 x g sp pl ((tu + 1)) fr 0 w aw my fe ((upN be (((11 * tu) + fr) + 1) (my tu))) sk cl ex hw) gX5_endFrame_X5_putUp rfl 0 rfl ⟨rfl, rfl⟩ ⟨rfl, by decide +kernel, by decide +kernel, by decide +kernel⟩ ⟨Nat.le_of_ble_eq_true rfl, Nat.le_of_ble_eq_true rfl⟩ [0, 1, 2, 3, 4, 5, 6, 7, 8] [] [0, 1, 2, 3, 4, 5, 6, 7, 8] rfl (by decide) rfl (by decide) (by decide) rfl (by decide) 0 4 rfl rfl hl.1 rfl (Nat.le_of_ble_eq_true rfl) dX5_endFrame_202 ⟨Nat.zero_le _, Nat.zero_le _⟩ (fun H locs hW => ?_)
            have q_108 : suN w 9 = (if (if tu + 1 = pl then fr + 1 else fr) = 10 then g else suN w 9) := by first | rfl | ((repeat' split) <;> first | rfl | contradiction | (exfalso; omega))
            have q_109 : ((tu + 1)) = (if tu + 1 = pl then 0 else tu + 1) := by first | rfl | ((repeat' split) <;> first | rfl | contradiction | (exfalso; omega))
            have q_110 : fr = (if tu + 1 = pl then fr + 1 else fr) := by first | rfl | ((repeat' split) <;> first | rfl | contradiction | (exfalso; omega))
            have q_111 : ((upN be (((11 * tu) + fr) + 1) (my tu))) = (upN be (11 * tu + fr + 1) (my tu)) := by first | rfl | ((repeat' split) <;> first | rfl | contradiction | (exfalso; omega))
            have q_112 : sk = (if g = 0 ∧ 0 < smQ my fe tu (be (11 * tu + fr)) (my tu) ∧ nf = 1 then upN sk tu (sk tu + 1) else sk) := by first | rfl | ((repeat' split) <;> first | rfl | contradiction | (exfalso; omega))
            have q_113 : cl = (if g = 0 ∧ 0 < smQ my fe tu (be (11 * tu + fr)) (my tu) ∧ ¬ nf = 1 then upN cl tu (cl tu + 1) else cl) := by first | rfl | ((repeat' split) <;> first | rfl | contradiction | (exfalso; omega))
            have q_114 : ex = (if g = 0 ∧ 0 < smQ my fe tu (be (11 * tu + fr)) (my tu) then upN ex (10 * tu + fr) (if nf = 1 then 2 else 1) else ex) := by first | rfl | ((repeat' split) <;> first | rfl | contradiction | (exfalso; omega))
            exact x_vret C hW (by rw [← q_114, ← q_113, ← q_112, ← q_108, ← q_110, ← q_109, ← q_111]) dX5_endFrame_205
        · refine lv_aload_n C.x C.b dX5_endFrame_179 rfl (lv_at hl 1 rfl) ?_
          refine lv_iconst (v := nI 0) C.x C.b dX5_endFrame_180 (by decide) ?_
          refine x_put C hW 0 4 6 (Cn := RX5) (T := TX5) (N := 15) (w' := [(h0, .inr (4, [.int x, .int (nI g), .ref k1, .ref k2, .int (nI sp), .int (nI pl), .int (nI 0), .int (nI fr), .int (nI 0), .ref k3, .ref k4, .ref k5, .ref k6, .ref k7, .ref k8])), (k1, aI E 9 w), (k2, aI E 5 aw), (k3, aI E 4 my), (k4, aI E 120 fe), (k5, aI E 44 (upN be (((11 * tu) + fr) + 1) (my tu))), (k6, aI E 4 sk), (k7, aI E 4 cl), (k8, aI E 40 ex)]) tyX5 tyX5_ok nmX5 rfl rfl (by decide) hinX5 hf88 rfl (by decide +kernel) (Nat.le_of_ble_eq_true rfl) dX5_endFrame_181 rfl (fun H locs hW => ?_)
          refine lv_aload_n C.x C.b dX5_endFrame_184 rfl (lv_at hl 1 rfl) ?_
          refine lv_dup C.x C.b dX5_endFrame_185 rfl ?_
          refine x_get C hW 0 4 7 (Cn := RX5) (T := TX5) (N := 15) rfl rfl (by decide) hinX5 hf72 rfl dX5_endFrame_186 ?_
          refine lv_iconst (v := nI 1) C.x C.b dX5_endFrame_189 (by decide) ?_
          refine x_iadd C dX5_endFrame_190 ?_
          refine x_put C hW 0 4 7 (Cn := RX5) (T := TX5) (N := 15) (w' := [(h0, .inr (4, [.int x, .int (nI g), .ref k1, .ref k2, .int (nI sp), .int (nI pl), .int (nI 0), .int (nI (fr + 1)), .int (nI 0), .ref k3, .ref k4, .ref k5, .ref k6, .ref k7, .ref k8])), (k1, aI E 9 w), (k2, aI E 5 aw), (k3, aI E 4 my), (k4, aI E 120 fe), (k5, aI E 44 (upN be (((11 * tu) + fr) + 1) (my tu))), (k6, aI E 4 sk), (k7, aI E 4 cl), (k8, aI E 40 ex)]) tyX5 tyX5_ok nmX5 rfl rfl (by decide) hinX5 hf72 rfl (by decide +kernel) (Nat.le_of_ble_eq_true rfl) dX5_endFrame_191 rfl (fun H locs hW => ?_)
          refine lv_aload_n C.x C.b dX5_endFrame_194 rfl (lv_at hl 1 rfl) ?_
          refine x_cVI C hW (As := []) (rest := []) (wr := []) (wn := [(h0, .inr (4, [.int x, .int (nI g), .ref k1, .ref k2, .int (nI sp), .int (nI pl), .int (nI 0), .int (nI ((fr + 1))), .int (nI 0), .ref k3, .ref k4, .ref k5, .ref k6, .ref k7, .ref k8])), (k1, aI E 9 w), (k2, aI E 5 aw), (k3, aI E 4 my), (k4, aI E 120 fe), (k5, aI E 44 ((upN be (((11 * tu) + fr) + 1) (my tu)))), (k6, aI E 4 sk), (k7, aI E 4 cl), (k8, aI E 40 ex)]) (Cn := RX5) (met_X5_over l E h0 k1 k2 k3 k4 k5 k6 k7 k8 x g sp pl 0 (fr + 1) 0 w aw my fe (upN be (((11 * tu) + fr) + 1) (my tu)) sk cl ex (by omega)) gX5_endFrame_X5_over rfl 0 rfl ⟨rfl, rfl⟩ ⟨rfl, by decide +kernel, by decide +kernel, by decide +kernel⟩ ⟨Nat.le_of_ble_eq_true rfl, Nat.le_of_ble_eq_true rfl⟩ [0, 1, 2, 3, 4, 5, 6, 7, 8] [] [0, 1, 2, 3, 4, 5, 6, 7, 8] rfl (by decide) rfl (by decide) (by decide) rfl (by decide) 0 4 rfl rfl hl.1 rfl (Nat.le_of_ble_eq_true rfl) dX5_endFrame_195 ⟨Nat.zero_le _, Nat.zero_le _⟩ (fun H locs hW => ?_)
          refine x_ifb_ne C (tgt := 205) dX5_endFrame_198 (by decide) (fun c_115 => ?_) (fun c_115 => ?_)
          · have q_116 : g = (if (if tu + 1 = pl then fr + 1 else fr) = 10 then g else suN w 9) := by first | rfl | ((repeat' split) <;> first | rfl | contradiction | (exfalso; omega))
            have q_117 : 0 = (if tu + 1 = pl then 0 else tu + 1) := by first | rfl | ((repeat' split) <;> first | rfl | contradiction | (exfalso; omega))
            have q_118 : (fr + 1) = (if tu + 1 = pl then fr + 1 else fr) := by first | rfl | ((repeat' split) <;> first | rfl | contradiction | (exfalso; omega))
            have q_119 : (upN be (((11 * tu) + fr) + 1) (my tu)) = (upN be (11 * tu + fr + 1) (my tu)) := by first | rfl | ((repeat' split) <;> first | rfl | contradiction | (exfalso; omega))
            have q_120 : sk = (if g = 0 ∧ 0 < smQ my fe tu (be (11 * tu + fr)) (my tu) ∧ nf = 1 then upN sk tu (sk tu + 1) else sk) := by first | rfl | ((repeat' split) <;> first | rfl | contradiction | (exfalso; omega))
            have q_121 : cl = (if g = 0 ∧ 0 < smQ my fe tu (be (11 * tu + fr)) (my tu) ∧ ¬ nf = 1 then upN cl tu (cl tu + 1) else cl) := by first | rfl | ((repeat' split) <;> first | rfl | contradiction | (exfalso; omega))
            have q_122 : ex = (if g = 0 ∧ 0 < smQ my fe tu (be (11 * tu + fr)) (my tu) then upN ex (10 * tu + fr) (if nf = 1 then 2 else 1) else ex) := by first | rfl | ((repeat' split) <;> first | rfl | contradiction | (exfalso; omega))
            exact x_vret C hW (by rw [← q_122, ← q_121, ← q_120, ← q_116, ← q_118, ← q_117, ← q_119]) dX5_endFrame_205
          · refine lv_aload_n C.x C.b dX5_endFrame_201 rfl (lv_at hl 1 rfl) ?_
            refine x_cVV C hW (As := []) (rest := []) (wr := []) (wn := [(h0, .inr (4, [.int x, .int (nI (suN w 9)), .ref k1, .ref k2, .int (nI sp), .int (nI pl), .int (nI 0), .int (nI (((fr + 1)))), .int (nI 0), .ref k3, .ref k4, .ref k5, .ref k6, .ref k7, .ref k8])), (k1, aI E 9 w), (k2, aI E 5 aw), (k3, aI E 4 my), (k4, aI E 120 fe), (k5, aI E 44 (((upN be (((11 * tu) + fr) + 1) (my tu))))), (k6, aI E 4 sk), (k7, aI E 4 cl), (k8, aI E 40 ex)]) (Cn := RX5) (met_X5_putUp l E h0 k1 k2 k3 k4 k5 k6 k7 k8 x g sp pl 0 ((fr + 1)) 0 w aw my fe ((upN be (((11 * tu) + fr) + 1) (my tu))) sk cl ex hw) gX5_endFrame_X5_putUp rfl 0 rfl ⟨rfl, rfl⟩ ⟨rfl, by decide +kernel, by decide +kernel, by decide +kernel⟩ ⟨Nat.le_of_ble_eq_true rfl, Nat.le_of_ble_eq_true rfl⟩ [0, 1, 2, 3, 4, 5, 6, 7, 8] [] [0, 1, 2, 3, 4, 5, 6, 7, 8] rfl (by decide) rfl (by decide) (by decide) rfl (by decide) 0 4 rfl rfl hl.1 rfl (Nat.le_of_ble_eq_true rfl) dX5_endFrame_202 ⟨Nat.zero_le _, Nat.zero_le _⟩ (fun H locs hW => ?_)
            have q_123 : suN w 9 = (if (if tu + 1 = pl then fr + 1 else fr) = 10 then g else suN w 9) := by first | rfl | ((repeat' split) <;> first | rfl | contradiction | (exfalso; omega))
            have q_124 : 0 = (if tu + 1 = pl then 0 else tu + 1) := by first | rfl | ((repeat' split) <;> first | rfl | contradiction | (exfalso; omega))
            have q_125 : ((fr + 1)) = (if tu + 1 = pl then fr + 1 else fr) := by first | rfl | ((repeat' split) <;> first | rfl | contradiction | (exfalso; omega))
            have q_126 : ((upN be (((11 * tu) + fr) + 1) (my tu))) = (upN be (11 * tu + fr + 1) (my tu)) := by first | rfl | ((repeat' split) <;> first | rfl | contradiction | (exfalso; omega))
            have q_127 : sk = (if g = 0 ∧ 0 < smQ my fe tu (be (11 * tu + fr)) (my tu) ∧ nf = 1 then upN sk tu (sk tu + 1) else sk) := by first | rfl | ((repeat' split) <;> first | rfl | contradiction | (exfalso; omega))
            have q_128 : cl = (if g = 0 ∧ 0 < smQ my fe tu (be (11 * tu + fr)) (my tu) ∧ ¬ nf = 1 then upN cl tu (cl tu + 1) else cl) := by first | rfl | ((repeat' split) <;> first | rfl | contradiction | (exfalso; omega))
            have q_129 : ex = (if g = 0 ∧ 0 < smQ my fe tu (be (11 * tu + fr)) (my tu) then upN ex (10 * tu + fr) (if nf = 1 then 2 else 1) else ex) := by first | rfl | ((repeat' split) <;> first | rfl | contradiction | (exfalso; omega))
            exact x_vret C hW (by rw [← q_129, ← q_128, ← q_127, ← q_123, ← q_125, ← q_124, ← q_126]) dX5_endFrame_205
      · refine lv_iload_n C.x C.b dX5_endFrame_90 rfl (lv_at hl 0 rfl) ?_
        refine x_if_le C (by omega) (tgt := 125) dX5_endFrame_91 (by decide) (fun c_130 => ?_) (fun c_130 => ?_)
        · refine lv_aload_n C.x C.b dX5_endFrame_125 rfl (lv_at hl 1 rfl) ?_
          refine x_get C hW 0 4 11 (Cn := RX5) (T := TX5) (N := 15) rfl rfl (by decide) hinX5 hf29 rfl dX5_endFrame_126 ?_
          refine lv_bipush (v := nI 11) C.x C.b dX5_endFrame_129 (by decide) ?_
          refine lv_aload_n C.x C.b dX5_endFrame_131 rfl (lv_at hl 1 rfl) ?_
          refine x_get C hW 0 4 6 (Cn := RX5) (T := TX5) (N := 15) rfl rfl (by decide) hinX5 hf88 rfl dX5_endFrame_132 ?_
          refine x_imul C dX5_endFrame_135 ?_
          refine lv_aload_n C.x C.b dX5_endFrame_136 rfl (lv_at hl 1 rfl) ?_
          refine x_get C hW 0 4 7 (Cn := RX5) (T := TX5) (N := 15) rfl rfl (by decide) hinX5 hf72 rfl dX5_endFrame_137 ?_
          refine x_iadd C dX5_endFrame_140 ?_
          refine lv_iconst (v := nI 1) C.x C.b dX5_endFrame_141 (by decide) ?_
          refine x_iadd C dX5_endFrame_142 ?_
          refine lv_aload_n C.x C.b dX5_endFrame_143 rfl (lv_at hl 1 rfl) ?_
          refine x_get C hW 0 4 9 (Cn := RX5) (T := TX5) (N := 15) rfl rfl (by decide) hinX5 hf23 rfl dX5_endFrame_144 ?_
          refine lv_aload_n C.x C.b dX5_endFrame_147 rfl (lv_at hl 1 rfl) ?_
          refine x_get C hW 0 4 6 (Cn := RX5) (T := TX5) (N := 15) rfl rfl (by decide) hinX5 hf88 rfl dX5_endFrame_148 ?_
          refine x_ald C hW 3 tu rfl rfl (by omega) (by decide) dX5_endFrame_151 ?_
          refine x_ast C hW 5 (((11 * tu) + fr) + 1) (my tu) rfl rfl rfl (by omega) (by decide) dX5_endFrame_152 (w' := [(h0, .inr (4, [.int x, .int (nI g), .ref k1, .ref k2, .int (nI sp), .int (nI pl), .int (nI tu), .int (nI fr), .int (nI nf), .ref k3, .ref k4, .ref k5, .ref k6, .ref k7, .ref k8])), (k1, aI E 9 w), (k2, aI E 5 aw), (k3, aI E 4 my), (k4, aI E 120 fe), (k5, aI E 44 (upN be (((11 * tu) + fr) + 1) (my tu))), (k6, aI E 4 sk), (k7, aI E 4 cl), (k8, aI E 40 ex)]) rfl (fun H locs hW => ?_)
          refine lv_aload_n C.x C.b dX5_endFrame_153 rfl (lv_at hl 1 rfl) ?_
          refine lv_iconst (v := nI 0) C.x C.b dX5_endFrame_154 (by decide) ?_
          refine x_put C hW 0 4 8 (Cn := RX5) (T := TX5) (N := 15) (w' := [(h0, .inr (4, [.int x, .int (nI g), .ref k1, .ref k2, .int (nI sp), .int (nI pl), .int (nI tu), .int (nI fr), .int (nI 0), .ref k3, .ref k4, .ref k5, .ref k6, .ref k7, .ref k8])), (k1, aI E 9 w), (k2, aI E 5 aw), (k3, aI E 4 my), (k4, aI E 120 fe), (k5, aI E 44 (upN be (((11 * tu) + fr) + 1) (my tu))), (k6, aI E 4 sk), (k7, aI E 4 cl), (k8, aI E 40 ex)]) tyX5 tyX5_ok nmX5 rfl rfl (by decide) hinX5 hf97 rfl (by decide +kernel) (Nat.le_of_ble_eq_true rfl) dX5_endFrame_155 rfl (fun H locs hW => ?_)
          refine lv_aload_n C.x C.b dX5_endFrame_158 rfl (lv_at hl 1 rfl) ?_
          refine lv_dup C.x C.b dX5_endFrame_159 rfl ?_
          refine x_get C hW 0 4 6 (Cn := RX5) (T := TX5) (N := 15) rfl rfl (by decide) hinX5 hf88 rfl dX5_endFrame_160 ?_
          refine lv_iconst (v := nI 1) C.x C.b dX5_endFrame_163 (by decide) ?_
          refine x_iadd C dX5_endFrame_164 ?_
          refine x_put C hW 0 4 6 (Cn := RX5) (T := TX5) (N := 15) (w' := [(h0, .inr (4, [.int x, .int (nI g), .ref k1, .ref k2, .int (nI sp), .int (nI pl), .int (nI (tu + 1)), .int (nI fr), .int (nI 0), .ref k3, .ref k4, .ref k5, .ref k6, .ref k7, .ref k8])), (k1, aI E 9 w), (k2, aI E 5 aw), (k3, aI E 4 my), (k4, aI E 120 fe), (k5, aI E 44 (upN be (((11 * tu) + fr) + 1) (my tu))), (k6, aI E 4 sk), (k7, aI E 4 cl), (k8, aI E 40 ex)]) tyX5 tyX5_ok nmX5 rfl rfl (by decide) hinX5 hf88 rfl (by decide +kernel) (Nat.le_of_ble_eq_true rfl) dX5_endFrame_165 rfl (fun H locs hW => ?_)
          refine lv_aload_n C.x C.b dX5_endFrame_168 rfl (lv_at hl 1 rfl) ?_
          refine x_get C hW 0 4 6 (Cn := RX5) (T := TX5) (N := 15) rfl rfl (by decide) hinX5 hf88 rfl dX5_endFrame_169 ?_
          refine lv_aload_n C.x C.b dX5_endFrame_172 rfl (lv_at hl 1 rfl) ?_
          refine x_get C hW 0 4 5 (Cn := RX5) (T := TX5) (N := 15) rfl rfl (by decide) hinX5 hf48 rfl dX5_endFrame_173 ?_
          refine x_icmp_ne C (by omega) (by omega) (tgt := 194) dX5_endFrame_176 (by decide) (fun c_131 => ?_) (fun c_131 => ?_)
          · refine lv_aload_n C.x C.b dX5_endFrame_194 rfl (lv_at hl 1 rfl) ?_
            refine x_cVI C hW (As := []) (rest := []) (wr := []) (wn := [(h0, .inr (4, [.int x, .int (nI g), .ref k1, .ref k2, .int (nI sp), .int (nI pl), .int (nI ((tu + 1))), .int (nI fr), .int (nI 0), .ref k3, .ref k4, .ref k5, .ref k6, .ref k7, .ref k8])), (k1, aI E 9 w), (k2, aI E 5 aw), (k3, aI E 4 my), (k4, aI E 120 fe), (k5, aI E 44 ((upN be (((11 * tu) + fr) + 1) (my tu)))), (k6, aI E 4 sk), (k7, aI E 4 cl), (k8, aI E 40 ex)]) (Cn := RX5) (met_X5_over l E h0 k1 k2 k3 k4 k5 k6 k7 k8 x g sp pl (tu + 1) fr 0 w aw my fe (upN be (((11 * tu) + fr) + 1) (my tu)) sk cl ex (by omega)) gX5_endFrame_X5_over rfl 0 rfl ⟨rfl, rfl⟩ ⟨rfl, by decide +kernel, by decide +kernel, by decide +kernel⟩ ⟨Nat.le_of_ble_eq_true rfl, Nat.le_of_ble_eq_true rfl⟩ [0, 1, 2, 3, 4, 5, 6, 7, 8] [] [0, 1, 2, 3, 4, 5, 6, 7, 8] rfl (by decide) rfl (by decide) (by decide) rfl (by decide) 0 4 rfl rfl hl.1 rfl (Nat.le_of_ble_eq_true rfl) dX5_endFrame_195 ⟨Nat.zero_le _, Nat.zero_le _⟩ (fun H locs hW => ?_)
            refine x_ifb_ne C (tgt := 205) dX5_endFrame_198 (by decide) (fun c_132 => ?_) (fun c_132 => ?_)
            · have q_133 : g = (if (if tu + 1 = pl then fr + 1 else fr) = 10 then g else suN w 9) := by first | rfl | ((repeat' split) <;> first | rfl | contradiction | (exfalso; omega))
              have q_134 : (tu + 1) = (if tu + 1 = pl then 0 else tu + 1) := by first | rfl | ((repeat' split) <;> first | rfl | contradiction | (exfalso; omega))
              have q_135 : fr = (if tu + 1 = pl then fr + 1 else fr) := by first | rfl | ((repeat' split) <;> first | rfl | contradiction | (exfalso; omega))
              have q_136 : (upN be (((11 * tu) + fr) + 1) (my tu)) = (upN be (11 * tu + fr + 1) (my tu)) := by first | rfl | ((repeat' split) <;> first | rfl | contradiction | (exfalso; omega))
              have q_137 : sk = (if g = 0 ∧ 0 < smQ my fe tu (be (11 * tu + fr)) (my tu) ∧ nf = 1 then upN sk tu (sk tu + 1) else sk) := by first | rfl | ((repeat' split) <;> first | rfl | contradiction | (exfalso; omega))
              have q_138 : cl = (if g = 0 ∧ 0 < smQ my fe tu (be (11 * tu + fr)) (my tu) ∧ ¬ nf = 1 then upN cl tu (cl tu + 1) else cl) := by first | rfl | ((repeat' split) <;> first | rfl | contradiction | (exfalso; omega))
              have q_139 : ex = (if g = 0 ∧ 0 < smQ my fe tu (be (11 * tu + fr)) (my tu) then upN ex (10 * tu + fr) (if nf = 1 then 2 else 1) else ex) := by first | rfl | ((repeat' split) <;> first | rfl | contradiction | (exfalso; omega))
              exact x_vret C hW (by rw [← q_139, ← q_138, ← q_137, ← q_133, ← q_135, ← q_134, ← q_136]) dX5_endFrame_205
            · refine lv_aload_n C.x C.b dX5_endFrame_201 rfl (lv_at hl 1 rfl) ?_
              refine x_cVV C hW (As := []) (rest := []) (wr := []) (wn := [(h0, .inr (4, [.int x, .int (nI (suN w 9)), .ref k1, .ref k2, .int (nI sp), .int (nI pl), .int (nI (((tu + 1)))), .int (nI fr), .int (nI 0), .ref k3, .ref k4, .ref k5, .ref k6, .ref k7, .ref k8])), (k1, aI E 9 w), (k2, aI E 5 aw), (k3, aI E 4 my), (k4, aI E 120 fe), (k5, aI E 44 (((upN be (((11 * tu) + fr) + 1) (my tu))))), (k6, aI E 4 sk), (k7, aI E 4 cl), (k8, aI E 40 ex)]) (Cn := RX5) (met_X5_putUp l E h0 k1 k2 k3 k4 k5 k6 k7 k8 x g sp pl ((tu + 1)) fr 0 w aw my fe ((upN be (((11 * tu) + fr) + 1) (my tu))) sk cl ex hw) gX5_endFrame_X5_putUp rfl 0 rfl ⟨rfl, rfl⟩ ⟨rfl, by decide +kernel, by decide +kernel, by decide +kernel⟩ ⟨Nat.le_of_ble_eq_true rfl, Nat.le_of_ble_eq_true rfl⟩ [0, 1, 2, 3, 4, 5, 6, 7, 8] [] [0, 1, 2, 3, 4, 5, 6, 7, 8] rfl (by decide) rfl (by decide) (by decide) rfl (by decide) 0 4 rfl rfl hl.1 rfl (Nat.le_of_ble_eq_true rfl) dX5_endFrame_202 ⟨Nat.zero_le _, Nat.zero_le _⟩ (fun H locs hW => ?_)
              have q_140 : suN w 9 = (if (if tu + 1 = pl then fr + 1 else fr) = 10 then g else suN w 9) := by first | rfl | ((repeat' split) <;> first | rfl | contradiction | (exfalso; omega))
              have q_141 : ((tu + 1)) = (if tu + 1 = pl then 0 else tu + 1) := by first | rfl | ((repeat' split) <;> first | rfl | contradiction | (exfalso; omega))
              have q_142 : fr = (if tu + 1 = pl then fr + 1 else fr) := by first | rfl | ((repeat' split) <;> first | rfl | contradiction | (exfalso; omega))
              have q_143 : ((upN be (((11 * tu) + fr) + 1) (my tu))) = (upN be (11 * tu + fr + 1) (my tu)) := by first | rfl | ((repeat' split) <;> first | rfl | contradiction | (exfalso; omega))
              have q_144 : sk = (if g = 0 ∧ 0 < smQ my fe tu (be (11 * tu + fr)) (my tu) ∧ nf = 1 then upN sk tu (sk tu + 1) else sk) := by first | rfl | ((repeat' split) <;> first | rfl | contradiction | (exfalso; omega))
              have q_145 : cl = (if g = 0 ∧ 0 < smQ my fe tu (be (11 * tu + fr)) (my tu) ∧ ¬ nf = 1 then upN cl tu (cl tu + 1) else cl) := by first | rfl | ((repeat' split) <;> first | rfl | contradiction | (exfalso; omega))
              have q_146 : ex = (if g = 0 ∧ 0 < smQ my fe tu (be (11 * tu + fr)) (my tu) then upN ex (10 * tu + fr) (if nf = 1 then 2 else 1) else ex) := by first | rfl | ((repeat' split) <;> first | rfl | contradiction | (exfalso; omega))
              exact x_vret C hW (by rw [← q_146, ← q_145, ← q_144, ← q_140, ← q_142, ← q_141, ← q_143]) dX5_endFrame_205
          · refine lv_aload_n C.x C.b dX5_endFrame_179 rfl (lv_at hl 1 rfl) ?_
            refine lv_iconst (v := nI 0) C.x C.b dX5_endFrame_180 (by decide) ?_
            refine x_put C hW 0 4 6 (Cn := RX5) (T := TX5) (N := 15) (w' := [(h0, .inr (4, [.int x, .int (nI g), .ref k1, .ref k2, .int (nI sp), .int (nI pl), .int (nI 0), .int (nI fr), .int (nI 0), .ref k3, .ref k4, .ref k5, .ref k6, .ref k7, .ref k8])), (k1, aI E 9 w), (k2, aI E 5 aw), (k3, aI E 4 my), (k4, aI E 120 fe), (k5, aI E 44 (upN be (((11 * tu) + fr) + 1) (my tu))), (k6, aI E 4 sk), (k7, aI E 4 cl), (k8, aI E 40 ex)]) tyX5 tyX5_ok nmX5 rfl rfl (by decide) hinX5 hf88 rfl (by decide +kernel) (Nat.le_of_ble_eq_true rfl) dX5_endFrame_181 rfl (fun H locs hW => ?_)
            refine lv_aload_n C.x C.b dX5_endFrame_184 rfl (lv_at hl 1 rfl) ?_
            refine lv_dup C.x C.b dX5_endFrame_185 rfl ?_
            refine x_get C hW 0 4 7 (Cn := RX5) (T := TX5) (N := 15) rfl rfl (by decide) hinX5 hf72 rfl dX5_endFrame_186 ?_
            refine lv_iconst (v := nI 1) C.x C.b dX5_endFrame_189 (by decide) ?_
            refine x_iadd C dX5_endFrame_190 ?_
            refine x_put C hW 0 4 7 (Cn := RX5) (T := TX5) (N := 15) (w' := [(h0, .inr (4, [.int x, .int (nI g), .ref k1, .ref k2, .int (nI sp), .int (nI pl), .int (nI 0), .int (nI (fr + 1)), .int (nI 0), .ref k3, .ref k4, .ref k5, .ref k6, .ref k7, .ref k8])), (k1, aI E 9 w), (k2, aI E 5 aw), (k3, aI E 4 my), (k4, aI E 120 fe), (k5, aI E 44 (upN be (((11 * tu) + fr) + 1) (my tu))), (k6, aI E 4 sk), (k7, aI E 4 cl), (k8, aI E 40 ex)]) tyX5 tyX5_ok nmX5 rfl rfl (by decide) hinX5 hf72 rfl (by decide +kernel) (Nat.le_of_ble_eq_true rfl) dX5_endFrame_191 rfl (fun H locs hW => ?_)
            refine lv_aload_n C.x C.b dX5_endFrame_194 rfl (lv_at hl 1 rfl) ?_
            refine x_cVI C hW (As := []) (rest := []) (wr := []) (wn := [(h0, .inr (4, [.int x, .int (nI g), .ref k1, .ref k2, .int (nI sp), .int (nI pl), .int (nI 0), .int (nI ((fr + 1))), .int (nI 0), .ref k3, .ref k4, .ref k5, .ref k6, .ref k7, .ref k8])), (k1, aI E 9 w), (k2, aI E 5 aw), (k3, aI E 4 my), (k4, aI E 120 fe), (k5, aI E 44 ((upN be (((11 * tu) + fr) + 1) (my tu)))), (k6, aI E 4 sk), (k7, aI E 4 cl), (k8, aI E 40 ex)]) (Cn := RX5) (met_X5_over l E h0 k1 k2 k3 k4 k5 k6 k7 k8 x g sp pl 0 (fr + 1) 0 w aw my fe (upN be (((11 * tu) + fr) + 1) (my tu)) sk cl ex (by omega)) gX5_endFrame_X5_over rfl 0 rfl ⟨rfl, rfl⟩ ⟨rfl, by decide +kernel, by decide +kernel, by decide +kernel⟩ ⟨Nat.le_of_ble_eq_true rfl, Nat.le_of_ble_eq_true rfl⟩ [0, 1, 2, 3, 4, 5, 6, 7, 8] [] [0, 1, 2, 3, 4, 5, 6, 7, 8] rfl (by decide) rfl (by decide) (by decide) rfl (by decide) 0 4 rfl rfl hl.1 rfl (Nat.le_of_ble_eq_true rfl) dX5_endFrame_195 ⟨Nat.zero_le _, Nat.zero_le _⟩ (fun H locs hW => ?_)
            refine x_ifb_ne C (tgt := 205) dX5_endFrame_198 (by decide) (fun c_147 => ?_) (fun c_147 => ?_)
            · have q_148 : g = (if (if tu + 1 = pl then fr + 1 else fr) = 10 then g else suN w 9) := by first | rfl | ((repeat' split) <;> first | rfl | contradiction | (exfalso; omega))
              have q_149 : 0 = (if tu + 1 = pl then 0 else tu + 1) := by first | rfl | ((repeat' split) <;> first | rfl | contradiction | (exfalso; omega))
              have q_150 : (fr + 1) = (if tu + 1 = pl then fr + 1 else fr) := by first | rfl | ((repeat' split) <;> first | rfl | contradiction | (exfalso; omega))
              have q_151 : (upN be (((11 * tu) + fr) + 1) (my tu)) = (upN be (11 * tu + fr + 1) (my tu)) := by first | rfl | ((repeat' split) <;> first | rfl | contradiction | (exfalso; omega))
              have q_152 : sk = (if g = 0 ∧ 0 < smQ my fe tu (be (11 * tu + fr)) (my tu) ∧ nf = 1 then upN sk tu (sk tu + 1) else sk) := by first | rfl | ((repeat' split) <;> first | rfl | contradiction | (exfalso; omega))
              have q_153 : cl = (if g = 0 ∧ 0 < smQ my fe tu (be (11 * tu + fr)) (my tu) ∧ ¬ nf = 1 then upN cl tu (cl tu + 1) else cl) := by first | rfl | ((repeat' split) <;> first | rfl | contradiction | (exfalso; omega))
              have q_154 : ex = (if g = 0 ∧ 0 < smQ my fe tu (be (11 * tu + fr)) (my tu) then upN ex (10 * tu + fr) (if nf = 1 then 2 else 1) else ex) := by first | rfl | ((repeat' split) <;> first | rfl | contradiction | (exfalso; omega))
              exact x_vret C hW (by rw [← q_154, ← q_153, ← q_152, ← q_148, ← q_150, ← q_149, ← q_151]) dX5_endFrame_205
            · refine lv_aload_n C.x C.b dX5_endFrame_201 rfl (lv_at hl 1 rfl) ?_
              refine x_cVV C hW (As := []) (rest := []) (wr := []) (wn := [(h0, .inr (4, [.int x, .int (nI (suN w 9)), .ref k1, .ref k2, .int (nI sp), .int (nI pl), .int (nI 0), .int (nI (((fr + 1)))), .int (nI 0), .ref k3, .ref k4, .ref k5, .ref k6, .ref k7, .ref k8])), (k1, aI E 9 w), (k2, aI E 5 aw), (k3, aI E 4 my), (k4, aI E 120 fe), (k5, aI E 44 (((upN be (((11 * tu) + fr) + 1) (my tu))))), (k6, aI E 4 sk), (k7, aI E 4 cl), (k8, aI E 40 ex)]) (Cn := RX5) (met_X5_putUp l E h0 k1 k2 k3 k4 k5 k6 k7 k8 x g sp pl 0 ((fr + 1)) 0 w aw my fe ((upN be (((11 * tu) + fr) + 1) (my tu))) sk cl ex hw) gX5_endFrame_X5_putUp rfl 0 rfl ⟨rfl, rfl⟩ ⟨rfl, by decide +kernel, by decide +kernel, by decide +kernel⟩ ⟨Nat.le_of_ble_eq_true rfl, Nat.le_of_ble_eq_true rfl⟩ [0, 1, 2, 3, 4, 5, 6, 7, 8] [] [0, 1, 2, 3, 4, 5, 6, 7, 8] rfl (by decide) rfl (by decide) (by decide) rfl (by decide) 0 4 rfl rfl hl.1 rfl (Nat.le_of_ble_eq_true rfl) dX5_endFrame_202 ⟨Nat.zero_le _, Nat.zero_le _⟩ (fun H locs hW => ?_)
              have q_155 : suN w 9 = (if (if tu + 1 = pl then fr + 1 else fr) = 10 then g else suN w 9) := by first | rfl | ((repeat' split) <;> first | rfl | contradiction | (exfalso; omega))
              have q_156 : 0 = (if tu + 1 = pl then 0 else tu + 1) := by first | rfl | ((repeat' split) <;> first | rfl | contradiction | (exfalso; omega))
              have q_157 : ((fr + 1)) = (if tu + 1 = pl then fr + 1 else fr) := by first | rfl | ((repeat' split) <;> first | rfl | contradiction | (exfalso; omega))
              have q_158 : ((upN be (((11 * tu) + fr) + 1) (my tu))) = (upN be (11 * tu + fr + 1) (my tu)) := by first | rfl | ((repeat' split) <;> first | rfl | contradiction | (exfalso; omega))
              have q_159 : sk = (if g = 0 ∧ 0 < smQ my fe tu (be (11 * tu + fr)) (my tu) ∧ nf = 1 then upN sk tu (sk tu + 1) else sk) := by first | rfl | ((repeat' split) <;> first | rfl | contradiction | (exfalso; omega))
              have q_160 : cl = (if g = 0 ∧ 0 < smQ my fe tu (be (11 * tu + fr)) (my tu) ∧ ¬ nf = 1 then upN cl tu (cl tu + 1) else cl) := by first | rfl | ((repeat' split) <;> first | rfl | contradiction | (exfalso; omega))
              have q_161 : ex = (if g = 0 ∧ 0 < smQ my fe tu (be (11 * tu + fr)) (my tu) then upN ex (10 * tu + fr) (if nf = 1 then 2 else 1) else ex) := by first | rfl | ((repeat' split) <;> first | rfl | contradiction | (exfalso; omega))
              exact x_vret C hW (by rw [← q_161, ← q_160, ← q_159, ← q_155, ← q_157, ← q_156, ← q_158]) dX5_endFrame_205
        · refine lv_aload_n C.x C.b dX5_endFrame_94 rfl (lv_at hl 1 rfl) ?_
          refine x_get C hW 0 4 13 (Cn := RX5) (T := TX5) (N := 15) rfl rfl (by decide) hinX5 hf35 rfl dX5_endFrame_95 ?_
          refine lv_aload_n C.x C.b dX5_endFrame_98 rfl (lv_at hl 1 rfl) ?_
          refine x_get C hW 0 4 6 (Cn := RX5) (T := TX5) (N := 15) rfl rfl (by decide) hinX5 hf88 rfl dX5_endFrame_99 ?_
          refine lv_dup2_11 C.x C.b dX5_endFrame_102 rfl rfl ?_
          refine x_ald C hW 7 tu rfl rfl (by omega) (by decide) dX5_endFrame_103 ?_
          refine lv_iconst (v := nI 1) C.x C.b dX5_endFrame_104 (by decide) ?_
          refine x_iadd C dX5_endFrame_105 ?_
          refine x_ast C hW 7 tu ((cl tu) + 1) rfl rfl rfl (by omega) (by decide) dX5_endFrame_106 (w' := [(h0, .inr (4, [.int x, .int (nI g), .ref k1, .ref k2, .int (nI sp), .int (nI pl), .int (nI tu), .int (nI fr), .int (nI nf), .ref k3, .ref k4, .ref k5, .ref k6, .ref k7, .ref k8])), (k1, aI E 9 w), (k2, aI E 5 aw), (k3, aI E 4 my), (k4, aI E 120 fe), (k5, aI E 44 be), (k6, aI E 4 sk), (k7, aI E 4 (upN cl tu ((cl tu) + 1))), (k8, aI E 40 ex)]) rfl (fun H locs hW => ?_)
          refine lv_aload_n C.x C.b dX5_endFrame_107 rfl (lv_at hl 1 rfl) ?_
          refine x_get C hW 0 4 14 (Cn := RX5) (T := TX5) (N := 15) rfl rfl (by decide) hinX5 hf38 rfl dX5_endFrame_108 ?_
          refine lv_bipush (v := nI 10) C.x C.b dX5_endFrame_111 (by decide) ?_
          refine lv_aload_n C.x C.b dX5_endFrame_113 rfl (lv_at hl 1 rfl) ?_
          refine x_get C hW 0 4 6 (Cn := RX5) (T := TX5) (N := 15) rfl rfl (by decide) hinX5 hf88 rfl dX5_endFrame_114 ?_
          refine x_imul C dX5_endFrame_117 ?_
          refine lv_aload_n C.x C.b dX5_endFrame_118 rfl (lv_at hl 1 rfl) ?_
          refine x_get C hW 0 4 7 (Cn := RX5) (T := TX5) (N := 15) rfl rfl (by decide) hinX5 hf72 rfl dX5_endFrame_119 ?_
          refine x_iadd C dX5_endFrame_122 ?_
          refine lv_iconst (v := nI 1) C.x C.b dX5_endFrame_123 (by decide) ?_
          refine x_ast C hW 8 ((10 * tu) + fr) 1 rfl rfl rfl (by omega) (by decide) dX5_endFrame_124 (w' := [(h0, .inr (4, [.int x, .int (nI g), .ref k1, .ref k2, .int (nI sp), .int (nI pl), .int (nI tu), .int (nI fr), .int (nI nf), .ref k3, .ref k4, .ref k5, .ref k6, .ref k7, .ref k8])), (k1, aI E 9 w), (k2, aI E 5 aw), (k3, aI E 4 my), (k4, aI E 120 fe), (k5, aI E 44 be), (k6, aI E 4 sk), (k7, aI E 4 (upN cl tu ((cl tu) + 1))), (k8, aI E 40 (upN ex ((10 * tu) + fr) 1))]) rfl (fun H locs hW => ?_)
          refine lv_aload_n C.x C.b dX5_endFrame_125 rfl (lv_at hl 1 rfl) ?_
          refine x_get C hW 0 4 11 (Cn := RX5) (T := TX5) (N := 15) rfl rfl (by decide) hinX5 hf29 rfl dX5_endFrame_126 ?_
          refine lv_bipush (v := nI 11) C.x C.b dX5_endFrame_129 (by decide) ?_
          refine lv_aload_n C.x C.b dX5_endFrame_131 rfl (lv_at hl 1 rfl) ?_
          refine x_get C hW 0 4 6 (Cn := RX5) (T := TX5) (N := 15) rfl rfl (by decide) hinX5 hf88 rfl dX5_endFrame_132 ?_
          refine x_imul C dX5_endFrame_135 ?_
          refine lv_aload_n C.x C.b dX5_endFrame_136 rfl (lv_at hl 1 rfl) ?_
          refine x_get C hW 0 4 7 (Cn := RX5) (T := TX5) (N := 15) rfl rfl (by decide) hinX5 hf72 rfl dX5_endFrame_137 ?_
          refine x_iadd C dX5_endFrame_140 ?_
          refine lv_iconst (v := nI 1) C.x C.b dX5_endFrame_141 (by decide) ?_
          refine x_iadd C dX5_endFrame_142 ?_
          refine lv_aload_n C.x C.b dX5_endFrame_143 rfl (lv_at hl 1 rfl) ?_
          refine x_get C hW 0 4 9 (Cn := RX5) (T := TX5) (N := 15) rfl rfl (by decide) hinX5 hf23 rfl dX5_endFrame_144 ?_
          refine lv_aload_n C.x C.b dX5_endFrame_147 rfl (lv_at hl 1 rfl) ?_
          refine x_get C hW 0 4 6 (Cn := RX5) (T := TX5) (N := 15) rfl rfl (by decide) hinX5 hf88 rfl dX5_endFrame_148 ?_
          refine x_ald C hW 3 tu rfl rfl (by omega) (by decide) dX5_endFrame_151 ?_
          refine x_ast C hW 5 (((11 * tu) + fr) + 1) (my tu) rfl rfl rfl (by omega) (by decide) dX5_endFrame_152 (w' := [(h0, .inr (4, [.int x, .int (nI g), .ref k1, .ref k2, .int (nI sp), .int (nI pl), .int (nI tu), .int (nI fr), .int (nI nf), .ref k3, .ref k4, .ref k5, .ref k6, .ref k7, .ref k8])), (k1, aI E 9 w), (k2, aI E 5 aw), (k3, aI E 4 my), (k4, aI E 120 fe), (k5, aI E 44 (upN be (((11 * tu) + fr) + 1) (my tu))), (k6, aI E 4 sk), (k7, aI E 4 (upN cl tu ((cl tu) + 1))), (k8, aI E 40 (upN ex ((10 * tu) + fr) 1))]) rfl (fun H locs hW => ?_)
          refine lv_aload_n C.x C.b dX5_endFrame_153 rfl (lv_at hl 1 rfl) ?_
          refine lv_iconst (v := nI 0) C.x C.b dX5_endFrame_154 (by decide) ?_
          refine x_put C hW 0 4 8 (Cn := RX5) (T := TX5) (N := 15) (w' := [(h0, .inr (4, [.int x, .int (nI g), .ref k1, .ref k2, .int (nI sp), .int (nI pl), .int (nI tu), .int (nI fr), .int (nI 0), .ref k3, .ref k4, .ref k5, .ref k6, .ref k7, .ref k8])), (k1, aI E 9 w), (k2, aI E 5 aw), (k3, aI E 4 my), (k4, aI E 120 fe), (k5, aI E 44 (upN be (((11 * tu) + fr) + 1) (my tu))), (k6, aI E 4 sk), (k7, aI E 4 (upN cl tu ((cl tu) + 1))), (k8, aI E 40 (upN ex ((10 * tu) + fr) 1))]) tyX5 tyX5_ok nmX5 rfl rfl (by decide) hinX5 hf97 rfl (by decide +kernel) (Nat.le_of_ble_eq_true rfl) dX5_endFrame_155 rfl (fun H locs hW => ?_)
          refine lv_aload_n C.x C.b dX5_endFrame_158 rfl (lv_at hl 1 rfl) ?_
          refine lv_dup C.x C.b dX5_endFrame_159 rfl ?_
          refine x_get C hW 0 4 6 (Cn := RX5) (T := TX5) (N := 15) rfl rfl (by decide) hinX5 hf88 rfl dX5_endFrame_160 ?_
          refine lv_iconst (v := nI 1) C.x C.b dX5_endFrame_163 (by decide) ?_
          refine x_iadd C dX5_endFrame_164 ?_
          refine x_put C hW 0 4 6 (Cn := RX5) (T := TX5) (N := 15) (w' := [(h0, .inr (4, [.int x, .int (nI g), .ref k1, .ref k2, .int (nI sp), .int (nI pl), .int (nI (tu + 1)), .int (nI fr), .int (nI 0), .ref k3, .ref k4, .ref k5, .ref k6, .ref k7, .ref k8])), (k1, aI E 9 w), (k2, aI E 5 aw), (k3, aI E 4 my), (k4, aI E 120 fe), (k5, aI E 44 (upN be (((11 * tu) + fr) + 1) (my tu))), (k6, aI E 4 sk), (k7, aI E 4 (upN cl tu ((cl tu) + 1))), (k8, aI E 40 (upN ex ((10 * tu) + fr) 1))]) tyX5 tyX5_ok nmX5 rfl rfl (by decide) hinX5 hf88 rfl (by decide +kernel) (Nat.le_of_ble_eq_true rfl) dX5_endFrame_165 rfl (fun H locs hW => ?_)
          refine lv_aload_n C.x C.b dX5_endFrame_168 rfl (lv_at hl 1 rfl) ?_
          refine x_get C hW 0 4 6 (Cn := RX5) (T := TX5) (N := 15) rfl rfl (by decide) hinX5 hf88 rfl dX5_endFrame_169 ?_
          refine lv_aload_n C.x C.b dX5_endFrame_172 rfl (lv_at hl 1 rfl) ?_
          refine x_get C hW 0 4 5 (Cn := RX5) (T := TX5) (N := 15) rfl rfl (by decide) hinX5 hf48 rfl dX5_endFrame_173 ?_
          refine x_icmp_ne C (by omega) (by omega) (tgt := 194) dX5_endFrame_176 (by decide) (fun c_162 => ?_) (fun c_162 => ?_)
          · refine lv_aload_n C.x C.b dX5_endFrame_194 rfl (lv_at hl 1 rfl) ?_
            refine x_cVI C hW (As := []) (rest := []) (wr := []) (wn := [(h0, .inr (4, [.int x, .int (nI g), .ref k1, .ref k2, .int (nI sp), .int (nI pl), .int (nI ((tu + 1))), .int (nI fr), .int (nI 0), .ref k3, .ref k4, .ref k5, .ref k6, .ref k7, .ref k8])), (k1, aI E 9 w), (k2, aI E 5 aw), (k3, aI E 4 my), (k4, aI E 120 fe), (k5, aI E 44 ((upN be (((11 * tu) + fr) + 1) (my tu)))), (k6, aI E 4 sk), (k7, aI E 4 ((upN cl tu ((cl tu) + 1)))), (k8, aI E 40 ((upN ex ((10 * tu) + fr) 1)))]) (Cn := RX5) (met_X5_over l E h0 k1 k2 k3 k4 k5 k6 k7 k8 x g sp pl (tu + 1) fr 0 w aw my fe (upN be (((11 * tu) + fr) + 1) (my tu)) sk (upN cl tu ((cl tu) + 1)) (upN ex ((10 * tu) + fr) 1) (by omega)) gX5_endFrame_X5_over rfl 0 rfl ⟨rfl, rfl⟩ ⟨rfl, by decide +kernel, by decide +kernel, by decide +kernel⟩ ⟨Nat.le_of_ble_eq_true rfl, Nat.le_of_ble_eq_true rfl⟩ [0, 1, 2, 3, 4, 5, 6, 7, 8] [] [0, 1, 2, 3, 4, 5, 6, 7, 8] rfl (by decide) rfl (by decide) (by decide) rfl (by decide) 0 4 rfl rfl hl.1 rfl (Nat.le_of_ble_eq_true rfl) dX5_endFrame_195 ⟨Nat.zero_le _, Nat.zero_le _⟩ (fun H locs hW => ?_)
            refine x_ifb_ne C (tgt := 205) dX5_endFrame_198 (by decide) (fun c_163 => ?_) (fun c_163 => ?_)
            · have q_164 : g = (if (if tu + 1 = pl then fr + 1 else fr) = 10 then g else suN w 9) := by first | rfl | ((repeat' split) <;> first | rfl | contradiction | (exfalso; omega))
              have q_165 : (tu + 1) = (if tu + 1 = pl then 0 else tu + 1) := by first | rfl | ((repeat' split) <;> first | rfl | contradiction | (exfalso; omega))
              have q_166 : fr = (if tu + 1 = pl then fr + 1 else fr) := by first | rfl | ((repeat' split) <;> first | rfl | contradiction | (exfalso; omega))
              have q_167 : (upN be (((11 * tu) + fr) + 1) (my tu)) = (upN be (11 * tu + fr + 1) (my tu)) := by first | rfl | ((repeat' split) <;> first | rfl | contradiction | (exfalso; omega))
              have q_168 : sk = (if g = 0 ∧ 0 < smQ my fe tu (be (11 * tu + fr)) (my tu) ∧ nf = 1 then upN sk tu (sk tu + 1) else sk) := by first | rfl | ((repeat' split) <;> first | rfl | contradiction | (exfalso; omega))
              have q_169 : (upN cl tu ((cl tu) + 1)) = (if g = 0 ∧ 0 < smQ my fe tu (be (11 * tu + fr)) (my tu) ∧ ¬ nf = 1 then upN cl tu (cl tu + 1) else cl) := by first | rfl | ((repeat' split) <;> first | rfl | contradiction | (exfalso; omega))
              have q_170 : (upN ex ((10 * tu) + fr) 1) = (if g = 0 ∧ 0 < smQ my fe tu (be (11 * tu + fr)) (my tu) then upN ex (10 * tu + fr) (if nf = 1 then 2 else 1) else ex) := by first | rfl | ((repeat' split) <;> first | rfl | contradiction | (exfalso; omega))
              exact x_vret C hW (by rw [← q_170, ← q_169, ← q_168, ← q_164, ← q_166, ← q_165, ← q_167]) dX5_endFrame_205
            · refine lv_aload_n C.x C.b dX5_endFrame_201 rfl (lv_at hl 1 rfl) ?_
              refine x_cVV C hW (As := []) (rest := []) (wr := []) (wn := [(h0, .inr (4, [.int x, .int (nI (suN w 9)), .ref k1, .ref k2, .int (nI sp), .int (nI pl), .int (nI (((tu + 1)))), .int (nI fr), .int (nI 0), .ref k3, .ref k4, .ref k5, .ref k6, .ref k7, .ref k8])), (k1, aI E 9 w), (k2, aI E 5 aw), (k3, aI E 4 my), (k4, aI E 120 fe), (k5, aI E 44 (((upN be (((11 * tu) + fr) + 1) (my tu))))), (k6, aI E 4 sk), (k7, aI E 4 (((upN cl tu ((cl tu) + 1))))), (k8, aI E 40 (((upN ex ((10 * tu) + fr) 1))))]) (Cn := RX5) (met_X5_putUp l E h0 k1 k2 k3 k4 k5 k6 k7 k8 x g sp pl ((tu + 1)) fr 0 w aw my fe ((upN be (((11 * tu) + fr) + 1) (my tu))) sk ((upN cl tu ((cl tu) + 1))) ((upN ex ((10 * tu) + fr) 1)) hw) gX5_endFrame_X5_putUp rfl 0 rfl ⟨rfl, rfl⟩ ⟨rfl, by decide +kernel, by decide +kernel, by decide +kernel⟩ ⟨Nat.le_of_ble_eq_true rfl, Nat.le_of_ble_eq_true rfl⟩ [0, 1, 2, 3, 4, 5, 6, 7, 8] [] [0, 1, 2, 3, 4, 5, 6, 7, 8] rfl (by decide) rfl (by decide) (by decide) rfl (by decide) 0 4 rfl rfl hl.1 rfl (Nat.le_of_ble_eq_true rfl) dX5_endFrame_202 ⟨Nat.zero_le _, Nat.zero_le _⟩ (fun H locs hW => ?_)
              have q_171 : suN w 9 = (if (if tu + 1 = pl then fr + 1 else fr) = 10 then g else suN w 9) := by first | rfl | ((repeat' split) <;> first | rfl | contradiction | (exfalso; omega))
              have q_172 : ((tu + 1)) = (if tu + 1 = pl then 0 else tu + 1) := by first | rfl | ((repeat' split) <;> first | rfl | contradiction | (exfalso; omega))
              have q_173 : fr = (if tu + 1 = pl then fr + 1 else fr) := by first | rfl | ((repeat' split) <;> first | rfl | contradiction | (exfalso; omega))
              have q_174 : ((upN be (((11 * tu) + fr) + 1) (my tu))) = (upN be (11 * tu + fr + 1) (my tu)) := by first | rfl | ((repeat' split) <;> first | rfl | contradiction | (exfalso; omega))
              have q_175 : sk = (if g = 0 ∧ 0 < smQ my fe tu (be (11 * tu + fr)) (my tu) ∧ nf = 1 then upN sk tu (sk tu + 1) else sk) := by first | rfl | ((repeat' split) <;> first | rfl | contradiction | (exfalso; omega))
              have q_176 : ((upN cl tu ((cl tu) + 1))) = (if g = 0 ∧ 0 < smQ my fe tu (be (11 * tu + fr)) (my tu) ∧ ¬ nf = 1 then upN cl tu (cl tu + 1) else cl) := by first | rfl | ((repeat' split) <;> first | rfl | contradiction | (exfalso; omega))
              have q_177 : ((upN ex ((10 * tu) + fr) 1)) = (if g = 0 ∧ 0 < smQ my fe tu (be (11 * tu + fr)) (my tu) then upN ex (10 * tu + fr) (if nf = 1 then 2 else 1) else ex) := by first | rfl | ((repeat' split) <;> first | rfl | contradiction | (exfalso; omega))
              exact x_vret C hW (by rw [← q_177, ← q_176, ← q_175, ← q_171, ← q_173, ← q_172, ← q_174]) dX5_endFrame_205
          · refine lv_aload_n C.x C.b dX5_endFrame_179 rfl (lv_at hl 1 rfl) ?_
            refine lv_iconst (v := nI 0) C.x C.b dX5_endFrame_180 (by decide) ?_
            refine x_put C hW 0 4 6 (Cn := RX5) (T := TX5) (N := 15) (w' := [(h0, .inr (4, [.int x, .int (nI g), .ref k1, .ref k2, .int (nI sp), .int (nI pl), .int (nI 0), .int (nI fr), .int (nI 0), .ref k3, .ref k4, .ref k5, .ref k6, .ref k7, .ref k8])), (k1, aI E 9 w), (k2, aI E 5 aw), (k3, aI E 4 my), (k4, aI E 120 fe), (k5, aI E 44 (upN be (((11 * tu) + fr) + 1) (my tu))), (k6, aI E 4 sk), (k7, aI E 4 (upN cl tu ((cl tu) + 1))), (k8, aI E 40 (upN ex ((10 * tu) + fr) 1))]) tyX5 tyX5_ok nmX5 rfl rfl (by decide) hinX5 hf88 rfl (by decide +kernel) (Nat.le_of_ble_eq_true rfl) dX5_endFrame_181 rfl (fun H locs hW => ?_)
            refine lv_aload_n C.x C.b dX5_endFrame_184 rfl (lv_at hl 1 rfl) ?_
            refine lv_dup C.x C.b dX5_endFrame_185 rfl ?_
            refine x_get C hW 0 4 7 (Cn := RX5) (T := TX5) (N := 15) rfl rfl (by decide) hinX5 hf72 rfl dX5_endFrame_186 ?_
            refine lv_iconst (v := nI 1) C.x C.b dX5_endFrame_189 (by decide) ?_
            refine x_iadd C dX5_endFrame_190 ?_
            refine x_put C hW 0 4 7 (Cn := RX5) (T := TX5) (N := 15) (w' := [(h0, .inr (4, [.int x, .int (nI g), .ref k1, .ref k2, .int (nI sp), .int (nI pl), .int (nI 0), .int (nI (fr + 1)), .int (nI 0), .ref k3, .ref k4, .ref k5, .ref k6, .ref k7, .ref k8])), (k1, aI E 9 w), (k2, aI E 5 aw), (k3, aI E 4 my), (k4, aI E 120 fe), (k5, aI E 44 (upN be (((11 * tu) + fr) + 1) (my tu))), (k6, aI E 4 sk), (k7, aI E 4 (upN cl tu ((cl tu) + 1))), (k8, aI E 40 (upN ex ((10 * tu) + fr) 1))]) tyX5 tyX5_ok nmX5 rfl rfl (by decide) hinX5 hf72 rfl (by decide +kernel) (Nat.le_of_ble_eq_true rfl) dX5_endFrame_191 rfl (fun H locs hW => ?_)
            refine lv_aload_n C.x C.b dX5_endFrame_194 rfl (lv_at hl 1 rfl) ?_
            refine x_cVI C hW (As := []) (rest := []) (wr := []) (wn := [(h0, .inr (4, [.int x, .int (nI g), .ref k1, .ref k2, .int (nI sp), .int (nI pl), .int (nI 0), .int (nI ((fr + 1))), .int (nI 0), .ref k3, .ref k4, .ref k5, .ref k6, .ref k7, .ref k8])), (k1, aI E 9 w), (k2, aI E 5 aw), (k3, aI E 4 my), (k4, aI E 120 fe), (k5, aI E 44 ((upN be (((11 * tu) + fr) + 1) (my tu)))), (k6, aI E 4 sk), (k7, aI E 4 ((upN cl tu ((cl tu) + 1)))), (k8, aI E 40 ((upN ex ((10 * tu) + fr) 1)))]) (Cn := RX5) (met_X5_over l E h0 k1 k2 k3 k4 k5 k6 k7 k8 x g sp pl 0 (fr + 1) 0 w aw my fe (upN be (((11 * tu) + fr) + 1) (my tu)) sk (upN cl tu ((cl tu) + 1)) (upN ex ((10 * tu) + fr) 1) (by omega)) gX5_endFrame_X5_over rfl 0 rfl ⟨rfl, rfl⟩ ⟨rfl, by decide +kernel, by decide +kernel, by decide +kernel⟩ ⟨Nat.le_of_ble_eq_true rfl, Nat.le_of_ble_eq_true rfl⟩ [0, 1, 2, 3, 4, 5, 6, 7, 8] [] [0, 1, 2, 3, 4, 5, 6, 7, 8] rfl (by decide) rfl (by decide) (by decide) rfl (by decide) 0 4 rfl rfl hl.1 rfl (Nat.le_of_ble_eq_true rfl) dX5_endFrame_195 ⟨Nat.zero_le _, Nat.zero_le _⟩ (fun H locs hW => ?_)
            refine x_ifb_ne C (tgt := 205) dX5_endFrame_198 (by decide) (fun c_178 => ?_) (fun c_178 => ?_)
            · have q_179 : g = (if (if tu + 1 = pl then fr + 1 else fr) = 10 then g else suN w 9) := by first | rfl | ((repeat' split) <;> first | rfl | contradiction | (exfalso; omega))
              have q_180 : 0 = (if tu + 1 = pl then 0 else tu + 1) := by first | rfl | ((repeat' split) <;> first | rfl | contradiction | (exfalso; omega))
              have q_181 : (fr + 1) = (if tu + 1 = pl then fr + 1 else fr) := by first | rfl | ((repeat' split) <;> first | rfl | contradiction | (exfalso; omega))
              have q_182 : (upN be (((11 * tu) + fr) + 1) (my tu)) = (upN be (11 * tu + fr + 1) (my tu)) := by first | rfl | ((repeat' split) <;> first | rfl | contradiction | (exfalso; omega))
              have q_183 : sk = (if g = 0 ∧ 0 < smQ my fe tu (be (11 * tu + fr)) (my tu) ∧ nf = 1 then upN sk tu (sk tu + 1) else sk) := by first | rfl | ((repeat' split) <;> first | rfl | contradiction | (exfalso; omega))
              have q_184 : (upN cl tu ((cl tu) + 1)) = (if g = 0 ∧ 0 < smQ my fe tu (be (11 * tu + fr)) (my tu) ∧ ¬ nf = 1 then upN cl tu (cl tu + 1) else cl) := by first | rfl | ((repeat' split) <;> first | rfl | contradiction | (exfalso; omega))
              have q_185 : (upN ex ((10 * tu) + fr) 1) = (if g = 0 ∧ 0 < smQ my fe tu (be (11 * tu + fr)) (my tu) then upN ex (10 * tu + fr) (if nf = 1 then 2 else 1) else ex) := by first | rfl | ((repeat' split) <;> first | rfl | contradiction | (exfalso; omega))
              exact x_vret C hW (by rw [← q_185, ← q_184, ← q_183, ← q_179, ← q_181, ← q_180, ← q_182]) dX5_endFrame_205
            · refine lv_aload_n C.x C.b dX5_endFrame_201 rfl (lv_at hl 1 rfl) ?_
              refine x_cVV C hW (As := []) (rest := []) (wr := []) (wn := [(h0, .inr (4, [.int x, .int (nI (suN w 9)), .ref k1, .ref k2, .int (nI sp), .int (nI pl), .int (nI 0), .int (nI (((fr + 1)))), .int (nI 0), .ref k3, .ref k4, .ref k5, .ref k6, .ref k7, .ref k8])), (k1, aI E 9 w), (k2, aI E 5 aw), (k3, aI E 4 my), (k4, aI E 120 fe), (k5, aI E 44 (((upN be (((11 * tu) + fr) + 1) (my tu))))), (k6, aI E 4 sk), (k7, aI E 4 (((upN cl tu ((cl tu) + 1))))), (k8, aI E 40 (((upN ex ((10 * tu) + fr) 1))))]) (Cn := RX5) (met_X5_putUp l E h0 k1 k2 k3 k4 k5 k6 k7 k8 x g sp pl 0 ((fr + 1)) 0 w aw my fe ((upN be (((11 * tu) + fr) + 1) (my tu))) sk ((upN cl tu ((cl tu) + 1))) ((upN ex ((10 * tu) + fr) 1)) hw) gX5_endFrame_X5_putUp rfl 0 rfl ⟨rfl, rfl⟩ ⟨rfl, by decide +kernel, by decide +kernel, by decide +kernel⟩ ⟨Nat.le_of_ble_eq_true rfl, Nat.le_of_ble_eq_true rfl⟩ [0, 1, 2, 3, 4, 5, 6, 7, 8] [] [0, 1, 2, 3, 4, 5, 6, 7, 8] rfl (by decide) rfl (by decide) (by decide) rfl (by decide) 0 4 rfl rfl hl.1 rfl (Nat.le_of_ble_eq_true rfl) dX5_endFrame_202 ⟨Nat.zero_le _, Nat.zero_le _⟩ (fun H locs hW => ?_)
              have q_186 : suN w 9 = (if (if tu + 1 = pl then fr + 1 else fr) = 10 then g else suN w 9) := by first | rfl | ((repeat' split) <;> first | rfl | contradiction | (exfalso; omega))
              have q_187 : 0 = (if tu + 1 = pl then 0 else tu + 1) := by first | rfl | ((repeat' split) <;> first | rfl | contradiction | (exfalso; omega))
              have q_188 : ((fr + 1)) = (if tu + 1 = pl then fr + 1 else fr) := by first | rfl | ((repeat' split) <;> first | rfl | contradiction | (exfalso; omega))
              have q_189 : ((upN be (((11 * tu) + fr) + 1) (my tu))) = (upN be (11 * tu + fr + 1) (my tu)) := by first | rfl | ((repeat' split) <;> first | rfl | contradiction | (exfalso; omega))
              have q_190 : sk = (if g = 0 ∧ 0 < smQ my fe tu (be (11 * tu + fr)) (my tu) ∧ nf = 1 then upN sk tu (sk tu + 1) else sk) := by first | rfl | ((repeat' split) <;> first | rfl | contradiction | (exfalso; omega))
              have q_191 : ((upN cl tu ((cl tu) + 1))) = (if g = 0 ∧ 0 < smQ my fe tu (be (11 * tu + fr)) (my tu) ∧ ¬ nf = 1 then upN cl tu (cl tu + 1) else cl) := by first | rfl | ((repeat' split) <;> first | rfl | contradiction | (exfalso; omega))
              have q_192 : ((upN ex ((10 * tu) + fr) 1)) = (if g = 0 ∧ 0 < smQ my fe tu (be (11 * tu + fr)) (my tu) then upN ex (10 * tu + fr) (if nf = 1 then 2 else 1) else ex) := by first | rfl | ((repeat' split) <;> first | rfl | contradiction | (exfalso; omega))
              exact x_vret C hW (by rw [← q_192, ← q_191, ← q_190, ← q_186, ← q_188, ← q_187, ← q_189]) dX5_endFrame_205
    · refine lv_aload_n C.x C.b dX5_endFrame_41 rfl (lv_at hl 1 rfl) ?_
      refine x_get C hW 0 4 8 (Cn := RX5) (T := TX5) (N := 15) rfl rfl (by decide) hinX5 hf97 rfl dX5_endFrame_42 ?_
      refine lv_iconst (v := nI 1) C.x C.b dX5_endFrame_45 (by decide) ?_
      refine x_icmp_ne C (by omega) (by omega) (tgt := 83) dX5_endFrame_46 (by decide) (fun c_193 => ?_) (fun c_193 => ?_)
      · refine lv_aload_n C.x C.b dX5_endFrame_83 rfl (lv_at hl 1 rfl) ?_
        refine x_get C hW 0 4 1 (Cn := RX5) (T := TX5) (N := 15) rfl rfl (by decide) hinX5 hf9 rfl dX5_endFrame_84 ?_
        refine x_if_ne C (by omega) (tgt := 125) dX5_endFrame_87 (by decide) (fun c_194 => ?_) (fun c_194 => ?_)
        · refine lv_aload_n C.x C.b dX5_endFrame_125 rfl (lv_at hl 1 rfl) ?_
          refine x_get C hW 0 4 11 (Cn := RX5) (T := TX5) (N := 15) rfl rfl (by decide) hinX5 hf29 rfl dX5_endFrame_126 ?_
          refine lv_bipush (v := nI 11) C.x C.b dX5_endFrame_129 (by decide) ?_
          refine lv_aload_n C.x C.b dX5_endFrame_131 rfl (lv_at hl 1 rfl) ?_
          refine x_get C hW 0 4 6 (Cn := RX5) (T := TX5) (N := 15) rfl rfl (by decide) hinX5 hf88 rfl dX5_endFrame_132 ?_
          refine x_imul C dX5_endFrame_135 ?_
          refine lv_aload_n C.x C.b dX5_endFrame_136 rfl (lv_at hl 1 rfl) ?_
          refine x_get C hW 0 4 7 (Cn := RX5) (T := TX5) (N := 15) rfl rfl (by decide) hinX5 hf72 rfl dX5_endFrame_137 ?_
          refine x_iadd C dX5_endFrame_140 ?_
          refine lv_iconst (v := nI 1) C.x C.b dX5_endFrame_141 (by decide) ?_
          refine x_iadd C dX5_endFrame_142 ?_
          refine lv_aload_n C.x C.b dX5_endFrame_143 rfl (lv_at hl 1 rfl) ?_
          refine x_get C hW 0 4 9 (Cn := RX5) (T := TX5) (N := 15) rfl rfl (by decide) hinX5 hf23 rfl dX5_endFrame_144 ?_
          refine lv_aload_n C.x C.b dX5_endFrame_147 rfl (lv_at hl 1 rfl) ?_
          refine x_get C hW 0 4 6 (Cn := RX5) (T := TX5) (N := 15) rfl rfl (by decide) hinX5 hf88 rfl dX5_endFrame_148 ?_
          refine x_ald C hW 3 tu rfl rfl (by omega) (by decide) dX5_endFrame_151 ?_
          refine x_ast C hW 5 (((11 * tu) + fr) + 1) (my tu) rfl rfl rfl (by omega) (by decide) dX5_endFrame_152 (w' := [(h0, .inr (4, [.int x, .int (nI g), .ref k1, .ref k2, .int (nI sp), .int (nI pl), .int (nI tu), .int (nI fr), .int (nI nf), .ref k3, .ref k4, .ref k5, .ref k6, .ref k7, .ref k8])), (k1, aI E 9 w), (k2, aI E 5 aw), (k3, aI E 4 my), (k4, aI E 120 fe), (k5, aI E 44 (upN be (((11 * tu) + fr) + 1) (my tu))), (k6, aI E 4 sk), (k7, aI E 4 cl), (k8, aI E 40 ex)]) rfl (fun H locs hW => ?_)
          refine lv_aload_n C.x C.b dX5_endFrame_153 rfl (lv_at hl 1 rfl) ?_
          refine lv_iconst (v := nI 0) C.x C.b dX5_endFrame_154 (by decide) ?_
          refine x_put C hW 0 4 8 (Cn := RX5) (T := TX5) (N := 15) (w' := [(h0, .inr (4, [.int x, .int (nI g), .ref k1, .ref k2, .int (nI sp), .int (nI pl), .int (nI tu), .int (nI fr), .int (nI 0), .ref k3, .ref k4, .ref k5, .ref k6, .ref k7, .ref k8])), (k1, aI E 9 w), (k2, aI E 5 aw), (k3, aI E 4 my), (k4, aI E 120 fe), (k5, aI E 44 (upN be (((11 * tu) + fr) + 1) (my tu))), (k6, aI E 4 sk), (k7, aI E 4 cl), (k8, aI E 40 ex)]) tyX5 tyX5_ok nmX5 rfl rfl (by decide) hinX5 hf97 rfl (by decide +kernel) (Nat.le_of_ble_eq_true rfl) dX5_endFrame_155 rfl (fun H locs hW => ?_)
          refine lv_aload_n C.x C.b dX5_endFrame_158 rfl (lv_at hl 1 rfl) ?_
          refine lv_dup C.x C.b dX5_endFrame_159 rfl ?_
          refine x_get C hW 0 4 6 (Cn := RX5) (T := TX5) (N := 15) rfl rfl (by decide) hinX5 hf88 rfl dX5_endFrame_160 ?_
          refine lv_iconst (v := nI 1) C.x C.b dX5_endFrame_163 (by decide) ?_
          refine x_iadd C dX5_endFrame_164 ?_
          refine x_put C hW 0 4 6 (Cn := RX5) (T := TX5) (N := 15) (w' := [(h0, .inr (4, [.int x, .int (nI g), .ref k1, .ref k2, .int (nI sp), .int (nI pl), .int (nI (tu + 1)), .int (nI fr), .int (nI 0), .ref k3, .ref k4, .ref k5, .ref k6, .ref k7, .ref k8])), (k1, aI E 9 w), (k2, aI E 5 aw), (k3, aI E 4 my), (k4, aI E 120 fe), (k5, aI E 44 (upN be (((11 * tu) + fr) + 1) (my tu))), (k6, aI E 4 sk), (k7, aI E 4 cl), (k8, aI E 40 ex)]) tyX5 tyX5_ok nmX5 rfl rfl (by decide) hinX5 hf88 rfl (by decide +kernel) (Nat.le_of_ble_eq_true rfl) dX5_endFrame_165 rfl (fun H locs hW => ?_)
          refine lv_aload_n C.x C.b dX5_endFrame_168 rfl (lv_at hl 1 rfl) ?_
          refine x_get C hW 0 4 6 (Cn := RX5) (T := TX5) (N := 15) rfl rfl (by decide) hinX5 hf88 rfl dX5_endFrame_169 ?_
          refine lv_aload_n C.x C.b dX5_endFrame_172 rfl (lv_at hl 1 rfl) ?_
          refine x_get C hW 0 4 5 (Cn := RX5) (T := TX5) (N := 15) rfl rfl (by decide) hinX5 hf48 rfl dX5_endFrame_173 ?_
          refine x_icmp_ne C (by omega) (by omega) (tgt := 194) dX5_endFrame_176 (by decide) (fun c_195 => ?_) (fun c_195 => ?_)
          · refine lv_aload_n C.x C.b dX5_endFrame_194 rfl (lv_at hl 1 rfl) ?_
            refine x_cVI C hW (As := []) (rest := []) (wr := []) (wn := [(h0, .inr (4, [.int x, .int (nI g), .ref k1, .ref k2, .int (nI sp), .int (nI pl), .int (nI ((tu + 1))), .int (nI fr), .int (nI 0), .ref k3, .ref k4, .ref k5, .ref k6, .ref k7, .ref k8])), (k1, aI E 9 w), (k2, aI E 5 aw), (k3, aI E 4 my), (k4, aI E 120 fe), (k5, aI E 44 ((upN be (((11 * tu) + fr) + 1) (my tu)))), (k6, aI E 4 sk), (k7, aI E 4 cl), (k8, aI E 40 ex)]) (Cn := RX5) (met_X5_over l E h0 k1 k2 k3 k4 k5 k6 k7 k8 x g sp pl (tu + 1) fr 0 w aw my fe (upN be (((11 * tu) + fr) + 1) (my tu)) sk cl ex (by omega)) gX5_endFrame_X5_over rfl 0 rfl ⟨rfl, rfl⟩ ⟨rfl, by decide +kernel, by decide +kernel, by decide +kernel⟩ ⟨Nat.le_of_ble_eq_true rfl, Nat.le_of_ble_eq_true rfl⟩ [0, 1, 2, 3, 4, 5, 6, 7, 8] [] [0, 1, 2, 3, 4, 5, 6, 7, 8] rfl (by decide) rfl (by decide) (by decide) rfl (by decide) 0 4 rfl rfl hl.1 rfl (Nat.le_of_ble_eq_true rfl) dX5_endFrame_195 ⟨Nat.zero_le _, Nat.zero_le _⟩ (fun H locs hW => ?_)
            refine x_ifb_ne C (tgt := 205) dX5_endFrame_198 (by decide) (fun c_196 => ?_) (fun c_196 => ?_)
            · have q_197 : g = (if (if tu + 1 = pl then fr + 1 else fr) = 10 then g else suN w 9) := by first | rfl | ((repeat' split) <;> first | rfl | contradiction | (exfalso; omega))
              have q_198 : (tu + 1) = (if tu + 1 = pl then 0 else tu + 1) := by first | rfl | ((repeat' split) <;> first | rfl | contradiction | (exfalso; omega))
              have q_199 : fr = (if tu + 1 = pl then fr + 1 else fr) := by first | rfl | ((repeat' split) <;> first | rfl | contradiction | (exfalso; omega))
              have q_200 : (upN be (((11 * tu) + fr) + 1) (my tu)) = (upN be (11 * tu + fr + 1) (my tu)) := by first | rfl | ((repeat' split) <;> first | rfl | contradiction | (exfalso; omega))
              have q_201 : sk = (if g = 0 ∧ 0 < smQ my fe tu (be (11 * tu + fr)) (my tu) ∧ nf = 1 then upN sk tu (sk tu + 1) else sk) := by first | rfl | ((repeat' split) <;> first | rfl | contradiction | (exfalso; omega))
              have q_202 : cl = (if g = 0 ∧ 0 < smQ my fe tu (be (11 * tu + fr)) (my tu) ∧ ¬ nf = 1 then upN cl tu (cl tu + 1) else cl) := by first | rfl | ((repeat' split) <;> first | rfl | contradiction | (exfalso; omega))
              have q_203 : ex = (if g = 0 ∧ 0 < smQ my fe tu (be (11 * tu + fr)) (my tu) then upN ex (10 * tu + fr) (if nf = 1 then 2 else 1) else ex) := by first | rfl | ((repeat' split) <;> first | rfl | contradiction | (exfalso; omega))
              exact x_vret C hW (by rw [← q_203, ← q_202, ← q_201, ← q_197, ← q_199, ← q_198, ← q_200]) dX5_endFrame_205
            · refine lv_aload_n C.x C.b dX5_endFrame_201 rfl (lv_at hl 1 rfl) ?_
              refine x_cVV C hW (As := []) (rest := []) (wr := []) (wn := [(h0, .inr (4, [.int x, .int (nI (suN w 9)), .ref k1, .ref k2, .int (nI sp), .int (nI pl), .int (nI (((tu + 1)))), .int (nI fr), .int (nI 0), .ref k3, .ref k4, .ref k5, .ref k6, .ref k7, .ref k8])), (k1, aI E 9 w), (k2, aI E 5 aw), (k3, aI E 4 my), (k4, aI E 120 fe), (k5, aI E 44 (((upN be (((11 * tu) + fr) + 1) (my tu))))), (k6, aI E 4 sk), (k7, aI E 4 cl), (k8, aI E 40 ex)]) (Cn := RX5) (met_X5_putUp l E h0 k1 k2 k3 k4 k5 k6 k7 k8 x g sp pl ((tu + 1)) fr 0 w aw my fe ((upN be (((11 * tu) + fr) + 1) (my tu))) sk cl ex hw) gX5_endFrame_X5_putUp rfl 0 rfl ⟨rfl, rfl⟩ ⟨rfl, by decide +kernel, by decide +kernel, by decide +kernel⟩ ⟨Nat.le_of_ble_eq_true rfl, Nat.le_of_ble_eq_true rfl⟩ [0, 1, 2, 3, 4, 5, 6, 7, 8] [] [0, 1, 2, 3, 4, 5, 6, 7, 8] rfl (by decide) rfl (by decide) (by decide) rfl (by decide) 0 4 rfl rfl hl.1 rfl (Nat.le_of_ble_eq_true rfl) dX5_endFrame_202 ⟨Nat.zero_le _, Nat.zero_le _⟩ (fun H locs hW => ?_)
              have q_204 : suN w 9 = (if (if tu + 1 = pl then fr + 1 else fr) = 10 then g else suN w 9) := by first | rfl | ((repeat' split) <;> first | rfl | contradiction | (exfalso; omega))
              have q_205 : ((tu + 1)) = (if tu + 1 = pl then 0 else tu + 1) := by first | rfl | ((repeat' split) <;> first | rfl | contradiction | (exfalso; omega))
              have q_206 : fr = (if tu + 1 = pl then fr + 1 else fr) := by first | rfl | ((repeat' split) <;> first | rfl | contradiction | (exfalso; omega))
              have q_207 : ((upN be (((11 * tu) + fr) + 1) (my tu))) = (upN be (11 * tu + fr + 1) (my tu)) := by first | rfl | ((repeat' split) <;> first | rfl | contradiction | (exfalso; omega))
              have q_208 : sk = (if g = 0 ∧ 0 < smQ my fe tu (be (11 * tu + fr)) (my tu) ∧ nf = 1 then upN sk tu (sk tu + 1) else sk) := by first | rfl | ((repeat' split) <;> first | rfl | contradiction | (exfalso; omega))
              have q_209 : cl = (if g = 0 ∧ 0 < smQ my fe tu (be (11 * tu + fr)) (my tu) ∧ ¬ nf = 1 then upN cl tu (cl tu + 1) else cl) := by first | rfl | ((repeat' split) <;> first | rfl | contradiction | (exfalso; omega))
              have q_210 : ex = (if g = 0 ∧ 0 < smQ my fe tu (be (11 * tu + fr)) (my tu) then upN ex (10 * tu + fr) (if nf = 1 then 2 else 1) else ex) := by first | rfl | ((repeat' split) <;> first | rfl | contradiction | (exfalso; omega))
              exact x_vret C hW (by rw [← q_210, ← q_209, ← q_208, ← q_204, ← q_206, ← q_205, ← q_207]) dX5_endFrame_205
          · refine lv_aload_n C.x C.b dX5_endFrame_179 rfl (lv_at hl 1 rfl) ?_
            refine lv_iconst (v := nI 0) C.x C.b dX5_endFrame_180 (by decide) ?_
            refine x_put C hW 0 4 6 (Cn := RX5) (T := TX5) (N := 15) (w' := [(h0, .inr (4, [.int x, .int (nI g), .ref k1, .ref k2, .int (nI sp), .int (nI pl), .int (nI 0), .int (nI fr), .int (nI 0), .ref k3, .ref k4, .ref k5, .ref k6, .ref k7, .ref k8])), (k1, aI E 9 w), (k2, aI E 5 aw), (k3, aI E 4 my), (k4, aI E 120 fe), (k5, aI E 44 (upN be (((11 * tu) + fr) + 1) (my tu))), (k6, aI E 4 sk), (k7, aI E 4 cl), (k8, aI E 40 ex)]) tyX5 tyX5_ok nmX5 rfl rfl (by decide) hinX5 hf88 rfl (by decide +kernel) (Nat.le_of_ble_eq_true rfl) dX5_endFrame_181 rfl (fun H locs hW => ?_)
            refine lv_aload_n C.x C.b dX5_endFrame_184 rfl (lv_at hl 1 rfl) ?_
            refine lv_dup C.x C.b dX5_endFrame_185 rfl ?_
            refine x_get C hW 0 4 7 (Cn := RX5) (T := TX5) (N := 15) rfl rfl (by decide) hinX5 hf72 rfl dX5_endFrame_186 ?_
            refine lv_iconst (v := nI 1) C.x C.b dX5_endFrame_189 (by decide) ?_
            refine x_iadd C dX5_endFrame_190 ?_
            refine x_put C hW 0 4 7 (Cn := RX5) (T := TX5) (N := 15) (w' := [(h0, .inr (4, [.int x, .int (nI g), .ref k1, .ref k2, .int (nI sp), .int (nI pl), .int (nI 0), .int (nI (fr + 1)), .int (nI 0), .ref k3, .ref k4, .ref k5, .ref k6, .ref k7, .ref k8])), (k1, aI E 9 w), (k2, aI E 5 aw), (k3, aI E 4 my), (k4, aI E 120 fe), (k5, aI E 44 (upN be (((11 * tu) + fr) + 1) (my tu))), (k6, aI E 4 sk), (k7, aI E 4 cl), (k8, aI E 40 ex)]) tyX5 tyX5_ok nmX5 rfl rfl (by decide) hinX5 hf72 rfl (by decide +kernel) (Nat.le_of_ble_eq_true rfl) dX5_endFrame_191 rfl (fun H locs hW => ?_)
            refine lv_aload_n C.x C.b dX5_endFrame_194 rfl (lv_at hl 1 rfl) ?_
            refine x_cVI C hW (As := []) (rest := []) (wr := []) (wn := [(h0, .inr (4, [.int x, .int (nI g), .ref k1, .ref k2, .int (nI sp), .int (nI pl), .int (nI 0), .int (nI ((fr + 1))), .int (nI 0), .ref k3, .ref k4, .ref k5, .ref k6, .ref k7, .ref k8])), (k1, aI E 9 w), (k2, aI E 5 aw), (k3, aI E 4 my), (k4, aI E 120 fe), (k5, aI E 44 ((upN be (((11 * tu) + fr) + 1) (my tu)))), (k6, aI E 4 sk), (k7, aI E 4 cl), (k8, aI E 40 ex)]) (Cn := RX5) (met_X5_over l E h0 k1 k2 k3 k4 k5 k6 k7 k8 x g sp pl 0 (fr + 1) 0 w aw my fe (upN be (((11 * tu) + fr) + 1) (my tu)) sk cl ex (by omega)) gX5_endFrame_X5_over rfl 0 rfl ⟨rfl, rfl⟩ ⟨rfl, by decide +kernel, by decide +kernel, by decide +kernel⟩ ⟨Nat.le_of_ble_eq_true rfl, Nat.le_of_ble_eq_true rfl⟩ [0, 1, 2, 3, 4, 5, 6, 7, 8] [] [0, 1, 2, 3, 4, 5, 6, 7, 8] rfl (by decide) rfl (by decide) (by decide) rfl (by decide) 0 4 rfl rfl hl.1 rfl (Nat.le_of_ble_eq_true rfl) dX5_endFrame_195 ⟨Nat.zero_le _, Nat.zero_le _⟩ (fun H locs hW => ?_)
            refine x_ifb_ne C (tgt := 205) dX5_endFrame_198 (by decide) (fun c_211 => ?_) (fun c_211 => ?_)
            · have q_212 : g = (if (if tu + 1 = pl then fr + 1 else fr) = 10 then g else suN w 9) := by first | rfl | ((repeat' split) <;> first | rfl | contradiction | (exfalso; omega))
              have q_213 : 0 = (if tu + 1 = pl then 0 else tu + 1) := by first | rfl | ((repeat' split) <;> first | rfl | contradiction | (exfalso; omega))
              have q_214 : (fr + 1) = (if tu + 1 = pl then fr + 1 else fr) := by first | rfl | ((repeat' split) <;> first | rfl | contradiction | (exfalso; omega))
              have q_215 : (upN be (((11 * tu) + fr) + 1) (my tu)) = (upN be (11 * tu + fr + 1) (my tu)) := by first | rfl | ((repeat' split) <;> first | rfl | contradiction | (exfalso; omega))
              have q_216 : sk = (if g = 0 ∧ 0 < smQ my fe tu (be (11 * tu + fr)) (my tu) ∧ nf = 1 then upN sk tu (sk tu + 1) else sk) := by first | rfl | ((repeat' split) <;> first | rfl | contradiction | (exfalso; omega))
              have q_217 : cl = (if g = 0 ∧ 0 < smQ my fe tu (be (11 * tu + fr)) (my tu) ∧ ¬ nf = 1 then upN cl tu (cl tu + 1) else cl) := by first | rfl | ((repeat' split) <;> first | rfl | contradiction | (exfalso; omega))
              have q_218 : ex = (if g = 0 ∧ 0 < smQ my fe tu (be (11 * tu + fr)) (my tu) then upN ex (10 * tu + fr) (if nf = 1 then 2 else 1) else ex) := by first | rfl | ((repeat' split) <;> first | rfl | contradiction | (exfalso; omega))
              exact x_vret C hW (by rw [← q_218, ← q_217, ← q_216, ← q_212, ← q_214, ← q_213, ← q_215]) dX5_endFrame_205
            · refine lv_aload_n C.x C.b dX5_endFrame_201 rfl (lv_at hl 1 rfl) ?_
              refine x_cVV C hW (As := []) (rest := []) (wr := []) (wn := [(h0, .inr (4, [.int x, .int (nI (suN w 9)), .ref k1, .ref k2, .int (nI sp), .int (nI pl), .int (nI 0), .int (nI (((fr + 1)))), .int (nI 0), .ref k3, .ref k4, .ref k5, .ref k6, .ref k7, .ref k8])), (k1, aI E 9 w), (k2, aI E 5 aw), (k3, aI E 4 my), (k4, aI E 120 fe), (k5, aI E 44 (((upN be (((11 * tu) + fr) + 1) (my tu))))), (k6, aI E 4 sk), (k7, aI E 4 cl), (k8, aI E 40 ex)]) (Cn := RX5) (met_X5_putUp l E h0 k1 k2 k3 k4 k5 k6 k7 k8 x g sp pl 0 ((fr + 1)) 0 w aw my fe ((upN be (((11 * tu) + fr) + 1) (my tu))) sk cl ex hw) gX5_endFrame_X5_putUp rfl 0 rfl ⟨rfl, rfl⟩ ⟨rfl, by decide +kernel, by decide +kernel, by decide +kernel⟩ ⟨Nat.le_of_ble_eq_true rfl, Nat.le_of_ble_eq_true rfl⟩ [0, 1, 2, 3, 4, 5, 6, 7, 8] [] [0, 1, 2, 3, 4, 5, 6, 7, 8] rfl (by decide) rfl (by decide) (by decide) rfl (by decide) 0 4 rfl rfl hl.1 rfl (Nat.le_of_ble_eq_true rfl) dX5_endFrame_202 ⟨Nat.zero_le _, Nat.zero_le _⟩ (fun H locs hW => ?_)
              have q_219 : suN w 9 = (if (if tu + 1 = pl then fr + 1 else fr) = 10 then g else suN w 9) := by first | rfl | ((repeat' split) <;> first | rfl | contradiction | (exfalso; omega))
              have q_220 : 0 = (if tu + 1 = pl then 0 else tu + 1) := by first | rfl | ((repeat' split) <;> first | rfl | contradiction | (exfalso; omega))
              have q_221 : ((fr + 1)) = (if tu + 1 = pl then fr + 1 else fr) := by first | rfl | ((repeat' split) <;> first | rfl | contradiction | (exfalso; omega))
              have q_222 : ((upN be (((11 * tu) + fr) + 1) (my tu))) = (upN be (11 * tu + fr + 1) (my tu)) := by first | rfl | ((repeat' split) <;> first | rfl | contradiction | (exfalso; omega))
              have q_223 : sk = (if g = 0 ∧ 0 < smQ my fe tu (be (11 * tu + fr)) (my tu) ∧ nf = 1 then upN sk tu (sk tu + 1) else sk) := by first | rfl | ((repeat' split) <;> first | rfl | contradiction | (exfalso; omega))
              have q_224 : cl = (if g = 0 ∧ 0 < smQ my fe tu (be (11 * tu + fr)) (my tu) ∧ ¬ nf = 1 then upN cl tu (cl tu + 1) else cl) := by first | rfl | ((repeat' split) <;> first | rfl | contradiction | (exfalso; omega))
              have q_225 : ex = (if g = 0 ∧ 0 < smQ my fe tu (be (11 * tu + fr)) (my tu) then upN ex (10 * tu + fr) (if nf = 1 then 2 else 1) else ex) := by first | rfl | ((repeat' split) <;> first | rfl | contradiction | (exfalso; omega))
              exact x_vret C hW (by rw [← q_225, ← q_224, ← q_223, ← q_219, ← q_221, ← q_220, ← q_222]) dX5_endFrame_205
        · refine lv_iload_n C.x C.b dX5_endFrame_90 rfl (lv_at hl 0 rfl) ?_
          refine x_if_le C (by omega) (tgt := 125) dX5_endFrame_91 (by decide) (fun c_226 => ?_) (fun c_226 => ?_)
          · refine lv_aload_n C.x C.b dX5_endFrame_125 rfl (lv_at hl 1 rfl) ?_
            refine x_get C hW 0 4 11 (Cn := RX5) (T := TX5) (N := 15) rfl rfl (by decide) hinX5 hf29 rfl dX5_endFrame_126 ?_
            refine lv_bipush (v := nI 11) C.x C.b dX5_endFrame_129 (by decide) ?_
            refine lv_aload_n C.x C.b dX5_endFrame_131 rfl (lv_at hl 1 rfl) ?_
            refine x_get C hW 0 4 6 (Cn := RX5) (T := TX5) (N := 15) rfl rfl (by decide) hinX5 hf88 rfl dX5_endFrame_132 ?_
            refine x_imul C dX5_endFrame_135 ?_
            refine lv_aload_n C.x C.b dX5_endFrame_136 rfl (lv_at hl 1 rfl) ?_
            refine x_get C hW 0 4 7 (Cn := RX5) (T := TX5) (N := 15) rfl rfl (by decide) hinX5 hf72 rfl dX5_endFrame_137 ?_
            refine x_iadd C dX5_endFrame_140 ?_
            refine lv_iconst (v := nI 1) C.x C.b dX5_endFrame_141 (by decide) ?_
            refine x_iadd C dX5_endFrame_142 ?_
            refine lv_aload_n C.x C.b dX5_endFrame_143 rfl (lv_at hl 1 rfl) ?_
            refine x_get C hW 0 4 9 (Cn := RX5) (T := TX5) (N := 15) rfl rfl (by decide) hinX5 hf23 rfl dX5_endFrame_144 ?_
            refine lv_aload_n C.x C.b dX5_endFrame_147 rfl (lv_at hl 1 rfl) ?_
            refine x_get C hW 0 4 6 (Cn := RX5) (T := TX5) (N := 15) rfl rfl (by decide) hinX5 hf88 rfl dX5_endFrame_148 ?_
            refine x_ald C hW 3 tu rfl rfl (by omega) (by decide) dX5_endFrame_151 ?_
            refine x_ast C hW 5 (((11 * tu) + fr) + 1) (my tu) rfl rfl rfl (by omega) (by decide) dX5_endFrame_152 (w' := [(h0, .inr (4, [.int x, .int (nI g), .ref k1, .ref k2, .int (nI sp), .int (nI pl), .int (nI tu), .int (nI fr), .int (nI nf), .ref k3, .ref k4, .ref k5, .ref k6, .ref k7, .ref k8])), (k1, aI E 9 w), (k2, aI E 5 aw), (k3, aI E 4 my), (k4, aI E 120 fe), (k5, aI E 44 (upN be (((11 * tu) + fr) + 1) (my tu))), (k6, aI E 4 sk), (k7, aI E 4 cl), (k8, aI E 40 ex)]) rfl (fun H locs hW => ?_)
            refine lv_aload_n C.x C.b dX5_endFrame_153 rfl (lv_at hl 1 rfl) ?_
            refine lv_iconst (v := nI 0) C.x C.b dX5_endFrame_154 (by decide) ?_
            refine x_put C hW 0 4 8 (Cn := RX5) (T := TX5) (N := 15) (w' := [(h0, .inr (4, [.int x, .int (nI g), .ref k1, .ref k2, .int (nI sp), .int (nI pl), .int (nI tu), .int (nI fr), .int (nI 0), .ref k3, .ref k4, .ref k5, .ref k6, .ref k7, .ref k8])), (k1, aI E 9 w), (k2, aI E 5 aw), (k3, aI E 4 my), (k4, aI E 120 fe), (k5, aI E 44 (upN be (((11 * tu) + fr) + 1) (my tu))), (k6, aI E 4 sk), (k7, aI E 4 cl), (k8, aI E 40 ex)]) tyX5 tyX5_ok nmX5 rfl rfl (by decide) hinX5 hf97 rfl (by decide +kernel) (Nat.le_of_ble_eq_true rfl) dX5_endFrame_155 rfl (fun H locs hW => ?_)
            refine lv_aload_n C.x C.b dX5_endFrame_158 rfl (lv_at hl 1 rfl) ?_
            refine lv_dup C.x C.b dX5_endFrame_159 rfl ?_
            refine x_get C hW 0 4 6 (Cn := RX5) (T := TX5) (N := 15) rfl rfl (by decide) hinX5 hf88 rfl dX5_endFrame_160 ?_
            refine lv_iconst (v := nI 1) C.x C.b dX5_endFrame_163 (by decide) ?_
            refine x_iadd C dX5_endFrame_164 ?_
            refine x_put C hW 0 4 6 (Cn := RX5) (T := TX5) (N := 15) (w' := [(h0, .inr (4, [.int x, .int (nI g), .ref k1, .ref k2, .int (nI sp), .int (nI pl), .int (nI (tu + 1)), .int (nI fr), .int (nI 0), .ref k3, .ref k4, .ref k5, .ref k6, .ref k7, .ref k8])), (k1, aI E 9 w), (k2, aI E 5 aw), (k3, aI E 4 my), (k4, aI E 120 fe), (k5, aI E 44 (upN be (((11 * tu) + fr) + 1) (my tu))), (k6, aI E 4 sk), (k7, aI E 4 cl), (k8, aI E 40 ex)]) tyX5 tyX5_ok nmX5 rfl rfl (by decide) hinX5 hf88 rfl (by decide +kernel) (Nat.le_of_ble_eq_true rfl) dX5_endFrame_165 rfl (fun H locs hW => ?_)
            refine lv_aload_n C.x C.b dX5_endFrame_168 rfl (lv_at hl 1 rfl) ?_
            refine x_get C hW 0 4 6 (Cn := RX5) (T := TX5) (N := 15) rfl rfl (by decide) hinX5 hf88 rfl dX5_endFrame_169 ?_
            refine lv_aload_n C.x C.b dX5_endFrame_172 rfl (lv_at hl 1 rfl) ?_
            refine x_get C hW 0 4 5 (Cn := RX5) (T := TX5) (N := 15) rfl rfl (by decide) hinX5 hf48 rfl dX5_endFrame_173 ?_
            refine x_icmp_ne C (by omega) (by omega) (tgt := 194) dX5_endFrame_176 (by decide) (fun c_227 => ?_) (fun c_227 => ?_)
            · refine lv_aload_n C.x C.b dX5_endFrame_194 rfl (lv_at hl 1 rfl) ?_
              refine x_cVI C hW (As := []) (rest := []) (wr := []) (wn := [(h0, .inr (4, [.int x, .int (nI g), .ref k1, .ref k2, .int (nI sp), .int (nI pl), .int (nI ((tu + 1))), .int (nI fr), .int (nI 0), .ref k3, .ref k4, .ref k5, .ref k6, .ref k7, .ref k8])), (k1, aI E 9 w), (k2, aI E 5 aw), (k3, aI E 4 my), (k4, aI E 120 fe), (k5, aI E 44 ((upN be (((11 * tu) + fr) + 1) (my tu)))), (k6, aI E 4 sk), (k7, aI E 4 cl), (k8, aI E 40 ex)]) (Cn := RX5) (met_X5_over l E h0 k1 k2 k3 k4 k5 k6 k7 k8 x g sp pl (tu + 1) fr 0 w aw my fe (upN be (((11 * tu) + fr) + 1) (my tu)) sk cl ex (by omega)) gX5_endFrame_X5_over rfl 0 rfl ⟨rfl, rfl⟩ ⟨rfl, by decide +kernel, by decide +kernel, by decide +kernel⟩ ⟨Nat.le_of_ble_eq_true rfl, Nat.le_of_ble_eq_true rfl⟩ [0, 1, 2, 3, 4, 5, 6, 7, 8] [] [0, 1, 2, 3, 4, 5, 6, 7, 8] rfl (by decide) rfl (by decide) (by decide) rfl (by decide) 0 4 rfl rfl hl.1 rfl (Nat.le_of_ble_eq_true rfl) dX5_endFrame_195 ⟨Nat.zero_le _, Nat.zero_le _⟩ (fun H locs hW => ?_)
              refine x_ifb_ne C (tgt := 205) dX5_endFrame_198 (by decide) (fun c_228 => ?_) (fun c_228 => ?_)
              · have q_229 : g = (if (if tu + 1 = pl then fr + 1 else fr) = 10 then g else suN w 9) := by first | rfl | ((repeat' split) <;> first | rfl | contradiction | (exfalso; omega))
                have q_230 : (tu + 1) = (if tu + 1 = pl then 0 else tu + 1) := by first | rfl | ((repeat' split) <;> first | rfl | contradiction | (exfalso; omega))
                have q_231 : fr = (if tu + 1 = pl then fr + 1 else fr) := by first | rfl | ((repeat' split) <;> first | rfl | contradiction | (exfalso; omega))
                have q_232 : (upN be (((11 * tu) + fr) + 1) (my tu)) = (upN be (11 * tu + fr + 1) (my tu)) := by first | rfl | ((repeat' split) <;> first | rfl | contradiction | (exfalso; omega))
                have q_233 : sk = (if g = 0 ∧ 0 < smQ my fe tu (be (11 * tu + fr)) (my tu) ∧ nf = 1 then upN sk tu (sk tu + 1) else sk) := by first | rfl | ((repeat' split) <;> first | rfl | contradiction | (exfalso; omega))
                have q_234 : cl = (if g = 0 ∧ 0 < smQ my fe tu (be (11 * tu + fr)) (my tu) ∧ ¬ nf = 1 then upN cl tu (cl tu + 1) else cl) := by first | rfl | ((repeat' split) <;> first | rfl | contradiction | (exfalso; omega))
                have q_235 : ex = (if g = 0 ∧ 0 < smQ my fe tu (be (11 * tu + fr)) (my tu) then upN ex (10 * tu + fr) (if nf = 1 then 2 else 1) else ex) := by first | rfl | ((repeat' split) <;> first | rfl | contradiction | (exfalso; omega))
                exact x_vret C hW (by rw [← q_235, ← q_234, ← q_233, ← q_229, ← q_231, ← q_230, ← q_232]) dX5_endFrame_205
              · refine lv_aload_n C.x C.b dX5_endFrame_201 rfl (lv_at hl 1 rfl) ?_
                refine x_cVV C hW (As := []) (rest := []) (wr := []) (wn := [(h0, .inr (4, [.int x, .int (nI (suN w 9)), .ref k1, .ref k2, .int (nI sp), .int (nI pl), .int (nI (((tu + 1)))), .int (nI fr), .int (nI 0), .ref k3, .ref k4, .ref k5, .ref k6, .ref k7, .ref k8])), (k1, aI E 9 w), (k2, aI E 5 aw), (k3, aI E 4 my), (k4, aI E 120 fe), (k5, aI E 44 (((upN be (((11 * tu) + fr) + 1) (my tu))))), (k6, aI E 4 sk), (k7, aI E 4 cl), (k8, aI E 40 ex)]) (Cn := RX5) (met_X5_putUp l E h0 k1 k2 k3 k4 k5 k6 k7 k8 x g sp pl ((tu + 1)) fr 0 w aw my fe ((upN be (((11 * tu) + fr) + 1) (my tu))) sk cl ex hw) gX5_endFrame_X5_putUp rfl 0 rfl ⟨rfl, rfl⟩ ⟨rfl, by decide +kernel, by decide +kernel, by decide +kernel⟩ ⟨Nat.le_of_ble_eq_true rfl, Nat.le_of_ble_eq_true rfl⟩ [0, 1, 2, 3, 4, 5, 6, 7, 8] [] [0, 1, 2, 3, 4, 5, 6, 7, 8] rfl (by decide) rfl (by decide) (by decide) rfl (by decide) 0 4 rfl rfl hl.1 rfl (Nat.le_of_ble_eq_true rfl) dX5_endFrame_202 ⟨Nat.zero_le _, Nat.zero_le _⟩ (fun H locs hW => ?_)
                have q_236 : suN w 9 = (if (if tu + 1 = pl then fr + 1 else fr) = 10 then g else suN w 9) := by first | rfl | ((repeat' split) <;> first | rfl | contradiction | (exfalso; omega))
                have q_237 : ((tu + 1)) = (if tu + 1 = pl then 0 else tu + 1) := by first | rfl | ((repeat' split) <;> first | rfl | contradiction | (exfalso; omega))
                have q_238 : fr = (if tu + 1 = pl then fr + 1 else fr) := by first | rfl | ((repeat' split) <;> first | rfl | contradiction | (exfalso; omega))
                have q_239 : ((upN be (((11 * tu) + fr) + 1) (my tu))) = (upN be (11 * tu + fr + 1) (my tu)) := by first | rfl | ((repeat' split) <;> first | rfl | contradiction | (exfalso; omega))
                have q_240 : sk = (if g = 0 ∧ 0 < smQ my fe tu (be (11 * tu + fr)) (my tu) ∧ nf = 1 then upN sk tu (sk tu + 1) else sk) := by first | rfl | ((repeat' split) <;> first | rfl | contradiction | (exfalso; omega))
                have q_241 : cl = (if g = 0 ∧ 0 < smQ my fe tu (be (11 * tu + fr)) (my tu) ∧ ¬ nf = 1 then upN cl tu (cl tu + 1) else cl) := by first | rfl | ((repeat' split) <;> first | rfl | contradiction | (exfalso; omega))
                have q_242 : ex = (if g = 0 ∧ 0 < smQ my fe tu (be (11 * tu + fr)) (my tu) then upN ex (10 * tu + fr) (if nf = 1 then 2 else 1) else ex) := by first | rfl | ((repeat' split) <;> first | rfl | contradiction | (exfalso; omega))
                exact x_vret C hW (by rw [← q_242, ← q_241, ← q_240, ← q_236, ← q_238, ← q_237, ← q_239]) dX5_endFrame_205
            · refine lv_aload_n C.x C.b dX5_endFrame_179 rfl (lv_at hl 1 rfl) ?_
              refine lv_iconst (v := nI 0) C.x C.b dX5_endFrame_180 (by decide) ?_
              refine x_put C hW 0 4 6 (Cn := RX5) (T := TX5) (N := 15) (w' := [(h0, .inr (4, [.int x, .int (nI g), .ref k1, .ref k2, .int (nI sp), .int (nI pl), .int (nI 0), .int (nI fr), .int (nI 0), .ref k3, .ref k4, .ref k5, .ref k6, .ref k7, .ref k8])), (k1, aI E 9 w), (k2, aI E 5 aw), (k3, aI E 4 my), (k4, aI E 120 fe), (k5, aI E 44 (upN be (((11 * tu) + fr) + 1) (my tu))), (k6, aI E 4 sk), (k7, aI E 4 cl), (k8, aI E 40 ex)]) tyX5 tyX5_ok nmX5 rfl rfl (by decide) hinX5 hf88 rfl (by decide +kernel) (Nat.le_of_ble_eq_true rfl) dX5_endFrame_181 rfl (fun H locs hW => ?_)
              refine lv_aload_n C.x C.b dX5_endFrame_184 rfl (lv_at hl 1 rfl) ?_
              refine lv_dup C.x C.b dX5_endFrame_185 rfl ?_
              refine x_get C hW 0 4 7 (Cn := RX5) (T := TX5) (N := 15) rfl rfl (by decide) hinX5 hf72 rfl dX5_endFrame_186 ?_
              refine lv_iconst (v := nI 1) C.x C.b dX5_endFrame_189 (by decide) ?_
              refine x_iadd C dX5_endFrame_190 ?_
              refine x_put C hW 0 4 7 (Cn := RX5) (T := TX5) (N := 15) (w' := [(h0, .inr (4, [.int x, .int (nI g), .ref k1, .ref k2, .int (nI sp), .int (nI pl), .int (nI 0), .int (nI (fr + 1)), .int (nI 0), .ref k3, .ref k4, .ref k5, .ref k6, .ref k7, .ref k8])), (k1, aI E 9 w), (k2, aI E 5 aw), (k3, aI E 4 my), (k4, aI E 120 fe), (k5, aI E 44 (upN be (((11 * tu) + fr) + 1) (my tu))), (k6, aI E 4 sk), (k7, aI E 4 cl), (k8, aI E 40 ex)]) tyX5 tyX5_ok nmX5 rfl rfl (by decide) hinX5 hf72 rfl (by decide +kernel) (Nat.le_of_ble_eq_true rfl) dX5_endFrame_191 rfl (fun H locs hW => ?_)
              refine lv_aload_n C.x C.b dX5_endFrame_194 rfl (lv_at hl 1 rfl) ?_
              refine x_cVI C hW (As := []) (rest := []) (wr := []) (wn := [(h0, .inr (4, [.int x, .int (nI g), .ref k1, .ref k2, .int (nI sp), .int (nI pl), .int (nI 0), .int (nI ((fr + 1))), .int (nI 0), .ref k3, .ref k4, .ref k5, .ref k6, .ref k7, .ref k8])), (k1, aI E 9 w), (k2, aI E 5 aw), (k3, aI E 4 my), (k4, aI E 120 fe), (k5, aI E 44 ((upN be (((11 * tu) + fr) + 1) (my tu)))), (k6, aI E 4 sk), (k7, aI E 4 cl), (k8, aI E 40 ex)]) (Cn := RX5) (met_X5_over l E h0 k1 k2 k3 k4 k5 k6 k7 k8 x g sp pl 0 (fr + 1) 0 w aw my fe (upN be (((11 * tu) + fr) + 1) (my tu)) sk cl ex (by omega)) gX5_endFrame_X5_over rfl 0 rfl ⟨rfl, rfl⟩ ⟨rfl, by decide +kernel, by decide +kernel, by decide +kernel⟩ ⟨Nat.le_of_ble_eq_true rfl, Nat.le_of_ble_eq_true rfl⟩ [0, 1, 2, 3, 4, 5, 6, 7, 8] [] [0, 1, 2, 3, 4, 5, 6, 7, 8] rfl (by decide) rfl (by decide) (by decide) rfl (by decide) 0 4 rfl rfl hl.1 rfl (Nat.le_of_ble_eq_true rfl) dX5_endFrame_195 ⟨Nat.zero_le _, Nat.zero_le _⟩ (fun H locs hW => ?_)
              refine x_ifb_ne C (tgt := 205) dX5_endFrame_198 (by decide) (fun c_243 => ?_) (fun c_243 => ?_)
              · have q_244 : g = (if (if tu + 1 = pl then fr + 1 else fr) = 10 then g else suN w 9) := by first | rfl | ((repeat' split) <;> first | rfl | contradiction | (exfalso; omega))
                have q_245 : 0 = (if tu + 1 = pl then 0 else tu + 1) := by first | rfl | ((repeat' split) <;> first | rfl | contradiction | (exfalso; omega))
                have q_246 : (fr + 1) = (if tu + 1 = pl then fr + 1 else fr) := by first | rfl | ((repeat' split) <;> first | rfl | contradiction | (exfalso; omega))
                have q_247 : (upN be (((11 * tu) + fr) + 1) (my tu)) = (upN be (11 * tu + fr + 1) (my tu)) := by first | rfl | ((repeat' split) <;> first | rfl | contradiction | (exfalso; omega))
                have q_248 : sk = (if g = 0 ∧ 0 < smQ my fe tu (be (11 * tu + fr)) (my tu) ∧ nf = 1 then upN sk tu (sk tu + 1) else sk) := by first | rfl | ((repeat' split) <;> first | rfl | contradiction | (exfalso; omega))
                have q_249 : cl = (if g = 0 ∧ 0 < smQ my fe tu (be (11 * tu + fr)) (my tu) ∧ ¬ nf = 1 then upN cl tu (cl tu + 1) else cl) := by first | rfl | ((repeat' split) <;> first | rfl | contradiction | (exfalso; omega))
                have q_250 : ex = (if g = 0 ∧ 0 < smQ my fe tu (be (11 * tu + fr)) (my tu) then upN ex (10 * tu + fr) (if nf = 1 then 2 else 1) else ex) := by first | rfl | ((repeat' split) <;> first | rfl | contradiction | (exfalso; omega))
                exact x_vret C hW (by rw [← q_250, ← q_249, ← q_248, ← q_244, ← q_246, ← q_245, ← q_247]) dX5_endFrame_205
              · refine lv_aload_n C.x C.b dX5_endFrame_201 rfl (lv_at hl 1 rfl) ?_
                refine x_cVV C hW (As := []) (rest := []) (wr := []) (wn := [(h0, .inr (4, [.int x, .int (nI (suN w 9)), .ref k1, .ref k2, .int (nI sp), .int (nI pl), .int (nI 0), .int (nI (((fr + 1)))), .int (nI 0), .ref k3, .ref k4, .ref k5, .ref k6, .ref k7, .ref k8])), (k1, aI E 9 w), (k2, aI E 5 aw), (k3, aI E 4 my), (k4, aI E 120 fe), (k5, aI E 44 (((upN be (((11 * tu) + fr) + 1) (my tu))))), (k6, aI E 4 sk), (k7, aI E 4 cl), (k8, aI E 40 ex)]) (Cn := RX5) (met_X5_putUp l E h0 k1 k2 k3 k4 k5 k6 k7 k8 x g sp pl 0 ((fr + 1)) 0 w aw my fe ((upN be (((11 * tu) + fr) + 1) (my tu))) sk cl ex hw) gX5_endFrame_X5_putUp rfl 0 rfl ⟨rfl, rfl⟩ ⟨rfl, by decide +kernel, by decide +kernel, by decide +kernel⟩ ⟨Nat.le_of_ble_eq_true rfl, Nat.le_of_ble_eq_true rfl⟩ [0, 1, 2, 3, 4, 5, 6, 7, 8] [] [0, 1, 2, 3, 4, 5, 6, 7, 8] rfl (by decide) rfl (by decide) (by decide) rfl (by decide) 0 4 rfl rfl hl.1 rfl (Nat.le_of_ble_eq_true rfl) dX5_endFrame_202 ⟨Nat.zero_le _, Nat.zero_le _⟩ (fun H locs hW => ?_)
                have q_251 : suN w 9 = (if (if tu + 1 = pl then fr + 1 else fr) = 10 then g else suN w 9) := by first | rfl | ((repeat' split) <;> first | rfl | contradiction | (exfalso; omega))
                have q_252 : 0 = (if tu + 1 = pl then 0 else tu + 1) := by first | rfl | ((repeat' split) <;> first | rfl | contradiction | (exfalso; omega))
                have q_253 : ((fr + 1)) = (if tu + 1 = pl then fr + 1 else fr) := by first | rfl | ((repeat' split) <;> first | rfl | contradiction | (exfalso; omega))
                have q_254 : ((upN be (((11 * tu) + fr) + 1) (my tu))) = (upN be (11 * tu + fr + 1) (my tu)) := by first | rfl | ((repeat' split) <;> first | rfl | contradiction | (exfalso; omega))
                have q_255 : sk = (if g = 0 ∧ 0 < smQ my fe tu (be (11 * tu + fr)) (my tu) ∧ nf = 1 then upN sk tu (sk tu + 1) else sk) := by first | rfl | ((repeat' split) <;> first | rfl | contradiction | (exfalso; omega))
                have q_256 : cl = (if g = 0 ∧ 0 < smQ my fe tu (be (11 * tu + fr)) (my tu) ∧ ¬ nf = 1 then upN cl tu (cl tu + 1) else cl) := by first | rfl | ((repeat' split) <;> first | rfl | contradiction | (exfalso; omega))
                have q_257 : ex = (if g = 0 ∧ 0 < smQ my fe tu (be (11 * tu + fr)) (my tu) then upN ex (10 * tu + fr) (if nf = 1 then 2 else 1) else ex) := by first | rfl | ((repeat' split) <;> first | rfl | contradiction | (exfalso; omega))
                exact x_vret C hW (by rw [← q_257, ← q_256, ← q_255, ← q_251, ← q_253, ← q_252, ← q_254]) dX5_endFrame_205
          · refine lv_aload_n C.x C.b dX5_endFrame_94 rfl (lv_at hl 1 rfl) ?_
            refine x_get C hW 0 4 13 (Cn := RX5) (T := TX5) (N := 15) rfl rfl (by decide) hinX5 hf35 rfl dX5_endFrame_95 ?_
            refine lv_aload_n C.x C.b dX5_endFrame_98 rfl (lv_at hl 1 rfl) ?_
            refine x_get C hW 0 4 6 (Cn := RX5) (T := TX5) (N := 15) rfl rfl (by decide) hinX5 hf88 rfl dX5_endFrame_99 ?_
            refine lv_dup2_11 C.x C.b dX5_endFrame_102 rfl rfl ?_
            refine x_ald C hW 7 tu rfl rfl (by omega) (by decide) dX5_endFrame_103 ?_
            refine lv_iconst (v := nI 1) C.x C.b dX5_endFrame_104 (by decide) ?_
            refine x_iadd C dX5_endFrame_105 ?_
            refine x_ast C hW 7 tu ((cl tu) + 1) rfl rfl rfl (by omega) (by decide) dX5_endFrame_106 (w' := [(h0, .inr (4, [.int x, .int (nI g), .ref k1, .ref k2, .int (nI sp), .int (nI pl), .int (nI tu), .int (nI fr), .int (nI nf), .ref k3, .ref k4, .ref k5, .ref k6, .ref k7, .ref k8])), (k1, aI E 9 w), (k2, aI E 5 aw), (k3, aI E 4 my), (k4, aI E 120 fe), (k5, aI E 44 be), (k6, aI E 4 sk), (k7, aI E 4 (upN cl tu ((cl tu) + 1))), (k8, aI E 40 ex)]) rfl (fun H locs hW => ?_)
            refine lv_aload_n C.x C.b dX5_endFrame_107 rfl (lv_at hl 1 rfl) ?_
            refine x_get C hW 0 4 14 (Cn := RX5) (T := TX5) (N := 15) rfl rfl (by decide) hinX5 hf38 rfl dX5_endFrame_108 ?_
            refine lv_bipush (v := nI 10) C.x C.b dX5_endFrame_111 (by decide) ?_
            refine lv_aload_n C.x C.b dX5_endFrame_113 rfl (lv_at hl 1 rfl) ?_
            refine x_get C hW 0 4 6 (Cn := RX5) (T := TX5) (N := 15) rfl rfl (by decide) hinX5 hf88 rfl dX5_endFrame_114 ?_
            refine x_imul C dX5_endFrame_117 ?_
            refine lv_aload_n C.x C.b dX5_endFrame_118 rfl (lv_at hl 1 rfl) ?_
            refine x_get C hW 0 4 7 (Cn := RX5) (T := TX5) (N := 15) rfl rfl (by decide) hinX5 hf72 rfl dX5_endFrame_119 ?_
            refine x_iadd C dX5_endFrame_122 ?_
            refine lv_iconst (v := nI 1) C.x C.b dX5_endFrame_123 (by decide) ?_
            refine x_ast C hW 8 ((10 * tu) + fr) 1 rfl rfl rfl (by omega) (by decide) dX5_endFrame_124 (w' := [(h0, .inr (4, [.int x, .int (nI g), .ref k1, .ref k2, .int (nI sp), .int (nI pl), .int (nI tu), .int (nI fr), .int (nI nf), .ref k3, .ref k4, .ref k5, .ref k6, .ref k7, .ref k8])), (k1, aI E 9 w), (k2, aI E 5 aw), (k3, aI E 4 my), (k4, aI E 120 fe), (k5, aI E 44 be), (k6, aI E 4 sk), (k7, aI E 4 (upN cl tu ((cl tu) + 1))), (k8, aI E 40 (upN ex ((10 * tu) + fr) 1))]) rfl (fun H locs hW => ?_)
            refine lv_aload_n C.x C.b dX5_endFrame_125 rfl (lv_at hl 1 rfl) ?_
            refine x_get C hW 0 4 11 (Cn := RX5) (T := TX5) (N := 15) rfl rfl (by decide) hinX5 hf29 rfl dX5_endFrame_126 ?_
            refine lv_bipush (v := nI 11) C.x C.b dX5_endFrame_129 (by decide) ?_
            refine lv_aload_n C.x C.b dX5_endFrame_131 rfl (lv_at hl 1 rfl) ?_
            refine x_get C hW 0 4 6 (Cn := RX5) (T := TX5) (N := 15) rfl rfl (by decide) hinX5 hf88 rfl dX5_endFrame_132 ?_
            refine x_imul C dX5_endFrame_135 ?_
            refine lv_aload_n C.x C.b dX5_endFrame_136 rfl (lv_at hl 1 rfl) ?_
            refine x_get C hW 0 4 7 (Cn := RX5) (T := TX5) (N := 15) rfl rfl (by decide) hinX5 hf72 rfl dX5_endFrame_137 ?_
            refine x_iadd C dX5_endFrame_140 ?_
            refine lv_iconst (v := nI 1) C.x C.b dX5_endFrame_141 (by decide) ?_
            refine x_iadd C dX5_endFrame_142 ?_
            refine lv_aload_n C.x C.b dX5_endFrame_143 rfl (lv_at hl 1 rfl) ?_
            refine x_get C hW 0 4 9 (Cn := RX5) (T := TX5) (N := 15) rfl rfl (by decide) hinX5 hf23 rfl dX5_endFrame_144 ?_
            refine lv_aload_n C.x C.b dX5_endFrame_147 rfl (lv_at hl 1 rfl) ?_
            refine x_get C hW 0 4 6 (Cn := RX5) (T := TX5) (N := 15) rfl rfl (by decide) hinX5 hf88 rfl dX5_endFrame_148 ?_
            refine x_ald C hW 3 tu rfl rfl (by omega) (by decide) dX5_endFrame_151 ?_
            refine x_ast C hW 5 (((11 * tu) + fr) + 1) (my tu) rfl rfl rfl (by omega) (by decide) dX5_endFrame_152 (w' := [(h0, .inr (4, [.int x, .int (nI g), .ref k1, .ref k2, .int (nI sp), .int (nI pl), .int (nI tu), .int (nI fr), .int (nI nf), .ref k3, .ref k4, .ref k5, .ref k6, .ref k7, .ref k8])), (k1, aI E 9 w), (k2, aI E 5 aw), (k3, aI E 4 my), (k4, aI E 120 fe), (k5, aI E 44 (upN be (((11 * tu) + fr) + 1) (my tu))), (k6, aI E 4 sk), (k7, aI E 4 (upN cl tu ((cl tu) + 1))), (k8, aI E 40 (upN ex ((10 * tu) + fr) 1))]) rfl (fun H locs hW => ?_)
            refine lv_aload_n C.x C.b dX5_endFrame_153 rfl (lv_at hl 1 rfl) ?_
            refine lv_iconst (v := nI 0) C.x C.b dX5_endFrame_154 (by decide) ?_
            refine x_put C hW 0 4 8 (Cn := RX5) (T := TX5) (N := 15) (w' := [(h0, .inr (4, [.int x, .int (nI g), .ref k1, .ref k2, .int (nI sp), .int (nI pl), .int (nI tu), .int (nI fr), .int (nI 0), .ref k3, .ref k4, .ref k5, .ref k6, .ref k7, .ref k8])), (k1, aI E 9 w), (k2, aI E 5 aw), (k3, aI E 4 my), (k4, aI E 120 fe), (k5, aI E 44 (upN be (((11 * tu) + fr) + 1) (my tu))), (k6, aI E 4 sk), (k7, aI E 4 (upN cl tu ((cl tu) + 1))), (k8, aI E 40 (upN ex ((10 * tu) + fr) 1))]) tyX5 tyX5_ok nmX5 rfl rfl (by decide) hinX5 hf97 rfl (by decide +kernel) (Nat.le_of_ble_eq_true rfl) dX5_endFrame_155 rfl (fun H locs hW => ?_)
            refine lv_aload_n C.x C.b dX5_endFrame_158 rfl (lv_at hl 1 rfl) ?_
            refine lv_dup C.x C.b dX5_endFrame_159 rfl ?_
            refine x_get C hW 0 4 6 (Cn := RX5) (T := TX5) (N := 15) rfl rfl (by decide) hinX5 hf88 rfl dX5_endFrame_160 ?_
            refine lv_iconst (v := nI 1) C.x C.b dX5_endFrame_163 (by decide) ?_
            refine x_iadd C dX5_endFrame_164 ?_
            refine x_put C hW 0 4 6 (Cn := RX5) (T := TX5) (N := 15) (w' := [(h0, .inr (4, [.int x, .int (nI g), .ref k1, .ref k2, .int (nI sp), .int (nI pl), .int (nI (tu + 1)), .int (nI fr), .int (nI 0), .ref k3, .ref k4, .ref k5, .ref k6, .ref k7, .ref k8])), (k1, aI E 9 w), (k2, aI E 5 aw), (k3, aI E 4 my), (k4, aI E 120 fe), (k5, aI E 44 (upN be (((11 * tu) + fr) + 1) (my tu))), (k6, aI E 4 sk), (k7, aI E 4 (upN cl tu ((cl tu) + 1))), (k8, aI E 40 (upN ex ((10 * tu) + fr) 1))]) tyX5 tyX5_ok nmX5 rfl rfl (by decide) hinX5 hf88 rfl (by decide +kernel) (Nat.le_of_ble_eq_true rfl) dX5_endFrame_165 rfl (fun H locs hW => ?_)
            refine lv_aload_n C.x C.b dX5_endFrame_168 rfl (lv_at hl 1 rfl) ?_
            refine x_get C hW 0 4 6 (Cn := RX5) (T := TX5) (N := 15) rfl rfl (by decide) hinX5 hf88 rfl dX5_endFrame_169 ?_
            refine lv_aload_n C.x C.b dX5_endFrame_172 rfl (lv_at hl 1 rfl) ?_
            refine x_get C hW 0 4 5 (Cn := RX5) (T := TX5) (N := 15) rfl rfl (by decide) hinX5 hf48 rfl dX5_endFrame_173 ?_
            refine x_icmp_ne C (by omega) (by omega) (tgt := 194) dX5_endFrame_176 (by decide) (fun c_258 => ?_) (fun c_258 => ?_)
            · refine lv_aload_n C.x C.b dX5_endFrame_194 rfl (lv_at hl 1 rfl) ?_
              refine x_cVI C hW (As := []) (rest := []) (wr := []) (wn := [(h0, .inr (4, [.int x, .int (nI g), .ref k1, .ref k2, .int (nI sp), .int (nI pl), .int (nI ((tu + 1))), .int (nI fr), .int (nI 0), .ref k3, .ref k4, .ref k5, .ref k6, .ref k7, .ref k8])), (k1, aI E 9 w), (k2, aI E 5 aw), (k3, aI E 4 my), (k4, aI E 120 fe), (k5, aI E 44 ((upN be (((11 * tu) + fr) + 1) (my tu)))), (k6, aI E 4 sk), (k7, aI E 4 ((upN cl tu ((cl tu) + 1)))), (k8, aI E 40 ((upN ex ((10 * tu) + fr) 1)))]) (Cn := RX5) (met_X5_over l E h0 k1 k2 k3 k4 k5 k6 k7 k8 x g sp pl (tu + 1) fr 0 w aw my fe (upN be (((11 * tu) + fr) + 1) (my tu)) sk (upN cl tu ((cl tu) + 1)) (upN ex ((10 * tu) + fr) 1) (by omega)) gX5_endFrame_X5_over rfl 0 rfl ⟨rfl, rfl⟩ ⟨rfl, by decide +kernel, by decide +kernel, by decide +kernel⟩ ⟨Nat.le_of_ble_eq_true rfl, Nat.le_of_ble_eq_true rfl⟩ [0, 1, 2, 3, 4, 5, 6, 7, 8] [] [0, 1, 2, 3, 4, 5, 6, 7, 8] rfl (by decide) rfl (by decide) (by decide) rfl (by decide) 0 4 rfl rfl hl.1 rfl (Nat.le_of_ble_eq_true rfl) dX5_endFrame_195 ⟨Nat.zero_le _, Nat.zero_le _⟩ (fun H locs hW => ?_)
              refine x_ifb_ne C (tgt := 205) dX5_endFrame_198 (by decide) (fun c_259 => ?_) (fun c_259 => ?_)
              · have q_260 : g = (if (if tu + 1 = pl then fr + 1 else fr) = 10 then g else suN w 9) := by first | rfl | ((repeat' split) <;> first | rfl | contradiction | (exfalso; omega))
                have q_261 : (tu + 1) = (if tu + 1 = pl then 0 else tu + 1) := by first | rfl | ((repeat' split) <;> first | rfl | contradiction | (exfalso; omega))
                have q_262 : fr = (if tu + 1 = pl then fr + 1 else fr) := by first | rfl | ((repeat' split) <;> first | rfl | contradiction | (exfalso; omega))
                have q_263 : (upN be (((11 * tu) + fr) + 1) (my tu)) = (upN be (11 * tu + fr + 1) (my tu)) := by first | rfl | ((repeat' split) <;> first | rfl | contradiction | (exfalso; omega))
                have q_264 : sk = (if g = 0 ∧ 0 < smQ my fe tu (be (11 * tu + fr)) (my tu) ∧ nf = 1 then upN sk tu (sk tu + 1) else sk) := by first | rfl | ((repeat' split) <;> first | rfl | contradiction | (exfalso; omega))
                have q_265 : (upN cl tu ((cl tu) + 1)) = (if g = 0 ∧ 0 < smQ my fe tu (be (11 * tu + fr)) (my tu) ∧ ¬ nf = 1 then upN cl tu (cl tu + 1) else cl) := by first | rfl | ((repeat' split) <;> first | rfl | contradiction | (exfalso; omega))
                have q_266 : (upN ex ((10 * tu) + fr) 1) = (if g = 0 ∧ 0 < smQ my fe tu (be (11 * tu + fr)) (my tu) then upN ex (10 * tu + fr) (if nf = 1 then 2 else 1) else ex) := by first | rfl | ((repeat' split) <;> first | rfl | contradiction | (exfalso; omega))
                exact x_vret C hW (by rw [← q_266, ← q_265, ← q_264, ← q_260, ← q_262, ← q_261, ← q_263]) dX5_endFrame_205
              · refine lv_aload_n C.x C.b dX5_endFrame_201 rfl (lv_at hl 1 rfl) ?_
                refine x_cVV C hW (As := []) (rest := []) (wr := []) (wn := [(h0, .inr (4, [.int x, .int (nI (suN w 9)), .ref k1, .ref k2, .int (nI sp), .int (nI pl), .int (nI (((tu + 1)))), .int (nI fr), .int (nI 0), .ref k3, .ref k4, .ref k5, .ref k6, .ref k7, .ref k8])), (k1, aI E 9 w), (k2, aI E 5 aw), (k3, aI E 4 my), (k4, aI E 120 fe), (k5, aI E 44 (((upN be (((11 * tu) + fr) + 1) (my tu))))), (k6, aI E 4 sk), (k7, aI E 4 (((upN cl tu ((cl tu) + 1))))), (k8, aI E 40 (((upN ex ((10 * tu) + fr) 1))))]) (Cn := RX5) (met_X5_putUp l E h0 k1 k2 k3 k4 k5 k6 k7 k8 x g sp pl ((tu + 1)) fr 0 w aw my fe ((upN be (((11 * tu) + fr) + 1) (my tu))) sk ((upN cl tu ((cl tu) + 1))) ((upN ex ((10 * tu) + fr) 1)) hw) gX5_endFrame_X5_putUp rfl 0 rfl ⟨rfl, rfl⟩ ⟨rfl, by decide +kernel, by decide +kernel, by decide +kernel⟩ ⟨Nat.le_of_ble_eq_true rfl, Nat.le_of_ble_eq_true rfl⟩ [0, 1, 2, 3, 4, 5, 6, 7, 8] [] [0, 1, 2, 3, 4, 5, 6, 7, 8] rfl (by decide) rfl (by decide) (by decide) rfl (by decide) 0 4 rfl rfl hl.1 rfl (Nat.le_of_ble_eq_true rfl) dX5_endFrame_202 ⟨Nat.zero_le _, Nat.zero_le _⟩ (fun H locs hW => ?_)
                have q_267 : suN w 9 = (if (if tu + 1 = pl then fr + 1 else fr) = 10 then g else suN w 9) := by first | rfl | ((repeat' split) <;> first | rfl | contradiction | (exfalso; omega))
                have q_268 : ((tu + 1)) = (if tu + 1 = pl then 0 else tu + 1) := by first | rfl | ((repeat' split) <;> first | rfl | contradiction | (exfalso; omega))
                have q_269 : fr = (if tu + 1 = pl then fr + 1 else fr) := by first | rfl | ((repeat' split) <;> first | rfl | contradiction | (exfalso; omega))
                have q_270 : ((upN be (((11 * tu) + fr) + 1) (my tu))) = (upN be (11 * tu + fr + 1) (my tu)) := by first | rfl | ((repeat' split) <;> first | rfl | contradiction | (exfalso; omega))
                have q_271 : sk = (if g = 0 ∧ 0 < smQ my fe tu (be (11 * tu + fr)) (my tu) ∧ nf = 1 then upN sk tu (sk tu + 1) else sk) := by first | rfl | ((repeat' split) <;> first | rfl | contradiction | (exfalso; omega))
                have q_272 : ((upN cl tu ((cl tu) + 1))) = (if g = 0 ∧ 0 < smQ my fe tu (be (11 * tu + fr)) (my tu) ∧ ¬ nf = 1 then upN cl tu (cl tu + 1) else cl) := by first | rfl | ((repeat' split) <;> first | rfl | contradiction | (exfalso; omega))
                have q_273 : ((upN ex ((10 * tu) + fr) 1)) = (if g = 0 ∧ 0 < smQ my fe tu (be (11 * tu + fr)) (my tu) then upN ex (10 * tu + fr) (if nf = 1 then 2 else 1) else ex) := by first | rfl | ((repeat' split) <;> first | rfl | contradiction | (exfalso; omega))
                exact x_vret C hW (by rw [← q_273, ← q_272, ← q_271, ← q_267, ← q_269, ← q_268, ← q_270]) dX5_endFrame_205
            · refine lv_aload_n C.x C.b dX5_endFrame_179 rfl (lv_at hl 1 rfl) ?_
              refine lv_iconst (v := nI 0) C.x C.b dX5_endFrame_180 (by decide) ?_
              refine x_put C hW 0 4 6 (Cn := RX5) (T := TX5) (N := 15) (w' := [(h0, .inr (4, [.int x, .int (nI g), .ref k1, .ref k2, .int (nI sp), .int (nI pl), .int (nI 0), .int (nI fr), .int (nI 0), .ref k3, .ref k4, .ref k5, .ref k6, .ref k7, .ref k8])), (k1, aI E 9 w), (k2, aI E 5 aw), (k3, aI E 4 my), (k4, aI E 120 fe), (k5, aI E 44 (upN be (((11 * tu) + fr) + 1) (my tu))), (k6, aI E 4 sk), (k7, aI E 4 (upN cl tu ((cl tu) + 1))), (k8, aI E 40 (upN ex ((10 * tu) + fr) 1))]) tyX5 tyX5_ok nmX5 rfl rfl (by decide) hinX5 hf88 rfl (by decide +kernel) (Nat.le_of_ble_eq_true rfl) dX5_endFrame_181 rfl (fun H locs hW => ?_)
              refine lv_aload_n C.x C.b dX5_endFrame_184 rfl (lv_at hl 1 rfl) ?_
              refine lv_dup C.x C.b dX5_endFrame_185 rfl ?_
              refine x_get C hW 0 4 7 (Cn := RX5) (T := TX5) (N := 15) rfl rfl (by decide) hinX5 hf72 rfl dX5_endFrame_186 ?_
              refine lv_iconst (v := nI 1) C.x C.b dX5_endFrame_189 (by decide) ?_
              refine x_iadd C dX5_endFrame_190 ?_
              refine x_put C hW 0 4 7 (Cn := RX5) (T := TX5) (N := 15) (w' := [(h0, .inr (4, [.int x, .int (nI g), .ref k1, .ref k2, .int (nI sp), .int (nI pl), .int (nI 0), .int (nI (fr + 1)), .int (nI 0), .ref k3, .ref k4, .ref k5, .ref k6, .ref k7, .ref k8])), (k1, aI E 9 w), (k2, aI E 5 aw), (k3, aI E 4 my), (k4, aI E 120 fe), (k5, aI E 44 (upN be (((11 * tu) + fr) + 1) (my tu))), (k6, aI E 4 sk), (k7, aI E 4 (upN cl tu ((cl tu) + 1))), (k8, aI E 40 (upN ex ((10 * tu) + fr) 1))]) tyX5 tyX5_ok nmX5 rfl rfl (by decide) hinX5 hf72 rfl (by decide +kernel) (Nat.le_of_ble_eq_true rfl) dX5_endFrame_191 rfl (fun H locs hW => ?_)
              refine lv_aload_n C.x C.b dX5_endFrame_194 rfl (lv_at hl 1 rfl) ?_
              refine x_cVI C hW (As := []) (rest := []) (wr := []) (wn := [(h0, .inr (4, [.int x, .int (nI g), .ref k1, .ref k2, .int (nI sp), .int (nI pl), .int (nI 0), .int (nI ((fr + 1))), .int (nI 0), .ref k3, .ref k4, .ref k5, .ref k6, .ref k7, .ref k8])), (k1, aI E 9 w), (k2, aI E 5 aw), (k3, aI E 4 my), (k4, aI E 120 fe), (k5, aI E 44 ((upN be (((11 * tu) + fr) + 1) (my tu)))), (k6, aI E 4 sk), (k7, aI E 4 ((upN cl tu ((cl tu) + 1)))), (k8, aI E 40 ((upN ex ((10 * tu) + fr) 1)))]) (Cn := RX5) (met_X5_over l E h0 k1 k2 k3 k4 k5 k6 k7 k8 x g sp pl 0 (fr + 1) 0 w aw my fe (upN be (((11 * tu) + fr) + 1) (my tu)) sk (upN cl tu ((cl tu) + 1)) (upN ex ((10 * tu) + fr) 1) (by omega)) gX5_endFrame_X5_over rfl 0 rfl ⟨rfl, rfl⟩ ⟨rfl, by decide +kernel, by decide +kernel, by decide +kernel⟩ ⟨Nat.le_of_ble_eq_true rfl, Nat.le_of_ble_eq_true rfl⟩ [0, 1, 2, 3, 4, 5, 6, 7, 8] [] [0, 1, 2, 3, 4, 5, 6, 7, 8] rfl (by decide) rfl (by decide) (by decide) rfl (by decide) 0 4 rfl rfl hl.1 rfl (Nat.le_of_ble_eq_true rfl) dX5_endFrame_195 ⟨Nat.zero_le _, Nat.zero_le _⟩ (fun H locs hW => ?_)
              refine x_ifb_ne C (tgt := 205) dX5_endFrame_198 (by decide) (fun c_274 => ?_) (fun c_274 => ?_)
              · have q_275 : g = (if (if tu + 1 = pl then fr + 1 else fr) = 10 then g else suN w 9) := by first | rfl | ((repeat' split) <;> first | rfl | contradiction | (exfalso; omega))
                have q_276 : 0 = (if tu + 1 = pl then 0 else tu + 1) := by first | rfl | ((repeat' split) <;> first | rfl | contradiction | (exfalso; omega))
                have q_277 : (fr + 1) = (if tu + 1 = pl then fr + 1 else fr) := by first | rfl | ((repeat' split) <;> first | rfl | contradiction | (exfalso; omega))
                have q_278 : (upN be (((11 * tu) + fr) + 1) (my tu)) = (upN be (11 * tu + fr + 1) (my tu)) := by first | rfl | ((repeat' split) <;> first | rfl | contradiction | (exfalso; omega))
                have q_279 : sk = (if g = 0 ∧ 0 < smQ my fe tu (be (11 * tu + fr)) (my tu) ∧ nf = 1 then upN sk tu (sk tu + 1) else sk) := by first | rfl | ((repeat' split) <;> first | rfl | contradiction | (exfalso; omega))
                have q_280 : (upN cl tu ((cl tu) + 1)) = (if g = 0 ∧ 0 < smQ my fe tu (be (11 * tu + fr)) (my tu) ∧ ¬ nf = 1 then upN cl tu (cl tu + 1) else cl) := by first | rfl | ((repeat' split) <;> first | rfl | contradiction | (exfalso; omega))
                have q_281 : (upN ex ((10 * tu) + fr) 1) = (if g = 0 ∧ 0 < smQ my fe tu (be (11 * tu + fr)) (my tu) then upN ex (10 * tu + fr) (if nf = 1 then 2 else 1) else ex) := by first | rfl | ((repeat' split) <;> first | rfl | contradiction | (exfalso; omega))
                exact x_vret C hW (by rw [← q_281, ← q_280, ← q_279, ← q_275, ← q_277, ← q_276, ← q_278]) dX5_endFrame_205
              · refine lv_aload_n C.x C.b dX5_endFrame_201 rfl (lv_at hl 1 rfl) ?_
                refine x_cVV C hW (As := []) (rest := []) (wr := []) (wn := [(h0, .inr (4, [.int x, .int (nI (suN w 9)), .ref k1, .ref k2, .int (nI sp), .int (nI pl), .int (nI 0), .int (nI (((fr + 1)))), .int (nI 0), .ref k3, .ref k4, .ref k5, .ref k6, .ref k7, .ref k8])), (k1, aI E 9 w), (k2, aI E 5 aw), (k3, aI E 4 my), (k4, aI E 120 fe), (k5, aI E 44 (((upN be (((11 * tu) + fr) + 1) (my tu))))), (k6, aI E 4 sk), (k7, aI E 4 (((upN cl tu ((cl tu) + 1))))), (k8, aI E 40 (((upN ex ((10 * tu) + fr) 1))))]) (Cn := RX5) (met_X5_putUp l E h0 k1 k2 k3 k4 k5 k6 k7 k8 x g sp pl 0 ((fr + 1)) 0 w aw my fe ((upN be (((11 * tu) + fr) + 1) (my tu))) sk ((upN cl tu ((cl tu) + 1))) ((upN ex ((10 * tu) + fr) 1)) hw) gX5_endFrame_X5_putUp rfl 0 rfl ⟨rfl, rfl⟩ ⟨rfl, by decide +kernel, by decide +kernel, by decide +kernel⟩ ⟨Nat.le_of_ble_eq_true rfl, Nat.le_of_ble_eq_true rfl⟩ [0, 1, 2, 3, 4, 5, 6, 7, 8] [] [0, 1, 2, 3, 4, 5, 6, 7, 8] rfl (by decide) rfl (by decide) (by decide) rfl (by decide) 0 4 rfl rfl hl.1 rfl (Nat.le_of_ble_eq_true rfl) dX5_endFrame_202 ⟨Nat.zero_le _, Nat.zero_le _⟩ (fun H locs hW => ?_)
                have q_282 : suN w 9 = (if (if tu + 1 = pl then fr + 1 else fr) = 10 then g else suN w 9) := by first | rfl | ((repeat' split) <;> first | rfl | contradiction | (exfalso; omega))
                have q_283 : 0 = (if tu + 1 = pl then 0 else tu + 1) := by first | rfl | ((repeat' split) <;> first | rfl | contradiction | (exfalso; omega))
                have q_284 : ((fr + 1)) = (if tu + 1 = pl then fr + 1 else fr) := by first | rfl | ((repeat' split) <;> first | rfl | contradiction | (exfalso; omega))
                have q_285 : ((upN be (((11 * tu) + fr) + 1) (my tu))) = (upN be (11 * tu + fr + 1) (my tu)) := by first | rfl | ((repeat' split) <;> first | rfl | contradiction | (exfalso; omega))
                have q_286 : sk = (if g = 0 ∧ 0 < smQ my fe tu (be (11 * tu + fr)) (my tu) ∧ nf = 1 then upN sk tu (sk tu + 1) else sk) := by first | rfl | ((repeat' split) <;> first | rfl | contradiction | (exfalso; omega))
                have q_287 : ((upN cl tu ((cl tu) + 1))) = (if g = 0 ∧ 0 < smQ my fe tu (be (11 * tu + fr)) (my tu) ∧ ¬ nf = 1 then upN cl tu (cl tu + 1) else cl) := by first | rfl | ((repeat' split) <;> first | rfl | contradiction | (exfalso; omega))
                have q_288 : ((upN ex ((10 * tu) + fr) 1)) = (if g = 0 ∧ 0 < smQ my fe tu (be (11 * tu + fr)) (my tu) then upN ex (10 * tu + fr) (if nf = 1 then 2 else 1) else ex) := by first | rfl | ((repeat' split) <;> first | rfl | contradiction | (exfalso; omega))
                exact x_vret C hW (by rw [← q_288, ← q_287, ← q_286, ← q_282, ← q_284, ← q_283, ← q_285]) dX5_endFrame_205
      · refine lv_aload_n C.x C.b dX5_endFrame_49 rfl (lv_at hl 1 rfl) ?_
        refine x_get C hW 0 4 12 (Cn := RX5) (T := TX5) (N := 15) rfl rfl (by decide) hinX5 hf32 rfl dX5_endFrame_50 ?_
        refine lv_aload_n C.x C.b dX5_endFrame_53 rfl (lv_at hl 1 rfl) ?_
        refine x_get C hW 0 4 6 (Cn := RX5) (T := TX5) (N := 15) rfl rfl (by decide) hinX5 hf88 rfl dX5_endFrame_54 ?_
        refine lv_dup2_11 C.x C.b dX5_endFrame_57 rfl rfl ?_
        refine x_ald C hW 6 tu rfl rfl (by omega) (by decide) dX5_endFrame_58 ?_
        refine lv_iconst (v := nI 1) C.x C.b dX5_endFrame_59 (by decide) ?_
        refine x_iadd C dX5_endFrame_60 ?_
        refine x_ast C hW 6 tu ((sk tu) + 1) rfl rfl rfl (by omega) (by decide) dX5_endFrame_61 (w' := [(h0, .inr (4, [.int x, .int (nI g), .ref k1, .ref k2, .int (nI sp), .int (nI pl), .int (nI tu), .int (nI fr), .int (nI nf), .ref k3, .ref k4, .ref k5, .ref k6, .ref k7, .ref k8])), (k1, aI E 9 w), (k2, aI E 5 aw), (k3, aI E 4 my), (k4, aI E 120 fe), (k5, aI E 44 be), (k6, aI E 4 (upN sk tu ((sk tu) + 1))), (k7, aI E 4 cl), (k8, aI E 40 ex)]) rfl (fun H locs hW => ?_)
        refine lv_aload_n C.x C.b dX5_endFrame_62 rfl (lv_at hl 1 rfl) ?_
        refine x_get C hW 0 4 14 (Cn := RX5) (T := TX5) (N := 15) rfl rfl (by decide) hinX5 hf38 rfl dX5_endFrame_63 ?_
        refine lv_bipush (v := nI 10) C.x C.b dX5_endFrame_66 (by decide) ?_
        refine lv_aload_n C.x C.b dX5_endFrame_68 rfl (lv_at hl 1 rfl) ?_
        refine x_get C hW 0 4 6 (Cn := RX5) (T := TX5) (N := 15) rfl rfl (by decide) hinX5 hf88 rfl dX5_endFrame_69 ?_
        refine x_imul C dX5_endFrame_72 ?_
        refine lv_aload_n C.x C.b dX5_endFrame_73 rfl (lv_at hl 1 rfl) ?_
        refine x_get C hW 0 4 7 (Cn := RX5) (T := TX5) (N := 15) rfl rfl (by decide) hinX5 hf72 rfl dX5_endFrame_74 ?_
        refine x_iadd C dX5_endFrame_77 ?_
        refine lv_iconst (v := nI 2) C.x C.b dX5_endFrame_78 (by decide) ?_
        refine x_ast C hW 8 ((10 * tu) + fr) 2 rfl rfl rfl (by omega) (by decide) dX5_endFrame_79 (w' := [(h0, .inr (4, [.int x, .int (nI g), .ref k1, .ref k2, .int (nI sp), .int (nI pl), .int (nI tu), .int (nI fr), .int (nI nf), .ref k3, .ref k4, .ref k5, .ref k6, .ref k7, .ref k8])), (k1, aI E 9 w), (k2, aI E 5 aw), (k3, aI E 4 my), (k4, aI E 120 fe), (k5, aI E 44 be), (k6, aI E 4 (upN sk tu ((sk tu) + 1))), (k7, aI E 4 cl), (k8, aI E 40 (upN ex ((10 * tu) + fr) 2))]) rfl (fun H locs hW => ?_)
        refine lv_goto (tgt := 125) C.x C.b dX5_endFrame_80 (by decide) ?_
        refine lv_aload_n C.x C.b dX5_endFrame_125 rfl (lv_at hl 1 rfl) ?_
        refine x_get C hW 0 4 11 (Cn := RX5) (T := TX5) (N := 15) rfl rfl (by decide) hinX5 hf29 rfl dX5_endFrame_126 ?_
        refine lv_bipush (v := nI 11) C.x C.b dX5_endFrame_129 (by decide) ?_
        refine lv_aload_n C.x C.b dX5_endFrame_131 rfl (lv_at hl 1 rfl) ?_
        refine x_get C hW 0 4 6 (Cn := RX5) (T := TX5) (N := 15) rfl rfl (by decide) hinX5 hf88 rfl dX5_endFrame_132 ?_
        refine x_imul C dX5_endFrame_135 ?_
        refine lv_aload_n C.x C.b dX5_endFrame_136 rfl (lv_at hl 1 rfl) ?_
        refine x_get C hW 0 4 7 (Cn := RX5) (T := TX5) (N := 15) rfl rfl (by decide) hinX5 hf72 rfl dX5_endFrame_137 ?_
        refine x_iadd C dX5_endFrame_140 ?_
        refine lv_iconst (v := nI 1) C.x C.b dX5_endFrame_141 (by decide) ?_
        refine x_iadd C dX5_endFrame_142 ?_
        refine lv_aload_n C.x C.b dX5_endFrame_143 rfl (lv_at hl 1 rfl) ?_
        refine x_get C hW 0 4 9 (Cn := RX5) (T := TX5) (N := 15) rfl rfl (by decide) hinX5 hf23 rfl dX5_endFrame_144 ?_
        refine lv_aload_n C.x C.b dX5_endFrame_147 rfl (lv_at hl 1 rfl) ?_
        refine x_get C hW 0 4 6 (Cn := RX5) (T := TX5) (N := 15) rfl rfl (by decide) hinX5 hf88 rfl dX5_endFrame_148 ?_
        refine x_ald C hW 3 tu rfl rfl (by omega) (by decide) dX5_endFrame_151 ?_
        refine x_ast C hW 5 (((11 * tu) + fr) + 1) (my tu) rfl rfl rfl (by omega) (by decide) dX5_endFrame_152 (w' := [(h0, .inr (4, [.int x, .int (nI g), .ref k1, .ref k2, .int (nI sp), .int (nI pl), .int (nI tu), .int (nI fr), .int (nI nf), .ref k3, .ref k4, .ref k5, .ref k6, .ref k7, .ref k8])), (k1, aI E 9 w), (k2, aI E 5 aw), (k3, aI E 4 my), (k4, aI E 120 fe), (k5, aI E 44 (upN be (((11 * tu) + fr) + 1) (my tu))), (k6, aI E 4 (upN sk tu ((sk tu) + 1))), (k7, aI E 4 cl), (k8, aI E 40 (upN ex ((10 * tu) + fr) 2))]) rfl (fun H locs hW => ?_)
        refine lv_aload_n C.x C.b dX5_endFrame_153 rfl (lv_at hl 1 rfl) ?_
        refine lv_iconst (v := nI 0) C.x C.b dX5_endFrame_154 (by decide) ?_
        refine x_put C hW 0 4 8 (Cn := RX5) (T := TX5) (N := 15) (w' := [(h0, .inr (4, [.int x, .int (nI g), .ref k1, .ref k2, .int (nI sp), .int (nI pl), .int (nI tu), .int (nI fr), .int (nI 0), .ref k3, .ref k4, .ref k5, .ref k6, .ref k7, .ref k8])), (k1, aI E 9 w), (k2, aI E 5 aw), (k3, aI E 4 my), (k4, aI E 120 fe), (k5, aI E 44 (upN be (((11 * tu) + fr) + 1) (my tu))), (k6, aI E 4 (upN sk tu ((sk tu) + 1))), (k7, aI E 4 cl), (k8, aI E 40 (upN ex ((10 * tu) + fr) 2))]) tyX5 tyX5_ok nmX5 rfl rfl (by decide) hinX5 hf97 rfl (by decide +kernel) (Nat.le_of_ble_eq_true rfl) dX5_endFrame_155 rfl (fun H locs hW => ?_)
        refine lv_aload_n C.x C.b dX5_endFrame_158 rfl (lv_at hl 1 rfl) ?_
        refine lv_dup C.x C.b dX5_endFrame_159 rfl ?_
        refine x_get C hW 0 4 6 (Cn := RX5) (T := TX5) (N := 15) rfl rfl (by decide) hinX5 hf88 rfl dX5_endFrame_160 ?_
        refine lv_iconst (v := nI 1) C.x C.b dX5_endFrame_163 (by decide) ?_
        refine x_iadd C dX5_endFrame_164 ?_
        refine x_put C hW 0 4 6 (Cn := RX5) (T := TX5) (N := 15) (w' := [(h0, .inr (4, [.int x, .int (nI g), .ref k1, .ref k2, .int (nI sp), .int (nI pl), .int (nI (tu + 1)), .int (nI fr), .int (nI 0), .ref k3, .ref k4, .ref k5, .ref k6, .ref k7, .ref k8])), (k1, aI E 9 w), (k2, aI E 5 aw), (k3, aI E 4 my), (k4, aI E 120 fe), (k5, aI E 44 (upN be (((11 * tu) + fr) + 1) (my tu))), (k6, aI E 4 (upN sk tu ((sk tu) + 1))), (k7, aI E 4 cl), (k8, aI E 40 (upN ex ((10 * tu) + fr) 2))]) tyX5 tyX5_ok nmX5 rfl rfl (by decide) hinX5 hf88 rfl (by decide +kernel) (Nat.le_of_ble_eq_true rfl) dX5_endFrame_165 rfl (fun H locs hW => ?_)
        refine lv_aload_n C.x C.b dX5_endFrame_168 rfl (lv_at hl 1 rfl) ?_
        refine x_get C hW 0 4 6 (Cn := RX5) (T := TX5) (N := 15) rfl rfl (by decide) hinX5 hf88 rfl dX5_endFrame_169 ?_
        refine lv_aload_n C.x C.b dX5_endFrame_172 rfl (lv_at hl 1 rfl) ?_
        refine x_get C hW 0 4 5 (Cn := RX5) (T := TX5) (N := 15) rfl rfl (by decide) hinX5 hf48 rfl dX5_endFrame_173 ?_
        refine x_icmp_ne C (by omega) (by omega) (tgt := 194) dX5_endFrame_176 (by decide) (fun c_289 => ?_) (fun c_289 => ?_)
        · refine lv_aload_n C.x C.b dX5_endFrame_194 rfl (lv_at hl 1 rfl) ?_
          refine x_cVI C hW (As := []) (rest := []) (wr := []) (wn := [(h0, .inr (4, [.int x, .int (nI g), .ref k1, .ref k2, .int (nI sp), .int (nI pl), .int (nI ((tu + 1))), .int (nI fr), .int (nI 0), .ref k3, .ref k4, .ref k5, .ref k6, .ref k7, .ref k8])), (k1, aI E 9 w), (k2, aI E 5 aw), (k3, aI E 4 my), (k4, aI E 120 fe), (k5, aI E 44 ((upN be (((11 * tu) + fr) + 1) (my tu)))), (k6, aI E 4 ((upN sk tu ((sk tu) + 1)))), (k7, aI E 4 cl), (k8, aI E 40 ((upN ex ((10 * tu) + fr) 2)))]) (Cn := RX5) (met_X5_over l E h0 k1 k2 k3 k4 k5 k6 k7 k8 x g sp pl (tu + 1) fr 0 w aw my fe (upN be (((11 * tu) + fr) + 1) (my tu)) (upN sk tu ((sk tu) + 1)) cl (upN ex ((10 * tu) + fr) 2) (by omega)) gX5_endFrame_X5_over rfl 0 rfl ⟨rfl, rfl⟩ ⟨rfl, by decide +kernel, by decide +kernel, by decide +kernel⟩ ⟨Nat.le_of_ble_eq_true rfl, Nat.le_of_ble_eq_true rfl⟩ [0, 1, 2, 3, 4, 5, 6, 7, 8] [] [0, 1, 2, 3, 4, 5, 6, 7, 8] rfl (by decide) rfl (by decide) (by decide) rfl (by decide) 0 4 rfl rfl hl.1 rfl (Nat.le_of_ble_eq_true rfl) dX5_endFrame_195 ⟨Nat.zero_le _, Nat.zero_le _⟩ (fun H locs hW => ?_)
          refine x_ifb_ne C (tgt := 205) dX5_endFrame_198 (by decide) (fun c_290 => ?_) (fun c_290 => ?_)
          · have q_291 : g = (if (if tu + 1 = pl then fr + 1 else fr) = 10 then g else suN w 9) := by first | rfl | ((repeat' split) <;> first | rfl | contradiction | (exfalso; omega))
            have q_292 : (tu + 1) = (if tu + 1 = pl then 0 else tu + 1) := by first | rfl | ((repeat' split) <;> first | rfl | contradiction | (exfalso; omega))
            have q_293 : fr = (if tu + 1 = pl then fr + 1 else fr) := by first | rfl | ((repeat' split) <;> first | rfl | contradiction | (exfalso; omega))
            have q_294 : (upN be (((11 * tu) + fr) + 1) (my tu)) = (upN be (11 * tu + fr + 1) (my tu)) := by first | rfl | ((repeat' split) <;> first | rfl | contradiction | (exfalso; omega))
            have q_295 : (upN sk tu ((sk tu) + 1)) = (if g = 0 ∧ 0 < smQ my fe tu (be (11 * tu + fr)) (my tu) ∧ nf = 1 then upN sk tu (sk tu + 1) else sk) := by first | rfl | ((repeat' split) <;> first | rfl | contradiction | (exfalso; omega))
            have q_296 : cl = (if g = 0 ∧ 0 < smQ my fe tu (be (11 * tu + fr)) (my tu) ∧ ¬ nf = 1 then upN cl tu (cl tu + 1) else cl) := by first | rfl | ((repeat' split) <;> first | rfl | contradiction | (exfalso; omega))
            have q_297 : (upN ex ((10 * tu) + fr) 2) = (if g = 0 ∧ 0 < smQ my fe tu (be (11 * tu + fr)) (my tu) then upN ex (10 * tu + fr) (if nf = 1 then 2 else 1) else ex) := by first | rfl | ((repeat' split) <;> first | rfl | contradiction | (exfalso; omega))
            exact x_vret C hW (by rw [← q_297, ← q_296, ← q_295, ← q_291, ← q_293, ← q_292, ← q_294]) dX5_endFrame_205
          · refine lv_aload_n C.x C.b dX5_endFrame_201 rfl (lv_at hl 1 rfl) ?_
            refine x_cVV C hW (As := []) (rest := []) (wr := []) (wn := [(h0, .inr (4, [.int x, .int (nI (suN w 9)), .ref k1, .ref k2, .int (nI sp), .int (nI pl), .int (nI (((tu + 1)))), .int (nI fr), .int (nI 0), .ref k3, .ref k4, .ref k5, .ref k6, .ref k7, .ref k8])), (k1, aI E 9 w), (k2, aI E 5 aw), (k3, aI E 4 my), (k4, aI E 120 fe), (k5, aI E 44 (((upN be (((11 * tu) + fr) + 1) (my tu))))), (k6, aI E 4 (((upN sk tu ((sk tu) + 1))))), (k7, aI E 4 cl), (k8, aI E 40 (((upN ex ((10 * tu) + fr) 2))))]) (Cn := RX5) (met_X5_putUp l E h0 k1 k2 k3 k4 k5 k6 k7 k8 x g sp pl ((tu + 1)) fr 0 w aw my fe ((upN be (((11 * tu) + fr) + 1) (my tu))) ((upN sk tu ((sk tu) + 1))) cl ((upN ex ((10 * tu) + fr) 2)) hw) gX5_endFrame_X5_putUp rfl 0 rfl ⟨rfl, rfl⟩ ⟨rfl, by decide +kernel, by decide +kernel, by decide +kernel⟩ ⟨Nat.le_of_ble_eq_true rfl, Nat.le_of_ble_eq_true rfl⟩ [0, 1, 2, 3, 4, 5, 6, 7, 8] [] [0, 1, 2, 3, 4, 5, 6, 7, 8] rfl (by decide) rfl (by decide) (by decide) rfl (by decide) 0 4 rfl rfl hl.1 rfl (Nat.le_of_ble_eq_true rfl) dX5_endFrame_202 ⟨Nat.zero_le _, Nat.zero_le _⟩ (fun H locs hW => ?_)
            have q_298 : suN w 9 = (if (if tu + 1 = pl then fr + 1 else fr) = 10 then g else suN w 9) := by first | rfl | ((repeat' split) <;> first | rfl | contradiction | (exfalso; omega))
            have q_299 : ((tu + 1)) = (if tu + 1 = pl then 0 else tu + 1) := by first | rfl | ((repeat' split) <;> first | rfl | contradiction | (exfalso; omega))
            have q_300 : fr = (if tu + 1 = pl then fr + 1 else fr) := by first | rfl | ((repeat' split) <;> first | rfl | contradiction | (exfalso; omega))
            have q_301 : ((upN be (((11 * tu) + fr) + 1) (my tu))) = (upN be (11 * tu + fr + 1) (my tu)) := by first | rfl | ((repeat' split) <;> first | rfl | contradiction | (exfalso; omega))
            have q_302 : ((upN sk tu ((sk tu) + 1))) = (if g = 0 ∧ 0 < smQ my fe tu (be (11 * tu + fr)) (my tu) ∧ nf = 1 then upN sk tu (sk tu + 1) else sk) := by first | rfl | ((repeat' split) <;> first | rfl | contradiction | (exfalso; omega))
            have q_303 : cl = (if g = 0 ∧ 0 < smQ my fe tu (be (11 * tu + fr)) (my tu) ∧ ¬ nf = 1 then upN cl tu (cl tu + 1) else cl) := by first | rfl | ((repeat' split) <;> first | rfl | contradiction | (exfalso; omega))
            have q_304 : ((upN ex ((10 * tu) + fr) 2)) = (if g = 0 ∧ 0 < smQ my fe tu (be (11 * tu + fr)) (my tu) then upN ex (10 * tu + fr) (if nf = 1 then 2 else 1) else ex) := by first | rfl | ((repeat' split) <;> first | rfl | contradiction | (exfalso; omega))
            exact x_vret C hW (by rw [← q_304, ← q_303, ← q_302, ← q_298, ← q_300, ← q_299, ← q_301]) dX5_endFrame_205
        · refine lv_aload_n C.x C.b dX5_endFrame_179 rfl (lv_at hl 1 rfl) ?_
          refine lv_iconst (v := nI 0) C.x C.b dX5_endFrame_180 (by decide) ?_
          refine x_put C hW 0 4 6 (Cn := RX5) (T := TX5) (N := 15) (w' := [(h0, .inr (4, [.int x, .int (nI g), .ref k1, .ref k2, .int (nI sp), .int (nI pl), .int (nI 0), .int (nI fr), .int (nI 0), .ref k3, .ref k4, .ref k5, .ref k6, .ref k7, .ref k8])), (k1, aI E 9 w), (k2, aI E 5 aw), (k3, aI E 4 my), (k4, aI E 120 fe), (k5, aI E 44 (upN be (((11 * tu) + fr) + 1) (my tu))), (k6, aI E 4 (upN sk tu ((sk tu) + 1))), (k7, aI E 4 cl), (k8, aI E 40 (upN ex ((10 * tu) + fr) 2))]) tyX5 tyX5_ok nmX5 rfl rfl (by decide) hinX5 hf88 rfl (by decide +kernel) (Nat.le_of_ble_eq_true rfl) dX5_endFrame_181 rfl (fun H locs hW => ?_)
          refine lv_aload_n C.x C.b dX5_endFrame_184 rfl (lv_at hl 1 rfl) ?_
          refine lv_dup C.x C.b dX5_endFrame_185 rfl ?_
          refine x_get C hW 0 4 7 (Cn := RX5) (T := TX5) (N := 15) rfl rfl (by decide) hinX5 hf72 rfl dX5_endFrame_186 ?_
          refine lv_iconst (v := nI 1) C.x C.b dX5_endFrame_189 (by decide) ?_
          refine x_iadd C dX5_endFrame_190 ?_
          refine x_put C hW 0 4 7 (Cn := RX5) (T := TX5) (N := 15) (w' := [(h0, .inr (4, [.int x, .int (nI g), .ref k1, .ref k2, .int (nI sp), .int (nI pl), .int (nI 0), .int (nI (fr + 1)), .int (nI 0), .ref k3, .ref k4, .ref k5, .ref k6, .ref k7, .ref k8])), (k1, aI E 9 w), (k2, aI E 5 aw), (k3, aI E 4 my), (k4, aI E 120 fe), (k5, aI E 44 (upN be (((11 * tu) + fr) + 1) (my tu))), (k6, aI E 4 (upN sk tu ((sk tu) + 1))), (k7, aI E 4 cl), (k8, aI E 40 (upN ex ((10 * tu) + fr) 2))]) tyX5 tyX5_ok nmX5 rfl rfl (by decide) hinX5 hf72 rfl (by decide +kernel) (Nat.le_of_ble_eq_true rfl) dX5_endFrame_191 rfl (fun H locs hW => ?_)
          refine lv_aload_n C.x C.b dX5_endFrame_194 rfl (lv_at hl 1 rfl) ?_
          refine x_cVI C hW (As := []) (rest := []) (wr := []) (wn := [(h0, .inr (4, [.int x, .int (nI g), .ref k1, .ref k2, .int (nI sp), .int (nI pl), .int (nI 0), .int (nI ((fr + 1))), .int (nI 0), .ref k3, .ref k4, .ref k5, .ref k6, .ref k7, .ref k8])), (k1, aI E 9 w), (k2, aI E 5 aw), (k3, aI E 4 my), (k4, aI E 120 fe), (k5, aI E 44 ((upN be (((11 * tu) + fr) + 1) (my tu)))), (k6, aI E 4 ((upN sk tu ((sk tu) + 1)))), (k7, aI E 4 cl), (k8, aI E 40 ((upN ex ((10 * tu) + fr) 2)))]) (Cn := RX5) (met_X5_over l E h0 k1 k2 k3 k4 k5 k6 k7 k8 x g sp pl 0 (fr + 1) 0 w aw my fe (upN be (((11 * tu) + fr) + 1) (my tu)) (upN sk tu ((sk tu) + 1)) cl (upN ex ((10 * tu) + fr) 2) (by omega)) gX5_endFrame_X5_over rfl 0 rfl ⟨rfl, rfl⟩ ⟨rfl, by decide +kernel, by decide +kernel, by decide +kernel⟩ ⟨Nat.le_of_ble_eq_true rfl, Nat.le_of_ble_eq_true rfl⟩ [0, 1, 2, 3, 4, 5, 6, 7, 8] [] [0, 1, 2, 3, 4, 5, 6, 7, 8] rfl (by decide) rfl (by decide) (by decide) rfl (by decide) 0 4 rfl rfl hl.1 rfl (Nat.le_of_ble_eq_true rfl) dX5_endFrame_195 ⟨Nat.zero_le _, Nat.zero_le _⟩ (fun H locs hW => ?_)
          refine x_ifb_ne C (tgt := 205) dX5_endFrame_198 (by decide) (fun c_305 => ?_) (fun c_305 => ?_)
          · have q_306 : g = (if (if tu + 1 = pl then fr + 1 else fr) = 10 then g else suN w 9) := by first | rfl | ((repeat' split) <;> first | rfl | contradiction | (exfalso; omega))
            have q_307 : 0 = (if tu + 1 = pl then 0 else tu + 1) := by first | rfl | ((repeat' split) <;> first | rfl | contradiction | (exfalso; omega))
            have q_308 : (fr + 1) = (if tu + 1 = pl then fr + 1 else fr) := by first | rfl | ((repeat' split) <;> first | rfl | contradiction | (exfalso; omega))
            have q_309 : (upN be (((11 * tu) + fr) + 1) (my tu)) = (upN be (11 * tu + fr + 1) (my tu)) := by first | rfl | ((repeat' split) <;> first | rfl | contradiction | (exfalso; omega))
            have q_310 : (upN sk tu ((sk tu) + 1)) = (if g = 0 ∧ 0 < smQ my fe tu (be (11 * tu + fr)) (my tu) ∧ nf = 1 then upN sk tu (sk tu + 1) else sk) := by first | rfl | ((repeat' split) <;> first | rfl | contradiction | (exfalso; omega))
            have q_311 : cl = (if g = 0 ∧ 0 < smQ my fe tu (be (11 * tu + fr)) (my tu) ∧ ¬ nf = 1 then upN cl tu (cl tu + 1) else cl) := by first | rfl | ((repeat' split) <;> first | rfl | contradiction | (exfalso; omega))
            have q_312 : (upN ex ((10 * tu) + fr) 2) = (if g = 0 ∧ 0 < smQ my fe tu (be (11 * tu + fr)) (my tu) then upN ex (10 * tu + fr) (if nf = 1 then 2 else 1) else ex) := by first | rfl | ((repeat' split) <;> first | rfl | contradiction | (exfalso; omega))
            exact x_vret C hW (by rw [← q_312, ← q_311, ← q_310, ← q_306, ← q_308, ← q_307, ← q_309]) dX5_endFrame_205
          · refine lv_aload_n C.x C.b dX5_endFrame_201 rfl (lv_at hl 1 rfl) ?_
            refine x_cVV C hW (As := []) (rest := []) (wr := []) (wn := [(h0, .inr (4, [.int x, .int (nI (suN w 9)), .ref k1, .ref k2, .int (nI sp), .int (nI pl), .int (nI 0), .int (nI (((fr + 1)))), .int (nI 0), .ref k3, .ref k4, .ref k5, .ref k6, .ref k7, .ref k8])), (k1, aI E 9 w), (k2, aI E 5 aw), (k3, aI E 4 my), (k4, aI E 120 fe), (k5, aI E 44 (((upN be (((11 * tu) + fr) + 1) (my tu))))), (k6, aI E 4 (((upN sk tu ((sk tu) + 1))))), (k7, aI E 4 cl), (k8, aI E 40 (((upN ex ((10 * tu) + fr) 2))))]) (Cn := RX5) (met_X5_putUp l E h0 k1 k2 k3 k4 k5 k6 k7 k8 x g sp pl 0 ((fr + 1)) 0 w aw my fe ((upN be (((11 * tu) + fr) + 1) (my tu))) ((upN sk tu ((sk tu) + 1))) cl ((upN ex ((10 * tu) + fr) 2)) hw) gX5_endFrame_X5_putUp rfl 0 rfl ⟨rfl, rfl⟩ ⟨rfl, by decide +kernel, by decide +kernel, by decide +kernel⟩ ⟨Nat.le_of_ble_eq_true rfl, Nat.le_of_ble_eq_true rfl⟩ [0, 1, 2, 3, 4, 5, 6, 7, 8] [] [0, 1, 2, 3, 4, 5, 6, 7, 8] rfl (by decide) rfl (by decide) (by decide) rfl (by decide) 0 4 rfl rfl hl.1 rfl (Nat.le_of_ble_eq_true rfl) dX5_endFrame_202 ⟨Nat.zero_le _, Nat.zero_le _⟩ (fun H locs hW => ?_)
            have q_313 : suN w 9 = (if (if tu + 1 = pl then fr + 1 else fr) = 10 then g else suN w 9) := by first | rfl | ((repeat' split) <;> first | rfl | contradiction | (exfalso; omega))
            have q_314 : 0 = (if tu + 1 = pl then 0 else tu + 1) := by first | rfl | ((repeat' split) <;> first | rfl | contradiction | (exfalso; omega))
            have q_315 : ((fr + 1)) = (if tu + 1 = pl then fr + 1 else fr) := by first | rfl | ((repeat' split) <;> first | rfl | contradiction | (exfalso; omega))
            have q_316 : ((upN be (((11 * tu) + fr) + 1) (my tu))) = (upN be (11 * tu + fr + 1) (my tu)) := by first | rfl | ((repeat' split) <;> first | rfl | contradiction | (exfalso; omega))
            have q_317 : ((upN sk tu ((sk tu) + 1))) = (if g = 0 ∧ 0 < smQ my fe tu (be (11 * tu + fr)) (my tu) ∧ nf = 1 then upN sk tu (sk tu + 1) else sk) := by first | rfl | ((repeat' split) <;> first | rfl | contradiction | (exfalso; omega))
            have q_318 : cl = (if g = 0 ∧ 0 < smQ my fe tu (be (11 * tu + fr)) (my tu) ∧ ¬ nf = 1 then upN cl tu (cl tu + 1) else cl) := by first | rfl | ((repeat' split) <;> first | rfl | contradiction | (exfalso; omega))
            have q_319 : ((upN ex ((10 * tu) + fr) 2)) = (if g = 0 ∧ 0 < smQ my fe tu (be (11 * tu + fr)) (my tu) then upN ex (10 * tu + fr) (if nf = 1 then 2 else 1) else ex) := by first | rfl | ((repeat' split) <;> first | rfl | contradiction | (exfalso; omega))
            exact x_vret C hW (by rw [← q_319, ← q_318, ← q_317, ← q_313, ← q_315, ← q_314, ← q_316]) dX5_endFrame_205

set_option maxHeartbeats 4000000 in
set_option maxRecDepth 100000 in
theorem met_X5_play_go (l : Launch) (E : EV) (h0 k1 k2 k3 k4 k5 k6 k7 k8 : Nat) (x : Int32) (g sp pl tu fr nf : Nat) (w aw my fe be sk cl ex : Nat → Nat) (b z : Nat) (hg : g < 512) (hb : b < 5) (hz : z < 5) (ha : ∀ i, aw i ≤ 2) (htu : tu < 4) (hpl : pl ≤ 4) (hmt : my tu < 30) (hnf : nf ≤ 2) (hgo : ¬ roN g b z = 0) (hg2 : ¬ nf + 1 = 3) : MI l yX5_play wsX5_play { frames := 6, cells := 0, slots := 0, locals := 138 } E [.ref h0, .int (nI b), .int (nI z)] [(h0, .inr (4, [.int x, .int (nI g), .ref k1, .ref k2, .int (nI sp), .int (nI pl), .int (nI tu), .int (nI fr), .int (nI nf), .ref k3, .ref k4, .ref k5, .ref k6, .ref k7, .ref k8])), (k1, aI E 9 w), (k2, aI E 5 aw), (k3, aI E 4 my), (k4, aI E 120 fe), (k5, aI E 44 be), (k6, aI E 4 sk), (k7, aI E 4 cl), (k8, aI E 40 ex)] (nI (pcN (feN g b z))) [(h0, .inr (4, [.int x, .int (nI (roN g b z)), .ref k1, .ref k2, .int (nI sp), .int (nI pl), .int (nI tu), .int (nI fr), .int (nI (nf + 1)), .ref k3, .ref k4, .ref k5, .ref k6, .ref k7, .ref k8])), (k1, aI E 9 (pwW (feN g b z) w 9)), (k2, aI E 5 (upN (snW aw 5) b 2)), (k3, aI E 4 (upN my tu (my tu + 1))), (k4, aI E 120 (upN fe (30 * tu + my tu) (pcN (feN g b z)))), (k5, aI E 44 be), (k6, aI E 4 sk), (k7, aI E 4 cl), (k8, aI E 40 ex)] := by
  refine sI (own := RX5) (cc := cX5_play) (maxL := 6) (ret := (some .int)) rfl (by decide) rfl (Nat.le_of_ble_eq_true rfl) ?_
  intro p e s m below meth c C hnm ls hl hW
  have hl : lv_has ls 6 [(0, .ref h0), (1, .int (nI b)), (2, .int (nI z))] := hl
  have hW : WD E _ s [(h0, .inr (4, [.int x, .int (nI g), .ref k1, .ref k2, .int (nI sp), .int (nI pl), .int (nI tu), .int (nI fr), .int (nI nf), .ref k3, .ref k4, .ref k5, .ref k6, .ref k7, .ref k8])), (k1, aI E 9 w), (k2, aI E 5 aw), (k3, aI E 4 my), (k4, aI E 120 fe), (k5, aI E 44 be), (k6, aI E 4 sk), (k7, aI E 4 cl), (k8, aI E 40 ex)] s.heap [] := hW
  have hinX5 : ∀ w ∈ u_ws RX5 TX5 15, w ∈ wsX5_play := by decide +kernel
  have hf9 : Cond.fieldLink RX5 9 (TX5 1).1 (TX5 1).2.1 (TX5 1).2.2.1 ∈ wsX5_play := by decide +kernel
  have hf13 : Cond.fieldLink RX5 13 (TX5 2).1 (TX5 2).2.1 (TX5 2).2.2.1 ∈ wsX5_play := by decide +kernel
  have hf17 : Cond.fieldLink RX5 17 (TX5 3).1 (TX5 3).2.1 (TX5 3).2.2.1 ∈ wsX5_play := by decide +kernel
  have hf88 : Cond.fieldLink RX5 88 (TX5 6).1 (TX5 6).2.1 (TX5 6).2.2.1 ∈ wsX5_play := by decide +kernel
  have hf97 : Cond.fieldLink RX5 97 (TX5 8).1 (TX5 8).2.1 (TX5 8).2.2.1 ∈ wsX5_play := by decide +kernel
  have hf23 : Cond.fieldLink RX5 23 (TX5 9).1 (TX5 9).2.1 (TX5 9).2.2.1 ∈ wsX5_play := by decide +kernel
  have hf26 : Cond.fieldLink RX5 26 (TX5 10).1 (TX5 10).2.1 (TX5 10).2.2.1 ∈ wsX5_play := by decide +kernel
  refine lv_aload_n C.x C.b dX5_play_0 rfl (lv_at hl 0 rfl) ?_
  refine x_get C hW 0 4 1 (Cn := RX5) (T := TX5) (N := 15) rfl rfl (by decide) hinX5 hf9 rfl dX5_play_1 ?_
  refine lv_iload_n C.x C.b dX5_play_4 rfl (lv_at hl 1 rfl) ?_
  refine lv_iload_n C.x C.b dX5_play_5 rfl (lv_at hl 2 rfl) ?_
  refine x_cSI C hW (As := [.int (nI g), .int (nI b), .int (nI z)]) (rest := []) (wr := [(h0, .inr (4, [.int x, .int (nI g), .ref k1, .ref k2, .int (nI sp), .int (nI pl), .int (nI tu), .int (nI fr), .int (nI nf), .ref k3, .ref k4, .ref k5, .ref k6, .ref k7, .ref k8])), (k1, aI E 9 w), (k2, aI E 5 aw), (k3, aI E 4 my), (k4, aI E 120 fe), (k5, aI E 44 be), (k6, aI E 4 sk), (k7, aI E 4 cl), (k8, aI E 40 ex)]) (wn := [(h0, .inr (4, [.int x, .int (nI g), .ref k1, .ref k2, .int (nI sp), .int (nI pl), .int (nI tu), .int (nI fr), .int (nI nf), .ref k3, .ref k4, .ref k5, .ref k6, .ref k7, .ref k8])), (k1, aI E 9 w), (k2, aI E 5 aw), (k3, aI E 4 my), (k4, aI E 120 fe), (k5, aI E 44 be), (k6, aI E 4 sk), (k7, aI E 4 cl), (k8, aI E 40 ex)]) (met_X5_roll l E g b z (by omega) (by omega) (by omega)) gX5_play_X5_roll rfl 3 rfl ⟨rfl, rfl⟩ ⟨by decide +kernel, by decide +kernel, by decide +kernel⟩ ⟨Nat.le_of_ble_eq_true rfl, Nat.le_of_ble_eq_true rfl⟩ [] [0, 1, 2, 3, 4, 5, 6, 7, 8] [0, 1, 2, 3, 4, 5, 6, 7, 8] rfl (by decide) rfl (by decide) (by decide) rfl (by decide) hl.1 rfl (Nat.le_of_ble_eq_true rfl) dX5_play_6 ⟨Nat.zero_le _, Nat.zero_le _⟩ (fun H locs hW => ?_)
  refine lv_istore_n (lv' := [(3, .int (nI (roN g b z))), (0, .ref h0), (1, .int (nI b)), (2, .int (nI z))]) C.x C.b dX5_play_9 rfl hl (by decide) rfl (fun ls hl => ?_)
  refine lv_aload_n C.x C.b dX5_play_10 rfl (lv_at hl 1 rfl) ?_
  refine x_get C hW 0 4 1 (Cn := RX5) (T := TX5) (N := 15) rfl rfl (by decide) hinX5 hf9 rfl dX5_play_11 ?_
  refine lv_iload_n C.x C.b dX5_play_14 rfl (lv_at hl 0 rfl) ?_
  refine lv_ixor C.x C.b dX5_play_15 ?_
  refine x_toi (y := nI (feN g b z)) ((z_xor _ _).trans (congrArg nI (fe_xor hg))) ?_
  refine x_cSI C hW (As := [.int (nI (feN g b z))]) (rest := []) (wr := [(h0, .inr (4, [.int x, .int (nI g), .ref k1, .ref k2, .int (nI sp), .int (nI pl), .int (nI tu), .int (nI fr), .int (nI nf), .ref k3, .ref k4, .ref k5, .ref k6, .ref k7, .ref k8])), (k1, aI E 9 w), (k2, aI E 5 aw), (k3, aI E 4 my), (k4, aI E 120 fe), (k5, aI E 44 be), (k6, aI E 4 sk), (k7, aI E 4 cl), (k8, aI E 40 ex)]) (wn := [(h0, .inr (4, [.int x, .int (nI g), .ref k1, .ref k2, .int (nI sp), .int (nI pl), .int (nI tu), .int (nI fr), .int (nI nf), .ref k3, .ref k4, .ref k5, .ref k6, .ref k7, .ref k8])), (k1, aI E 9 w), (k2, aI E 5 aw), (k3, aI E 4 my), (k4, aI E 120 fe), (k5, aI E 44 be), (k6, aI E 4 sk), (k7, aI E 4 cl), (k8, aI E 40 ex)]) (met_J6_bitCount_0f7a4 l E (feN g b z) (fe_lt hg)) gX5_play_J6_bitCount_0f7a4 rfl 1 rfl ⟨rfl, rfl⟩ ⟨by decide +kernel, by decide +kernel, by decide +kernel⟩ ⟨Nat.le_of_ble_eq_true rfl, Nat.le_of_ble_eq_true rfl⟩ [] [0, 1, 2, 3, 4, 5, 6, 7, 8] [0, 1, 2, 3, 4, 5, 6, 7, 8] rfl (by decide) rfl (by decide) (by decide) rfl (by decide) hl.1 rfl (Nat.le_of_ble_eq_true rfl) dX5_play_16 ⟨Nat.zero_le _, Nat.zero_le _⟩ (fun H locs hW => ?_)
  refine lv_istore (lv' := [(4, .int (nI (pcN (feN g b z)))), (3, .int (nI (roN g b z))), (0, .ref h0), (1, .int (nI b)), (2, .int (nI z))]) C.x C.b dX5_play_19 hl (by decide) rfl (fun ls hl => ?_)
  refine lv_iconst (v := nI 0) C.x C.b dX5_play_21 (by decide) ?_
  refine lv_istore (lv' := [(5, .int (nI 0)), (4, .int (nI (pcN (feN g b z)))), (3, .int (nI (roN g b z))), (0, .ref h0), (1, .int (nI b)), (2, .int (nI z))]) C.x C.b dX5_play_22 hl (by decide) rfl (fun ls hl => ?_)
  have lp_1 : ∀ (n1 i : Nat), i ≤ 9 → 9 + 1 ≤ i + n1 → ∀ (H : Heap) (locs : List Loc) (ls : Array Slot), WD E (va_A [(h0, .inr (4, [.int x, .int (nI g), .ref k1, .ref k2, .int (nI sp), .int (nI pl), .int (nI tu), .int (nI fr), .int (nI nf), .ref k3, .ref k4, .ref k5, .ref k6, .ref k7, .ref k8])), (k1, aI E 9 w), (k2, aI E 5 aw), (k3, aI E 4 my), (k4, aI E 120 fe), (k5, aI E 44 be), (k6, aI E 4 sk), (k7, aI E 4 cl), (k8, aI E 40 ex)] s.heap.size) s [(h0, .inr (4, [.int x, .int (nI g), .ref k1, .ref k2, .int (nI sp), .int (nI pl), .int (nI tu), .int (nI fr), .int (nI nf), .ref k3, .ref k4, .ref k5, .ref k6, .ref k7, .ref k8])), (k1, aI E 9 (pwW (feN g b z) w i)), (k2, aI E 5 aw), (k3, aI E 4 my), (k4, aI E 120 fe), (k5, aI E 44 be), (k6, aI E 4 sk), (k7, aI E 4 cl), (k8, aI E 40 ex)] H locs → lv_has ls 6 [(5, .int (nI i)), (4, .int (nI (pcN (feN g b z)))), (3, .int (nI (roN g b z))), (0, .ref h0), (1, .int (nI b)), (2, .int (nI z))] → W p l e ({ frames := 6, cells := 0, slots := 0, locals := 138 } : Room) s m ([.ref h0, .int (nI b), .int (nI z)] : List Value).toArray below meth c H locs 0 0 (QI E [(h0, .inr (4, [.int x, .int (nI g), .ref k1, .ref k2, .int (nI sp), .int (nI pl), .int (nI tu), .int (nI fr), .int (nI nf), .ref k3, .ref k4, .ref k5, .ref k6, .ref k7, .ref k8])), (k1, aI E 9 w), (k2, aI E 5 aw), (k3, aI E 4 my), (k4, aI E 120 fe), (k5, aI E 44 be), (k6, aI E 4 sk), (k7, aI E 4 cl), (k8, aI E 40 ex)] (nI (pcN (feN g b z))) [(h0, .inr (4, [.int x, .int (nI (roN g b z)), .ref k1, .ref k2, .int (nI sp), .int (nI pl), .int (nI tu), .int (nI fr), .int (nI (nf + 1)), .ref k3, .ref k4, .ref k5, .ref k6, .ref k7, .ref k8])), (k1, aI E 9 (pwW (feN g b z) w 9)), (k2, aI E 5 (upN (snW aw 5) b 2)), (k3, aI E 4 (upN my tu (my tu + 1))), (k4, aI E 120 (upN fe (30 * tu + my tu) (pcN (feN g b z)))), (k5, aI E 44 be), (k6, aI E 4 sk), (k7, aI E 4 cl), (k8, aI E 40 ex)] below ([.ref h0, .int (nI b), .int (nI z)] : List Value).toArray s) (F0 m 24 ls []) := by
    intro n1
    induction n1 with
    | zero => intro i hi hn; exact absurd hn (by omega)
    | succ n1 ih1 =>
      intro i hi hn  H locs ls hW hl
      refine lv_iload C.x C.b dX5_play_24 (lv_at hl 0 rfl) ?_
      refine lv_bipush (v := nI 9) C.x C.b dX5_play_26 (by decide) ?_
      refine x_icmp_ge C (by omega) (by omega) (tgt := 58) dX5_play_28 (by decide) (fun c_2 => ?_) (fun c_2 => ?_)
      · obtain rfl : i = 9 := by omega
        refine lv_aload_n C.x C.b dX5_play_58 rfl (lv_at hl 3 rfl) ?_
        refine lv_iload_n C.x C.b dX5_play_59 rfl (lv_at hl 2 rfl) ?_
        refine x_put C hW 0 4 1 (Cn := RX5) (T := TX5) (N := 15) (w' := [(h0, .inr (4, [.int x, .int (nI (roN g b z)), .ref k1, .ref k2, .int (nI sp), .int (nI pl), .int (nI tu), .int (nI fr), .int (nI nf), .ref k3, .ref k4, .ref k5, .ref k6, .ref k7, .ref k8])), (k1, aI E 9 (pwW (feN g b z) w 9)), (k2, aI E 5 aw), (k3, aI E 4 my), (k4, aI E 120 fe), (k5, aI E 44 be), (k6, aI E 4 sk), (k7, aI E 4 cl), (k8, aI E 40 ex)]) tyX5 tyX5_ok nmX5 rfl rfl (by decide) hinX5 hf9 rfl (by decide +kernel) (Nat.le_of_ble_eq_true rfl) dX5_play_60 rfl (fun H locs hW => ?_)
        refine lv_iconst (v := nI 0) C.x C.b dX5_play_63 (by decide) ?_
        refine lv_istore (lv' := [(5, .int (nI 0)), (4, .int (nI (pcN (feN g b z)))), (3, .int (nI (roN g b z))), (0, .ref h0), (1, .int (nI b)), (2, .int (nI z))]) C.x C.b dX5_play_64 hl (by decide) rfl (fun ls hl => ?_)
        have lp_3 : ∀ (n3 i : Nat), i ≤ 5 → 5 + 1 ≤ i + n3 → ∀ (H : Heap) (locs : List Loc) (ls : Array Slot), WD E (va_A [(h0, .inr (4, [.int x, .int (nI g), .ref k1, .ref k2, .int (nI sp), .int (nI pl), .int (nI tu), .int (nI fr), .int (nI nf), .ref k3, .ref k4, .ref k5, .ref k6, .ref k7, .ref k8])), (k1, aI E 9 w), (k2, aI E 5 aw), (k3, aI E 4 my), (k4, aI E 120 fe), (k5, aI E 44 be), (k6, aI E 4 sk), (k7, aI E 4 cl), (k8, aI E 40 ex)] s.heap.size) s [(h0, .inr (4, [.int x, .int (nI (roN g b z)), .ref k1, .ref k2, .int (nI sp), .int (nI pl), .int (nI tu), .int (nI fr), .int (nI nf), .ref k3, .ref k4, .ref k5, .ref k6, .ref k7, .ref k8])), (k1, aI E 9 (pwW (feN g b z) w 9)), (k2, aI E 5 (snW aw i)), (k3, aI E 4 my), (k4, aI E 120 fe), (k5, aI E 44 be), (k6, aI E 4 sk), (k7, aI E 4 cl), (k8, aI E 40 ex)] H locs → lv_has ls 6 [(5, .int (nI i)), (4, .int (nI (pcN (feN g b z)))), (3, .int (nI (roN g b z))), (0, .ref h0), (1, .int (nI b)), (2, .int (nI z))] → W p l e ({ frames := 6, cells := 0, slots := 0, locals := 138 } : Room) s m ([.ref h0, .int (nI b), .int (nI z)] : List Value).toArray below meth c H locs 0 0 (QI E [(h0, .inr (4, [.int x, .int (nI g), .ref k1, .ref k2, .int (nI sp), .int (nI pl), .int (nI tu), .int (nI fr), .int (nI nf), .ref k3, .ref k4, .ref k5, .ref k6, .ref k7, .ref k8])), (k1, aI E 9 w), (k2, aI E 5 aw), (k3, aI E 4 my), (k4, aI E 120 fe), (k5, aI E 44 be), (k6, aI E 4 sk), (k7, aI E 4 cl), (k8, aI E 40 ex)] (nI (pcN (feN g b z))) [(h0, .inr (4, [.int x, .int (nI (roN g b z)), .ref k1, .ref k2, .int (nI sp), .int (nI pl), .int (nI tu), .int (nI fr), .int (nI (nf + 1)), .ref k3, .ref k4, .ref k5, .ref k6, .ref k7, .ref k8])), (k1, aI E 9 (pwW (feN g b z) w 9)), (k2, aI E 5 (upN (snW aw 5) b 2)), (k3, aI E 4 (upN my tu (my tu + 1))), (k4, aI E 120 (upN fe (30 * tu + my tu) (pcN (feN g b z)))), (k5, aI E 44 be), (k6, aI E 4 sk), (k7, aI E 4 cl), (k8, aI E 40 ex)] below ([.ref h0, .int (nI b), .int (nI z)] : List Value).toArray s) (F0 m 66 ls []) := by
          intro n3
          induction n3 with
          | zero => intro i hi hn; exact absurd hn (by omega)
          | succ n3 ih3 =>
            intro i hi hn  H locs ls hW hl
            refine lv_iload C.x C.b dX5_play_66 (lv_at hl 0 rfl) ?_
            refine lv_iconst (v := nI 5) C.x C.b dX5_play_68 (by decide) ?_
            refine x_icmp_ge C (by omega) (by omega) (tgt := 98) dX5_play_69 (by decide) (fun c_4 => ?_) (fun c_4 => ?_)
            · obtain rfl : i = 5 := by omega
              refine lv_aload_n C.x C.b dX5_play_98 rfl (lv_at hl 3 rfl) ?_
              refine x_get C hW 0 4 3 (Cn := RX5) (T := TX5) (N := 15) rfl rfl (by decide) hinX5 hf17 rfl dX5_play_99 ?_
              refine lv_iload_n C.x C.b dX5_play_102 rfl (lv_at hl 4 rfl) ?_
              refine lv_iconst (v := nI 2) C.x C.b dX5_play_103 (by decide) ?_
              refine x_ast C hW 2 b 2 rfl rfl rfl (by omega) (by decide) dX5_play_104 (w' := [(h0, .inr (4, [.int x, .int (nI (roN g b z)), .ref k1, .ref k2, .int (nI sp), .int (nI pl), .int (nI tu), .int (nI fr), .int (nI nf), .ref k3, .ref k4, .ref k5, .ref k6, .ref k7, .ref k8])), (k1, aI E 9 (pwW (feN g b z) w 9)), (k2, aI E 5 (upN (snW aw 5) b 2)), (k3, aI E 4 my), (k4, aI E 120 fe), (k5, aI E 44 be), (k6, aI E 4 sk), (k7, aI E 4 cl), (k8, aI E 40 ex)]) rfl (fun H locs hW => ?_)
              refine lv_aload_n C.x C.b dX5_play_105 rfl (lv_at hl 3 rfl) ?_
              refine x_get C hW 0 4 10 (Cn := RX5) (T := TX5) (N := 15) rfl rfl (by decide) hinX5 hf26 rfl dX5_play_106 ?_
              refine lv_bipush (v := nI 30) C.x C.b dX5_play_109 (by decide) ?_
              refine lv_aload_n C.x C.b dX5_play_111 rfl (lv_at hl 3 rfl) ?_
              refine x_get C hW 0 4 6 (Cn := RX5) (T := TX5) (N := 15) rfl rfl (by decide) hinX5 hf88 rfl dX5_play_112 ?_
              refine x_imul C dX5_play_115 ?_
              refine lv_aload_n C.x C.b dX5_play_116 rfl (lv_at hl 3 rfl) ?_
              refine x_get C hW 0 4 9 (Cn := RX5) (T := TX5) (N := 15) rfl rfl (by decide) hinX5 hf23 rfl dX5_play_117 ?_
              refine lv_aload_n C.x C.b dX5_play_120 rfl (lv_at hl 3 rfl) ?_
              refine x_get C hW 0 4 6 (Cn := RX5) (T := TX5) (N := 15) rfl rfl (by decide) hinX5 hf88 rfl dX5_play_121 ?_
              refine x_ald C hW 3 tu rfl rfl (by omega) (by decide) dX5_play_124 ?_
              refine x_iadd C dX5_play_125 ?_
              refine lv_iload C.x C.b dX5_play_126 (lv_at hl 1 rfl) ?_
              refine x_ast C hW 4 ((30 * tu) + (my tu)) (pcN (feN g b z)) rfl rfl rfl (by omega) (by decide) dX5_play_128 (w' := [(h0, .inr (4, [.int x, .int (nI (roN g b z)), .ref k1, .ref k2, .int (nI sp), .int (nI pl), .int (nI tu), .int (nI fr), .int (nI nf), .ref k3, .ref k4, .ref k5, .ref k6, .ref k7, .ref k8])), (k1, aI E 9 (pwW (feN g b z) w 9)), (k2, aI E 5 (upN (snW aw 5) b 2)), (k3, aI E 4 my), (k4, aI E 120 (upN fe ((30 * tu) + (my tu)) (pcN (feN g b z)))), (k5, aI E 44 be), (k6, aI E 4 sk), (k7, aI E 4 cl), (k8, aI E 40 ex)]) rfl (fun H locs hW => ?_)
              refine lv_aload_n C.x C.b dX5_play_129 rfl (lv_at hl 3 rfl) ?_
              refine x_get C hW 0 4 9 (Cn := RX5) (T := TX5) (N := 15) rfl rfl (by decide) hinX5 hf23 rfl dX5_play_130 ?_
              refine lv_aload_n C.x C.b dX5_play_133 rfl (lv_at hl 3 rfl) ?_
              refine x_get C hW 0 4 6 (Cn := RX5) (T := TX5) (N := 15) rfl rfl (by decide) hinX5 hf88 rfl dX5_play_134 ?_
              refine lv_dup2_11 C.x C.b dX5_play_137 rfl rfl ?_
              refine x_ald C hW 3 tu rfl rfl (by omega) (by decide) dX5_play_138 ?_
              refine lv_iconst (v := nI 1) C.x C.b dX5_play_139 (by decide) ?_
              refine x_iadd C dX5_play_140 ?_
              refine x_ast C hW 3 tu ((my tu) + 1) rfl rfl rfl (by omega) (by decide) dX5_play_141 (w' := [(h0, .inr (4, [.int x, .int (nI (roN g b z)), .ref k1, .ref k2, .int (nI sp), .int (nI pl), .int (nI tu), .int (nI fr), .int (nI nf), .ref k3, .ref k4, .ref k5, .ref k6, .ref k7, .ref k8])), (k1, aI E 9 (pwW (feN g b z) w 9)), (k2, aI E 5 (upN (snW aw 5) b 2)), (k3, aI E 4 (upN my tu ((my tu) + 1))), (k4, aI E 120 (upN fe ((30 * tu) + (my tu)) (pcN (feN g b z)))), (k5, aI E 44 be), (k6, aI E 4 sk), (k7, aI E 4 cl), (k8, aI E 40 ex)]) rfl (fun H locs hW => ?_)
              refine lv_aload_n C.x C.b dX5_play_142 rfl (lv_at hl 3 rfl) ?_
              refine lv_dup C.x C.b dX5_play_143 rfl ?_
              refine x_get C hW 0 4 8 (Cn := RX5) (T := TX5) (N := 15) rfl rfl (by decide) hinX5 hf97 rfl dX5_play_144 ?_
              refine lv_iconst (v := nI 1) C.x C.b dX5_play_147 (by decide) ?_
              refine x_iadd C dX5_play_148 ?_
              refine x_put C hW 0 4 8 (Cn := RX5) (T := TX5) (N := 15) (w' := [(h0, .inr (4, [.int x, .int (nI (roN g b z)), .ref k1, .ref k2, .int (nI sp), .int (nI pl), .int (nI tu), .int (nI fr), .int (nI (nf + 1)), .ref k3, .ref k4, .ref k5, .ref k6, .ref k7, .ref k8])), (k1, aI E 9 (pwW (feN g b z) w 9)), (k2, aI E 5 (upN (snW aw 5) b 2)), (k3, aI E 4 (upN my tu ((my tu) + 1))), (k4, aI E 120 (upN fe ((30 * tu) + (my tu)) (pcN (feN g b z)))), (k5, aI E 44 be), (k6, aI E 4 sk), (k7, aI E 4 cl), (k8, aI E 40 ex)]) tyX5 tyX5_ok nmX5 rfl rfl (by decide) hinX5 hf97 rfl (by decide +kernel) (Nat.le_of_ble_eq_true rfl) dX5_play_149 rfl (fun H locs hW => ?_)
              refine lv_aload_n C.x C.b dX5_play_152 rfl (lv_at hl 3 rfl) ?_
              refine x_get C hW 0 4 1 (Cn := RX5) (T := TX5) (N := 15) rfl rfl (by decide) hinX5 hf9 rfl dX5_play_153 ?_
              refine x_if_eq C (by have := ro_lt (b := b) (z := z) hg; omega) (tgt := 167) dX5_play_156 (by decide) (fun c_5 => ?_) (fun c_5 => ?_)
              · exact absurd c_5 hgo
              · refine lv_aload_n C.x C.b dX5_play_159 rfl (lv_at hl 3 rfl) ?_
                refine x_get C hW 0 4 8 (Cn := RX5) (T := TX5) (N := 15) rfl rfl (by decide) hinX5 hf97 rfl dX5_play_160 ?_
                refine lv_iconst (v := nI 3) C.x C.b dX5_play_163 (by decide) ?_
                refine x_icmp_ne C (by omega) (by omega) (tgt := 171) dX5_play_164 (by decide) (fun c_6 => ?_) (fun c_6 => ?_)
                · refine lv_iload C.x C.b dX5_play_171 (lv_at hl 1 rfl) ?_
                  exact x_iret C hW rfl rfl (by first | rfl | (simp [pwW, snW, c_2, c_4, c_5, c_6]; done) | (rw [if_pos (by omega)]; done) | (rw [if_neg (by omega)]; done) | (exfalso; omega) | (simp only [pwW, snW]; (repeat' split) <;> first | rfl | contradiction | (exfalso; omega))) dX5_play_173
                · exact absurd c_6 hg2
            · refine lv_aload_n C.x C.b dX5_play_72 rfl (lv_at hl 3 rfl) ?_
              refine x_get C hW 0 4 3 (Cn := RX5) (T := TX5) (N := 15) rfl rfl (by decide) hinX5 hf17 rfl dX5_play_73 ?_
              refine lv_iload C.x C.b dX5_play_76 (lv_at hl 0 rfl) ?_
              refine lv_iconst (v := nI 0) C.x C.b dX5_play_78 (by decide) ?_
              refine lv_aload_n C.x C.b dX5_play_79 rfl (lv_at hl 3 rfl) ?_
              refine x_get C hW 0 4 3 (Cn := RX5) (T := TX5) (N := 15) rfl rfl (by decide) hinX5 hf17 rfl dX5_play_80 ?_
              refine lv_iload C.x C.b dX5_play_83 (lv_at hl 0 rfl) ?_
              refine x_ald C hW 2 i rfl rfl (by omega) (by decide) dX5_play_85 ?_
              refine lv_iconst (v := nI 1) C.x C.b dX5_play_86 (by decide) ?_
              refine lv_isub C.x C.b dX5_play_87 ?_
              refine va_mmax C.x C.b (C.2.2.1.trans hl.1.symm) C.ow (C.ts (.methodLink RX5 115 Lib.Math.max.name) (by decide +kernel)) (C.ts (.static Lib.Math.max.name) (by decide +kernel)) (C.ts (.initialized "java/lang/Math") (by decide +kernel)) (C.ts (.code Lib.Math.max.name Lib.Math.max.code 2 (some .int)) (by decide +kernel)) (Nat.le_of_ble_eq_true rfl) (Nat.le_of_ble_eq_true rfl) (Nat.zero_le _) (Nat.zero_le _) dX5_play_88 ?_
              refine x_toi (y := nI (snW aw i i - 1)) (z_max0 (by have := snW_le ha i i; omega)) ?_
              refine x_ast C hW 2 i (snW aw i i - 1) rfl rfl rfl (by omega) (by decide) dX5_play_91 (w' := [(h0, .inr (4, [.int x, .int (nI (roN g b z)), .ref k1, .ref k2, .int (nI sp), .int (nI pl), .int (nI tu), .int (nI fr), .int (nI nf), .ref k3, .ref k4, .ref k5, .ref k6, .ref k7, .ref k8])), (k1, aI E 9 (pwW (feN g b z) w 9)), (k2, aI E 5 (upN (snW aw i) i (snW aw i i - 1))), (k3, aI E 4 my), (k4, aI E 120 fe), (k5, aI E 44 be), (k6, aI E 4 sk), (k7, aI E 4 cl), (k8, aI E 40 ex)]) rfl (fun H locs hW => ?_)
              refine lv_iinc (k := 0) (v := nI (i + 1)) (lv' := [(5, .int (nI (i + 1))), (4, .int (nI (pcN (feN g b z)))), (3, .int (nI (roN g b z))), (0, .ref h0), (1, .int (nI b)), (2, .int (nI z))]) C.x C.b dX5_play_92 hl rfl (z_inc i 1) (by decide) rfl (fun ls hl => ?_)
              refine lv_goto (tgt := 66) C.x C.b dX5_play_95 (by decide) ?_
              exact ih3 (i + 1) (by omega) (by omega)  _ _ _ (hW.to (by first | rfl | (simp [pwW, snW, c_2, c_4]; done) | (rw [if_pos (by omega)]; done) | (rw [if_neg (by omega)]; done) | (exfalso; omega) | (simp only [pwW, snW]; (repeat' split) <;> first | rfl | contradiction | (exfalso; omega)))) (lv_to (lv_sub (l' := [(5, .int (nI (i + 1))), (4, .int (nI (pcN (feN g b z)))), (3, .int (nI (roN g b z))), (0, .ref h0), (1, .int (nI b)), (2, .int (nI z))]) hl [0, 1, 2, 3, 4, 5] rfl) (by first | rfl | (simp [pwW, snW, c_2, c_4]; done) | (rw [if_pos (by omega)]; done) | (rw [if_neg (by omega)]; done) | (exfalso; omega) | (simp only [pwW, snW]; (repeat' split) <;> first | rfl | contradiction | (exfalso; omega))))
        exact lp_3 (5 + 1) 0 (by omega) (by omega)  _ _ _ (hW.to rfl) (lv_to (lv_sub (l' := [(5, .int (nI 0)), (4, .int (nI (pcN (feN g b z)))), (3, .int (nI (roN g b z))), (0, .ref h0), (1, .int (nI b)), (2, .int (nI z))]) hl [0, 1, 2, 3, 4, 5] rfl) rfl)
      · refine lv_aload_n C.x C.b dX5_play_31 rfl (lv_at hl 3 rfl) ?_
        refine x_get C hW 0 4 2 (Cn := RX5) (T := TX5) (N := 15) rfl rfl (by decide) hinX5 hf13 rfl dX5_play_32 ?_
        refine lv_iload C.x C.b dX5_play_35 (lv_at hl 0 rfl) ?_
        refine lv_dup2_11 C.x C.b dX5_play_37 rfl rfl ?_
        refine x_ald C hW 1 i rfl rfl (by omega) (by decide) dX5_play_38 ?_
        refine lv_aload_n C.x C.b dX5_play_39 rfl (lv_at hl 3 rfl) ?_
        refine x_get C hW 0 4 1 (Cn := RX5) (T := TX5) (N := 15) rfl rfl (by decide) hinX5 hf9 rfl dX5_play_40 ?_
        refine lv_iload_n C.x C.b dX5_play_43 rfl (lv_at hl 2 rfl) ?_
        refine lv_ixor C.x C.b dX5_play_44 ?_
        refine x_toi (y := nI (feN g b z)) ((z_xor _ _).trans (congrArg nI (fe_xor hg))) ?_
        refine lv_iload C.x C.b dX5_play_45 (lv_at hl 0 rfl) ?_
        refine x_ishr C (by omega) (by have := fe_lt (b := b) (z := z) hg; omega) dX5_play_47 ?_
        refine lv_iconst (v := nI 1) C.x C.b dX5_play_48 (by decide) ?_
        refine x_iand1 C dX5_play_49 ?_
        refine x_iadd C dX5_play_50 ?_
        refine x_ast C hW 1 i (((pwW (feN g b z) w i) i) + (((feN g b z) / 2 ^ i) % 2)) rfl rfl rfl (by omega) (by decide) dX5_play_51 (w' := [(h0, .inr (4, [.int x, .int (nI g), .ref k1, .ref k2, .int (nI sp), .int (nI pl), .int (nI tu), .int (nI fr), .int (nI nf), .ref k3, .ref k4, .ref k5, .ref k6, .ref k7, .ref k8])), (k1, aI E 9 (upN (pwW (feN g b z) w i) i (((pwW (feN g b z) w i) i) + (((feN g b z) / 2 ^ i) % 2)))), (k2, aI E 5 aw), (k3, aI E 4 my), (k4, aI E 120 fe), (k5, aI E 44 be), (k6, aI E 4 sk), (k7, aI E 4 cl), (k8, aI E 40 ex)]) rfl (fun H locs hW => ?_)
        refine lv_iinc (k := 0) (v := nI (i + 1)) (lv' := [(5, .int (nI (i + 1))), (4, .int (nI (pcN (feN g b z)))), (3, .int (nI (roN g b z))), (0, .ref h0), (1, .int (nI b)), (2, .int (nI z))]) C.x C.b dX5_play_52 hl rfl (z_inc i 1) (by decide) rfl (fun ls hl => ?_)
        refine lv_goto (tgt := 24) C.x C.b dX5_play_55 (by decide) ?_
        exact ih1 (i + 1) (by omega) (by omega)  _ _ _ (hW.to (by first | rfl | (simp [pwW, snW, c_2]; done) | (rw [if_pos (by omega)]; done) | (rw [if_neg (by omega)]; done) | (exfalso; omega) | (simp only [pwW, snW]; (repeat' split) <;> first | rfl | contradiction | (exfalso; omega)))) (lv_to (lv_sub (l' := [(5, .int (nI (i + 1))), (4, .int (nI (pcN (feN g b z)))), (3, .int (nI (roN g b z))), (0, .ref h0), (1, .int (nI b)), (2, .int (nI z))]) hl [0, 1, 2, 3, 4, 5] rfl) (by first | rfl | (simp [pwW, snW, c_2]; done) | (rw [if_pos (by omega)]; done) | (rw [if_neg (by omega)]; done) | (exfalso; omega) | (simp only [pwW, snW]; (repeat' split) <;> first | rfl | contradiction | (exfalso; omega))))
  exact lp_1 (9 + 1) 0 (by omega) (by omega)  _ _ _ (hW.to rfl) (lv_to (lv_sub (l' := [(5, .int (nI 0)), (4, .int (nI (pcN (feN g b z)))), (3, .int (nI (roN g b z))), (0, .ref h0), (1, .int (nI b)), (2, .int (nI z))]) hl [0, 1, 2, 3, 4, 5] rfl) rfl)

set_option maxHeartbeats 4000000 in
set_option maxRecDepth 100000 in
theorem met_X5_play_end (l : Launch) (E : EV) (h0 k1 k2 k3 k4 k5 k6 k7 k8 : Nat) (x : Int32) (g sp pl tu fr nf : Nat) (w aw my fe be sk cl ex : Nat → Nat) (b z : Nat) (hg : g < 512) (hb : b < 5) (hz : z < 5) (ha : ∀ i, aw i ≤ 2) (htu : tu < 4) (hpl : pl ≤ 4) (hmt : my tu < 30) (hnf : nf ≤ 2) (hend : roN g b z = 0 ∨ nf + 1 = 3) (hfr : fr < 10) (hpw : ∀ i, pwW (feN g b z) w 9 i ≤ 12) (hmy : ∀ j, my j ≤ 30) (hfe : ∀ j, fe j ≤ 9) (hbe : ∀ j, be j ≤ 30) : MI l yX5_play wsX5_play { frames := 6, cells := 0, slots := 0, locals := 138 } E [.ref h0, .int (nI b), .int (nI z)] [(h0, .inr (4, [.int x, .int (nI g), .ref k1, .ref k2, .int (nI sp), .int (nI pl), .int (nI tu), .int (nI fr), .int (nI nf), .ref k3, .ref k4, .ref k5, .ref k6, .ref k7, .ref k8])), (k1, aI E 9 w), (k2, aI E 5 aw), (k3, aI E 4 my), (k4, aI E 120 fe), (k5, aI E 44 be), (k6, aI E 4 sk), (k7, aI E 4 cl), (k8, aI E 40 ex)] (nI (pcN (feN g b z))) [(h0, .inr (4, [.int x, .int (nI (if (if tu + 1 = pl then fr + 1 else fr) = 10 then (roN g b z) else suN (pwW (feN g b z) w 9) 9)), .ref k1, .ref k2, .int (nI sp), .int (nI pl), .int (nI (if tu + 1 = pl then 0 else tu + 1)), .int (nI (if tu + 1 = pl then fr + 1 else fr)), .int (nI 0), .ref k3, .ref k4, .ref k5, .ref k6, .ref k7, .ref k8])), (k1, aI E 9 ((pwW (feN g b z) w 9))), (k2, aI E 5 ((upN (snW aw 5) b 2))), (k3, aI E 4 ((upN my tu (my tu + 1)))), (k4, aI E 120 ((upN fe (30 * tu + my tu) (pcN (feN g b z))))), (k5, aI E 44 (upN be (11 * tu + fr + 1) ((upN my tu (my tu + 1)) tu))), (k6, aI E 4 (if (roN g b z) = 0 ∧ 0 < smQ (upN my tu (my tu + 1)) (upN fe (30 * tu + my tu) (pcN (feN g b z))) tu (be (11 * tu + fr)) ((upN my tu (my tu + 1)) tu) ∧ (nf + 1) = 1 then upN sk tu (sk tu + 1) else sk)), (k7, aI E 4 (if (roN g b z) = 0 ∧ 0 < smQ (upN my tu (my tu + 1)) (upN fe (30 * tu + my tu) (pcN (feN g b z))) tu (be (11 * tu + fr)) ((upN my tu (my tu + 1)) tu) ∧ ¬ (nf + 1) = 1 then upN cl tu (cl tu + 1) else cl)), (k8, aI E 40 (if (roN g b z) = 0 ∧ 0 < smQ (upN my tu (my tu + 1)) (upN fe (30 * tu + my tu) (pcN (feN g b z))) tu (be (11 * tu + fr)) ((upN my tu (my tu + 1)) tu) then upN ex (10 * tu + fr) (if (nf + 1) = 1 then 2 else 1) else ex))] := by
  refine sI (own := RX5) (cc := cX5_play) (maxL := 6) (ret := (some .int)) rfl (by decide) rfl (Nat.le_of_ble_eq_true rfl) ?_
  intro p e s m below meth c C hnm ls hl hW
  have hl : lv_has ls 6 [(0, .ref h0), (1, .int (nI b)), (2, .int (nI z))] := hl
  have hW : WD E _ s [(h0, .inr (4, [.int x, .int (nI g), .ref k1, .ref k2, .int (nI sp), .int (nI pl), .int (nI tu), .int (nI fr), .int (nI nf), .ref k3, .ref k4, .ref k5, .ref k6, .ref k7, .ref k8])), (k1, aI E 9 w), (k2, aI E 5 aw), (k3, aI E 4 my), (k4, aI E 120 fe), (k5, aI E 44 be), (k6, aI E 4 sk), (k7, aI E 4 cl), (k8, aI E 40 ex)] s.heap [] := hW
  have hinX5 : ∀ w ∈ u_ws RX5 TX5 15, w ∈ wsX5_play := by decide +kernel
  have hf9 : Cond.fieldLink RX5 9 (TX5 1).1 (TX5 1).2.1 (TX5 1).2.2.1 ∈ wsX5_play := by decide +kernel
  have hf13 : Cond.fieldLink RX5 13 (TX5 2).1 (TX5 2).2.1 (TX5 2).2.2.1 ∈ wsX5_play := by decide +kernel
  have hf17 : Cond.fieldLink RX5 17 (TX5 3).1 (TX5 3).2.1 (TX5 3).2.2.1 ∈ wsX5_play := by decide +kernel
  have hf88 : Cond.fieldLink RX5 88 (TX5 6).1 (TX5 6).2.1 (TX5 6).2.2.1 ∈ wsX5_play := by decide +kernel
  have hf97 : Cond.fieldLink RX5 97 (TX5 8).1 (TX5 8).2.1 (TX5 8).2.2.1 ∈ wsX5_play := by decide +kernel
  have hf23 : Cond.fieldLink RX5 23 (TX5 9).1 (TX5 9).2.1 (TX5 9).2.2.1 ∈ wsX5_play := by decide +kernel
  have hf26 : Cond.fieldLink RX5 26 (TX5 10).1 (TX5 10).2.1 (TX5 10).2.2.1 ∈ wsX5_play := by decide +kernel
  have hmy2 : ∀ j, upN my tu (my tu + 1) j ≤ 30 := fun j => by unfold upN; split <;> first | omega | exact hmy j
  have hfe2 : ∀ j, upN fe (30 * tu + my tu) (pcN (feN g b z)) j ≤ 9 := fun j => by unfold upN; split <;> first | exact pcN_le _ | exact hfe j
  refine lv_aload_n C.x C.b dX5_play_0 rfl (lv_at hl 0 rfl) ?_
  refine x_get C hW 0 4 1 (Cn := RX5) (T := TX5) (N := 15) rfl rfl (by decide) hinX5 hf9 rfl dX5_play_1 ?_
  refine lv_iload_n C.x C.b dX5_play_4 rfl (lv_at hl 1 rfl) ?_
  refine lv_iload_n C.x C.b dX5_play_5 rfl (lv_at hl 2 rfl) ?_
  refine x_cSI C hW (As := [.int (nI g), .int (nI b), .int (nI z)]) (rest := []) (wr := [(h0, .inr (4, [.int x, .int (nI g), .ref k1, .ref k2, .int (nI sp), .int (nI pl), .int (nI tu), .int (nI fr), .int (nI nf), .ref k3, .ref k4, .ref k5, .ref k6, .ref k7, .ref k8])), (k1, aI E 9 w), (k2, aI E 5 aw), (k3, aI E 4 my), (k4, aI E 120 fe), (k5, aI E 44 be), (k6, aI E 4 sk), (k7, aI E 4 cl), (k8, aI E 40 ex)]) (wn := [(h0, .inr (4, [.int x, .int (nI g), .ref k1, .ref k2, .int (nI sp), .int (nI pl), .int (nI tu), .int (nI fr), .int (nI nf), .ref k3, .ref k4, .ref k5, .ref k6, .ref k7, .ref k8])), (k1, aI E 9 w), (k2, aI E 5 aw), (k3, aI E 4 my), (k4, aI E 120 fe), (k5, aI E 44 be), (k6, aI E 4 sk), (k7, aI E 4 cl), (k8, aI E 40 ex)]) (met_X5_roll l E g b z (by omega) (by omega) (by omega)) gX5_play_X5_roll rfl 3 rfl ⟨rfl, rfl⟩ ⟨by decide +kernel, by decide +kernel, by decide +kernel⟩ ⟨Nat.le_of_ble_eq_true rfl, Nat.le_of_ble_eq_true rfl⟩ [] [0, 1, 2, 3, 4, 5, 6, 7, 8] [0, 1, 2, 3, 4, 5, 6, 7, 8] rfl (by decide) rfl (by decide) (by decide) rfl (by decide) hl.1 rfl (Nat.le_of_ble_eq_true rfl) dX5_play_6 ⟨Nat.zero_le _, Nat.zero_le _⟩ (fun H locs hW => ?_)
  refine lv_istore_n (lv' := [(3, .int (nI (roN g b z))), (0, .ref h0), (1, .int (nI b)), (2, .int (nI z))]) C.x C.b dX5_play_9 rfl hl (by decide) rfl (fun ls hl => ?_)
  refine lv_aload_n C.x C.b dX5_play_10 rfl (lv_at hl 1 rfl) ?_
  refine x_get C hW 0 4 1 (Cn := RX5) (T := TX5) (N := 15) rfl rfl (by decide) hinX5 hf9 rfl dX5_play_11 ?_
  refine lv_iload_n C.x C.b dX5_play_14 rfl (lv_at hl 0 rfl) ?_
  refine lv_ixor C.x C.b dX5_play_15 ?_
  refine x_toi (y := nI (feN g b z)) ((z_xor _ _).trans (congrArg nI (fe_xor hg))) ?_
  refine x_cSI C hW (As := [.int (nI (feN g b z))]) (rest := []) (wr := [(h0, .inr (4, [.int x, .int (nI g), .ref k1, .ref k2, .int (nI sp), .int (nI pl), .int (nI tu), .int (nI fr), .int (nI nf), .ref k3, .ref k4, .ref k5, .ref k6, .ref k7, .ref k8])), (k1, aI E 9 w), (k2, aI E 5 aw), (k3, aI E 4 my), (k4, aI E 120 fe), (k5, aI E 44 be), (k6, aI E 4 sk), (k7, aI E 4 cl), (k8, aI E 40 ex)]) (wn := [(h0, .inr (4, [.int x, .int (nI g), .ref k1, .ref k2, .int (nI sp), .int (nI pl), .int (nI tu), .int (nI fr), .int (nI nf), .ref k3, .ref k4, .ref k5, .ref k6, .ref k7, .ref k8])), (k1, aI E 9 w), (k2, aI E 5 aw), (k3, aI E 4 my), (k4, aI E 120 fe), (k5, aI E 44 be), (k6, aI E 4 sk), (k7, aI E 4 cl), (k8, aI E 40 ex)]) (met_J6_bitCount_0f7a4 l E (feN g b z) (fe_lt hg)) gX5_play_J6_bitCount_0f7a4 rfl 1 rfl ⟨rfl, rfl⟩ ⟨by decide +kernel, by decide +kernel, by decide +kernel⟩ ⟨Nat.le_of_ble_eq_true rfl, Nat.le_of_ble_eq_true rfl⟩ [] [0, 1, 2, 3, 4, 5, 6, 7, 8] [0, 1, 2, 3, 4, 5, 6, 7, 8] rfl (by decide) rfl (by decide) (by decide) rfl (by decide) hl.1 rfl (Nat.le_of_ble_eq_true rfl) dX5_play_16 ⟨Nat.zero_le _, Nat.zero_le _⟩ (fun H locs hW => ?_)
  refine lv_istore (lv' := [(4, .int (nI (pcN (feN g b z)))), (3, .int (nI (roN g b z))), (0, .ref h0), (1, .int (nI b)), (2, .int (nI z))]) C.x C.b dX5_play_19 hl (by decide) rfl (fun ls hl => ?_)
  refine lv_iconst (v := nI 0) C.x C.b dX5_play_21 (by decide) ?_
  refine lv_istore (lv' := [(5, .int (nI 0)), (4, .int (nI (pcN (feN g b z)))), (3, .int (nI (roN g b z))), (0, .ref h0), (1, .int (nI b)), (2, .int (nI z))]) C.x C.b dX5_play_22 hl (by decide) rfl (fun ls hl => ?_)
  have lp_1 : ∀ (n1 i : Nat), i ≤ 9 → 9 + 1 ≤ i + n1 → ∀ (H : Heap) (locs : List Loc) (ls : Array Slot), WD E (va_A [(h0, .inr (4, [.int x, .int (nI g), .ref k1, .ref k2, .int (nI sp), .int (nI pl), .int (nI tu), .int (nI fr), .int (nI nf), .ref k3, .ref k4, .ref k5, .ref k6, .ref k7, .ref k8])), (k1, aI E 9 w), (k2, aI E 5 aw), (k3, aI E 4 my), (k4, aI E 120 fe), (k5, aI E 44 be), (k6, aI E 4 sk), (k7, aI E 4 cl), (k8, aI E 40 ex)] s.heap.size) s [(h0, .inr (4, [.int x, .int (nI g), .ref k1, .ref k2, .int (nI sp), .int (nI pl), .int (nI tu), .int (nI fr), .int (nI nf), .ref k3, .ref k4, .ref k5, .ref k6, .ref k7, .ref k8])), (k1, aI E 9 (pwW (feN g b z) w i)), (k2, aI E 5 aw), (k3, aI E 4 my), (k4, aI E 120 fe), (k5, aI E 44 be), (k6, aI E 4 sk), (k7, aI E 4 cl), (k8, aI E 40 ex)] H locs → lv_has ls 6 [(5, .int (nI i)), (4, .int (nI (pcN (feN g b z)))), (3, .int (nI (roN g b z))), (0, .ref h0), (1, .int (nI b)), (2, .int (nI z))] → W p l e ({ frames := 6, cells := 0, slots := 0, locals := 138 } : Room) s m ([.ref h0, .int (nI b), .int (nI z)] : List Value).toArray below meth c H locs 0 0 (QI E [(h0, .inr (4, [.int x, .int (nI g), .ref k1, .ref k2, .int (nI sp), .int (nI pl), .int (nI tu), .int (nI fr), .int (nI nf), .ref k3, .ref k4, .ref k5, .ref k6, .ref k7, .ref k8])), (k1, aI E 9 w), (k2, aI E 5 aw), (k3, aI E 4 my), (k4, aI E 120 fe), (k5, aI E 44 be), (k6, aI E 4 sk), (k7, aI E 4 cl), (k8, aI E 40 ex)] (nI (pcN (feN g b z))) [(h0, .inr (4, [.int x, .int (nI (if (if tu + 1 = pl then fr + 1 else fr) = 10 then (roN g b z) else suN (pwW (feN g b z) w 9) 9)), .ref k1, .ref k2, .int (nI sp), .int (nI pl), .int (nI (if tu + 1 = pl then 0 else tu + 1)), .int (nI (if tu + 1 = pl then fr + 1 else fr)), .int (nI 0), .ref k3, .ref k4, .ref k5, .ref k6, .ref k7, .ref k8])), (k1, aI E 9 ((pwW (feN g b z) w 9))), (k2, aI E 5 ((upN (snW aw 5) b 2))), (k3, aI E 4 ((upN my tu (my tu + 1)))), (k4, aI E 120 ((upN fe (30 * tu + my tu) (pcN (feN g b z))))), (k5, aI E 44 (upN be (11 * tu + fr + 1) ((upN my tu (my tu + 1)) tu))), (k6, aI E 4 (if (roN g b z) = 0 ∧ 0 < smQ (upN my tu (my tu + 1)) (upN fe (30 * tu + my tu) (pcN (feN g b z))) tu (be (11 * tu + fr)) ((upN my tu (my tu + 1)) tu) ∧ (nf + 1) = 1 then upN sk tu (sk tu + 1) else sk)), (k7, aI E 4 (if (roN g b z) = 0 ∧ 0 < smQ (upN my tu (my tu + 1)) (upN fe (30 * tu + my tu) (pcN (feN g b z))) tu (be (11 * tu + fr)) ((upN my tu (my tu + 1)) tu) ∧ ¬ (nf + 1) = 1 then upN cl tu (cl tu + 1) else cl)), (k8, aI E 40 (if (roN g b z) = 0 ∧ 0 < smQ (upN my tu (my tu + 1)) (upN fe (30 * tu + my tu) (pcN (feN g b z))) tu (be (11 * tu + fr)) ((upN my tu (my tu + 1)) tu) then upN ex (10 * tu + fr) (if (nf + 1) = 1 then 2 else 1) else ex))] below ([.ref h0, .int (nI b), .int (nI z)] : List Value).toArray s) (F0 m 24 ls []) := by
    intro n1
    induction n1 with
    | zero => intro i hi hn; exact absurd hn (by omega)
    | succ n1 ih1 =>
      intro i hi hn  H locs ls hW hl
      refine lv_iload C.x C.b dX5_play_24 (lv_at hl 0 rfl) ?_
      refine lv_bipush (v := nI 9) C.x C.b dX5_play_26 (by decide) ?_
      refine x_icmp_ge C (by omega) (by omega) (tgt := 58) dX5_play_28 (by decide) (fun c_2 => ?_) (fun c_2 => ?_)
      · obtain rfl : i = 9 := by omega
        refine lv_aload_n C.x C.b dX5_play_58 rfl (lv_at hl 3 rfl) ?_
        refine lv_iload_n C.x C.b dX5_play_59 rfl (lv_at hl 2 rfl) ?_
        refine x_put C hW 0 4 1 (Cn := RX5) (T := TX5) (N := 15) (w' := [(h0, .inr (4, [.int x, .int (nI (roN g b z)), .ref k1, .ref k2, .int (nI sp), .int (nI pl), .int (nI tu), .int (nI fr), .int (nI nf), .ref k3, .ref k4, .ref k5, .ref k6, .ref k7, .ref k8])), (k1, aI E 9 (pwW (feN g b z) w 9)), (k2, aI E 5 aw), (k3, aI E 4 my), (k4, aI E 120 fe), (k5, aI E 44 be), (k6, aI E 4 sk), (k7, aI E 4 cl), (k8, aI E 40 ex)]) tyX5 tyX5_ok nmX5 rfl rfl (by decide) hinX5 hf9 rfl (by decide +kernel) (Nat.le_of_ble_eq_true rfl) dX5_play_60 rfl (fun H locs hW => ?_)
        refine lv_iconst (v := nI 0) C.x C.b dX5_play_63 (by decide) ?_
        refine lv_istore (lv' := [(5, .int (nI 0)), (4, .int (nI (pcN (feN g b z)))), (3, .int (nI (roN g b z))), (0, .ref h0), (1, .int (nI b)), (2, .int (nI z))]) C.x C.b dX5_play_64 hl (by decide) rfl (fun ls hl => ?_)
        have lp_3 : ∀ (n3 i : Nat), i ≤ 5 → 5 + 1 ≤ i + n3 → ∀ (H : Heap) (locs : List Loc) (ls : Array Slot), WD E (va_A [(h0, .inr (4, [.int x, .int (nI g), .ref k1, .ref k2, .int (nI sp), .int (nI pl), .int (nI tu), .int (nI fr), .int (nI nf), .ref k3, .ref k4, .ref k5, .ref k6, .ref k7, .ref k8])), (k1, aI E 9 w), (k2, aI E 5 aw), (k3, aI E 4 my), (k4, aI E 120 fe), (k5, aI E 44 be), (k6, aI E 4 sk), (k7, aI E 4 cl), (k8, aI E 40 ex)] s.heap.size) s [(h0, .inr (4, [.int x, .int (nI (roN g b z)), .ref k1, .ref k2, .int (nI sp), .int (nI pl), .int (nI tu), .int (nI fr), .int (nI nf), .ref k3, .ref k4, .ref k5, .ref k6, .ref k7, .ref k8])), (k1, aI E 9 (pwW (feN g b z) w 9)), (k2, aI E 5 (snW aw i)), (k3, aI E 4 my), (k4, aI E 120 fe), (k5, aI E 44 be), (k6, aI E 4 sk), (k7, aI E 4 cl), (k8, aI E 40 ex)] H locs → lv_has ls 6 [(5, .int (nI i)), (4, .int (nI (pcN (feN g b z)))), (3, .int (nI (roN g b z))), (0, .ref h0), (1, .int (nI b)), (2, .int (nI z))] → W p l e ({ frames := 6, cells := 0, slots := 0, locals := 138 } : Room) s m ([.ref h0, .int (nI b), .int (nI z)] : List Value).toArray below meth c H locs 0 0 (QI E [(h0, .inr (4, [.int x, .int (nI g), .ref k1, .ref k2, .int (nI sp), .int (nI pl), .int (nI tu), .int (nI fr), .int (nI nf), .ref k3, .ref k4, .ref k5, .ref k6, .ref k7, .ref k8])), (k1, aI E 9 w), (k2, aI E 5 aw), (k3, aI E 4 my), (k4, aI E 120 fe), (k5, aI E 44 be), (k6, aI E 4 sk), (k7, aI E 4 cl), (k8, aI E 40 ex)] (nI (pcN (feN g b z))) [(h0, .inr (4, [.int x, .int (nI (if (if tu + 1 = pl then fr + 1 else fr) = 10 then (roN g b z) else suN (pwW (feN g b z) w 9) 9)), .ref k1, .ref k2, .int (nI sp), .int (nI pl), .int (nI (if tu + 1 = pl then 0 else tu + 1)), .int (nI (if tu + 1 = pl then fr + 1 else fr)), .int (nI 0), .ref k3, .ref k4, .ref k5, .ref k6, .ref k7, .ref k8])), (k1, aI E 9 ((pwW (feN g b z) w 9))), (k2, aI E 5 ((upN (snW aw 5) b 2))), (k3, aI E 4 ((upN my tu (my tu + 1)))), (k4, aI E 120 ((upN fe (30 * tu + my tu) (pcN (feN g b z))))), (k5, aI E 44 (upN be (11 * tu + fr + 1) ((upN my tu (my tu + 1)) tu))), (k6, aI E 4 (if (roN g b z) = 0 ∧ 0 < smQ (upN my tu (my tu + 1)) (upN fe (30 * tu + my tu) (pcN (feN g b z))) tu (be (11 * tu + fr)) ((upN my tu (my tu + 1)) tu) ∧ (nf + 1) = 1 then upN sk tu (sk tu + 1) else sk)), (k7, aI E 4 (if (roN g b z) = 0 ∧ 0 < smQ (upN my tu (my tu + 1)) (upN fe (30 * tu + my tu) (pcN (feN g b z))) tu (be (11 * tu + fr)) ((upN my tu (my tu + 1)) tu) ∧ ¬ (nf + 1) = 1 then upN cl tu (cl tu + 1) else cl)), (k8, aI E 40 (if (roN g b z) = 0 ∧ 0 < smQ (upN my tu (my tu + 1)) (upN fe (30 * tu + my tu) (pcN (feN g b z))) tu (be (11 * tu + fr)) ((upN my tu (my tu + 1)) tu) then upN ex (10 * tu + fr) (if (nf + 1) = 1 then 2 else 1) else ex))] below ([.ref h0, .int (nI b), .int (nI z)] : List Value).toArray s) (F0 m 66 ls []) := by
          intro n3
          induction n3 with
          | zero => intro i hi hn; exact absurd hn (by omega)
          | succ n3 ih3 =>
            intro i hi hn  H locs ls hW hl
            refine lv_iload C.x C.b dX5_play_66 (lv_at hl 0 rfl) ?_
            refine lv_iconst (v := nI 5) C.x C.b dX5_play_68 (by decide) ?_
            refine x_icmp_ge C (by omega) (by omega) (tgt := 98) dX5_play_69 (by decide) (fun c_4 => ?_) (fun c_4 => ?_)
            · obtain rfl : i = 5 := by omega
              refine lv_aload_n C.x C.b dX5_play_98 rfl (lv_at hl 3 rfl) ?_
              refine x_get C hW 0 4 3 (Cn := RX5) (T := TX5) (N := 15) rfl rfl (by decide) hinX5 hf17 rfl dX5_play_99 ?_
              refine lv_iload_n C.x C.b dX5_play_102 rfl (lv_at hl 4 rfl) ?_
              refine lv_iconst (v := nI 2) C.x C.b dX5_play_103 (by decide) ?_
              refine x_ast C hW 2 b 2 rfl rfl rfl (by omega) (by decide) dX5_play_104 (w' := [(h0, .inr (4, [.int x, .int (nI (roN g b z)), .ref k1, .ref k2, .int (nI sp), .int (nI pl), .int (nI tu), .int (nI fr), .int (nI nf), .ref k3, .ref k4, .ref k5, .ref k6, .ref k7, .ref k8])), (k1, aI E 9 (pwW (feN g b z) w 9)), (k2, aI E 5 (upN (snW aw 5) b 2)), (k3, aI E 4 my), (k4, aI E 120 fe), (k5, aI E 44 be), (k6, aI E 4 sk), (k7, aI E 4 cl), (k8, aI E 40 ex)]) rfl (fun H locs hW => ?_)
              refine lv_aload_n C.x C.b dX5_play_105 rfl (lv_at hl 3 rfl) ?_
              refine x_get C hW 0 4 10 (Cn := RX5) (T := TX5) (N := 15) rfl rfl (by decide) hinX5 hf26 rfl dX5_play_106 ?_
              refine lv_bipush (v := nI 30) C.x C.b dX5_play_109 (by decide) ?_
              refine lv_aload_n C.x C.b dX5_play_111 rfl (lv_at hl 3 rfl) ?_
              refine x_get C hW 0 4 6 (Cn := RX5) (T := TX5) (N := 15) rfl rfl (by decide) hinX5 hf88 rfl dX5_play_112 ?_
              refine x_imul C dX5_play_115 ?_
              refine lv_aload_n C.x C.b dX5_play_116 rfl (lv_at hl 3 rfl) ?_
              refine x_get C hW 0 4 9 (Cn := RX5) (T := TX5) (N := 15) rfl rfl (by decide) hinX5 hf23 rfl dX5_play_117 ?_
              refine lv_aload_n C.x C.b dX5_play_120 rfl (lv_at hl 3 rfl) ?_
              refine x_get C hW 0 4 6 (Cn := RX5) (T := TX5) (N := 15) rfl rfl (by decide) hinX5 hf88 rfl dX5_play_121 ?_
              refine x_ald C hW 3 tu rfl rfl (by omega) (by decide) dX5_play_124 ?_
              refine x_iadd C dX5_play_125 ?_
              refine lv_iload C.x C.b dX5_play_126 (lv_at hl 1 rfl) ?_
              refine x_ast C hW 4 ((30 * tu) + (my tu)) (pcN (feN g b z)) rfl rfl rfl (by omega) (by decide) dX5_play_128 (w' := [(h0, .inr (4, [.int x, .int (nI (roN g b z)), .ref k1, .ref k2, .int (nI sp), .int (nI pl), .int (nI tu), .int (nI fr), .int (nI nf), .ref k3, .ref k4, .ref k5, .ref k6, .ref k7, .ref k8])), (k1, aI E 9 (pwW (feN g b z) w 9)), (k2, aI E 5 (upN (snW aw 5) b 2)), (k3, aI E 4 my), (k4, aI E 120 (upN fe ((30 * tu) + (my tu)) (pcN (feN g b z)))), (k5, aI E 44 be), (k6, aI E 4 sk), (k7, aI E 4 cl), (k8, aI E 40 ex)]) rfl (fun H locs hW => ?_)
              refine lv_aload_n C.x C.b dX5_play_129 rfl (lv_at hl 3 rfl) ?_
              refine x_get C hW 0 4 9 (Cn := RX5) (T := TX5) (N := 15) rfl rfl (by decide) hinX5 hf23 rfl dX5_play_130 ?_
              refine lv_aload_n C.x C.b dX5_play_133 rfl (lv_at hl 3 rfl) ?_
              refine x_get C hW 0 4 6 (Cn := RX5) (T := TX5) (N := 15) rfl rfl (by decide) hinX5 hf88 rfl dX5_play_134 ?_
              refine lv_dup2_11 C.x C.b dX5_play_137 rfl rfl ?_
              refine x_ald C hW 3 tu rfl rfl (by omega) (by decide) dX5_play_138 ?_
              refine lv_iconst (v := nI 1) C.x C.b dX5_play_139 (by decide) ?_
              refine x_iadd C dX5_play_140 ?_
              refine x_ast C hW 3 tu ((my tu) + 1) rfl rfl rfl (by omega) (by decide) dX5_play_141 (w' := [(h0, .inr (4, [.int x, .int (nI (roN g b z)), .ref k1, .ref k2, .int (nI sp), .int (nI pl), .int (nI tu), .int (nI fr), .int (nI nf), .ref k3, .ref k4, .ref k5, .ref k6, .ref k7, .ref k8])), (k1, aI E 9 (pwW (feN g b z) w 9)), (k2, aI E 5 (upN (snW aw 5) b 2)), (k3, aI E 4 (upN my tu ((my tu) + 1))), (k4, aI E 120 (upN fe ((30 * tu) + (my tu)) (pcN (feN g b z)))), (k5, aI E 44 be), (k6, aI E 4 sk), (k7, aI E 4 cl), (k8, aI E 40 ex)]) rfl (fun H locs hW => ?_)
              refine lv_aload_n C.x C.b dX5_play_142 rfl (lv_at hl 3 rfl) ?_
              refine lv_dup C.x C.b dX5_play_143 rfl ?_
              refine x_get C hW 0 4 8 (Cn := RX5) (T := TX5) (N := 15) rfl rfl (by decide) hinX5 hf97 rfl dX5_play_144 ?_
              refine lv_iconst (v := nI 1) C.x C.b dX5_play_147 (by decide) ?_
              refine x_iadd C dX5_play_148 ?_
              refine x_put C hW 0 4 8 (Cn := RX5) (T := TX5) (N := 15) (w' := [(h0, .inr (4, [.int x, .int (nI (roN g b z)), .ref k1, .ref k2, .int (nI sp), .int (nI pl), .int (nI tu), .int (nI fr), .int (nI (nf + 1)), .ref k3, .ref k4, .ref k5, .ref k6, .ref k7, .ref k8])), (k1, aI E 9 (pwW (feN g b z) w 9)), (k2, aI E 5 (upN (snW aw 5) b 2)), (k3, aI E 4 (upN my tu ((my tu) + 1))), (k4, aI E 120 (upN fe ((30 * tu) + (my tu)) (pcN (feN g b z)))), (k5, aI E 44 be), (k6, aI E 4 sk), (k7, aI E 4 cl), (k8, aI E 40 ex)]) tyX5 tyX5_ok nmX5 rfl rfl (by decide) hinX5 hf97 rfl (by decide +kernel) (Nat.le_of_ble_eq_true rfl) dX5_play_149 rfl (fun H locs hW => ?_)
              refine lv_aload_n C.x C.b dX5_play_152 rfl (lv_at hl 3 rfl) ?_
              refine x_get C hW 0 4 1 (Cn := RX5) (T := TX5) (N := 15) rfl rfl (by decide) hinX5 hf9 rfl dX5_play_153 ?_
              refine x_if_eq C (by have := ro_lt (b := b) (z := z) hg; omega) (tgt := 167) dX5_play_156 (by decide) (fun c_5 => ?_) (fun c_5 => ?_)
              · refine lv_aload_n C.x C.b dX5_play_167 rfl (lv_at hl 3 rfl) ?_
                refine x_cVV C hW (As := []) (rest := []) (wr := []) (wn := [(h0, .inr (4, [.int x, .int (nI (if (if tu + 1 = pl then fr + 1 else fr) = 10 then (roN g b z) else suN (pwW (feN g b z) w 9) 9)), .ref k1, .ref k2, .int (nI sp), .int (nI pl), .int (nI (if tu + 1 = pl then 0 else tu + 1)), .int (nI (if tu + 1 = pl then fr + 1 else fr)), .int (nI 0), .ref k3, .ref k4, .ref k5, .ref k6, .ref k7, .ref k8])), (k1, aI E 9 ((pwW (feN g b z) w 9))), (k2, aI E 5 ((upN (snW aw 5) b 2))), (k3, aI E 4 ((upN my tu ((my tu) + 1)))), (k4, aI E 120 ((upN fe ((30 * tu) + (my tu)) (pcN (feN g b z))))), (k5, aI E 44 (upN be (11 * tu + fr + 1) ((upN my tu ((my tu) + 1)) tu))), (k6, aI E 4 (if (roN g b z) = 0 ∧ 0 < smQ (upN my tu ((my tu) + 1)) (upN fe ((30 * tu) + (my tu)) (pcN (feN g b z))) tu (be (11 * tu + fr)) ((upN my tu ((my tu) + 1)) tu) ∧ (nf + 1) = 1 then upN sk tu (sk tu + 1) else sk)), (k7, aI E 4 (if (roN g b z) = 0 ∧ 0 < smQ (upN my tu ((my tu) + 1)) (upN fe ((30 * tu) + (my tu)) (pcN (feN g b z))) tu (be (11 * tu + fr)) ((upN my tu ((my tu) + 1)) tu) ∧ ¬ (nf + 1) = 1 then upN cl tu (cl tu + 1) else cl)), (k8, aI E 40 (if (roN g b z) = 0 ∧ 0 < smQ (upN my tu ((my tu) + 1)) (upN fe ((30 * tu) + (my tu)) (pcN (feN g b z))) tu (be (11 * tu + fr)) ((upN my tu ((my tu) + 1)) tu) then upN ex (10 * tu + fr) (if (nf + 1) = 1 then 2 else 1) else ex))]) (Cn := RX5) (met_X5_endFrame l E h0 k1 k2 k3 k4 k5 k6 k7 k8 x (roN g b z) sp pl tu fr (nf + 1) (pwW (feN g b z) w 9) (upN (snW aw 5) b 2) (upN my tu ((my tu) + 1)) (upN fe ((30 * tu) + (my tu)) (pcN (feN g b z))) be sk cl ex hpw (by omega) (by omega) (by omega) (by omega) (ro_lt hg) hmy2 hfe2 hbe) gX5_play_X5_endFrame rfl 0 rfl ⟨rfl, rfl⟩ ⟨rfl, by decide +kernel, by decide +kernel, by decide +kernel⟩ ⟨Nat.le_of_ble_eq_true rfl, Nat.le_of_ble_eq_true rfl⟩ [0, 1, 2, 3, 4, 5, 6, 7, 8] [] [0, 1, 2, 3, 4, 5, 6, 7, 8] rfl (by decide) rfl (by decide) (by decide) rfl (by decide) 0 4 rfl rfl hl.1 rfl (Nat.le_of_ble_eq_true rfl) dX5_play_168 ⟨Nat.zero_le _, Nat.zero_le _⟩ (fun H locs hW => ?_)
                refine lv_iload C.x C.b dX5_play_171 (lv_at hl 1 rfl) ?_
                exact x_iret C hW rfl rfl (by first | rfl | (simp [pwW, snW, c_2, c_4, c_5]; done) | (rw [if_pos (by omega)]; done) | (rw [if_neg (by omega)]; done) | (exfalso; omega) | (simp only [pwW, snW]; (repeat' split) <;> first | rfl | contradiction | (exfalso; omega))) dX5_play_173
              · refine lv_aload_n C.x C.b dX5_play_159 rfl (lv_at hl 3 rfl) ?_
                refine x_get C hW 0 4 8 (Cn := RX5) (T := TX5) (N := 15) rfl rfl (by decide) hinX5 hf97 rfl dX5_play_160 ?_
                refine lv_iconst (v := nI 3) C.x C.b dX5_play_163 (by decide) ?_
                refine x_icmp_ne C (by omega) (by omega) (tgt := 171) dX5_play_164 (by decide) (fun c_6 => ?_) (fun c_6 => ?_)
                · exact absurd c_6 (by omega)
                · refine lv_aload_n C.x C.b dX5_play_167 rfl (lv_at hl 3 rfl) ?_
                  refine x_cVV C hW (As := []) (rest := []) (wr := []) (wn := [(h0, .inr (4, [.int x, .int (nI (if (if tu + 1 = pl then fr + 1 else fr) = 10 then (roN g b z) else suN (pwW (feN g b z) w 9) 9)), .ref k1, .ref k2, .int (nI sp), .int (nI pl), .int (nI (if tu + 1 = pl then 0 else tu + 1)), .int (nI (if tu + 1 = pl then fr + 1 else fr)), .int (nI 0), .ref k3, .ref k4, .ref k5, .ref k6, .ref k7, .ref k8])), (k1, aI E 9 ((pwW (feN g b z) w 9))), (k2, aI E 5 ((upN (snW aw 5) b 2))), (k3, aI E 4 ((upN my tu ((my tu) + 1)))), (k4, aI E 120 ((upN fe ((30 * tu) + (my tu)) (pcN (feN g b z))))), (k5, aI E 44 (upN be (11 * tu + fr + 1) ((upN my tu ((my tu) + 1)) tu))), (k6, aI E 4 (if (roN g b z) = 0 ∧ 0 < smQ (upN my tu ((my tu) + 1)) (upN fe ((30 * tu) + (my tu)) (pcN (feN g b z))) tu (be (11 * tu + fr)) ((upN my tu ((my tu) + 1)) tu) ∧ (nf + 1) = 1 then upN sk tu (sk tu + 1) else sk)), (k7, aI E 4 (if (roN g b z) = 0 ∧ 0 < smQ (upN my tu ((my tu) + 1)) (upN fe ((30 * tu) + (my tu)) (pcN (feN g b z))) tu (be (11 * tu + fr)) ((upN my tu ((my tu) + 1)) tu) ∧ ¬ (nf + 1) = 1 then upN cl tu (cl tu + 1) else cl)), (k8, aI E 40 (if (roN g b z) = 0 ∧ 0 < smQ (upN my tu ((my tu) + 1)) (upN fe ((30 * tu) + (my tu)) (pcN (feN g b z))) tu (be (11 * tu + fr)) ((upN my tu ((my tu) + 1)) tu) then upN ex (10 * tu + fr) (if (nf + 1) = 1 then 2 else 1) else ex))]) (Cn := RX5) (met_X5_endFrame l E h0 k1 k2 k3 k4 k5 k6 k7 k8 x (roN g b z) sp pl tu fr (nf + 1) (pwW (feN g b z) w 9) (upN (snW aw 5) b 2) (upN my tu ((my tu) + 1)) (upN fe ((30 * tu) + (my tu)) (pcN (feN g b z))) be sk cl ex hpw (by omega) (by omega) (by omega) (by omega) (ro_lt hg) hmy2 hfe2 hbe) gX5_play_X5_endFrame rfl 0 rfl ⟨rfl, rfl⟩ ⟨rfl, by decide +kernel, by decide +kernel, by decide +kernel⟩ ⟨Nat.le_of_ble_eq_true rfl, Nat.le_of_ble_eq_true rfl⟩ [0, 1, 2, 3, 4, 5, 6, 7, 8] [] [0, 1, 2, 3, 4, 5, 6, 7, 8] rfl (by decide) rfl (by decide) (by decide) rfl (by decide) 0 4 rfl rfl hl.1 rfl (Nat.le_of_ble_eq_true rfl) dX5_play_168 ⟨Nat.zero_le _, Nat.zero_le _⟩ (fun H locs hW => ?_)
                  refine lv_iload C.x C.b dX5_play_171 (lv_at hl 1 rfl) ?_
                  exact x_iret C hW rfl rfl (by first | rfl | (simp [pwW, snW, c_2, c_4, c_5, c_6]; done) | (rw [if_pos (by omega)]; done) | (rw [if_neg (by omega)]; done) | (exfalso; omega) | (simp only [pwW, snW]; (repeat' split) <;> first | rfl | contradiction | (exfalso; omega))) dX5_play_173
            · refine lv_aload_n C.x C.b dX5_play_72 rfl (lv_at hl 3 rfl) ?_
              refine x_get C hW 0 4 3 (Cn := RX5) (T := TX5) (N := 15) rfl rfl (by decide) hinX5 hf17 rfl dX5_play_73 ?_
              refine lv_iload C.x C.b dX5_play_76 (lv_at hl 0 rfl) ?_
              refine lv_iconst (v := nI 0) C.x C.b dX5_play_78 (by decide) ?_
              refine lv_aload_n C.x C.b dX5_play_79 rfl (lv_at hl 3 rfl) ?_
              refine x_get C hW 0 4 3 (Cn := RX5) (T := TX5) (N := 15) rfl rfl (by decide) hinX5 hf17 rfl dX5_play_80 ?_
              refine lv_iload C.x C.b dX5_play_83 (lv_at hl 0 rfl) ?_
              refine x_ald C hW 2 i rfl rfl (by omega) (by decide) dX5_play_85 ?_
              refine lv_iconst (v := nI 1) C.x C.b dX5_play_86 (by decide) ?_
              refine lv_isub C.x C.b dX5_play_87 ?_
              refine va_mmax C.x C.b (C.2.2.1.trans hl.1.symm) C.ow (C.ts (.methodLink RX5 115 Lib.Math.max.name) (by decide +kernel)) (C.ts (.static Lib.Math.max.name) (by decide +kernel)) (C.ts (.initialized "java/lang/Math") (by decide +kernel)) (C.ts (.code Lib.Math.max.name Lib.Math.max.code 2 (some .int)) (by decide +kernel)) (Nat.le_of_ble_eq_true rfl) (Nat.le_of_ble_eq_true rfl) (Nat.zero_le _) (Nat.zero_le _) dX5_play_88 ?_
              refine x_toi (y := nI (snW aw i i - 1)) (z_max0 (by have := snW_le ha i i; omega)) ?_
              refine x_ast C hW 2 i (snW aw i i - 1) rfl rfl rfl (by omega) (by decide) dX5_play_91 (w' := [(h0, .inr (4, [.int x, .int (nI (roN g b z)), .ref k1, .ref k2, .int (nI sp), .int (nI pl), .int (nI tu), .int (nI fr), .int (nI nf), .ref k3, .ref k4, .ref k5, .ref k6, .ref k7, .ref k8])), (k1, aI E 9 (pwW (feN g b z) w 9)), (k2, aI E 5 (upN (snW aw i) i (snW aw i i - 1))), (k3, aI E 4 my), (k4, aI E 120 fe), (k5, aI E 44 be), (k6, aI E 4 sk), (k7, aI E 4 cl), (k8, aI E 40 ex)]) rfl (fun H locs hW => ?_)
              refine lv_iinc (k := 0) (v := nI (i + 1)) (lv' := [(5, .int (nI (i + 1))), (4, .int (nI (pcN (feN g b z)))), (3, .int (nI (roN g b z))), (0, .ref h0), (1, .int (nI b)), (2, .int (nI z))]) C.x C.b dX5_play_92 hl rfl (z_inc i 1) (by decide) rfl (fun ls hl => ?_)
              refine lv_goto (tgt := 66) C.x C.b dX5_play_95 (by decide) ?_
              exact ih3 (i + 1) (by omega) (by omega)  _ _ _ (hW.to (by first | rfl | (simp [pwW, snW, c_2, c_4]; done) | (rw [if_pos (by omega)]; done) | (rw [if_neg (by omega)]; done) | (exfalso; omega) | (simp only [pwW, snW]; (repeat' split) <;> first | rfl | contradiction | (exfalso; omega)))) (lv_to (lv_sub (l' := [(5, .int (nI (i + 1))), (4, .int (nI (pcN (feN g b z)))), (3, .int (nI (roN g b z))), (0, .ref h0), (1, .int (nI b)), (2, .int (nI z))]) hl [0, 1, 2, 3, 4, 5] rfl) (by first | rfl | (simp [pwW, snW, c_2, c_4]; done) | (rw [if_pos (by omega)]; done) | (rw [if_neg (by omega)]; done) | (exfalso; omega) | (simp only [pwW, snW]; (repeat' split) <;> first | rfl | contradiction | (exfalso; omega))))
        exact lp_3 (5 + 1) 0 (by omega) (by omega)  _ _ _ (hW.to rfl) (lv_to (lv_sub (l' := [(5, .int (nI 0)), (4, .int (nI (pcN (feN g b z)))), (3, .int (nI (roN g b z))), (0, .ref h0), (1, .int (nI b)), (2, .int (nI z))]) hl [0, 1, 2, 3, 4, 5] rfl) rfl)
      · refine lv_aload_n C.x C.b dX5_play_31 rfl (lv_at hl 3 rfl) ?_
        refine x_get C hW 0 4 2 (Cn := RX5) (T := TX5) (N := 15) rfl rfl (by decide) hinX5 hf13 rfl dX5_play_32 ?_
        refine lv_iload C.x C.b dX5_play_35 (lv_at hl 0 rfl) ?_
        refine lv_dup2_11 C.x C.b dX5_play_37 rfl rfl ?_
        refine x_ald C hW 1 i rfl rfl (by omega) (by decide) dX5_play_38 ?_
        refine lv_aload_n C.x C.b dX5_play_39 rfl (lv_at hl 3 rfl) ?_
        refine x_get C hW 0 4 1 (Cn := RX5) (T := TX5) (N := 15) rfl rfl (by decide) hinX5 hf9 rfl dX5_play_40 ?_
        refine lv_iload_n C.x C.b dX5_play_43 rfl (lv_at hl 2 rfl) ?_
        refine lv_ixor C.x C.b dX5_play_44 ?_
        refine x_toi (y := nI (feN g b z)) ((z_xor _ _).trans (congrArg nI (fe_xor hg))) ?_
        refine lv_iload C.x C.b dX5_play_45 (lv_at hl 0 rfl) ?_
        refine x_ishr C (by omega) (by have := fe_lt (b := b) (z := z) hg; omega) dX5_play_47 ?_
        refine lv_iconst (v := nI 1) C.x C.b dX5_play_48 (by decide) ?_
        refine x_iand1 C dX5_play_49 ?_
        refine x_iadd C dX5_play_50 ?_
        refine x_ast C hW 1 i (((pwW (feN g b z) w i) i) + (((feN g b z) / 2 ^ i) % 2)) rfl rfl rfl (by omega) (by decide) dX5_play_51 (w' := [(h0, .inr (4, [.int x, .int (nI g), .ref k1, .ref k2, .int (nI sp), .int (nI pl), .int (nI tu), .int (nI fr), .int (nI nf), .ref k3, .ref k4, .ref k5, .ref k6, .ref k7, .ref k8])), (k1, aI E 9 (upN (pwW (feN g b z) w i) i (((pwW (feN g b z) w i) i) + (((feN g b z) / 2 ^ i) % 2)))), (k2, aI E 5 aw), (k3, aI E 4 my), (k4, aI E 120 fe), (k5, aI E 44 be), (k6, aI E 4 sk), (k7, aI E 4 cl), (k8, aI E 40 ex)]) rfl (fun H locs hW => ?_)
        refine lv_iinc (k := 0) (v := nI (i + 1)) (lv' := [(5, .int (nI (i + 1))), (4, .int (nI (pcN (feN g b z)))), (3, .int (nI (roN g b z))), (0, .ref h0), (1, .int (nI b)), (2, .int (nI z))]) C.x C.b dX5_play_52 hl rfl (z_inc i 1) (by decide) rfl (fun ls hl => ?_)
        refine lv_goto (tgt := 24) C.x C.b dX5_play_55 (by decide) ?_
        exact ih1 (i + 1) (by omega) (by omega)  _ _ _ (hW.to (by first | rfl | (simp [pwW, snW, c_2]; done) | (rw [if_pos (by omega)]; done) | (rw [if_neg (by omega)]; done) | (exfalso; omega) | (simp only [pwW, snW]; (repeat' split) <;> first | rfl | contradiction | (exfalso; omega)))) (lv_to (lv_sub (l' := [(5, .int (nI (i + 1))), (4, .int (nI (pcN (feN g b z)))), (3, .int (nI (roN g b z))), (0, .ref h0), (1, .int (nI b)), (2, .int (nI z))]) hl [0, 1, 2, 3, 4, 5] rfl) (by first | rfl | (simp [pwW, snW, c_2]; done) | (rw [if_pos (by omega)]; done) | (rw [if_neg (by omega)]; done) | (exfalso; omega) | (simp only [pwW, snW]; (repeat' split) <;> first | rfl | contradiction | (exfalso; omega))))
  exact lp_1 (9 + 1) 0 (by omega) (by omega)  _ _ _ (hW.to rfl) (lv_to (lv_sub (l' := [(5, .int (nI 0)), (4, .int (nI (pcN (feN g b z)))), (3, .int (nI (roN g b z))), (0, .ref h0), (1, .int (nI b)), (2, .int (nI z))]) hl [0, 1, 2, 3, 4, 5] rfl) rfl)

set_option maxHeartbeats 4000000 in
set_option maxRecDepth 100000 in
theorem met_X5_throwBall_go (l : Launch) (E : EV) (h0 k1 k2 k3 k4 k5 k6 k7 k8 : Nat) (x : Int32) (g sp pl tu fr nf : Nat) (w aw my fe be sk cl ex : Nat → Nat) (b z : Nat) (hg : g < 512) (hb : b < 5) (hz : z < 5) (ha : ∀ i, aw i ≤ 2) (htu : tu < 4) (hpl : pl ≤ 4) (hmt : my tu < 30) (hnf : nf ≤ 2) (hp1 : 1 ≤ pl) (hfr : fr < 10) (haw : aw b = 0) (hgo : ¬ roN g b z = 0) (hg2 : ¬ nf + 1 = 3) : MI l yX5_throwBall wsX5_throwBall { frames := 7, cells := 0, slots := 0, locals := 163 } E [.ref h0, .int (nI b), .int (nI z)] [(h0, .inr (4, [.int x, .int (nI g), .ref k1, .ref k2, .int (nI sp), .int (nI pl), .int (nI tu), .int (nI fr), .int (nI nf), .ref k3, .ref k4, .ref k5, .ref k6, .ref k7, .ref k8])), (k1, aI E 9 w), (k2, aI E 5 aw), (k3, aI E 4 my), (k4, aI E 120 fe), (k5, aI E 44 be), (k6, aI E 4 sk), (k7, aI E 4 cl), (k8, aI E 40 ex)] (nI (pcN (feN g b z))) [(h0, .inr (4, [.int (nI 0), .int (nI (roN g b z)), .ref k1, .ref k2, .int (nI sp), .int (nI pl), .int (nI tu), .int (nI fr), .int (nI (nf + 1)), .ref k3, .ref k4, .ref k5, .ref k6, .ref k7, .ref k8])), (k1, aI E 9 (pwW (feN g b z) w 9)), (k2, aI E 5 (upN (snW aw 5) b 2)), (k3, aI E 4 (upN my tu (my tu + 1))), (k4, aI E 120 (upN fe (30 * tu + my tu) (pcN (feN g b z)))), (k5, aI E 44 be), (k6, aI E 4 sk), (k7, aI E 4 cl), (k8, aI E 40 ex)] := by
  refine sI (own := RX5) (cc := cX5_throwBall) (maxL := 3) (ret := (some .int)) rfl (by decide) rfl (Nat.le_of_ble_eq_true rfl) ?_
  intro p e s m below meth c C hnm ls hl hW
  have hl : lv_has ls 3 [(0, .ref h0), (1, .int (nI b)), (2, .int (nI z))] := hl
  have hW : WD E _ s [(h0, .inr (4, [.int x, .int (nI g), .ref k1, .ref k2, .int (nI sp), .int (nI pl), .int (nI tu), .int (nI fr), .int (nI nf), .ref k3, .ref k4, .ref k5, .ref k6, .ref k7, .ref k8])), (k1, aI E 9 w), (k2, aI E 5 aw), (k3, aI E 4 my), (k4, aI E 120 fe), (k5, aI E 44 be), (k6, aI E 4 sk), (k7, aI E 4 cl), (k8, aI E 40 ex)] s.heap [] := hW
  have hinX5 : ∀ w ∈ u_ws RX5 TX5 15, w ∈ wsX5_throwBall := by decide +kernel
  have hf41 : Cond.fieldLink RX5 41 (TX5 0).1 (TX5 0).2.1 (TX5 0).2.2.1 ∈ wsX5_throwBall := by decide +kernel
  have hf17 : Cond.fieldLink RX5 17 (TX5 3).1 (TX5 3).2.1 (TX5 3).2.2.1 ∈ wsX5_throwBall := by decide +kernel
  have hf48 : Cond.fieldLink RX5 48 (TX5 5).1 (TX5 5).2.1 (TX5 5).2.2.1 ∈ wsX5_throwBall := by decide +kernel
  refine lv_aload_n C.x C.b dX5_throwBall_0 rfl (lv_at hl 0 rfl) ?_
  refine lv_iconst (v := nI 0) C.x C.b dX5_throwBall_1 (by decide) ?_
  refine x_put C hW 0 4 0 (Cn := RX5) (T := TX5) (N := 15) (w' := [(h0, .inr (4, [.int (nI 0), .int (nI g), .ref k1, .ref k2, .int (nI sp), .int (nI pl), .int (nI tu), .int (nI fr), .int (nI nf), .ref k3, .ref k4, .ref k5, .ref k6, .ref k7, .ref k8])), (k1, aI E 9 w), (k2, aI E 5 aw), (k3, aI E 4 my), (k4, aI E 120 fe), (k5, aI E 44 be), (k6, aI E 4 sk), (k7, aI E 4 cl), (k8, aI E 40 ex)]) tyX5 tyX5_ok nmX5 rfl rfl (by decide) hinX5 hf41 rfl (by decide +kernel) (Nat.le_of_ble_eq_true rfl) dX5_throwBall_2 rfl (fun H locs hW => ?_)
  refine lv_iload_n C.x C.b dX5_throwBall_5 rfl (lv_at hl 1 rfl) ?_
  refine lv_iload_n C.x C.b dX5_throwBall_6 rfl (lv_at hl 2 rfl) ?_
  refine x_cSI C hW (As := [.int (nI b), .int (nI z)]) (rest := []) (wr := [(h0, .inr (4, [.int (nI 0), .int (nI g), .ref k1, .ref k2, .int (nI sp), .int (nI pl), .int (nI tu), .int (nI fr), .int (nI nf), .ref k3, .ref k4, .ref k5, .ref k6, .ref k7, .ref k8])), (k1, aI E 9 w), (k2, aI E 5 aw), (k3, aI E 4 my), (k4, aI E 120 fe), (k5, aI E 44 be), (k6, aI E 4 sk), (k7, aI E 4 cl), (k8, aI E 40 ex)]) (wn := [(h0, .inr (4, [.int (nI 0), .int (nI g), .ref k1, .ref k2, .int (nI sp), .int (nI pl), .int (nI tu), .int (nI fr), .int (nI nf), .ref k3, .ref k4, .ref k5, .ref k6, .ref k7, .ref k8])), (k1, aI E 9 w), (k2, aI E 5 aw), (k3, aI E 4 my), (k4, aI E 120 fe), (k5, aI E 44 be), (k6, aI E 4 sk), (k7, aI E 4 cl), (k8, aI E 40 ex)]) (met_X5_isThrow l E (nI b) (nI z)) gX5_throwBall_X5_isThrow rfl 2 rfl ⟨rfl, rfl⟩ ⟨by decide +kernel, by decide +kernel, by decide +kernel⟩ ⟨Nat.le_of_ble_eq_true rfl, Nat.le_of_ble_eq_true rfl⟩ [] [0, 1, 2, 3, 4, 5, 6, 7, 8] [0, 1, 2, 3, 4, 5, 6, 7, 8] rfl (by decide) rfl (by decide) (by decide) rfl (by decide) hl.1 rfl (Nat.le_of_ble_eq_true rfl) dX5_throwBall_7 ⟨Nat.zero_le _, Nat.zero_le _⟩ (fun H locs hW => ?_)
  refine x_ifb_ne C (tgt := 19) dX5_throwBall_10 (by decide) (fun c_1 => ?_) (fun c_1 => ?_)
  · refine lv_aload_n C.x C.b dX5_throwBall_19 rfl (lv_at hl 0 rfl) ?_
    refine x_get C hW 0 4 5 (Cn := RX5) (T := TX5) (N := 15) rfl rfl (by decide) hinX5 hf48 rfl dX5_throwBall_20 ?_
    refine x_if_eq C (by omega) (tgt := 42) dX5_throwBall_23 (by decide) (fun c_2 => ?_) (fun c_2 => ?_)
    · exact absurd c_2 (by omega)
    · refine lv_aload_n C.x C.b dX5_throwBall_26 rfl (lv_at hl 0 rfl) ?_
      refine x_cVI C hW (As := []) (rest := []) (wr := []) (wn := [(h0, .inr (4, [.int (nI 0), .int (nI g), .ref k1, .ref k2, .int (nI sp), .int (nI pl), .int (nI tu), .int (nI fr), .int (nI nf), .ref k3, .ref k4, .ref k5, .ref k6, .ref k7, .ref k8])), (k1, aI E 9 w), (k2, aI E 5 aw), (k3, aI E 4 my), (k4, aI E 120 fe), (k5, aI E 44 be), (k6, aI E 4 sk), (k7, aI E 4 cl), (k8, aI E 40 ex)]) (Cn := RX5) (met_X5_over l E h0 k1 k2 k3 k4 k5 k6 k7 k8 (nI 0) g sp pl tu fr nf w aw my fe be sk cl ex (by omega)) gX5_throwBall_X5_over rfl 0 rfl ⟨rfl, rfl⟩ ⟨rfl, by decide +kernel, by decide +kernel, by decide +kernel⟩ ⟨Nat.le_of_ble_eq_true rfl, Nat.le_of_ble_eq_true rfl⟩ [0, 1, 2, 3, 4, 5, 6, 7, 8] [] [0, 1, 2, 3, 4, 5, 6, 7, 8] rfl (by decide) rfl (by decide) (by decide) rfl (by decide) 0 4 rfl rfl hl.1 rfl (Nat.le_of_ble_eq_true rfl) dX5_throwBall_27 ⟨Nat.zero_le _, Nat.zero_le _⟩ (fun H locs hW => ?_)
      refine x_ifb_ne C (tgt := 42) dX5_throwBall_30 (by decide) (fun c_3 => ?_) (fun c_3 => ?_)
      · exact absurd c_3 (by omega)
      · refine lv_aload_n C.x C.b dX5_throwBall_33 rfl (lv_at hl 0 rfl) ?_
        refine x_get C hW 0 4 3 (Cn := RX5) (T := TX5) (N := 15) rfl rfl (by decide) hinX5 hf17 rfl dX5_throwBall_34 ?_
        refine lv_iload_n C.x C.b dX5_throwBall_37 rfl (lv_at hl 1 rfl) ?_
        refine x_ald C hW 2 b rfl rfl (by omega) (by decide) dX5_throwBall_38 ?_
        refine x_if_le C (by omega) (tgt := 50) dX5_throwBall_39 (by decide) (fun c_4 => ?_) (fun c_4 => ?_)
        · refine lv_aload_n C.x C.b dX5_throwBall_50 rfl (lv_at hl 0 rfl) ?_
          refine lv_iload_n C.x C.b dX5_throwBall_51 rfl (lv_at hl 1 rfl) ?_
          refine lv_iload_n C.x C.b dX5_throwBall_52 rfl (lv_at hl 2 rfl) ?_
          refine x_cVI C hW (As := [.int (nI b), .int (nI z)]) (rest := []) (wr := []) (wn := [(h0, .inr (4, [.int (nI 0), .int (nI (roN g b z)), .ref k1, .ref k2, .int (nI sp), .int (nI pl), .int (nI tu), .int (nI fr), .int (nI (nf + 1)), .ref k3, .ref k4, .ref k5, .ref k6, .ref k7, .ref k8])), (k1, aI E 9 (pwW (feN g b z) w 9)), (k2, aI E 5 (upN (snW aw 5) b 2)), (k3, aI E 4 (upN my tu (my tu + 1))), (k4, aI E 120 (upN fe (30 * tu + my tu) (pcN (feN g b z)))), (k5, aI E 44 be), (k6, aI E 4 sk), (k7, aI E 4 cl), (k8, aI E 40 ex)]) (Cn := RX5) (met_X5_play_go l E h0 k1 k2 k3 k4 k5 k6 k7 k8 (nI 0) g sp pl tu fr nf w aw my fe be sk cl ex b z (by omega) (by omega) (by omega) ha (by omega) (by omega) (by omega) (by omega) (by omega) (by omega)) gX5_throwBall_X5_play rfl 2 rfl ⟨rfl, rfl⟩ ⟨rfl, by decide +kernel, by decide +kernel, by decide +kernel⟩ ⟨Nat.le_of_ble_eq_true rfl, Nat.le_of_ble_eq_true rfl⟩ [0, 1, 2, 3, 4, 5, 6, 7, 8] [] [0, 1, 2, 3, 4, 5, 6, 7, 8] rfl (by decide) rfl (by decide) (by decide) rfl (by decide) 0 4 rfl rfl hl.1 rfl (Nat.le_of_ble_eq_true rfl) dX5_throwBall_53 ⟨Nat.zero_le _, Nat.zero_le _⟩ (fun H locs hW => ?_)
          exact x_iret C hW rfl rfl rfl dX5_throwBall_56
        · exact absurd (by omega) c_4
  · exact absurd ⟨z_inR (by omega) (by decide), z_inR (by omega) (by decide)⟩ c_1

set_option maxHeartbeats 4000000 in
set_option maxRecDepth 100000 in
theorem met_X5_throwBall_end (l : Launch) (E : EV) (h0 k1 k2 k3 k4 k5 k6 k7 k8 : Nat) (x : Int32) (g sp pl tu fr nf : Nat) (w aw my fe be sk cl ex : Nat → Nat) (b z : Nat) (hg : g < 512) (hb : b < 5) (hz : z < 5) (ha : ∀ i, aw i ≤ 2) (htu : tu < 4) (hpl : pl ≤ 4) (hmt : my tu < 30) (hnf : nf ≤ 2) (hp1 : 1 ≤ pl) (hfr : fr < 10) (haw : aw b = 0) (hend : roN g b z = 0 ∨ nf + 1 = 3) (hpw : ∀ i, pwW (feN g b z) w 9 i ≤ 12) (hmy : ∀ j, my j ≤ 30) (hfe : ∀ j, fe j ≤ 9) (hbe : ∀ j, be j ≤ 30) : MI l yX5_throwBall wsX5_throwBall { frames := 7, cells := 0, slots := 0, locals := 163 } E [.ref h0, .int (nI b), .int (nI z)] [(h0, .inr (4, [.int x, .int (nI g), .ref k1, .ref k2, .int (nI sp), .int (nI pl), .int (nI tu), .int (nI fr), .int (nI nf), .ref k3, .ref k4, .ref k5, .ref k6, .ref k7, .ref k8])), (k1, aI E 9 w), (k2, aI E 5 aw), (k3, aI E 4 my), (k4, aI E 120 fe), (k5, aI E 44 be), (k6, aI E 4 sk), (k7, aI E 4 cl), (k8, aI E 40 ex)] (nI (pcN (feN g b z))) [(h0, .inr (4, [.int (nI 0), .int (nI (if (if tu + 1 = pl then fr + 1 else fr) = 10 then (roN g b z) else suN (pwW (feN g b z) w 9) 9)), .ref k1, .ref k2, .int (nI sp), .int (nI pl), .int (nI (if tu + 1 = pl then 0 else tu + 1)), .int (nI (if tu + 1 = pl then fr + 1 else fr)), .int (nI 0), .ref k3, .ref k4, .ref k5, .ref k6, .ref k7, .ref k8])), (k1, aI E 9 ((pwW (feN g b z) w 9))), (k2, aI E 5 ((upN (snW aw 5) b 2))), (k3, aI E 4 ((upN my tu (my tu + 1)))), (k4, aI E 120 ((upN fe (30 * tu + my tu) (pcN (feN g b z))))), (k5, aI E 44 (upN be (11 * tu + fr + 1) ((upN my tu (my tu + 1)) tu))), (k6, aI E 4 (if (roN g b z) = 0 ∧ 0 < smQ (upN my tu (my tu + 1)) (upN fe (30 * tu + my tu) (pcN (feN g b z))) tu (be (11 * tu + fr)) ((upN my tu (my tu + 1)) tu) ∧ (nf + 1) = 1 then upN sk tu (sk tu + 1) else sk)), (k7, aI E 4 (if (roN g b z) = 0 ∧ 0 < smQ (upN my tu (my tu + 1)) (upN fe (30 * tu + my tu) (pcN (feN g b z))) tu (be (11 * tu + fr)) ((upN my tu (my tu + 1)) tu) ∧ ¬ (nf + 1) = 1 then upN cl tu (cl tu + 1) else cl)), (k8, aI E 40 (if (roN g b z) = 0 ∧ 0 < smQ (upN my tu (my tu + 1)) (upN fe (30 * tu + my tu) (pcN (feN g b z))) tu (be (11 * tu + fr)) ((upN my tu (my tu + 1)) tu) then upN ex (10 * tu + fr) (if (nf + 1) = 1 then 2 else 1) else ex))] := by
  refine sI (own := RX5) (cc := cX5_throwBall) (maxL := 3) (ret := (some .int)) rfl (by decide) rfl (Nat.le_of_ble_eq_true rfl) ?_
  intro p e s m below meth c C hnm ls hl hW
  have hl : lv_has ls 3 [(0, .ref h0), (1, .int (nI b)), (2, .int (nI z))] := hl
  have hW : WD E _ s [(h0, .inr (4, [.int x, .int (nI g), .ref k1, .ref k2, .int (nI sp), .int (nI pl), .int (nI tu), .int (nI fr), .int (nI nf), .ref k3, .ref k4, .ref k5, .ref k6, .ref k7, .ref k8])), (k1, aI E 9 w), (k2, aI E 5 aw), (k3, aI E 4 my), (k4, aI E 120 fe), (k5, aI E 44 be), (k6, aI E 4 sk), (k7, aI E 4 cl), (k8, aI E 40 ex)] s.heap [] := hW
  have hinX5 : ∀ w ∈ u_ws RX5 TX5 15, w ∈ wsX5_throwBall := by decide +kernel
  have hf41 : Cond.fieldLink RX5 41 (TX5 0).1 (TX5 0).2.1 (TX5 0).2.2.1 ∈ wsX5_throwBall := by decide +kernel
  have hf17 : Cond.fieldLink RX5 17 (TX5 3).1 (TX5 3).2.1 (TX5 3).2.2.1 ∈ wsX5_throwBall := by decide +kernel
  have hf48 : Cond.fieldLink RX5 48 (TX5 5).1 (TX5 5).2.1 (TX5 5).2.2.1 ∈ wsX5_throwBall := by decide +kernel
  refine lv_aload_n C.x C.b dX5_throwBall_0 rfl (lv_at hl 0 rfl) ?_
  refine lv_iconst (v := nI 0) C.x C.b dX5_throwBall_1 (by decide) ?_
  refine x_put C hW 0 4 0 (Cn := RX5) (T := TX5) (N := 15) (w' := [(h0, .inr (4, [.int (nI 0), .int (nI g), .ref k1, .ref k2, .int (nI sp), .int (nI pl), .int (nI tu), .int (nI fr), .int (nI nf), .ref k3, .ref k4, .ref k5, .ref k6, .ref k7, .ref k8])), (k1, aI E 9 w), (k2, aI E 5 aw), (k3, aI E 4 my), (k4, aI E 120 fe), (k5, aI E 44 be), (k6, aI E 4 sk), (k7, aI E 4 cl), (k8, aI E 40 ex)]) tyX5 tyX5_ok nmX5 rfl rfl (by decide) hinX5 hf41 rfl (by decide +kernel) (Nat.le_of_ble_eq_true rfl) dX5_throwBall_2 rfl (fun H locs hW => ?_)
  refine lv_iload_n C.x C.b dX5_throwBall_5 rfl (lv_at hl 1 rfl) ?_
  refine lv_iload_n C.x C.b dX5_throwBall_6 rfl (lv_at hl 2 rfl) ?_
  refine x_cSI C hW (As := [.int (nI b), .int (nI z)]) (rest := []) (wr := [(h0, .inr (4, [.int (nI 0), .int (nI g), .ref k1, .ref k2, .int (nI sp), .int (nI pl), .int (nI tu), .int (nI fr), .int (nI nf), .ref k3, .ref k4, .ref k5, .ref k6, .ref k7, .ref k8])), (k1, aI E 9 w), (k2, aI E 5 aw), (k3, aI E 4 my), (k4, aI E 120 fe), (k5, aI E 44 be), (k6, aI E 4 sk), (k7, aI E 4 cl), (k8, aI E 40 ex)]) (wn := [(h0, .inr (4, [.int (nI 0), .int (nI g), .ref k1, .ref k2, .int (nI sp), .int (nI pl), .int (nI tu), .int (nI fr), .int (nI nf), .ref k3, .ref k4, .ref k5, .ref k6, .ref k7, .ref k8])), (k1, aI E 9 w), (k2, aI E 5 aw), (k3, aI E 4 my), (k4, aI E 120 fe), (k5, aI E 44 be), (k6, aI E 4 sk), (k7, aI E 4 cl), (k8, aI E 40 ex)]) (met_X5_isThrow l E (nI b) (nI z)) gX5_throwBall_X5_isThrow rfl 2 rfl ⟨rfl, rfl⟩ ⟨by decide +kernel, by decide +kernel, by decide +kernel⟩ ⟨Nat.le_of_ble_eq_true rfl, Nat.le_of_ble_eq_true rfl⟩ [] [0, 1, 2, 3, 4, 5, 6, 7, 8] [0, 1, 2, 3, 4, 5, 6, 7, 8] rfl (by decide) rfl (by decide) (by decide) rfl (by decide) hl.1 rfl (Nat.le_of_ble_eq_true rfl) dX5_throwBall_7 ⟨Nat.zero_le _, Nat.zero_le _⟩ (fun H locs hW => ?_)
  refine x_ifb_ne C (tgt := 19) dX5_throwBall_10 (by decide) (fun c_1 => ?_) (fun c_1 => ?_)
  · refine lv_aload_n C.x C.b dX5_throwBall_19 rfl (lv_at hl 0 rfl) ?_
    refine x_get C hW 0 4 5 (Cn := RX5) (T := TX5) (N := 15) rfl rfl (by decide) hinX5 hf48 rfl dX5_throwBall_20 ?_
    refine x_if_eq C (by omega) (tgt := 42) dX5_throwBall_23 (by decide) (fun c_2 => ?_) (fun c_2 => ?_)
    · exact absurd c_2 (by omega)
    · refine lv_aload_n C.x C.b dX5_throwBall_26 rfl (lv_at hl 0 rfl) ?_
      refine x_cVI C hW (As := []) (rest := []) (wr := []) (wn := [(h0, .inr (4, [.int (nI 0), .int (nI g), .ref k1, .ref k2, .int (nI sp), .int (nI pl), .int (nI tu), .int (nI fr), .int (nI nf), .ref k3, .ref k4, .ref k5, .ref k6, .ref k7, .ref k8])), (k1, aI E 9 w), (k2, aI E 5 aw), (k3, aI E 4 my), (k4, aI E 120 fe), (k5, aI E 44 be), (k6, aI E 4 sk), (k7, aI E 4 cl), (k8, aI E 40 ex)]) (Cn := RX5) (met_X5_over l E h0 k1 k2 k3 k4 k5 k6 k7 k8 (nI 0) g sp pl tu fr nf w aw my fe be sk cl ex (by omega)) gX5_throwBall_X5_over rfl 0 rfl ⟨rfl, rfl⟩ ⟨rfl, by decide +kernel, by decide +kernel, by decide +kernel⟩ ⟨Nat.le_of_ble_eq_true rfl, Nat.le_of_ble_eq_true rfl⟩ [0, 1, 2, 3, 4, 5, 6, 7, 8] [] [0, 1, 2, 3, 4, 5, 6, 7, 8] rfl (by decide) rfl (by decide) (by decide) rfl (by decide) 0 4 rfl rfl hl.1 rfl (Nat.le_of_ble_eq_true rfl) dX5_throwBall_27 ⟨Nat.zero_le _, Nat.zero_le _⟩ (fun H locs hW => ?_)
      refine x_ifb_ne C (tgt := 42) dX5_throwBall_30 (by decide) (fun c_3 => ?_) (fun c_3 => ?_)
      · exact absurd c_3 (by omega)
      · refine lv_aload_n C.x C.b dX5_throwBall_33 rfl (lv_at hl 0 rfl) ?_
        refine x_get C hW 0 4 3 (Cn := RX5) (T := TX5) (N := 15) rfl rfl (by decide) hinX5 hf17 rfl dX5_throwBall_34 ?_
        refine lv_iload_n C.x C.b dX5_throwBall_37 rfl (lv_at hl 1 rfl) ?_
        refine x_ald C hW 2 b rfl rfl (by omega) (by decide) dX5_throwBall_38 ?_
        refine x_if_le C (by omega) (tgt := 50) dX5_throwBall_39 (by decide) (fun c_4 => ?_) (fun c_4 => ?_)
        · refine lv_aload_n C.x C.b dX5_throwBall_50 rfl (lv_at hl 0 rfl) ?_
          refine lv_iload_n C.x C.b dX5_throwBall_51 rfl (lv_at hl 1 rfl) ?_
          refine lv_iload_n C.x C.b dX5_throwBall_52 rfl (lv_at hl 2 rfl) ?_
          refine x_cVI C hW (As := [.int (nI b), .int (nI z)]) (rest := []) (wr := []) (wn := [(h0, .inr (4, [.int (nI 0), .int (nI (if (if tu + 1 = pl then fr + 1 else fr) = 10 then (roN g b z) else suN (pwW (feN g b z) w 9) 9)), .ref k1, .ref k2, .int (nI sp), .int (nI pl), .int (nI (if tu + 1 = pl then 0 else tu + 1)), .int (nI (if tu + 1 = pl then fr + 1 else fr)), .int (nI 0), .ref k3, .ref k4, .ref k5, .ref k6, .ref k7, .ref k8])), (k1, aI E 9 ((pwW (feN g b z) w 9))), (k2, aI E 5 ((upN (snW aw 5) b 2))), (k3, aI E 4 ((upN my tu (my tu + 1)))), (k4, aI E 120 ((upN fe (30 * tu + my tu) (pcN (feN g b z))))), (k5, aI E 44 (upN be (11 * tu + fr + 1) ((upN my tu (my tu + 1)) tu))), (k6, aI E 4 (if (roN g b z) = 0 ∧ 0 < smQ (upN my tu (my tu + 1)) (upN fe (30 * tu + my tu) (pcN (feN g b z))) tu (be (11 * tu + fr)) ((upN my tu (my tu + 1)) tu) ∧ (nf + 1) = 1 then upN sk tu (sk tu + 1) else sk)), (k7, aI E 4 (if (roN g b z) = 0 ∧ 0 < smQ (upN my tu (my tu + 1)) (upN fe (30 * tu + my tu) (pcN (feN g b z))) tu (be (11 * tu + fr)) ((upN my tu (my tu + 1)) tu) ∧ ¬ (nf + 1) = 1 then upN cl tu (cl tu + 1) else cl)), (k8, aI E 40 (if (roN g b z) = 0 ∧ 0 < smQ (upN my tu (my tu + 1)) (upN fe (30 * tu + my tu) (pcN (feN g b z))) tu (be (11 * tu + fr)) ((upN my tu (my tu + 1)) tu) then upN ex (10 * tu + fr) (if (nf + 1) = 1 then 2 else 1) else ex))]) (Cn := RX5) (met_X5_play_end l E h0 k1 k2 k3 k4 k5 k6 k7 k8 (nI 0) g sp pl tu fr nf w aw my fe be sk cl ex b z (by omega) (by omega) (by omega) ha (by omega) (by omega) (by omega) (by omega) (by omega) (by omega) hpw hmy hfe hbe) gX5_throwBall_X5_play rfl 2 rfl ⟨rfl, rfl⟩ ⟨rfl, by decide +kernel, by decide +kernel, by decide +kernel⟩ ⟨Nat.le_of_ble_eq_true rfl, Nat.le_of_ble_eq_true rfl⟩ [0, 1, 2, 3, 4, 5, 6, 7, 8] [] [0, 1, 2, 3, 4, 5, 6, 7, 8] rfl (by decide) rfl (by decide) (by decide) rfl (by decide) 0 4 rfl rfl hl.1 rfl (Nat.le_of_ble_eq_true rfl) dX5_throwBall_53 ⟨Nat.zero_le _, Nat.zero_le _⟩ (fun H locs hW => ?_)
          exact x_iret C hW rfl rfl rfl dX5_throwBall_56
        · exact absurd (by omega) c_4
  · exact absurd ⟨z_inR (by omega) (by decide), z_inR (by omega) (by decide)⟩ c_1

set_option maxHeartbeats 4000000 in
set_option maxRecDepth 100000 in
theorem met_X5_throwBall_no (l : Launch) (E : EV) (h0 k1 k2 k3 k4 k5 k6 k7 k8 : Nat) (x : Int32) (g sp pl tu fr nf : Nat) (w aw my fe be sk cl ex : Nat → Nat) (b z : Nat) (hb : b < 5) (hz : z < 5) (ha : ∀ i, aw i ≤ 2) (hpl : pl ≤ 4) (hfr : fr ≤ 10) (hno : pl = 0 ∨ fr = 10 ∨ 0 < aw b) : MI l yX5_throwBall wsX5_throwBall { frames := 2, cells := 0, slots := 0, locals := 43 } E [.ref h0, .int (nI b), .int (nI z)] [(h0, .inr (4, [.int x, .int (nI g), .ref k1, .ref k2, .int (nI sp), .int (nI pl), .int (nI tu), .int (nI fr), .int (nI nf), .ref k3, .ref k4, .ref k5, .ref k6, .ref k7, .ref k8])), (k1, aI E 9 w), (k2, aI E 5 aw), (k3, aI E 4 my), (k4, aI E 120 fe), (k5, aI E 44 be), (k6, aI E 4 sk), (k7, aI E 4 cl), (k8, aI E 40 ex)] (nI 0) [(h0, .inr (4, [.int (nI 2), .int (nI g), .ref k1, .ref k2, .int (nI sp), .int (nI pl), .int (nI tu), .int (nI fr), .int (nI nf), .ref k3, .ref k4, .ref k5, .ref k6, .ref k7, .ref k8])), (k1, aI E 9 w), (k2, aI E 5 aw), (k3, aI E 4 my), (k4, aI E 120 fe), (k5, aI E 44 be), (k6, aI E 4 sk), (k7, aI E 4 cl), (k8, aI E 40 ex)] := by
  refine sI (own := RX5) (cc := cX5_throwBall) (maxL := 3) (ret := (some .int)) rfl (by decide) rfl (Nat.le_of_ble_eq_true rfl) ?_
  intro p e s m below meth c C hnm ls hl hW
  have hl : lv_has ls 3 [(0, .ref h0), (1, .int (nI b)), (2, .int (nI z))] := hl
  have hW : WD E _ s [(h0, .inr (4, [.int x, .int (nI g), .ref k1, .ref k2, .int (nI sp), .int (nI pl), .int (nI tu), .int (nI fr), .int (nI nf), .ref k3, .ref k4, .ref k5, .ref k6, .ref k7, .ref k8])), (k1, aI E 9 w), (k2, aI E 5 aw), (k3, aI E 4 my), (k4, aI E 120 fe), (k5, aI E 44 be), (k6, aI E 4 sk), (k7, aI E 4 cl), (k8, aI E 40 ex)] s.heap [] := hW
  have hinX5 : ∀ w ∈ u_ws RX5 TX5 15, w ∈ wsX5_throwBall := by decide +kernel
  have hf41 : Cond.fieldLink RX5 41 (TX5 0).1 (TX5 0).2.1 (TX5 0).2.2.1 ∈ wsX5_throwBall := by decide +kernel
  have hf17 : Cond.fieldLink RX5 17 (TX5 3).1 (TX5 3).2.1 (TX5 3).2.2.1 ∈ wsX5_throwBall := by decide +kernel
  have hf48 : Cond.fieldLink RX5 48 (TX5 5).1 (TX5 5).2.1 (TX5 5).2.2.1 ∈ wsX5_throwBall := by decide +kernel
  refine lv_aload_n C.x C.b dX5_throwBall_0 rfl (lv_at hl 0 rfl) ?_
  refine lv_iconst (v := nI 0) C.x C.b dX5_throwBall_1 (by decide) ?_
  refine x_put C hW 0 4 0 (Cn := RX5) (T := TX5) (N := 15) (w' := [(h0, .inr (4, [.int (nI 0), .int (nI g), .ref k1, .ref k2, .int (nI sp), .int (nI pl), .int (nI tu), .int (nI fr), .int (nI nf), .ref k3, .ref k4, .ref k5, .ref k6, .ref k7, .ref k8])), (k1, aI E 9 w), (k2, aI E 5 aw), (k3, aI E 4 my), (k4, aI E 120 fe), (k5, aI E 44 be), (k6, aI E 4 sk), (k7, aI E 4 cl), (k8, aI E 40 ex)]) tyX5 tyX5_ok nmX5 rfl rfl (by decide) hinX5 hf41 rfl (by decide +kernel) (Nat.le_of_ble_eq_true rfl) dX5_throwBall_2 rfl (fun H locs hW => ?_)
  refine lv_iload_n C.x C.b dX5_throwBall_5 rfl (lv_at hl 1 rfl) ?_
  refine lv_iload_n C.x C.b dX5_throwBall_6 rfl (lv_at hl 2 rfl) ?_
  refine x_cSI C hW (As := [.int (nI b), .int (nI z)]) (rest := []) (wr := [(h0, .inr (4, [.int (nI 0), .int (nI g), .ref k1, .ref k2, .int (nI sp), .int (nI pl), .int (nI tu), .int (nI fr), .int (nI nf), .ref k3, .ref k4, .ref k5, .ref k6, .ref k7, .ref k8])), (k1, aI E 9 w), (k2, aI E 5 aw), (k3, aI E 4 my), (k4, aI E 120 fe), (k5, aI E 44 be), (k6, aI E 4 sk), (k7, aI E 4 cl), (k8, aI E 40 ex)]) (wn := [(h0, .inr (4, [.int (nI 0), .int (nI g), .ref k1, .ref k2, .int (nI sp), .int (nI pl), .int (nI tu), .int (nI fr), .int (nI nf), .ref k3, .ref k4, .ref k5, .ref k6, .ref k7, .ref k8])), (k1, aI E 9 w), (k2, aI E 5 aw), (k3, aI E 4 my), (k4, aI E 120 fe), (k5, aI E 44 be), (k6, aI E 4 sk), (k7, aI E 4 cl), (k8, aI E 40 ex)]) (met_X5_isThrow l E (nI b) (nI z)) gX5_throwBall_X5_isThrow rfl 2 rfl ⟨rfl, rfl⟩ ⟨by decide +kernel, by decide +kernel, by decide +kernel⟩ ⟨Nat.le_of_ble_eq_true rfl, Nat.le_of_ble_eq_true rfl⟩ [] [0, 1, 2, 3, 4, 5, 6, 7, 8] [0, 1, 2, 3, 4, 5, 6, 7, 8] rfl (by decide) rfl (by decide) (by decide) rfl (by decide) hl.1 rfl (Nat.le_of_ble_eq_true rfl) dX5_throwBall_7 ⟨Nat.zero_le _, Nat.zero_le _⟩ (fun H locs hW => ?_)
  refine x_ifb_ne C (tgt := 19) dX5_throwBall_10 (by decide) (fun c_1 => ?_) (fun c_1 => ?_)
  · refine lv_aload_n C.x C.b dX5_throwBall_19 rfl (lv_at hl 0 rfl) ?_
    refine x_get C hW 0 4 5 (Cn := RX5) (T := TX5) (N := 15) rfl rfl (by decide) hinX5 hf48 rfl dX5_throwBall_20 ?_
    refine x_if_eq C (by omega) (tgt := 42) dX5_throwBall_23 (by decide) (fun c_2 => ?_) (fun c_2 => ?_)
    · refine lv_aload_n C.x C.b dX5_throwBall_42 rfl (lv_at hl 0 rfl) ?_
      refine lv_iconst (v := nI 2) C.x C.b dX5_throwBall_43 (by decide) ?_
      refine x_cVI C hW (As := [.int (nI 2)]) (rest := []) (wr := []) (wn := [(h0, .inr (4, [.int (nI 2), .int (nI g), .ref k1, .ref k2, .int (nI sp), .int (nI pl), .int (nI tu), .int (nI fr), .int (nI nf), .ref k3, .ref k4, .ref k5, .ref k6, .ref k7, .ref k8])), (k1, aI E 9 w), (k2, aI E 5 aw), (k3, aI E 4 my), (k4, aI E 120 fe), (k5, aI E 44 be), (k6, aI E 4 sk), (k7, aI E 4 cl), (k8, aI E 40 ex)]) (Cn := RX5) (met_X5_no l E h0 k1 k2 k3 k4 k5 k6 k7 k8 (nI 0) g sp pl tu fr nf w aw my fe be sk cl ex 2) gX5_throwBall_X5_no rfl 1 rfl ⟨rfl, rfl⟩ ⟨rfl, by decide +kernel, by decide +kernel, by decide +kernel⟩ ⟨Nat.le_of_ble_eq_true rfl, Nat.le_of_ble_eq_true rfl⟩ [0, 1, 2, 3, 4, 5, 6, 7, 8] [] [0, 1, 2, 3, 4, 5, 6, 7, 8] rfl (by decide) rfl (by decide) (by decide) rfl (by decide) 0 4 rfl rfl hl.1 rfl (Nat.le_of_ble_eq_true rfl) dX5_throwBall_44 ⟨Nat.zero_le _, Nat.zero_le _⟩ (fun H locs hW => ?_)
      refine lv_goto (tgt := 56) C.x C.b dX5_throwBall_47 (by decide) ?_
      exact x_iret C hW rfl rfl rfl dX5_throwBall_56
    · refine lv_aload_n C.x C.b dX5_throwBall_26 rfl (lv_at hl 0 rfl) ?_
      refine x_cVI C hW (As := []) (rest := []) (wr := []) (wn := [(h0, .inr (4, [.int (nI 0), .int (nI g), .ref k1, .ref k2, .int (nI sp), .int (nI pl), .int (nI tu), .int (nI fr), .int (nI nf), .ref k3, .ref k4, .ref k5, .ref k6, .ref k7, .ref k8])), (k1, aI E 9 w), (k2, aI E 5 aw), (k3, aI E 4 my), (k4, aI E 120 fe), (k5, aI E 44 be), (k6, aI E 4 sk), (k7, aI E 4 cl), (k8, aI E 40 ex)]) (Cn := RX5) (met_X5_over l E h0 k1 k2 k3 k4 k5 k6 k7 k8 (nI 0) g sp pl tu fr nf w aw my fe be sk cl ex (by omega)) gX5_throwBall_X5_over rfl 0 rfl ⟨rfl, rfl⟩ ⟨rfl, by decide +kernel, by decide +kernel, by decide +kernel⟩ ⟨Nat.le_of_ble_eq_true rfl, Nat.le_of_ble_eq_true rfl⟩ [0, 1, 2, 3, 4, 5, 6, 7, 8] [] [0, 1, 2, 3, 4, 5, 6, 7, 8] rfl (by decide) rfl (by decide) (by decide) rfl (by decide) 0 4 rfl rfl hl.1 rfl (Nat.le_of_ble_eq_true rfl) dX5_throwBall_27 ⟨Nat.zero_le _, Nat.zero_le _⟩ (fun H locs hW => ?_)
      refine x_ifb_ne C (tgt := 42) dX5_throwBall_30 (by decide) (fun c_3 => ?_) (fun c_3 => ?_)
      · refine lv_aload_n C.x C.b dX5_throwBall_42 rfl (lv_at hl 0 rfl) ?_
        refine lv_iconst (v := nI 2) C.x C.b dX5_throwBall_43 (by decide) ?_
        refine x_cVI C hW (As := [.int (nI 2)]) (rest := []) (wr := []) (wn := [(h0, .inr (4, [.int (nI 2), .int (nI g), .ref k1, .ref k2, .int (nI sp), .int (nI pl), .int (nI tu), .int (nI fr), .int (nI nf), .ref k3, .ref k4, .ref k5, .ref k6, .ref k7, .ref k8])), (k1, aI E 9 w), (k2, aI E 5 aw), (k3, aI E 4 my), (k4, aI E 120 fe), (k5, aI E 44 be), (k6, aI E 4 sk), (k7, aI E 4 cl), (k8, aI E 40 ex)]) (Cn := RX5) (met_X5_no l E h0 k1 k2 k3 k4 k5 k6 k7 k8 (nI 0) g sp pl tu fr nf w aw my fe be sk cl ex 2) gX5_throwBall_X5_no rfl 1 rfl ⟨rfl, rfl⟩ ⟨rfl, by decide +kernel, by decide +kernel, by decide +kernel⟩ ⟨Nat.le_of_ble_eq_true rfl, Nat.le_of_ble_eq_true rfl⟩ [0, 1, 2, 3, 4, 5, 6, 7, 8] [] [0, 1, 2, 3, 4, 5, 6, 7, 8] rfl (by decide) rfl (by decide) (by decide) rfl (by decide) 0 4 rfl rfl hl.1 rfl (Nat.le_of_ble_eq_true rfl) dX5_throwBall_44 ⟨Nat.zero_le _, Nat.zero_le _⟩ (fun H locs hW => ?_)
        refine lv_goto (tgt := 56) C.x C.b dX5_throwBall_47 (by decide) ?_
        exact x_iret C hW rfl rfl rfl dX5_throwBall_56
      · refine lv_aload_n C.x C.b dX5_throwBall_33 rfl (lv_at hl 0 rfl) ?_
        refine x_get C hW 0 4 3 (Cn := RX5) (T := TX5) (N := 15) rfl rfl (by decide) hinX5 hf17 rfl dX5_throwBall_34 ?_
        refine lv_iload_n C.x C.b dX5_throwBall_37 rfl (lv_at hl 1 rfl) ?_
        refine x_ald C hW 2 b rfl rfl (by omega) (by decide) dX5_throwBall_38 ?_
        have h9 := ha b
        refine x_if_le C (by omega) (tgt := 50) dX5_throwBall_39 (by decide) (fun c_4 => ?_) (fun c_4 => ?_)
        · exact absurd c_4 (by omega)
        · refine lv_aload_n C.x C.b dX5_throwBall_42 rfl (lv_at hl 0 rfl) ?_
          refine lv_iconst (v := nI 2) C.x C.b dX5_throwBall_43 (by decide) ?_
          refine x_cVI C hW (As := [.int (nI 2)]) (rest := []) (wr := []) (wn := [(h0, .inr (4, [.int (nI 2), .int (nI g), .ref k1, .ref k2, .int (nI sp), .int (nI pl), .int (nI tu), .int (nI fr), .int (nI nf), .ref k3, .ref k4, .ref k5, .ref k6, .ref k7, .ref k8])), (k1, aI E 9 w), (k2, aI E 5 aw), (k3, aI E 4 my), (k4, aI E 120 fe), (k5, aI E 44 be), (k6, aI E 4 sk), (k7, aI E 4 cl), (k8, aI E 40 ex)]) (Cn := RX5) (met_X5_no l E h0 k1 k2 k3 k4 k5 k6 k7 k8 (nI 0) g sp pl tu fr nf w aw my fe be sk cl ex 2) gX5_throwBall_X5_no rfl 1 rfl ⟨rfl, rfl⟩ ⟨rfl, by decide +kernel, by decide +kernel, by decide +kernel⟩ ⟨Nat.le_of_ble_eq_true rfl, Nat.le_of_ble_eq_true rfl⟩ [0, 1, 2, 3, 4, 5, 6, 7, 8] [] [0, 1, 2, 3, 4, 5, 6, 7, 8] rfl (by decide) rfl (by decide) (by decide) rfl (by decide) 0 4 rfl rfl hl.1 rfl (Nat.le_of_ble_eq_true rfl) dX5_throwBall_44 ⟨Nat.zero_le _, Nat.zero_le _⟩ (fun H locs hW => ?_)
          refine lv_goto (tgt := 56) C.x C.b dX5_throwBall_47 (by decide) ?_
          exact x_iret C hW rfl rfl rfl dX5_throwBall_56
  · exact absurd ⟨z_inR (by omega) (by decide), z_inR (by omega) (by decide)⟩ c_1

set_option maxHeartbeats 4000000 in
set_option maxRecDepth 100000 in
theorem met_X5_throwBall_bad (l : Launch) (E : EV) (h0 k1 k2 k3 k4 k5 k6 k7 k8 : Nat) (x : Int32) (g sp pl tu fr nf : Nat) (w aw my fe be sk cl ex : Nat → Nat) (v u : Int32) (hb : ¬ ((nI 0 ≤ v ∧ v ≤ nI 4) ∧ (nI 0 ≤ u ∧ u ≤ nI 4))) : MI l yX5_throwBall wsX5_throwBall { frames := 2, cells := 0, slots := 0, locals := 43 } E [.ref h0, .int v, .int u] [(h0, .inr (4, [.int x, .int (nI g), .ref k1, .ref k2, .int (nI sp), .int (nI pl), .int (nI tu), .int (nI fr), .int (nI nf), .ref k3, .ref k4, .ref k5, .ref k6, .ref k7, .ref k8])), (k1, aI E 9 w), (k2, aI E 5 aw), (k3, aI E 4 my), (k4, aI E 120 fe), (k5, aI E 44 be), (k6, aI E 4 sk), (k7, aI E 4 cl), (k8, aI E 40 ex)] (nI 0) [(h0, .inr (4, [.int (nI 1), .int (nI g), .ref k1, .ref k2, .int (nI sp), .int (nI pl), .int (nI tu), .int (nI fr), .int (nI nf), .ref k3, .ref k4, .ref k5, .ref k6, .ref k7, .ref k8])), (k1, aI E 9 w), (k2, aI E 5 aw), (k3, aI E 4 my), (k4, aI E 120 fe), (k5, aI E 44 be), (k6, aI E 4 sk), (k7, aI E 4 cl), (k8, aI E 40 ex)] := by
  refine sI (own := RX5) (cc := cX5_throwBall) (maxL := 3) (ret := (some .int)) rfl (by decide) rfl (Nat.le_of_ble_eq_true rfl) ?_
  intro p e s m below meth c C hnm ls hl hW
  have hl : lv_has ls 3 [(0, .ref h0), (1, .int v), (2, .int u)] := hl
  have hW : WD E _ s [(h0, .inr (4, [.int x, .int (nI g), .ref k1, .ref k2, .int (nI sp), .int (nI pl), .int (nI tu), .int (nI fr), .int (nI nf), .ref k3, .ref k4, .ref k5, .ref k6, .ref k7, .ref k8])), (k1, aI E 9 w), (k2, aI E 5 aw), (k3, aI E 4 my), (k4, aI E 120 fe), (k5, aI E 44 be), (k6, aI E 4 sk), (k7, aI E 4 cl), (k8, aI E 40 ex)] s.heap [] := hW
  have hinX5 : ∀ w ∈ u_ws RX5 TX5 15, w ∈ wsX5_throwBall := by decide +kernel
  have hf41 : Cond.fieldLink RX5 41 (TX5 0).1 (TX5 0).2.1 (TX5 0).2.2.1 ∈ wsX5_throwBall := by decide +kernel
  refine lv_aload_n C.x C.b dX5_throwBall_0 rfl (lv_at hl 0 rfl) ?_
  refine lv_iconst (v := nI 0) C.x C.b dX5_throwBall_1 (by decide) ?_
  refine x_put C hW 0 4 0 (Cn := RX5) (T := TX5) (N := 15) (w' := [(h0, .inr (4, [.int (nI 0), .int (nI g), .ref k1, .ref k2, .int (nI sp), .int (nI pl), .int (nI tu), .int (nI fr), .int (nI nf), .ref k3, .ref k4, .ref k5, .ref k6, .ref k7, .ref k8])), (k1, aI E 9 w), (k2, aI E 5 aw), (k3, aI E 4 my), (k4, aI E 120 fe), (k5, aI E 44 be), (k6, aI E 4 sk), (k7, aI E 4 cl), (k8, aI E 40 ex)]) tyX5 tyX5_ok nmX5 rfl rfl (by decide) hinX5 hf41 rfl (by decide +kernel) (Nat.le_of_ble_eq_true rfl) dX5_throwBall_2 rfl (fun H locs hW => ?_)
  refine lv_iload_n C.x C.b dX5_throwBall_5 rfl (lv_at hl 1 rfl) ?_
  refine lv_iload_n C.x C.b dX5_throwBall_6 rfl (lv_at hl 2 rfl) ?_
  refine x_cSI C hW (As := [.int v, .int u]) (rest := []) (wr := [(h0, .inr (4, [.int (nI 0), .int (nI g), .ref k1, .ref k2, .int (nI sp), .int (nI pl), .int (nI tu), .int (nI fr), .int (nI nf), .ref k3, .ref k4, .ref k5, .ref k6, .ref k7, .ref k8])), (k1, aI E 9 w), (k2, aI E 5 aw), (k3, aI E 4 my), (k4, aI E 120 fe), (k5, aI E 44 be), (k6, aI E 4 sk), (k7, aI E 4 cl), (k8, aI E 40 ex)]) (wn := [(h0, .inr (4, [.int (nI 0), .int (nI g), .ref k1, .ref k2, .int (nI sp), .int (nI pl), .int (nI tu), .int (nI fr), .int (nI nf), .ref k3, .ref k4, .ref k5, .ref k6, .ref k7, .ref k8])), (k1, aI E 9 w), (k2, aI E 5 aw), (k3, aI E 4 my), (k4, aI E 120 fe), (k5, aI E 44 be), (k6, aI E 4 sk), (k7, aI E 4 cl), (k8, aI E 40 ex)]) (met_X5_isThrow l E v u) gX5_throwBall_X5_isThrow rfl 2 rfl ⟨rfl, rfl⟩ ⟨by decide +kernel, by decide +kernel, by decide +kernel⟩ ⟨Nat.le_of_ble_eq_true rfl, Nat.le_of_ble_eq_true rfl⟩ [] [0, 1, 2, 3, 4, 5, 6, 7, 8] [0, 1, 2, 3, 4, 5, 6, 7, 8] rfl (by decide) rfl (by decide) (by decide) rfl (by decide) hl.1 rfl (Nat.le_of_ble_eq_true rfl) dX5_throwBall_7 ⟨Nat.zero_le _, Nat.zero_le _⟩ (fun H locs hW => ?_)
  refine x_ifb_ne C (tgt := 19) dX5_throwBall_10 (by decide) (fun c_1 => ?_) (fun c_1 => ?_)
  · exact absurd c_1 hb
  · refine lv_aload_n C.x C.b dX5_throwBall_13 rfl (lv_at hl 0 rfl) ?_
    refine lv_iconst (v := nI 1) C.x C.b dX5_throwBall_14 (by decide) ?_
    refine x_cVI C hW (As := [.int (nI 1)]) (rest := []) (wr := []) (wn := [(h0, .inr (4, [.int (nI 1), .int (nI g), .ref k1, .ref k2, .int (nI sp), .int (nI pl), .int (nI tu), .int (nI fr), .int (nI nf), .ref k3, .ref k4, .ref k5, .ref k6, .ref k7, .ref k8])), (k1, aI E 9 w), (k2, aI E 5 aw), (k3, aI E 4 my), (k4, aI E 120 fe), (k5, aI E 44 be), (k6, aI E 4 sk), (k7, aI E 4 cl), (k8, aI E 40 ex)]) (Cn := RX5) (met_X5_no l E h0 k1 k2 k3 k4 k5 k6 k7 k8 (nI 0) g sp pl tu fr nf w aw my fe be sk cl ex 1) gX5_throwBall_X5_no rfl 1 rfl ⟨rfl, rfl⟩ ⟨rfl, by decide +kernel, by decide +kernel, by decide +kernel⟩ ⟨Nat.le_of_ble_eq_true rfl, Nat.le_of_ble_eq_true rfl⟩ [0, 1, 2, 3, 4, 5, 6, 7, 8] [] [0, 1, 2, 3, 4, 5, 6, 7, 8] rfl (by decide) rfl (by decide) (by decide) rfl (by decide) 0 4 rfl rfl hl.1 rfl (Nat.le_of_ble_eq_true rfl) dX5_throwBall_15 ⟨Nat.zero_le _, Nat.zero_le _⟩ (fun H locs hW => ?_)
    exact x_iret C hW rfl rfl rfl dX5_throwBall_18
