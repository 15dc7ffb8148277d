/-! THE LAW'S OWN ALLEY: frames, scores, throws -/
set_option maxHeartbeats 4000000 in
set_option maxRecDepth 100000 in
theorem met_X5_of (l : Launch) (E : EV) (h0 k1 k2 k3 k4 : Nat) (sp pl tu fr nf : Nat) (n : Nat) (ra : Nat → Nat) (rv : Nat → Nat → Nat) (u f : Nat) (hnn : n ≤ 120) (hrv : ∀ k j, rv k j ≤ 10) (hp : u < 4) (hf : f < 10) : MN l yX5_of wsX5_of { frames := 0, cells := 1, slots := 3, locals := 0 } E [.ref h0, .int (nI u), .int (nI f)] ([(h0, .inr (4, [.ref k1, .ref k2, .ref k3, .int (nI sp), .int (nI pl), .int (nI tu), .int (nI fr), .int (nI nf), .ref k4])), (k4, qI E n (fun k => some (ra k)))] ++ plR E n ra rv) 1 3 (aI E 3 (o3 n rv u f)) := by
  refine sN (own := RX5) (cc := cX5_of) (maxL := 10) (ret := (some (.array .int))) rfl (by decide) rfl (Nat.le_of_ble_eq_true rfl) ?_
  intro p e s m below meth c C hnm ls hl hW
  have hl : lv_has ls 10 [(0, .ref h0), (1, .int (nI u)), (2, .int (nI f))] := hl
  have hW : WD E _ s ([(h0, .inr (4, [.ref k1, .ref k2, .ref k3, .int (nI sp), .int (nI pl), .int (nI tu), .int (nI fr), .int (nI nf), .ref k4])), (k4, qI E n (fun k => some (ra k)))] ++ plR E n ra rv) s.heap [] := hW
  have hinX5 : ∀ w ∈ u_ws RX5 TX5 9, w ∈ wsX5_of := by decide +kernel
  have hf25 : Cond.fieldLink RX5 25 (TX5 8).1 (TX5 8).2.1 (TX5 8).2.2.1 ∈ wsX5_of := by decide +kernel
  refine lv_iconst (v := nI 0) C.x C.b dX5_of_0 (by decide) ?_
  refine lv_istore_n (lv' := [(3, .int (nI 0)), (0, .ref h0), (1, .int (nI u)), (2, .int (nI f))]) C.x C.b dX5_of_1 rfl hl (by decide) rfl (fun ls hl => ?_)
  refine lv_iconst (v := nI 0) C.x C.b dX5_of_2 (by decide) ?_
  refine lv_istore (lv' := [(4, .int (nI 0)), (3, .int (nI 0)), (0, .ref h0), (1, .int (nI u)), (2, .int (nI f))]) C.x C.b dX5_of_3 hl (by decide) rfl (fun ls hl => ?_)
  refine lv_iconst (v := (-1)) C.x C.b dX5_of_5 (by decide) ?_
  refine lv_istore (lv' := [(5, .int ((-1 : Int32))), (4, .int (nI 0)), (3, .int (nI 0)), (0, .ref h0), (1, .int (nI u)), (2, .int (nI f))]) C.x C.b dX5_of_6 hl (by decide) rfl (fun ls hl => ?_)
  refine lv_iconst (v := nI 0) C.x C.b dX5_of_8 (by decide) ?_
  refine lv_istore (lv' := [(6, .int (nI 0)), (5, .int ((-1 : Int32))), (4, .int (nI 0)), (3, .int (nI 0)), (0, .ref h0), (1, .int (nI u)), (2, .int (nI f))]) C.x C.b dX5_of_9 hl (by decide) rfl (fun ls hl => ?_)
  have lp_1 : ∀ (n1 t : Nat), t ≤ n → n + 1 ≤ t + n1 → ∀ (H : Heap) (locs : List Loc) (ls : Array Slot), WD E (va_A ([(h0, .inr (4, [.ref k1, .ref k2, .ref k3, .int (nI sp), .int (nI pl), .int (nI tu), .int (nI fr), .int (nI nf), .ref k4])), (k4, qI E n (fun k => some (ra k)))] ++ plR E n ra rv) s.heap.size) s ([(h0, .inr (4, [.ref k1, .ref k2, .ref k3, .int (nI sp), .int (nI pl), .int (nI tu), .int (nI fr), .int (nI nf), .ref k4])), (k4, qI E n (fun k => some (ra k)))] ++ plR E n ra rv) H locs → lv_has ls 10 [(6, .int (nI t)), (5, .int (lsI (lsF rv u f t))), (4, .int (nI (feF rv u f t))), (3, .int (nI 0)), (0, .ref h0), (1, .int (nI u)), (2, .int (nI f))] → W p l e ({ frames := 0, cells := 1, slots := 3, locals := 0 } : Room) s m ([.ref h0, .int (nI u), .int (nI f)] : List Value).toArray below meth c H locs 0 0 (QN E ([(h0, .inr (4, [.ref k1, .ref k2, .ref k3, .int (nI sp), .int (nI pl), .int (nI tu), .int (nI fr), .int (nI nf), .ref k4])), (k4, qI E n (fun k => some (ra k)))] ++ plR E n ra rv) 1 3 (aI E 3 (o3 n rv u f)) below ([.ref h0, .int (nI u), .int (nI f)] : List Value).toArray s) (F0 m 11 ls []) := by
    intro n1
    induction n1 with
    | zero => intro t ht hn; exact absurd hn (by omega)
    | succ n1 ih1 =>
      intro t ht hn  H locs ls hW hl
      refine lv_iload C.x C.b dX5_of_11 (lv_at hl 0 rfl) ?_
      refine lv_aload_n C.x C.b dX5_of_13 rfl (lv_at hl 4 rfl) ?_
      refine x_get C hW 0 4 8 (Cn := RX5) (T := TX5) (N := 9) rfl rfl (by decide) hinX5 hf25 rfl dX5_of_14 ?_
      refine x_alen C hW 1 3 rfl rfl dX5_of_17 ?_
      refine x_toi (y := nI n) rfl ?_
      refine x_icmp_ge C (by omega) (by omega) (tgt := 74) dX5_of_18 (by decide) (fun c_2 => ?_) (fun c_2 => ?_)
      · have e9 : n = t := by omega
        subst e9
        refine lv_iload C.x C.b dX5_of_74 (lv_at hl 1 rfl) ?_
        by_cases hz : lsF rv u f n = 0
        · rw [show lsI (lsF rv u f n) = -1 from by rw [hz]; rfl]
          refine lv_if_ge C.x C.b (tgt := 95) dX5_of_76 (by decide) (fun c_3 => ?_) (fun c_3 => ?_)
          · exact absurd c_3 (by decide)
          · refine lv_iconst (v := nI 3) C.x C.b dX5_of_79 (by decide) ?_
            refine x_newa C hW (N' := 3) (by decide +kernel) rfl (by decide) (by show _ ≤ 1; omega) (by show _ ≤ 3; omega) dX5_of_80 (fun na_4 H hW => ?_)
            have hW := hW.front
            have hW : WD E _ s ([(na_4, aI E 3 (fun _ => 0)), (h0, .inr (4, [.ref k1, .ref k2, .ref k3, .int (nI sp), .int (nI pl), .int (nI tu), .int (nI fr), .int (nI nf), .ref k4])), (k4, qI E n (fun k => some (ra k)))] ++ plR E n ra rv) H _ := hW
            refine lv_dup C.x C.b dX5_of_82 rfl ?_
            refine lv_iconst (v := nI 0) C.x C.b dX5_of_83 (by decide) ?_
            refine lv_iconst (v := nI 0) C.x C.b dX5_of_84 (by decide) ?_
            refine x_ast C hW 0 0 0 rfl rfl rfl (by omega) (by decide) dX5_of_85 (w' := ([(na_4, aI E 3 (upN (fun _ => 0) 0 0)), (h0, .inr (4, [.ref k1, .ref k2, .ref k3, .int (nI sp), .int (nI pl), .int (nI tu), .int (nI fr), .int (nI nf), .ref k4])), (k4, qI E n (fun k => some (ra k)))] ++ plR E n ra rv)) rfl (fun H locs hW => ?_)
            refine lv_dup C.x C.b dX5_of_86 rfl ?_
            refine lv_iconst (v := nI 1) C.x C.b dX5_of_87 (by decide) ?_
            refine lv_iconst (v := nI 0) C.x C.b dX5_of_88 (by decide) ?_
            refine x_ast C hW 0 1 0 rfl rfl rfl (by omega) (by decide) dX5_of_89 (w' := ([(na_4, aI E 3 (upN (upN (fun _ => 0) 0 0) 1 0)), (h0, .inr (4, [.ref k1, .ref k2, .ref k3, .int (nI sp), .int (nI pl), .int (nI tu), .int (nI fr), .int (nI nf), .ref k4])), (k4, qI E n (fun k => some (ra k)))] ++ plR E n ra rv)) rfl (fun H locs hW => ?_)
            refine lv_dup C.x C.b dX5_of_90 rfl ?_
            refine lv_iconst (v := nI 2) C.x C.b dX5_of_91 (by decide) ?_
            refine lv_iconst (v := nI 0) C.x C.b dX5_of_92 (by decide) ?_
            refine x_ast C hW 0 2 0 rfl rfl rfl (by omega) (by decide) dX5_of_93 (w' := ([(na_4, aI E 3 (upN (upN (upN (fun _ => 0) 0 0) 1 0) 2 0)), (h0, .inr (4, [.ref k1, .ref k2, .ref k3, .int (nI sp), .int (nI pl), .int (nI tu), .int (nI fr), .int (nI nf), .ref k4])), (k4, qI E n (fun k => some (ra k)))] ++ plR E n ra rv)) rfl (fun H locs hW => ?_)
            refine W.widen (k := 1) (n := 3) (by omega) (by omega) ?_
            have hW := WD.back hW
            exact x_aretN C (Or.inr ⟨_, rfl⟩) hW (by rw [o3, oS, oK, oP, if_pos hz, if_pos hz, if_pos hz]; rfl) rfl rfl dX5_of_94
        · have hl9 := lsF_le rv u f n
          rw [show lsI (lsF rv u f n) = nI (lsF rv u f n - 1) from if_neg hz] at hl ⊢
          refine x_if_ge C (by omega) (tgt := 95) dX5_of_76 (by decide) (fun c_5 => ?_) (fun c_5 => ?_)
          · refine lv_iload C.x C.b dX5_of_95 (lv_at hl 2 rfl) ?_
            refine lv_istore_n (lv' := [(3, .int (nI (feF rv u f n))), (6, .int (nI n)), (5, .int (nI (lsF rv u f n - 1))), (4, .int (nI (feF rv u f n))), (0, .ref h0), (1, .int (nI u)), (2, .int (nI f))]) C.x C.b dX5_of_97 rfl hl (by decide) rfl (fun ls hl => ?_)
            have jn_6 : ∀ (H : Heap) (locs : List Loc) (ls : Array Slot), WD E (va_A ([(h0, .inr (4, [.ref k1, .ref k2, .ref k3, .int (nI sp), .int (nI pl), .int (nI tu), .int (nI fr), .int (nI nf), .ref k4])), (k4, qI E n (fun k => some (ra k)))] ++ plR E n ra rv) s.heap.size) s ([(h0, .inr (4, [.ref k1, .ref k2, .ref k3, .int (nI sp), .int (nI pl), .int (nI tu), .int (nI fr), .int (nI nf), .ref k4])), (k4, qI E n (fun k => some (ra k)))] ++ plR E n ra rv) H locs → lv_has ls 10 [(3, .int (nI (feF rv u f n))), (6, .int (nI n)), (5, .int (nI (lsF rv u f n - 1))), (4, .int (nI (feF rv u f n))), (0, .ref h0), (1, .int (nI u)), (2, .int (nI f))] → W p l e ({ frames := 0, cells := 1, slots := 3, locals := 0 } : Room) s m ([.ref h0, .int (nI u), .int (nI f)] : List Value).toArray below meth c H locs 0 0 (QN E ([(h0, .inr (4, [.ref k1, .ref k2, .ref k3, .int (nI sp), .int (nI pl), .int (nI tu), .int (nI fr), .int (nI nf), .ref k4])), (k4, qI E n (fun k => some (ra k)))] ++ plR E n ra rv) 1 3 (aI E 3 (o3 n rv u f)) below ([.ref h0, .int (nI u), .int (nI f)] : List Value).toArray s) (F0 m 133 ls [.int (nI (oK n rv u f))]) := by
              intro  H locs ls hW hl
              refine lv_istore (lv' := [(6, .int (nI (oK n rv u f))), (3, .int (nI (feF rv u f n))), (5, .int (nI (lsF rv u f n - 1))), (4, .int (nI (feF rv u f n))), (0, .ref h0), (1, .int (nI u)), (2, .int (nI f))]) C.x C.b dX5_of_133 hl (by decide) rfl (fun ls hl => ?_)
              have jn_7 : ∀ (H : Heap) (locs : List Loc) (ls : Array Slot), WD E (va_A ([(h0, .inr (4, [.ref k1, .ref k2, .ref k3, .int (nI sp), .int (nI pl), .int (nI tu), .int (nI fr), .int (nI nf), .ref k4])), (k4, qI E n (fun k => some (ra k)))] ++ plR E n ra rv) s.heap.size) s ([(h0, .inr (4, [.ref k1, .ref k2, .ref k3, .int (nI sp), .int (nI pl), .int (nI tu), .int (nI fr), .int (nI nf), .ref k4])), (k4, qI E n (fun k => some (ra k)))] ++ plR E n ra rv) H locs → lv_has ls 10 [(6, .int (nI (oK n rv u f))), (3, .int (nI (feF rv u f n))), (5, .int (nI (lsF rv u f n - 1))), (4, .int (nI (feF rv u f n))), (0, .ref h0), (1, .int (nI u)), (2, .int (nI f))] → W p l e ({ frames := 0, cells := 1, slots := 3, locals := 0 } : Room) s m ([.ref h0, .int (nI u), .int (nI f)] : List Value).toArray below meth c H locs 0 0 (QN E ([(h0, .inr (4, [.ref k1, .ref k2, .ref k3, .int (nI sp), .int (nI pl), .int (nI tu), .int (nI fr), .int (nI nf), .ref k4])), (k4, qI E n (fun k => some (ra k)))] ++ plR E n ra rv) 1 3 (aI E 3 (o3 n rv u f)) below ([.ref h0, .int (nI u), .int (nI f)] : List Value).toArray s) (F0 m 170 ls [.int (nI (oP n rv u f))]) := by
                intro  H locs ls hW hl
                refine lv_istore (lv' := [(7, .int (nI (oP n rv u f))), (6, .int (nI (oK n rv u f))), (3, .int (nI (feF rv u f n))), (5, .int (nI (lsF rv u f n - 1))), (4, .int (nI (feF rv u f n))), (0, .ref h0), (1, .int (nI u)), (2, .int (nI f))]) C.x C.b dX5_of_170 hl (by decide) rfl (fun ls hl => ?_)
                refine lv_iconst (v := nI 2) C.x C.b dX5_of_172 (by decide) ?_
                refine lv_iload C.x C.b dX5_of_173 (lv_at hl 1 rfl) ?_
                refine x_imul C dX5_of_175 ?_
                refine lv_iload C.x C.b dX5_of_176 (lv_at hl 0 rfl) ?_
                refine x_iadd C dX5_of_178 ?_
                refine lv_istore (lv' := [(8, .int (nI ((2 * (oK n rv u f)) + (oP n rv u f)))), (7, .int (nI (oP n rv u f))), (6, .int (nI (oK n rv u f))), (3, .int (nI (feF rv u f n))), (5, .int (nI (lsF rv u f n - 1))), (4, .int (nI (feF rv u f n))), (0, .ref h0), (1, .int (nI u)), (2, .int (nI f))]) C.x C.b dX5_of_179 hl (by decide) rfl (fun ls hl => ?_)
                refine lv_iload C.x C.b dX5_of_181 (lv_at hl 4 rfl) ?_
                refine lv_iconst (v := nI 1) C.x C.b dX5_of_183 (by decide) ?_
                have ho1 := oK_le n rv u f
                have ho2 := oP_le n rv u f
                refine lv_iadd C.x C.b dX5_of_184 ?_
                refine x_toi (y := nI (lsF rv u f n)) ((nI_add _ _).trans (congrArg nI (by omega))) ?_
                refine lv_istore (lv' := [(9, .int (nI (lsF rv u f n))), (8, .int (nI ((2 * (oK n rv u f)) + (oP n rv u f)))), (7, .int (nI (oP n rv u f))), (6, .int (nI (oK n rv u f))), (3, .int (nI (feF rv u f n))), (5, .int (nI (lsF rv u f n - 1))), (4, .int (nI (feF rv u f n))), (0, .ref h0), (1, .int (nI u)), (2, .int (nI f))]) C.x C.b dX5_of_185 hl (by decide) rfl (fun ls hl => ?_)
                have lp_8 : ∀ (n8 i : Nat), i ≤ (n - lsF rv u f n) → (n - lsF rv u f n) + 1 ≤ i + n8 → ∀ (H : Heap) (locs : List Loc) (ls : Array Slot), WD E (va_A ([(h0, .inr (4, [.ref k1, .ref k2, .ref k3, .int (nI sp), .int (nI pl), .int (nI tu), .int (nI fr), .int (nI nf), .ref k4])), (k4, qI E n (fun k => some (ra k)))] ++ plR E n ra rv) s.heap.size) s ([(h0, .inr (4, [.ref k1, .ref k2, .ref k3, .int (nI sp), .int (nI pl), .int (nI tu), .int (nI fr), .int (nI nf), .ref k4])), (k4, qI E n (fun k => some (ra k)))] ++ plR E n ra rv) H locs → lv_has ls 10 [(9, .int (nI (lsF rv u f n + i))), (8, .int (nI ((boS rv u (feF rv u f n) (2 * oK n rv u f + oP n rv u f) (lsF rv u f n) i).2))), (7, .int (nI (oP n rv u f))), (6, .int (nI (oK n rv u f))), (3, .int (nI ((boS rv u (feF rv u f n) (2 * oK n rv u f + oP n rv u f) (lsF rv u f n) i).1))), (5, .int (nI (lsF rv u f n - 1))), (4, .int (nI (feF rv u f n))), (0, .ref h0), (1, .int (nI u)), (2, .int (nI f))] → W p l e ({ frames := 0, cells := 1, slots := 3, locals := 0 } : Room) s m ([.ref h0, .int (nI u), .int (nI f)] : List Value).toArray below meth c H locs 0 0 (QN E ([(h0, .inr (4, [.ref k1, .ref k2, .ref k3, .int (nI sp), .int (nI pl), .int (nI tu), .int (nI fr), .int (nI nf), .ref k4])), (k4, qI E n (fun k => some (ra k)))] ++ plR E n ra rv) 1 3 (aI E 3 (o3 n rv u f)) below ([.ref h0, .int (nI u), .int (nI f)] : List Value).toArray s) (F0 m 187 ls []) := by
                  intro n8
                  induction n8 with
                  | zero => intro i hi hn; exact absurd hn (by omega)
                  | succ n8 ih8 =>
                    intro i hi hn  H locs ls hW hl
                    have hb9 := boS_le hrv u (feF rv u f n) (2 * oK n rv u f + oP n rv u f) (lsF rv u f n) i
                    refine lv_iload C.x C.b dX5_of_187 (lv_at hl 0 rfl) ?_
                    refine lv_aload_n C.x C.b dX5_of_189 rfl (lv_at hl 7 rfl) ?_
                    refine x_get C hW 0 4 8 (Cn := RX5) (T := TX5) (N := 9) rfl rfl (by decide) hinX5 hf25 rfl dX5_of_190 ?_
                    refine x_alen C hW 1 3 rfl rfl dX5_of_193 ?_
                    refine x_toi (y := nI n) rfl ?_
                    refine x_icmp_ge C (by omega) (by omega) (tgt := 239) dX5_of_194 (by decide) (fun c_9 => ?_) (fun c_9 => ?_)
                    · have e9 : (boS rv u (feF rv u f n) (2 * oK n rv u f + oP n rv u f) (lsF rv u f n) (n - lsF rv u f n)).1 = (boS rv u (feF rv u f n) (2 * oK n rv u f + oP n rv u f) (lsF rv u f n) i).1 := by first | (rw [show n - lsF rv u f n = i by omega]; done) | (have h9 := boS_stop (rv := rv) (p := u) (s0 := (feF rv u f n)) (m0 := (2 * oK n rv u f + oP n rv u f)) (a := lsF rv u f n) (i := i) (by omega) (n - lsF rv u f n - i); rw [show i + (n - lsF rv u f n - i) = n - lsF rv u f n by omega] at h9; rw [h9])
                      refine lv_iconst (v := nI 3) C.x C.b dX5_of_239 (by decide) ?_
                      refine x_newa C hW (N' := 3) (by decide +kernel) rfl (by decide) (by show _ ≤ 1; omega) (by show _ ≤ 3; omega) dX5_of_240 (fun na_10 H hW => ?_)
                      have hW := hW.front
                      have hW : WD E _ s ([(na_10, aI E 3 (fun _ => 0)), (h0, .inr (4, [.ref k1, .ref k2, .ref k3, .int (nI sp), .int (nI pl), .int (nI tu), .int (nI fr), .int (nI nf), .ref k4])), (k4, qI E n (fun k => some (ra k)))] ++ plR E n ra rv) H _ := hW
                      refine lv_dup C.x C.b dX5_of_242 rfl ?_
                      refine lv_iconst (v := nI 0) C.x C.b dX5_of_243 (by decide) ?_
                      refine lv_iload_n C.x C.b dX5_of_244 rfl (lv_at hl 4 rfl) ?_
                      refine x_ast C hW 0 0 ((boS rv u (feF rv u f n) (2 * oK n rv u f + oP n rv u f) (lsF rv u f n) i).1) rfl rfl rfl (by omega) (by decide) dX5_of_245 (w' := ([(na_10, aI E 3 (upN (fun _ => 0) 0 ((boS rv u (feF rv u f n) (2 * oK n rv u f + oP n rv u f) (lsF rv u f n) i).1))), (h0, .inr (4, [.ref k1, .ref k2, .ref k3, .int (nI sp), .int (nI pl), .int (nI tu), .int (nI fr), .int (nI nf), .ref k4])), (k4, qI E n (fun k => some (ra k)))] ++ plR E n ra rv)) rfl (fun H locs hW => ?_)
                      refine lv_dup C.x C.b dX5_of_246 rfl ?_
                      refine lv_iconst (v := nI 1) C.x C.b dX5_of_247 (by decide) ?_
                      refine lv_iload C.x C.b dX5_of_248 (lv_at hl 3 rfl) ?_
                      refine x_ast C hW 0 1 (oK n rv u f) rfl rfl rfl (by omega) (by decide) dX5_of_250 (w' := ([(na_10, aI E 3 (upN (upN (fun _ => 0) 0 ((boS rv u (feF rv u f n) (2 * oK n rv u f + oP n rv u f) (lsF rv u f n) i).1)) 1 (oK n rv u f))), (h0, .inr (4, [.ref k1, .ref k2, .ref k3, .int (nI sp), .int (nI pl), .int (nI tu), .int (nI fr), .int (nI nf), .ref k4])), (k4, qI E n (fun k => some (ra k)))] ++ plR E n ra rv)) rfl (fun H locs hW => ?_)
                      refine lv_dup C.x C.b dX5_of_251 rfl ?_
                      refine lv_iconst (v := nI 2) C.x C.b dX5_of_252 (by decide) ?_
                      refine lv_iload C.x C.b dX5_of_253 (lv_at hl 2 rfl) ?_
                      refine x_ast C hW 0 2 (oP n rv u f) rfl rfl rfl (by omega) (by decide) dX5_of_255 (w' := ([(na_10, aI E 3 (upN (upN (upN (fun _ => 0) 0 ((boS rv u (feF rv u f n) (2 * oK n rv u f + oP n rv u f) (lsF rv u f n) i).1)) 1 (oK n rv u f)) 2 (oP n rv u f))), (h0, .inr (4, [.ref k1, .ref k2, .ref k3, .int (nI sp), .int (nI pl), .int (nI tu), .int (nI fr), .int (nI nf), .ref k4])), (k4, qI E n (fun k => some (ra k)))] ++ plR E n ra rv)) rfl (fun H locs hW => ?_)
                      refine W.widen (k := 1) (n := 3) (by omega) (by omega) ?_
                      have hW := WD.back hW
                      exact x_aretN C (Or.inr ⟨_, rfl⟩) hW (by rw [o3, oS, if_neg hz, e9]; rfl) rfl rfl dX5_of_256
                    · refine lv_iload C.x C.b dX5_of_197 (lv_at hl 1 rfl) ?_
                      refine x_if_le C (by omega) (tgt := 239) dX5_of_199 (by decide) (fun c_11 => ?_) (fun c_11 => ?_)
                      · have e9 : (boS rv u (feF rv u f n) (2 * oK n rv u f + oP n rv u f) (lsF rv u f n) (n - lsF rv u f n)).1 = (boS rv u (feF rv u f n) (2 * oK n rv u f + oP n rv u f) (lsF rv u f n) i).1 := by first | (rw [show n - lsF rv u f n = i by omega]; done) | (have h9 := boS_stop (rv := rv) (p := u) (s0 := (feF rv u f n)) (m0 := (2 * oK n rv u f + oP n rv u f)) (a := lsF rv u f n) (i := i) (by omega) (n - lsF rv u f n - i); rw [show i + (n - lsF rv u f n - i) = n - lsF rv u f n by omega] at h9; rw [h9])
                        refine lv_iconst (v := nI 3) C.x C.b dX5_of_239 (by decide) ?_
                        refine x_newa C hW (N' := 3) (by decide +kernel) rfl (by decide) (by show _ ≤ 1; omega) (by show _ ≤ 3; omega) dX5_of_240 (fun na_12 H hW => ?_)
                        have hW := hW.front
                        have hW : WD E _ s ([(na_12, aI E 3 (fun _ => 0)), (h0, .inr (4, [.ref k1, .ref k2, .ref k3, .int (nI sp), .int (nI pl), .int (nI tu), .int (nI fr), .int (nI nf), .ref k4])), (k4, qI E n (fun k => some (ra k)))] ++ plR E n ra rv) H _ := hW
                        refine lv_dup C.x C.b dX5_of_242 rfl ?_
                        refine lv_iconst (v := nI 0) C.x C.b dX5_of_243 (by decide) ?_
                        refine lv_iload_n C.x C.b dX5_of_244 rfl (lv_at hl 4 rfl) ?_
                        refine x_ast C hW 0 0 ((boS rv u (feF rv u f n) (2 * oK n rv u f + oP n rv u f) (lsF rv u f n) i).1) rfl rfl rfl (by omega) (by decide) dX5_of_245 (w' := ([(na_12, aI E 3 (upN (fun _ => 0) 0 ((boS rv u (feF rv u f n) (2 * oK n rv u f + oP n rv u f) (lsF rv u f n) i).1))), (h0, .inr (4, [.ref k1, .ref k2, .ref k3, .int (nI sp), .int (nI pl), .int (nI tu), .int (nI fr), .int (nI nf), .ref k4])), (k4, qI E n (fun k => some (ra k)))] ++ plR E n ra rv)) rfl (fun H locs hW => ?_)
                        refine lv_dup C.x C.b dX5_of_246 rfl ?_
                        refine lv_iconst (v := nI 1) C.x C.b dX5_of_247 (by decide) ?_
                        refine lv_iload C.x C.b dX5_of_248 (lv_at hl 3 rfl) ?_
                        refine x_ast C hW 0 1 (oK n rv u f) rfl rfl rfl (by omega) (by decide) dX5_of_250 (w' := ([(na_12, aI E 3 (upN (upN (fun _ => 0) 0 ((boS rv u (feF rv u f n) (2 * oK n rv u f + oP n rv u f) (lsF rv u f n) i).1)) 1 (oK n rv u f))), (h0, .inr (4, [.ref k1, .ref k2, .ref k3, .int (nI sp), .int (nI pl), .int (nI tu), .int (nI fr), .int (nI nf), .ref k4])), (k4, qI E n (fun k => some (ra k)))] ++ plR E n ra rv)) rfl (fun H locs hW => ?_)
                        refine lv_dup C.x C.b dX5_of_251 rfl ?_
                        refine lv_iconst (v := nI 2) C.x C.b dX5_of_252 (by decide) ?_
                        refine lv_iload C.x C.b dX5_of_253 (lv_at hl 2 rfl) ?_
                        refine x_ast C hW 0 2 (oP n rv u f) rfl rfl rfl (by omega) (by decide) dX5_of_255 (w' := ([(na_12, aI E 3 (upN (upN (upN (fun _ => 0) 0 ((boS rv u (feF rv u f n) (2 * oK n rv u f + oP n rv u f) (lsF rv u f n) i).1)) 1 (oK n rv u f)) 2 (oP n rv u f))), (h0, .inr (4, [.ref k1, .ref k2, .ref k3, .int (nI sp), .int (nI pl), .int (nI tu), .int (nI fr), .int (nI nf), .ref k4])), (k4, qI E n (fun k => some (ra k)))] ++ plR E n ra rv)) rfl (fun H locs hW => ?_)
                        refine W.widen (k := 1) (n := 3) (by omega) (by omega) ?_
                        have hW := WD.back hW
                        exact x_aretN C (Or.inr ⟨_, rfl⟩) hW (by rw [o3, oS, if_neg hz, e9]; rfl) rfl rfl dX5_of_256
                      · refine lv_aload_n C.x C.b dX5_of_202 rfl (lv_at hl 7 rfl) ?_
                        refine x_get C hW 0 4 8 (Cn := RX5) (T := TX5) (N := 9) rfl rfl (by decide) hinX5 hf25 rfl dX5_of_203 ?_
                        refine lv_iload C.x C.b dX5_of_206 (lv_at hl 0 rfl) ?_
                        refine x_aldqI C hW 1 (lsF rv u f n + i) rfl rfl (by omega) (by omega) rfl dX5_of_208 ?_
                        refine lv_iconst (v := nI 0) C.x C.b dX5_of_209 (by decide) ?_
                        refine x_ald C hW (2 + (lsF rv u f n + i)) 0 (plR_at rfl (by omega)) rfl (by decide) (by decide) dX5_of_210 ?_
                        refine lv_iload_n C.x C.b dX5_of_211 rfl (lv_at hl 8 rfl) ?_
                        refine x_icmp_eq C (by have := hrv (lsF rv u f n + i) 0; omega) (by have := hrv (lsF rv u f n + i) 0; omega) (tgt := 218) dX5_of_212 (by decide) (fun c_13 => ?_) (fun c_13 => ?_)
                        · refine lv_iload_n C.x C.b dX5_of_218 rfl (lv_at hl 4 rfl) ?_
                          refine lv_aload_n C.x C.b dX5_of_219 rfl (lv_at hl 7 rfl) ?_
                          refine x_get C hW 0 4 8 (Cn := RX5) (T := TX5) (N := 9) rfl rfl (by decide) hinX5 hf25 rfl dX5_of_220 ?_
                          refine lv_iload C.x C.b dX5_of_223 (lv_at hl 0 rfl) ?_
                          refine x_aldqI C hW 1 (lsF rv u f n + i) rfl rfl (by omega) (by omega) rfl dX5_of_225 ?_
                          refine lv_iconst (v := nI 2) C.x C.b dX5_of_226 (by decide) ?_
                          refine x_ald C hW (2 + (lsF rv u f n + i)) 2 (plR_at rfl (by omega)) rfl (by decide) (by decide) dX5_of_227 ?_
                          refine x_iadd C dX5_of_228 ?_
                          refine lv_istore_n (lv' := [(3, .int (nI (((boS rv u (feF rv u f n) (2 * oK n rv u f + oP n rv u f) (lsF rv u f n) i).1) + (rv ((lsF rv u f n + i)) 2)))), (9, .int (nI (lsF rv u f n + i))), (8, .int (nI ((boS rv u (feF rv u f n) (2 * oK n rv u f + oP n rv u f) (lsF rv u f n) i).2))), (7, .int (nI (oP n rv u f))), (6, .int (nI (oK n rv u f))), (5, .int (nI (lsF rv u f n - 1))), (4, .int (nI (feF rv u f n))), (0, .ref h0), (1, .int (nI u)), (2, .int (nI f))]) C.x C.b dX5_of_229 rfl hl (by decide) rfl (fun ls hl => ?_)
                          refine lv_iinc (k := 2) (v := nI (((boS rv u (feF rv u f n) (2 * oK n rv u f + oP n rv u f) (lsF rv u f n) i).2) - 1)) (lv' := [(8, .int (nI (((boS rv u (feF rv u f n) (2 * oK n rv u f + oP n rv u f) (lsF rv u f n) i).2) - 1))), (3, .int (nI (((boS rv u (feF rv u f n) (2 * oK n rv u f + oP n rv u f) (lsF rv u f n) i).1) + (rv ((lsF rv u f n + i)) 2)))), (9, .int (nI (lsF rv u f n + i))), (7, .int (nI (oP n rv u f))), (6, .int (nI (oK n rv u f))), (5, .int (nI (lsF rv u f n - 1))), (4, .int (nI (feF rv u f n))), (0, .ref h0), (1, .int (nI u)), (2, .int (nI f))]) C.x C.b dX5_of_230 hl rfl (z_dec1 (by omega)) (by decide) rfl (fun ls hl => ?_)
                          refine lv_iinc (k := 2) (v := nI ((lsF rv u f n + i) + 1)) (lv' := [(9, .int (nI ((lsF rv u f n + i) + 1))), (8, .int (nI (((boS rv u (feF rv u f n) (2 * oK n rv u f + oP n rv u f) (lsF rv u f n) i).2) - 1))), (3, .int (nI (((boS rv u (feF rv u f n) (2 * oK n rv u f + oP n rv u f) (lsF rv u f n) i).1) + (rv ((lsF rv u f n + i)) 2)))), (7, .int (nI (oP n rv u f))), (6, .int (nI (oK n rv u f))), (5, .int (nI (lsF rv u f n - 1))), (4, .int (nI (feF rv u f n))), (0, .ref h0), (1, .int (nI u)), (2, .int (nI f))]) C.x C.b dX5_of_233 hl rfl (z_inc (lsF rv u f n + i) 1) (by decide) rfl (fun ls hl => ?_)
                          refine lv_goto (tgt := 187) C.x C.b dX5_of_236 (by decide) ?_
                          exact ih8 (i + 1) (by omega) (by omega)  _ _ _ (hW.to rfl) (lv_to (lv_sub (l' := [(9, .int (nI ((lsF rv u f n + i) + 1))), (8, .int (nI (((boS rv u (feF rv u f n) (2 * oK n rv u f + oP n rv u f) (lsF rv u f n) i).2) - 1))), (7, .int (nI (oP n rv u f))), (6, .int (nI (oK n rv u f))), (3, .int (nI (((boS rv u (feF rv u f n) (2 * oK n rv u f + oP n rv u f) (lsF rv u f n) i).1) + (rv ((lsF rv u f n + i)) 2)))), (5, .int (nI (lsF rv u f n - 1))), (4, .int (nI (feF rv u f n))), (0, .ref h0), (1, .int (nI u)), (2, .int (nI f))]) hl [0, 1, 3, 4, 2, 5, 6, 7, 8, 9] rfl) (by first | (rw [boS_n (i := i) (fun q => by omega)] <;> rfl) | (rw [boS_y (i := i) (by omega) (by omega)] <;> rfl)))
                        · refine lv_goto (tgt := 233) C.x C.b dX5_of_215 (by decide) ?_
                          refine lv_iinc (k := 0) (v := nI ((lsF rv u f n + i) + 1)) (lv' := [(9, .int (nI ((lsF rv u f n + i) + 1))), (8, .int (nI ((boS rv u (feF rv u f n) (2 * oK n rv u f + oP n rv u f) (lsF rv u f n) i).2))), (7, .int (nI (oP n rv u f))), (6, .int (nI (oK n rv u f))), (3, .int (nI ((boS rv u (feF rv u f n) (2 * oK n rv u f + oP n rv u f) (lsF rv u f n) i).1))), (5, .int (nI (lsF rv u f n - 1))), (4, .int (nI (feF rv u f n))), (0, .ref h0), (1, .int (nI u)), (2, .int (nI f))]) C.x C.b dX5_of_233 hl rfl (z_inc (lsF rv u f n + i) 1) (by decide) rfl (fun ls hl => ?_)
                          refine lv_goto (tgt := 187) C.x C.b dX5_of_236 (by decide) ?_
                          exact ih8 (i + 1) (by omega) (by omega)  _ _ _ (hW.to rfl) (lv_to (lv_sub (l' := [(9, .int (nI ((lsF rv u f n + i) + 1))), (8, .int (nI ((boS rv u (feF rv u f n) (2 * oK n rv u f + oP n rv u f) (lsF rv u f n) i).2))), (7, .int (nI (oP n rv u f))), (6, .int (nI (oK n rv u f))), (3, .int (nI ((boS rv u (feF rv u f n) (2 * oK n rv u f + oP n rv u f) (lsF rv u f n) i).1))), (5, .int (nI (lsF rv u f n - 1))), (4, .int (nI (feF rv u f n))), (0, .ref h0), (1, .int (nI u)), (2, .int (nI f))]) hl [0, 1, 2, 3, 4, 5, 6, 7, 8, 9] rfl) (by first | (rw [boS_n (i := i) (fun q => by omega)] <;> rfl) | (rw [boS_y (i := i) (by omega) (by omega)] <;> rfl)))
                exact lp_8 ((n - lsF rv u f n) + 1) 0 (by omega) (by omega)  _ _ _ (hW.to rfl) (lv_to (lv_sub (l' := [(9, .int (nI (lsF rv u f n))), (8, .int (nI ((2 * (oK n rv u f)) + (oP n rv u f)))), (7, .int (nI (oP n rv u f))), (6, .int (nI (oK n rv u f))), (3, .int (nI (feF rv u f n))), (5, .int (nI (lsF rv u f n - 1))), (4, .int (nI (feF rv u f n))), (0, .ref h0), (1, .int (nI u)), (2, .int (nI f))]) hl [0, 1, 2, 3, 4, 5, 6, 7, 8, 9] rfl) rfl)
              refine lv_aload_n C.x C.b dX5_of_135 rfl (lv_at hl 4 rfl) ?_
              refine x_get C hW 0 4 8 (Cn := RX5) (T := TX5) (N := 9) rfl rfl (by decide) hinX5 hf25 rfl dX5_of_136 ?_
              refine lv_iload C.x C.b dX5_of_139 (lv_at hl 2 rfl) ?_
              refine x_aldqI C hW 1 (lsF rv u f n - 1) rfl rfl (by omega) (by omega) rfl dX5_of_141 ?_
              refine lv_iconst (v := nI 3) C.x C.b dX5_of_142 (by decide) ?_
              refine x_ald C hW (2 + (lsF rv u f n - 1)) 3 (plR_at rfl (by omega)) rfl (by decide) (by decide) dX5_of_143 ?_
              refine x_if_ne C (by have := hrv (lsF rv u f n - 1) 3; omega) (tgt := 169) dX5_of_144 (by decide) (fun c_14 => ?_) (fun c_14 => ?_)
              · refine lv_iconst (v := nI 0) C.x C.b dX5_of_169 (by decide) ?_
                refine x_toi (y := (nI (oP n rv u f))) (by rw [oP, if_neg hz]; first | (rw [if_pos (by omega)]; done) | (rw [if_neg (by omega)]; done)) ?_
                exact jn_7  _ _ _ (hW.to rfl) (lv_to (lv_sub (l' := [(6, .int (nI (oK n rv u f))), (3, .int (nI (feF rv u f n))), (5, .int (nI (lsF rv u f n - 1))), (4, .int (nI (feF rv u f n))), (0, .ref h0), (1, .int (nI u)), (2, .int (nI f))]) hl [0, 1, 2, 3, 4, 5, 6] rfl) rfl)
              · refine lv_iload C.x C.b dX5_of_147 (lv_at hl 3 rfl) ?_
                refine x_if_le C (by have := feF_le hrv u f n; omega) (tgt := 169) dX5_of_149 (by decide) (fun c_15 => ?_) (fun c_15 => ?_)
                · refine lv_iconst (v := nI 0) C.x C.b dX5_of_169 (by decide) ?_
                  refine x_toi (y := (nI (oP n rv u f))) (by rw [oP, if_neg hz]; first | (rw [if_pos (by omega)]; done) | (rw [if_neg (by omega)]; done)) ?_
                  exact jn_7  _ _ _ (hW.to rfl) (lv_to (lv_sub (l' := [(6, .int (nI (oK n rv u f))), (3, .int (nI (feF rv u f n))), (5, .int (nI (lsF rv u f n - 1))), (4, .int (nI (feF rv u f n))), (0, .ref h0), (1, .int (nI u)), (2, .int (nI f))]) hl [0, 1, 2, 3, 4, 5, 6] rfl) rfl)
                · refine lv_aload_n C.x C.b dX5_of_152 rfl (lv_at hl 4 rfl) ?_
                  refine x_get C hW 0 4 8 (Cn := RX5) (T := TX5) (N := 9) rfl rfl (by decide) hinX5 hf25 rfl dX5_of_153 ?_
                  refine lv_iload C.x C.b dX5_of_156 (lv_at hl 2 rfl) ?_
                  refine x_aldqI C hW 1 (lsF rv u f n - 1) rfl rfl (by omega) (by omega) rfl dX5_of_158 ?_
                  refine lv_iconst (v := nI 4) C.x C.b dX5_of_159 (by decide) ?_
                  refine x_ald C hW (2 + (lsF rv u f n - 1)) 4 (plR_at rfl (by omega)) rfl (by decide) (by decide) dX5_of_160 ?_
                  refine lv_iconst (v := nI 1) C.x C.b dX5_of_161 (by decide) ?_
                  refine x_icmp_le C (by have := hrv (lsF rv u f n - 1) 4; omega) (by have := hrv (lsF rv u f n - 1) 4; omega) (tgt := 169) dX5_of_162 (by decide) (fun c_16 => ?_) (fun c_16 => ?_)
                  · refine lv_iconst (v := nI 0) C.x C.b dX5_of_169 (by decide) ?_
                    refine x_toi (y := (nI (oP n rv u f))) (by rw [oP, if_neg hz]; first | (rw [if_pos (by omega)]; done) | (rw [if_neg (by omega)]; done)) ?_
                    exact jn_7  _ _ _ (hW.to rfl) (lv_to (lv_sub (l' := [(6, .int (nI (oK n rv u f))), (3, .int (nI (feF rv u f n))), (5, .int (nI (lsF rv u f n - 1))), (4, .int (nI (feF rv u f n))), (0, .ref h0), (1, .int (nI u)), (2, .int (nI f))]) hl [0, 1, 2, 3, 4, 5, 6] rfl) rfl)
                  · refine lv_iconst (v := nI 1) C.x C.b dX5_of_165 (by decide) ?_
                    refine lv_goto (tgt := 170) C.x C.b dX5_of_166 (by decide) ?_
                    refine x_toi (y := (nI (oP n rv u f))) (by rw [oP, if_neg hz]; first | (rw [if_pos (by omega)]; done) | (rw [if_neg (by omega)]; done)) ?_
                    exact jn_7  _ _ _ (hW.to rfl) (lv_to (lv_sub (l' := [(6, .int (nI (oK n rv u f))), (3, .int (nI (feF rv u f n))), (5, .int (nI (lsF rv u f n - 1))), (4, .int (nI (feF rv u f n))), (0, .ref h0), (1, .int (nI u)), (2, .int (nI f))]) hl [0, 1, 2, 3, 4, 5, 6] rfl) rfl)
            refine lv_aload_n C.x C.b dX5_of_98 rfl (lv_at hl 4 rfl) ?_
            refine x_get C hW 0 4 8 (Cn := RX5) (T := TX5) (N := 9) rfl rfl (by decide) hinX5 hf25 rfl dX5_of_99 ?_
            refine lv_iload C.x C.b dX5_of_102 (lv_at hl 2 rfl) ?_
            refine x_aldqI C hW 1 (lsF rv u f n - 1) rfl rfl (by omega) (by omega) rfl dX5_of_104 ?_
            refine lv_iconst (v := nI 3) C.x C.b dX5_of_105 (by decide) ?_
            refine x_ald C hW (2 + (lsF rv u f n - 1)) 3 (plR_at rfl (by omega)) rfl (by decide) (by decide) dX5_of_106 ?_
            refine x_if_ne C (by have := hrv (lsF rv u f n - 1) 3; omega) (tgt := 132) dX5_of_107 (by decide) (fun c_17 => ?_) (fun c_17 => ?_)
            · refine lv_iconst (v := nI 0) C.x C.b dX5_of_132 (by decide) ?_
              refine x_toi (y := (nI (oK n rv u f))) (by rw [oK, if_neg hz]; first | (rw [if_pos (by omega)]; done) | (rw [if_neg (by omega)]; done)) ?_
              exact jn_6  _ _ _ (hW.to rfl) (lv_to (lv_sub (l' := [(3, .int (nI (feF rv u f n))), (6, .int (nI n)), (5, .int (nI (lsF rv u f n - 1))), (4, .int (nI (feF rv u f n))), (0, .ref h0), (1, .int (nI u)), (2, .int (nI f))]) hl [0, 1, 2, 3, 4, 5, 6] rfl) rfl)
            · refine lv_iload C.x C.b dX5_of_110 (lv_at hl 3 rfl) ?_
              refine x_if_le C (by have := feF_le hrv u f n; omega) (tgt := 132) dX5_of_112 (by decide) (fun c_18 => ?_) (fun c_18 => ?_)
              · refine lv_iconst (v := nI 0) C.x C.b dX5_of_132 (by decide) ?_
                refine x_toi (y := (nI (oK n rv u f))) (by rw [oK, if_neg hz]; first | (rw [if_pos (by omega)]; done) | (rw [if_neg (by omega)]; done)) ?_
                exact jn_6  _ _ _ (hW.to rfl) (lv_to (lv_sub (l' := [(3, .int (nI (feF rv u f n))), (6, .int (nI n)), (5, .int (nI (lsF rv u f n - 1))), (4, .int (nI (feF rv u f n))), (0, .ref h0), (1, .int (nI u)), (2, .int (nI f))]) hl [0, 1, 2, 3, 4, 5, 6] rfl) rfl)
              · refine lv_aload_n C.x C.b dX5_of_115 rfl (lv_at hl 4 rfl) ?_
                refine x_get C hW 0 4 8 (Cn := RX5) (T := TX5) (N := 9) rfl rfl (by decide) hinX5 hf25 rfl dX5_of_116 ?_
                refine lv_iload C.x C.b dX5_of_119 (lv_at hl 2 rfl) ?_
                refine x_aldqI C hW 1 (lsF rv u f n - 1) rfl rfl (by omega) (by omega) rfl dX5_of_121 ?_
                refine lv_iconst (v := nI 4) C.x C.b dX5_of_122 (by decide) ?_
                refine x_ald C hW (2 + (lsF rv u f n - 1)) 4 (plR_at rfl (by omega)) rfl (by decide) (by decide) dX5_of_123 ?_
                refine lv_iconst (v := nI 1) C.x C.b dX5_of_124 (by decide) ?_
                refine x_icmp_ne C (by have := hrv (lsF rv u f n - 1) 4; omega) (by have := hrv (lsF rv u f n - 1) 4; omega) (tgt := 132) dX5_of_125 (by decide) (fun c_19 => ?_) (fun c_19 => ?_)
                · refine lv_iconst (v := nI 0) C.x C.b dX5_of_132 (by decide) ?_
                  refine x_toi (y := (nI (oK n rv u f))) (by rw [oK, if_neg hz]; first | (rw [if_pos (by omega)]; done) | (rw [if_neg (by omega)]; done)) ?_
                  exact jn_6  _ _ _ (hW.to rfl) (lv_to (lv_sub (l' := [(3, .int (nI (feF rv u f n))), (6, .int (nI n)), (5, .int (nI (lsF rv u f n - 1))), (4, .int (nI (feF rv u f n))), (0, .ref h0), (1, .int (nI u)), (2, .int (nI f))]) hl [0, 1, 2, 3, 4, 5, 6] rfl) rfl)
                · refine lv_iconst (v := nI 1) C.x C.b dX5_of_128 (by decide) ?_
                  refine lv_goto (tgt := 133) C.x C.b dX5_of_129 (by decide) ?_
                  refine x_toi (y := (nI (oK n rv u f))) (by rw [oK, if_neg hz]; first | (rw [if_pos (by omega)]; done) | (rw [if_neg (by omega)]; done)) ?_
                  exact jn_6  _ _ _ (hW.to rfl) (lv_to (lv_sub (l' := [(3, .int (nI (feF rv u f n))), (6, .int (nI n)), (5, .int (nI (lsF rv u f n - 1))), (4, .int (nI (feF rv u f n))), (0, .ref h0), (1, .int (nI u)), (2, .int (nI f))]) hl [0, 1, 2, 3, 4, 5, 6] rfl) rfl)
          · exact absurd (Nat.zero_le _) c_5
      · refine lv_aload_n C.x C.b dX5_of_21 rfl (lv_at hl 4 rfl) ?_
        refine x_get C hW 0 4 8 (Cn := RX5) (T := TX5) (N := 9) rfl rfl (by decide) hinX5 hf25 rfl dX5_of_22 ?_
        refine lv_iload C.x C.b dX5_of_25 (lv_at hl 0 rfl) ?_
        refine x_aldqI C hW 1 t rfl rfl (by omega) (by omega) rfl dX5_of_27 ?_
        refine lv_iconst (v := nI 0) C.x C.b dX5_of_28 (by decide) ?_
        refine x_ald C hW (2 + t) 0 (plR_at rfl (by omega)) rfl (by decide) (by decide) dX5_of_29 ?_
        refine lv_iload_n C.x C.b dX5_of_30 rfl (lv_at hl 5 rfl) ?_
        refine x_icmp_ne C (by have := hrv t 0; omega) (by have := hrv t 0; omega) (tgt := 68) dX5_of_31 (by decide) (fun c_20 => ?_) (fun c_20 => ?_)
        · refine lv_iinc (k := 0) (v := nI (t + 1)) (lv' := [(6, .int (nI (t + 1))), (5, .int (lsI (lsF rv u f t))), (4, .int (nI (feF rv u f t))), (3, .int (nI 0)), (0, .ref h0), (1, .int (nI u)), (2, .int (nI f))]) C.x C.b dX5_of_68 hl rfl (z_inc t 1) (by decide) rfl (fun ls hl => ?_)
          refine lv_goto (tgt := 11) C.x C.b dX5_of_71 (by decide) ?_
          exact ih1 (t + 1) (by omega) (by omega)  _ _ _ (hW.to rfl) (lv_to (lv_sub (l' := [(6, .int (nI (t + 1))), (5, .int (lsI (lsF rv u f t))), (4, .int (nI (feF rv u f t))), (3, .int (nI 0)), (0, .ref h0), (1, .int (nI u)), (2, .int (nI f))]) hl [0, 1, 2, 3, 4, 5, 6] rfl) (by first | (rw [(feF_n (k := t) (fun q => by omega)).1, (feF_n (k := t) (fun q => by omega)).2]; done) | (rw [(feF_y (k := t) (by omega) (by omega)).1, (feF_y (k := t) (by omega) (by omega)).2, lsI_s]; done)))
        · refine lv_aload_n C.x C.b dX5_of_34 rfl (lv_at hl 4 rfl) ?_
          refine x_get C hW 0 4 8 (Cn := RX5) (T := TX5) (N := 9) rfl rfl (by decide) hinX5 hf25 rfl dX5_of_35 ?_
          refine lv_iload C.x C.b dX5_of_38 (lv_at hl 0 rfl) ?_
          refine x_aldqI C hW 1 t rfl rfl (by omega) (by omega) rfl dX5_of_40 ?_
          refine lv_iconst (v := nI 1) C.x C.b dX5_of_41 (by decide) ?_
          refine x_ald C hW (2 + t) 1 (plR_at rfl (by omega)) rfl (by decide) (by decide) dX5_of_42 ?_
          refine lv_iload_n C.x C.b dX5_of_43 rfl (lv_at hl 6 rfl) ?_
          refine x_icmp_eq C (by have := hrv t 1; omega) (by have := hrv t 1; omega) (tgt := 50) dX5_of_44 (by decide) (fun c_21 => ?_) (fun c_21 => ?_)
          · refine lv_iload C.x C.b dX5_of_50 (lv_at hl 2 rfl) ?_
            refine lv_aload_n C.x C.b dX5_of_52 rfl (lv_at hl 4 rfl) ?_
            refine x_get C hW 0 4 8 (Cn := RX5) (T := TX5) (N := 9) rfl rfl (by decide) hinX5 hf25 rfl dX5_of_53 ?_
            refine lv_iload C.x C.b dX5_of_56 (lv_at hl 0 rfl) ?_
            refine x_aldqI C hW 1 t rfl rfl (by omega) (by omega) rfl dX5_of_58 ?_
            refine lv_iconst (v := nI 2) C.x C.b dX5_of_59 (by decide) ?_
            refine x_ald C hW (2 + t) 2 (plR_at rfl (by omega)) rfl (by decide) (by decide) dX5_of_60 ?_
            refine x_iadd C dX5_of_61 ?_
            refine lv_istore (lv' := [(4, .int (nI ((feF rv u f t) + (rv t 2)))), (6, .int (nI t)), (5, .int (lsI (lsF rv u f t))), (3, .int (nI 0)), (0, .ref h0), (1, .int (nI u)), (2, .int (nI f))]) C.x C.b dX5_of_62 hl (by decide) rfl (fun ls hl => ?_)
            refine lv_iload C.x C.b dX5_of_64 (lv_at hl 1 rfl) ?_
            refine lv_istore (lv' := [(5, .int (nI t)), (4, .int (nI ((feF rv u f t) + (rv t 2)))), (6, .int (nI t)), (3, .int (nI 0)), (0, .ref h0), (1, .int (nI u)), (2, .int (nI f))]) C.x C.b dX5_of_66 hl (by decide) rfl (fun ls hl => ?_)
            refine lv_iinc (k := 2) (v := nI (t + 1)) (lv' := [(6, .int (nI (t + 1))), (5, .int (nI t)), (4, .int (nI ((feF rv u f t) + (rv t 2)))), (3, .int (nI 0)), (0, .ref h0), (1, .int (nI u)), (2, .int (nI f))]) C.x C.b dX5_of_68 hl rfl (z_inc t 1) (by decide) rfl (fun ls hl => ?_)
            refine lv_goto (tgt := 11) C.x C.b dX5_of_71 (by decide) ?_
            exact ih1 (t + 1) (by omega) (by omega)  _ _ _ (hW.to rfl) (lv_to (lv_sub (l' := [(6, .int (nI (t + 1))), (5, .int (nI t)), (4, .int (nI ((feF rv u f t) + (rv t 2)))), (3, .int (nI 0)), (0, .ref h0), (1, .int (nI u)), (2, .int (nI f))]) hl [0, 1, 2, 3, 4, 5, 6] rfl) (by first | (rw [(feF_n (k := t) (fun q => by omega)).1, (feF_n (k := t) (fun q => by omega)).2]; done) | (rw [(feF_y (k := t) (by omega) (by omega)).1, (feF_y (k := t) (by omega) (by omega)).2, lsI_s]; done)))
          · refine lv_goto (tgt := 68) C.x C.b dX5_of_47 (by decide) ?_
            refine lv_iinc (k := 0) (v := nI (t + 1)) (lv' := [(6, .int (nI (t + 1))), (5, .int (lsI (lsF rv u f t))), (4, .int (nI (feF rv u f t))), (3, .int (nI 0)), (0, .ref h0), (1, .int (nI u)), (2, .int (nI f))]) C.x C.b dX5_of_68 hl rfl (z_inc t 1) (by decide) rfl (fun ls hl => ?_)
            refine lv_goto (tgt := 11) C.x C.b dX5_of_71 (by decide) ?_
            exact ih1 (t + 1) (by omega) (by omega)  _ _ _ (hW.to rfl) (lv_to (lv_sub (l' := [(6, .int (nI (t + 1))), (5, .int (lsI (lsF rv u f t))), (4, .int (nI (feF rv u f t))), (3, .int (nI 0)), (0, .ref h0), (1, .int (nI u)), (2, .int (nI f))]) hl [0, 1, 2, 3, 4, 5, 6] rfl) (by first | (rw [(feF_n (k := t) (fun q => by omega)).1, (feF_n (k := t) (fun q => by omega)).2]; done) | (rw [(feF_y (k := t) (by omega) (by omega)).1, (feF_y (k := t) (by omega) (by omega)).2, lsI_s]; done)))
  exact lp_1 (n + 1) 0 (by omega) (by omega)  _ _ _ (hW.to rfl) (lv_to (lv_sub (l' := [(6, .int (nI 0)), (5, .int ((-1 : Int32))), (4, .int (nI 0)), (3, .int (nI 0)), (0, .ref h0), (1, .int (nI u)), (2, .int (nI f))]) hl [0, 1, 2, 3, 4, 5, 6] rfl) rfl)

set_option maxHeartbeats 4000000 in
set_option maxRecDepth 100000 in
theorem met_X5_score (l : Launch) (E : EV) (h0 k1 k2 k3 k4 : Nat) (sp pl tu fr nf : Nat) (n : Nat) (ra : Nat → Nat) (rv : Nat → Nat → Nat) (u : Nat) (hnn : n ≤ 120) (hrv : ∀ k j, rv k j ≤ 10) (hp : u < 4) : MIa l yX5_score wsX5_score { frames := 1, cells := 10, slots := 30, locals := 29 } E [.ref h0, .int (nI u)] ([(h0, .inr (4, [.ref k1, .ref k2, .ref k3, .int (nI sp), .int (nI pl), .int (nI tu), .int (nI fr), .int (nI nf), .ref k4])), (k4, qI E n (fun k => some (ra k)))] ++ plR E n ra rv) 10 30 (nI (scL n rv u)) ([(h0, .inr (4, [.ref k1, .ref k2, .ref k3, .int (nI sp), .int (nI pl), .int (nI tu), .int (nI fr), .int (nI nf), .ref k4])), (k4, qI E n (fun k => some (ra k)))] ++ plR E n ra rv) := by
  refine sIa (own := RX5) (cc := cX5_score) (maxL := 4) (ret := (some .int)) rfl (by decide) rfl (Nat.le_of_ble_eq_true rfl) ?_
  intro p e s m below meth c C hnm ls hl hW
  have hl : lv_has ls 4 [(0, .ref h0), (1, .int (nI u))] := hl
  have hW : WD E _ s ([(h0, .inr (4, [.ref k1, .ref k2, .ref k3, .int (nI sp), .int (nI pl), .int (nI tu), .int (nI fr), .int (nI nf), .ref k4])), (k4, qI E n (fun k => some (ra k)))] ++ plR E n ra rv) s.heap [] := hW
  refine lv_iconst (v := nI 0) C.x C.b dX5_score_0 (by decide) ?_
  refine lv_istore_n (lv' := [(2, .int (nI 0)), (0, .ref h0), (1, .int (nI u))]) C.x C.b dX5_score_1 rfl hl (by decide) rfl (fun ls hl => ?_)
  refine lv_iconst (v := nI 0) C.x C.b dX5_score_2 (by decide) ?_
  refine lv_istore_n (lv' := [(3, .int (nI 0)), (2, .int (nI 0)), (0, .ref h0), (1, .int (nI u))]) C.x C.b dX5_score_3 rfl hl (by decide) rfl (fun ls hl => ?_)
  have lp_1 : ∀ (n1 i : Nat), i ≤ 10 → 10 + 1 ≤ i + n1 → ∀ (H : Heap) (locs : List Loc) (ls : Array Slot), WD E (va_A ([(h0, .inr (4, [.ref k1, .ref k2, .ref k3, .int (nI sp), .int (nI pl), .int (nI tu), .int (nI fr), .int (nI nf), .ref k4])), (k4, qI E n (fun k => some (ra k)))] ++ plR E n ra rv) s.heap.size) s ([(h0, .inr (4, [.ref k1, .ref k2, .ref k3, .int (nI sp), .int (nI pl), .int (nI tu), .int (nI fr), .int (nI nf), .ref k4])), (k4, qI E n (fun k => some (ra k)))] ++ plR E n ra rv) H locs → lv_has ls 4 [(3, .int (nI i)), (2, .int (nI (scS n rv u i))), (0, .ref h0), (1, .int (nI u))] → W p l e ({ frames := 1, cells := 10, slots := 30, locals := 29 } : Room) s m ([.ref h0, .int (nI u)] : List Value).toArray below meth c H locs i (3 * i) (QIa E ([(h0, .inr (4, [.ref k1, .ref k2, .ref k3, .int (nI sp), .int (nI pl), .int (nI tu), .int (nI fr), .int (nI nf), .ref k4])), (k4, qI E n (fun k => some (ra k)))] ++ plR E n ra rv) 10 30 (nI (scL n rv u)) ([(h0, .inr (4, [.ref k1, .ref k2, .ref k3, .int (nI sp), .int (nI pl), .int (nI tu), .int (nI fr), .int (nI nf), .ref k4])), (k4, qI E n (fun k => some (ra k)))] ++ plR E n ra rv) below ([.ref h0, .int (nI u)] : List Value).toArray s) (F0 m 4 ls []) := by
    intro n1
    induction n1 with
    | zero => intro i hi hn; exact absurd hn (by omega)
    | succ n1 ih1 =>
      intro i hi hn  H locs ls hW hl
      refine lv_iload_n C.x C.b dX5_score_4 rfl (lv_at hl 0 rfl) ?_
      refine lv_bipush (v := nI 10) C.x C.b dX5_score_5 (by decide) ?_
      refine x_icmp_ge C (by omega) (by omega) (tgt := 27) dX5_score_7 (by decide) (fun c_2 => ?_) (fun c_2 => ?_)
      · obtain rfl : i = 10 := by omega
        refine lv_iload_n C.x C.b dX5_score_27 rfl (lv_at hl 1 rfl) ?_
        refine W.widen (k := 10) (n := 30) (by omega) (by omega) ?_
        exact x_iretIa C hW rfl rfl rfl rfl rfl dX5_score_28
      · refine lv_iload_n C.x C.b dX5_score_10 rfl (lv_at hl 1 rfl) ?_
        refine lv_aload_n C.x C.b dX5_score_11 rfl (lv_at hl 2 rfl) ?_
        refine lv_iload_n C.x C.b dX5_score_12 rfl (lv_at hl 3 rfl) ?_
        refine lv_iload_n C.x C.b dX5_score_13 rfl (lv_at hl 0 rfl) ?_
        refine x_rVNT C hW (As := [.int (nI u), .int (nI i)]) (rest := [.int (nI (scS n rv u i))]) (Cn := RX5) (met_X5_of l E h0 k1 k2 k3 k4 sp pl tu fr nf n ra rv u i (by omega) (by omega) (by omega) (by omega)) gX5_score_X5_of rfl 2 rfl ⟨rfl, rfl⟩ ⟨rfl, by decide +kernel, by decide +kernel, by decide +kernel⟩ ⟨Nat.le_of_ble_eq_true rfl, Nat.le_of_ble_eq_true rfl⟩ [0, 1] rfl (by decide) 0 4 rfl rfl hl.1 rfl (Nat.le_of_ble_eq_true rfl) dX5_score_14 ⟨by show _ ≤ 10; omega, by show _ ≤ 30; omega⟩ (fun o_3 H locs hW => ?_)
        have hW := hW.front
        have hW : WD E _ s ([(o_3, aI E 3 (o3 n rv u i)), (h0, .inr (4, [.ref k1, .ref k2, .ref k3, .int (nI sp), .int (nI pl), .int (nI tu), .int (nI fr), .int (nI nf), .ref k4])), (k4, qI E n (fun k => some (ra k)))] ++ plR E n ra rv) H _ := hW
        refine lv_iconst (v := nI 0) C.x C.b dX5_score_17 (by decide) ?_
        refine x_ald C hW 0 0 rfl rfl (by omega) (by decide) dX5_score_18 ?_
        refine x_toi (y := nI (oS n rv u i)) (congrArg nI (o3_0 _ _ _ _)) ?_
        refine x_iadd C dX5_score_19 ?_
        refine lv_istore_n (lv' := [(2, .int (nI ((scS n rv u i) + (oS n rv u i)))), (3, .int (nI i)), (0, .ref h0), (1, .int (nI u))]) C.x C.b dX5_score_20 rfl hl (by decide) rfl (fun ls hl => ?_)
        refine lv_iinc (k := 1) (v := nI (i + 1)) (lv' := [(3, .int (nI (i + 1))), (2, .int (nI ((scS n rv u i) + (oS n rv u i)))), (0, .ref h0), (1, .int (nI u))]) C.x C.b dX5_score_21 hl rfl (z_inc i 1) (by decide) rfl (fun ls hl => ?_)
        refine lv_goto (tgt := 4) C.x C.b dX5_score_24 (by decide) ?_
        refine W.widen (k := ((i + 1))) (n := 3 * ((i + 1))) (by omega) (by omega) ?_
        have hW := WD.part hW (w' := [(h0, .inr (4, [.ref k1, .ref k2, .ref k3, .int (nI sp), .int (nI pl), .int (nI tu), .int (nI fr), .int (nI nf), .ref k4])), (k4, qI E n (fun k => some (ra k)))]) [1, 2] rfl (by decide)
        exact ih1 (i + 1) (by omega) (by omega)  _ _ _ (hW.to rfl) (lv_to (lv_sub (l' := [(3, .int (nI (i + 1))), (2, .int (nI ((scS n rv u i) + (oS n rv u i)))), (0, .ref h0), (1, .int (nI u))]) hl [0, 1, 2, 3] rfl) (by first | rfl | (simp [c_2]; done) | (rw [if_pos (by omega)]; done) | (rw [if_neg (by omega)]; done) | (exfalso; omega) | ((repeat' split) <;> first | rfl | contradiction | (exfalso; omega))))
  refine W.widen (k := 0) (n := 3 * 0) (by omega) (by omega) ?_
  exact lp_1 (10 + 1) 0 (by omega) (by omega)  _ _ _ (hW.to rfl) (lv_to (lv_sub (l' := [(3, .int (nI 0)), (2, .int (nI 0)), (0, .ref h0), (1, .int (nI u))]) hl [0, 1, 2, 3] rfl) rfl)

set_option maxHeartbeats 4000000 in
set_option maxRecDepth 100000 in
theorem met_X5_leader (l : Launch) (E : EV) (h0 k1 k2 k3 k4 : Nat) (sp pl tu fr nf : Nat) (n : Nat) (ra : Nat → Nat) (rv : Nat → Nat → Nat) (hnn : n ≤ 120) (hrv : ∀ k j, rv k j ≤ 10) (hp1 : 1 ≤ pl) (hpl : pl ≤ 4) : MIa l yX5_leader wsX5_leader { frames := 2, cells := 80, slots := 240, locals := 52 } E [.ref h0] ([(h0, .inr (4, [.ref k1, .ref k2, .ref k3, .int (nI sp), .int (nI pl), .int (nI tu), .int (nI fr), .int (nI nf), .ref k4])), (k4, qI E n (fun k => some (ra k)))] ++ plR E n ra rv) 80 240 (pinV (blB (scL n rv) pl pl)) ([(h0, .inr (4, [.ref k1, .ref k2, .ref k3, .int (nI sp), .int (nI pl), .int (nI tu), .int (nI fr), .int (nI nf), .ref k4])), (k4, qI E n (fun k => some (ra k)))] ++ plR E n ra rv) := by
  refine sIa (own := RX5) (cc := cX5_leader) (maxL := 3) (ret := (some .int)) rfl (by decide) rfl (Nat.le_of_ble_eq_true rfl) ?_
  intro p e s m below meth c C hnm ls hl hW
  have hl : lv_has ls 3 [(0, .ref h0)] := hl
  have hW : WD E _ s ([(h0, .inr (4, [.ref k1, .ref k2, .ref k3, .int (nI sp), .int (nI pl), .int (nI tu), .int (nI fr), .int (nI nf), .ref k4])), (k4, qI E n (fun k => some (ra k)))] ++ plR E n ra rv) s.heap [] := hW
  have hinX5 : ∀ w ∈ u_ws RX5 TX5 9, w ∈ wsX5_leader := by decide +kernel
  have hf53 : Cond.fieldLink RX5 53 (TX5 4).1 (TX5 4).2.1 (TX5 4).2.2.1 ∈ wsX5_leader := by decide +kernel
  refine lv_iconst (v := (-1)) C.x C.b dX5_leader_0 (by decide) ?_
  refine lv_istore_n (lv' := [(1, .int ((-1 : Int32))), (0, .ref h0)]) C.x C.b dX5_leader_1 rfl hl (by decide) rfl (fun ls hl => ?_)
  refine lv_aload_n C.x C.b dX5_leader_2 rfl (lv_at hl 1 rfl) ?_
  refine x_get C hW 0 4 4 (Cn := RX5) (T := TX5) (N := 9) rfl rfl (by decide) hinX5 hf53 rfl dX5_leader_3 ?_
  refine lv_iconst (v := nI 1) C.x C.b dX5_leader_6 (by decide) ?_
  refine x_isub C (by omega) dX5_leader_7 ?_
  refine lv_istore_n (lv' := [(2, .int (nI (pl - 1))), (1, .int ((-1 : Int32))), (0, .ref h0)]) C.x C.b dX5_leader_8 rfl hl (by decide) rfl (fun ls hl => ?_)
  have lp_1 : ∀ (n1 k : Nat), k ≤ pl → pl + 1 ≤ k + n1 → ∀ (H : Heap) (locs : List Loc) (ls : Array Slot), WD E (va_A ([(h0, .inr (4, [.ref k1, .ref k2, .ref k3, .int (nI sp), .int (nI pl), .int (nI tu), .int (nI fr), .int (nI nf), .ref k4])), (k4, qI E n (fun k => some (ra k)))] ++ plR E n ra rv) s.heap.size) s ([(h0, .inr (4, [.ref k1, .ref k2, .ref k3, .int (nI sp), .int (nI pl), .int (nI tu), .int (nI fr), .int (nI nf), .ref k4])), (k4, qI E n (fun k => some (ra k)))] ++ plR E n ra rv) H locs → lv_has ls 3 [(2, .int (dnI pl k)), (1, .int (pinV (blB (scL n rv) pl k))), (0, .ref h0)] → W p l e ({ frames := 2, cells := 80, slots := 240, locals := 52 } : Room) s m ([.ref h0] : List Value).toArray below meth c H locs (20 * k) (60 * k) (QIa E ([(h0, .inr (4, [.ref k1, .ref k2, .ref k3, .int (nI sp), .int (nI pl), .int (nI tu), .int (nI fr), .int (nI nf), .ref k4])), (k4, qI E n (fun k => some (ra k)))] ++ plR E n ra rv) 80 240 (pinV (blB (scL n rv) pl pl)) ([(h0, .inr (4, [.ref k1, .ref k2, .ref k3, .int (nI sp), .int (nI pl), .int (nI tu), .int (nI fr), .int (nI nf), .ref k4])), (k4, qI E n (fun k => some (ra k)))] ++ plR E n ra rv) below ([.ref h0] : List Value).toArray s) (F0 m 9 ls []) := by
    intro n1
    induction n1 with
    | zero => intro k hk hn; exact absurd hn (by omega)
    | succ n1 ih1 =>
      intro k hk hn  H locs ls hW hl
      refine lv_iload_n C.x C.b dX5_leader_9 rfl (lv_at hl 0 rfl) ?_
      by_cases hk : k < pl
      · rw [show dnI pl k = nI (pl - 1 - k) from if_pos hk] at hl ⊢
        refine x_if_lt C (by omega) (tgt := 38) dX5_leader_10 (by decide) (fun c_2 => ?_) (fun c_2 => ?_)
        · have e9 : pl = k := by omega
          subst e9
          refine lv_iload_n C.x C.b dX5_leader_38 rfl (lv_at hl 1 rfl) ?_
          refine W.widen (k := 80) (n := 240) (by omega) (by omega) ?_
          exact x_iretIa C hW rfl rfl rfl rfl rfl dX5_leader_39
        · refine lv_iload_n C.x C.b dX5_leader_13 rfl (lv_at hl 1 rfl) ?_
          refine lv_if_lt C.x C.b (tgt := 30) dX5_leader_14 (by decide) (fun c_3 => ?_) (fun c_3 => ?_)
          · refine lv_iload_n C.x C.b dX5_leader_30 rfl (lv_at hl 0 rfl) ?_
            refine lv_istore_n (lv' := [(1, .int (nI (pl - 1 - k))), (2, .int (nI (pl - 1 - k))), (0, .ref h0)]) C.x C.b dX5_leader_31 rfl hl (by decide) rfl (fun ls hl => ?_)
            refine lv_iinc (k := 1) (v := dnI pl (k + 1)) (lv' := [(2, .int (dnI pl (k + 1))), (1, .int (nI (pl - 1 - k))), (0, .ref h0)]) C.x C.b dX5_leader_32 hl rfl (dn_step hk) (by decide) rfl (fun ls hl => ?_)
            refine lv_goto (tgt := 9) C.x C.b dX5_leader_35 (by decide) ?_
            refine W.widen (k := 20 * ((k + 1))) (n := 60 * ((k + 1))) (by omega) (by omega) ?_
            exact ih1 (k + 1) (by omega) (by omega)  _ _ _ (hW.to rfl) (lv_to (lv_sub (l' := [(2, .int (dnI pl (k + 1))), (1, .int (nI (pl - 1 - k))), (0, .ref h0)]) hl [0, 1, 2] rfl) (by first | (rw [bl_a (pinV_neg (by assumption)), pinV_nI (by omega)]; done) | (rw [bl_b hp9 (by omega), pinV_nI (by omega)]; done) | (rw [bl_c hp9 (by omega)]; done)))
          · have hp9 := pinV_nn (by assumption)
            have hp8 := bl_lt (scL n rv) pl k hp9
            have e1 := scL_le hrv hnn (pl - 1 - k)
            have e2 := scL_le hrv hnn (blB (scL n rv) pl k)
            refine lv_aload_n C.x C.b dX5_leader_17 rfl (lv_at hl 2 rfl) ?_
            refine lv_iload_n C.x C.b dX5_leader_18 rfl (lv_at hl 0 rfl) ?_
            refine x_rVIaT C hW (As := [.int (nI (pl - 1 - k))]) (rest := []) (Cn := RX5) (met_X5_score l E h0 k1 k2 k3 k4 sp pl tu fr nf n ra rv (pl - 1 - k) (by omega) (by omega) (by omega)) gX5_leader_X5_score rfl 1 rfl ⟨rfl, rfl⟩ ⟨rfl, by decide +kernel, by decide +kernel, by decide +kernel⟩ ⟨Nat.le_of_ble_eq_true rfl, Nat.le_of_ble_eq_true rfl⟩ [0, 1] rfl (by decide) 0 4 rfl rfl hl.1 rfl (Nat.le_of_ble_eq_true rfl) dX5_leader_19 ⟨by show _ ≤ 80; omega, by show _ ≤ 240; omega⟩ (fun H locs hW => ?_)
            refine lv_aload_n C.x C.b dX5_leader_22 rfl (lv_at hl 2 rfl) ?_
            refine lv_iload_n C.x C.b dX5_leader_23 rfl (lv_at hl 1 rfl) ?_
            refine x_toi (y := nI (blB (scL n rv) pl k)) ((pinV_nI hp9)) ?_
            refine x_rVIaT C hW (As := [.int (nI (blB (scL n rv) pl k))]) (rest := [.int (nI (scL n rv (pl - 1 - k)))]) (Cn := RX5) (met_X5_score l E h0 k1 k2 k3 k4 sp pl tu fr nf n ra rv (blB (scL n rv) pl k) (by omega) (by omega) (by omega)) gX5_leader_X5_score rfl 1 rfl ⟨rfl, rfl⟩ ⟨rfl, by decide +kernel, by decide +kernel, by decide +kernel⟩ ⟨Nat.le_of_ble_eq_true rfl, Nat.le_of_ble_eq_true rfl⟩ [0, 1] rfl (by decide) 0 4 rfl rfl hl.1 rfl (Nat.le_of_ble_eq_true rfl) dX5_leader_24 ⟨by show _ ≤ 80; omega, by show _ ≤ 240; omega⟩ (fun H locs hW => ?_)
            refine x_icmp_lt C (by omega) (by omega) (tgt := 32) dX5_leader_27 (by decide) (fun c_4 => ?_) (fun c_4 => ?_)
            · refine lv_iinc (k := 0) (v := dnI pl (k + 1)) (lv' := [(2, .int (dnI pl (k + 1))), (1, .int (pinV (blB (scL n rv) pl k))), (0, .ref h0)]) C.x C.b dX5_leader_32 hl rfl (dn_step hk) (by decide) rfl (fun ls hl => ?_)
              refine lv_goto (tgt := 9) C.x C.b dX5_leader_35 (by decide) ?_
              refine W.widen (k := 20 * ((k + 1))) (n := 60 * ((k + 1))) (by omega) (by omega) ?_
              exact ih1 (k + 1) (by omega) (by omega)  _ _ _ (hW.to rfl) (lv_to (lv_sub (l' := [(2, .int (dnI pl (k + 1))), (1, .int (pinV (blB (scL n rv) pl k))), (0, .ref h0)]) hl [0, 1, 2] rfl) (by first | (rw [bl_a (pinV_neg (by assumption)), pinV_nI (by omega)]; done) | (rw [bl_b hp9 (by omega), pinV_nI (by omega)]; done) | (rw [bl_c hp9 (by omega)]; done)))
            · refine lv_iload_n C.x C.b dX5_leader_30 rfl (lv_at hl 0 rfl) ?_
              refine lv_istore_n (lv' := [(1, .int (nI (pl - 1 - k))), (2, .int (nI (pl - 1 - k))), (0, .ref h0)]) C.x C.b dX5_leader_31 rfl hl (by decide) rfl (fun ls hl => ?_)
              refine lv_iinc (k := 1) (v := dnI pl (k + 1)) (lv' := [(2, .int (dnI pl (k + 1))), (1, .int (nI (pl - 1 - k))), (0, .ref h0)]) C.x C.b dX5_leader_32 hl rfl (dn_step hk) (by decide) rfl (fun ls hl => ?_)
              refine lv_goto (tgt := 9) C.x C.b dX5_leader_35 (by decide) ?_
              refine W.widen (k := 20 * ((k + 1))) (n := 60 * ((k + 1))) (by omega) (by omega) ?_
              exact ih1 (k + 1) (by omega) (by omega)  _ _ _ (hW.to rfl) (lv_to (lv_sub (l' := [(2, .int (dnI pl (k + 1))), (1, .int (nI (pl - 1 - k))), (0, .ref h0)]) hl [0, 1, 2] rfl) (by first | (rw [bl_a (pinV_neg (by assumption)), pinV_nI (by omega)]; done) | (rw [bl_b hp9 (by omega), pinV_nI (by omega)]; done) | (rw [bl_c hp9 (by omega)]; done)))
      · rw [show dnI pl k = -1 from if_neg hk] at hl ⊢
        refine lv_if_lt C.x C.b (tgt := 38) dX5_leader_10 (by decide) (fun c_5 => ?_) (fun c_5 => ?_)
        · have e9 : pl = k := by omega
          subst e9
          refine lv_iload_n C.x C.b dX5_leader_38 rfl (lv_at hl 1 rfl) ?_
          refine W.widen (k := 80) (n := 240) (by omega) (by omega) ?_
          exact x_iretIa C hW rfl rfl rfl rfl rfl dX5_leader_39
        · exact absurd (by decide) c_5
  refine W.widen (k := 20 * 0) (n := 60 * 0) (by omega) (by omega) ?_
  exact lp_1 (pl + 1) 0 (by omega) (by omega)  _ _ _ (hW.to rfl) (lv_to (lv_sub (l' := [(2, .int (nI (pl - 1))), (1, .int ((-1 : Int32))), (0, .ref h0)]) hl [0, 1, 2] rfl) (by rw [show dnI pl 0 = nI (pl - 1) from by rw [dnI, if_pos (by omega)]; rfl]; rfl))

set_option maxHeartbeats 4000000 in
set_option maxRecDepth 100000 in
theorem met_X5_newGame (l : Launch) (E : EV) (h0 k1 k2 k3 k4 : Nat) (sp pl tu fr nf : Nat) (g : Nat) (w aw : Nat → Nat) (n : Nat) (ra : Nat → Nat) (rv : Nat → Nat → Nat) (hnn : n ≤ 120) (hrv : ∀ k j, rv k j ≤ 10) (hp1 : 1 ≤ pl) (hpl : pl ≤ 4) (hw : ∀ i, w i ≤ 12) (hg : g < 512) : MG l yX5_newGame wsX5_newGame { frames := 3, cells := 81, slots := 240, locals := 74 } E [.ref h0] ([(h0, .inr (4, [.ref k1, .ref k2, .ref k3, .int (nI sp), .int (nI pl), .int (nI tu), .int (nI fr), .int (nI nf), .ref k4])), (k1, bI E 9 (mB g)), (k2, aI E 9 w), (k3, aI E 5 aw), (k4, qI E n (fun k => some (ra k)))] ++ plR E n ra rv) 81 240 (fun r w1 => r = pinV (blB (scL n rv) pl pl) ∧ ∃ q4 : Nat, w1 = ([(h0, .inr (4, [.ref k1, .ref k2, .ref k3, .int (nI sp), .int (nI pl), .int (nI 0), .int (nI 0), .int (nI 0), .ref q4])), (k1, bI E 9 (mB (suN w 9))), (k2, aI E 9 w), (k3, aI E 5 (zeW aw 5)), (q4, qI E 0 (fun k => some (ra k)))] : va_W)) := by
  refine sG (own := RX5) (cc := cX5_newGame) (maxL := 3) (ret := (some .int)) rfl (by decide) rfl (Nat.le_of_ble_eq_true rfl) ?_
  intro p e s m below meth c C hnm ls hl hW
  have hl : lv_has ls 3 [(0, .ref h0)] := hl
  have hW : WD E _ s ([(h0, .inr (4, [.ref k1, .ref k2, .ref k3, .int (nI sp), .int (nI pl), .int (nI tu), .int (nI fr), .int (nI nf), .ref k4])), (k1, bI E 9 (mB g)), (k2, aI E 9 w), (k3, aI E 5 aw), (k4, qI E n (fun k => some (ra k)))] ++ plR E n ra rv) s.heap [] := hW
  have hinX5 : ∀ w ∈ u_ws RX5 TX5 9, w ∈ wsX5_newGame := by decide +kernel
  have hf17 : Cond.fieldLink RX5 17 (TX5 2).1 (TX5 2).2.1 (TX5 2).2.2.1 ∈ wsX5_newGame := by decide +kernel
  have hf71 : Cond.fieldLink RX5 71 (TX5 5).1 (TX5 5).2.1 (TX5 5).2.2.1 ∈ wsX5_newGame := by decide +kernel
  have hf50 : Cond.fieldLink RX5 50 (TX5 6).1 (TX5 6).2.1 (TX5 6).2.2.1 ∈ wsX5_newGame := by decide +kernel
  have hf68 : Cond.fieldLink RX5 68 (TX5 7).1 (TX5 7).2.1 (TX5 7).2.2.1 ∈ wsX5_newGame := by decide +kernel
  have hf25 : Cond.fieldLink RX5 25 (TX5 8).1 (TX5 8).2.1 (TX5 8).2.2.1 ∈ wsX5_newGame := by decide +kernel
  refine lv_aload_n C.x C.b dX5_newGame_0 rfl (lv_at hl 0 rfl) ?_
  refine x_rVIaT C hW (As := []) (rest := []) (Cn := RX5) (met_X5_leader l E h0 k1 k2 k3 k4 sp pl tu fr nf n ra rv (by omega) (by omega) (by omega) (by omega)) gX5_newGame_X5_leader rfl 0 rfl ⟨rfl, rfl⟩ ⟨rfl, by decide +kernel, by decide +kernel, by decide +kernel⟩ ⟨Nat.le_of_ble_eq_true rfl, Nat.le_of_ble_eq_true rfl⟩ [0, 4] rfl (by decide) 0 4 rfl rfl hl.1 rfl (Nat.le_of_ble_eq_true rfl) dX5_newGame_1 ⟨by show _ ≤ 81; omega, by show _ ≤ 240; omega⟩ (fun H locs hW => ?_)
  refine lv_istore_n (lv' := [(1, .int (pinV (blB (scL n rv) pl pl))), (0, .ref h0)]) C.x C.b dX5_newGame_4 rfl hl (by decide) rfl (fun ls hl => ?_)
  refine lv_aload_n C.x C.b dX5_newGame_5 rfl (lv_at hl 1 rfl) ?_
  refine lv_iconst (v := nI 0) C.x C.b dX5_newGame_6 (by decide) ?_
  refine x_newqI C hW (N' := 0) (by decide +kernel) rfl (by omega) (by show _ ≤ 81; omega) (by show _ ≤ 240; omega) dX5_newGame_7 (fun o_1 H hW => ?_)
  have hW := hW.front
  have hW : WD E _ s ([(o_1, qI E 0 (fun _ => none)), (h0, .inr (4, [.ref k1, .ref k2, .ref k3, .int (nI sp), .int (nI pl), .int (nI tu), .int (nI fr), .int (nI nf), .ref k4])), (k1, bI E 9 (mB g)), (k2, aI E 9 w), (k3, aI E 5 aw), (k4, qI E n (fun k => some (ra k)))] ++ plR E n ra rv) H _ := hW
  refine x_putR C hW 1 4 8 (ty := .array (.array .int)) (Cn := RX5) (T := TX5) (N := 9) (w' := ([(o_1, qI E 0 (fun _ => none)), (h0, .inr (4, [.ref k1, .ref k2, .ref k3, .int (nI sp), .int (nI pl), .int (nI tu), .int (nI fr), .int (nI nf), .ref o_1])), (k1, bI E 9 (mB g)), (k2, aI E 9 w), (k3, aI E 5 aw), (k4, qI E n (fun k => some (ra k)))] ++ plR E n ra rv)) tyX5 tyX5_ok nmX5 rfl rfl (by decide) hinX5 hf25 rfl rfl rfl rfl (Nat.le_of_ble_eq_true rfl) dX5_newGame_10 rfl (fun H locs hW => ?_)
  refine lv_aload_n C.x C.b dX5_newGame_13 rfl (lv_at hl 1 rfl) ?_
  refine lv_iconst (v := nI 0) C.x C.b dX5_newGame_14 (by decide) ?_
  refine x_put C hW 1 4 5 (Cn := RX5) (T := TX5) (N := 9) (w' := ([(o_1, qI E 0 (fun _ => none)), (h0, .inr (4, [.ref k1, .ref k2, .ref k3, .int (nI sp), .int (nI pl), .int (nI 0), .int (nI fr), .int (nI nf), .ref o_1])), (k1, bI E 9 (mB g)), (k2, aI E 9 w), (k3, aI E 5 aw), (k4, qI E n (fun k => some (ra k)))] ++ plR E n ra rv)) tyX5 tyX5_ok nmX5 rfl rfl (by decide) hinX5 hf71 rfl (by decide +kernel) (Nat.le_of_ble_eq_true rfl) dX5_newGame_15 rfl (fun H locs hW => ?_)
  refine lv_aload_n C.x C.b dX5_newGame_18 rfl (lv_at hl 1 rfl) ?_
  refine lv_iconst (v := nI 0) C.x C.b dX5_newGame_19 (by decide) ?_
  refine x_put C hW 1 4 6 (Cn := RX5) (T := TX5) (N := 9) (w' := ([(o_1, qI E 0 (fun _ => none)), (h0, .inr (4, [.ref k1, .ref k2, .ref k3, .int (nI sp), .int (nI pl), .int (nI 0), .int (nI 0), .int (nI nf), .ref o_1])), (k1, bI E 9 (mB g)), (k2, aI E 9 w), (k3, aI E 5 aw), (k4, qI E n (fun k => some (ra k)))] ++ plR E n ra rv)) tyX5 tyX5_ok nmX5 rfl rfl (by decide) hinX5 hf50 rfl (by decide +kernel) (Nat.le_of_ble_eq_true rfl) dX5_newGame_20 rfl (fun H locs hW => ?_)
  refine lv_aload_n C.x C.b dX5_newGame_23 rfl (lv_at hl 1 rfl) ?_
  refine lv_iconst (v := nI 0) C.x C.b dX5_newGame_24 (by decide) ?_
  refine x_put C hW 1 4 7 (Cn := RX5) (T := TX5) (N := 9) (w' := ([(o_1, qI E 0 (fun _ => none)), (h0, .inr (4, [.ref k1, .ref k2, .ref k3, .int (nI sp), .int (nI pl), .int (nI 0), .int (nI 0), .int (nI 0), .ref o_1])), (k1, bI E 9 (mB g)), (k2, aI E 9 w), (k3, aI E 5 aw), (k4, qI E n (fun k => some (ra k)))] ++ plR E n ra rv)) tyX5 tyX5_ok nmX5 rfl rfl (by decide) hinX5 hf68 rfl (by decide +kernel) (Nat.le_of_ble_eq_true rfl) dX5_newGame_25 rfl (fun H locs hW => ?_)
  refine lv_iconst (v := nI 0) C.x C.b dX5_newGame_28 (by decide) ?_
  refine lv_istore_n (lv' := [(2, .int (nI 0)), (1, .int (pinV (blB (scL n rv) pl pl))), (0, .ref h0)]) C.x C.b dX5_newGame_29 rfl hl (by decide) rfl (fun ls hl => ?_)
  have lp_2 : ∀ (n2 i : Nat), i ≤ 5 → 5 + 1 ≤ i + n2 → ∀ (H : Heap) (locs : List Loc) (ls : Array Slot), WD E (va_A ([(h0, .inr (4, [.ref k1, .ref k2, .ref k3, .int (nI sp), .int (nI pl), .int (nI tu), .int (nI fr), .int (nI nf), .ref k4])), (k1, bI E 9 (mB g)), (k2, aI E 9 w), (k3, aI E 5 aw), (k4, qI E n (fun k => some (ra k)))] ++ plR E n ra rv) s.heap.size) s ([(o_1, qI E 0 (fun _ => none)), (h0, .inr (4, [.ref k1, .ref k2, .ref k3, .int (nI sp), .int (nI pl), .int (nI 0), .int (nI 0), .int (nI 0), .ref o_1])), (k1, bI E 9 (mB g)), (k2, aI E 9 w), (k3, aI E 5 (zeW aw i)), (k4, qI E n (fun k => some (ra k)))] ++ plR E n ra rv) H locs → lv_has ls 3 [(2, .int (nI i)), (1, .int (pinV (blB (scL n rv) pl pl))), (0, .ref h0)] → W p l e ({ frames := 3, cells := 81, slots := 240, locals := 74 } : Room) s m ([.ref h0] : List Value).toArray below meth c H locs (0 + 80 + 1) (0 + 240 + 0) (QG E ([(h0, .inr (4, [.ref k1, .ref k2, .ref k3, .int (nI sp), .int (nI pl), .int (nI tu), .int (nI fr), .int (nI nf), .ref k4])), (k1, bI E 9 (mB g)), (k2, aI E 9 w), (k3, aI E 5 aw), (k4, qI E n (fun k => some (ra k)))] ++ plR E n ra rv) 81 240 (fun r w1 => r = pinV (blB (scL n rv) pl pl) ∧ ∃ q4 : Nat, w1 = ([(h0, .inr (4, [.ref k1, .ref k2, .ref k3, .int (nI sp), .int (nI pl), .int (nI 0), .int (nI 0), .int (nI 0), .ref q4])), (k1, bI E 9 (mB (suN w 9))), (k2, aI E 9 w), (k3, aI E 5 (zeW aw 5)), (q4, qI E 0 (fun k => some (ra k)))] : va_W)) below ([.ref h0] : List Value).toArray s) (F0 m 30 ls []) := by
    intro n2
    induction n2 with
    | zero => intro i hi hn; exact absurd hn (by omega)
    | succ n2 ih2 =>
      intro i hi hn  H locs ls hW hl
      refine lv_iload_n C.x C.b dX5_newGame_30 rfl (lv_at hl 0 rfl) ?_
      refine lv_iconst (v := nI 5) C.x C.b dX5_newGame_31 (by decide) ?_
      refine x_icmp_ge C (by omega) (by omega) (tgt := 48) dX5_newGame_32 (by decide) (fun c_3 => ?_) (fun c_3 => ?_)
      · obtain rfl : i = 5 := by omega
        refine lv_aload_n C.x C.b dX5_newGame_48 rfl (lv_at hl 2 rfl) ?_
        refine x_wVV C hW (As := []) (rest := []) (wr := [(o_1, qI E 0 (fun _ => none)), (k3, aI E 5 (zeW aw 5)), (k4, qI E n (fun k => some (ra k)))]) (wn := [(o_1, qI E 0 (fun _ => none)), (h0, .inr (4, [.ref k1, .ref k2, .ref k3, .int (nI sp), .int (nI pl), .int (nI 0), .int (nI 0), .int (nI 0), .ref o_1])), (k1, bI E 9 (mB (suN w 9))), (k2, aI E 9 w), (k3, aI E 5 (zeW aw 5)), (k4, qI E n (fun k => some (ra k)))]) (Cn := RX5) (met_X5_setUp l E h0 k1 k2 k3 o_1 sp pl 0 0 0 g w (by omega) hw) gX5_newGame_X5_setUp rfl 0 rfl ⟨rfl, rfl⟩ ⟨rfl, by decide +kernel, by decide +kernel, by decide +kernel⟩ ⟨Nat.le_of_ble_eq_true rfl, Nat.le_of_ble_eq_true rfl⟩ [1, 2, 3] [0, 4, 5] [0, 3, 4, 5, 1, 2] rfl (by decide) rfl (by decide) (by decide) rfl (by decide) 1 4 rfl rfl hl.1 rfl (Nat.le_of_ble_eq_true rfl) dX5_newGame_49 ⟨by show _ ≤ 81; omega, by show _ ≤ 240; omega⟩ (fun H locs hW => ?_)
        have hW : WD E _ s ([(o_1, qI E 0 (fun _ => none)), (h0, .inr (4, [.ref k1, .ref k2, .ref k3, .int (nI sp), .int (nI pl), .int (nI 0), .int (nI 0), .int (nI 0), .ref o_1])), (k1, bI E 9 (mB (suN w 9))), (k2, aI E 9 w), (k3, aI E 5 (zeW aw 5)), (k4, qI E n (fun k => some (ra k)))] ++ plR E n ra rv) H _ := hW
        refine lv_iload_n C.x C.b dX5_newGame_52 rfl (lv_at hl 1 rfl) ?_
        refine W.widen (k := 81) (n := 240) (by omega) (by omega) ?_
        have hW := WD.cutT (WD.part hW (w' := [(h0, .inr (4, [.ref k1, .ref k2, .ref k3, .int (nI sp), .int (nI pl), .int (nI 0), .int (nI 0), .int (nI 0), .ref o_1])), (k1, bI E 9 (mB (suN w 9))), (k2, aI E 9 w), (k3, aI E 5 (zeW aw 5)), (o_1, qI E 0 (fun _ => none))]) [1, 2, 3, 4, 0] rfl (by decide))
        have hW := WD.row hW 4 rfl (g := fun k => some (ra k)) (w' := [(h0, .inr (4, [.ref k1, .ref k2, .ref k3, .int (nI sp), .int (nI pl), .int (nI 0), .int (nI 0), .int (nI 0), .ref o_1])), (k1, bI E 9 (mB (suN w 9))), (k2, aI E 9 w), (k3, aI E 5 (zeW aw 5)), (o_1, qI E 0 (fun k => some (ra k)))]) (fun j hj => absurd hj (Nat.not_lt_zero _)) rfl
        exact x_iretG C hW rfl ⟨rfl, o_1, rfl⟩ rfl rfl dX5_newGame_53
      · refine lv_aload_n C.x C.b dX5_newGame_35 rfl (lv_at hl 2 rfl) ?_
        refine x_get C hW 1 4 2 (Cn := RX5) (T := TX5) (N := 9) rfl rfl (by decide) hinX5 hf17 rfl dX5_newGame_36 ?_
        refine lv_iload_n C.x C.b dX5_newGame_39 rfl (lv_at hl 0 rfl) ?_
        refine lv_iconst (v := nI 0) C.x C.b dX5_newGame_40 (by decide) ?_
        refine x_ast C hW 4 i 0 rfl rfl rfl (by omega) (by decide) dX5_newGame_41 (w' := ([(o_1, qI E 0 (fun _ => none)), (h0, .inr (4, [.ref k1, .ref k2, .ref k3, .int (nI sp), .int (nI pl), .int (nI 0), .int (nI 0), .int (nI 0), .ref o_1])), (k1, bI E 9 (mB g)), (k2, aI E 9 w), (k3, aI E 5 (upN (zeW aw i) i 0)), (k4, qI E n (fun k => some (ra k)))] ++ plR E n ra rv)) rfl (fun H locs hW => ?_)
        refine lv_iinc (k := 0) (v := nI (i + 1)) (lv' := [(2, .int (nI (i + 1))), (1, .int (pinV (blB (scL n rv) pl pl))), (0, .ref h0)]) C.x C.b dX5_newGame_42 hl rfl (z_inc i 1) (by decide) rfl (fun ls hl => ?_)
        refine lv_goto (tgt := 30) C.x C.b dX5_newGame_45 (by decide) ?_
        exact ih2 (i + 1) (by omega) (by omega)  _ _ _ (hW.to (by first | rfl | (simp [c_3]; done) | (rw [if_pos (by omega)]; done) | (rw [if_neg (by omega)]; done) | (exfalso; omega) | ((repeat' split) <;> first | rfl | contradiction | (exfalso; omega)))) (lv_to (lv_sub (l' := [(2, .int (nI (i + 1))), (1, .int (pinV (blB (scL n rv) pl pl))), (0, .ref h0)]) hl [0, 1, 2] rfl) (by first | rfl | (simp [c_3]; done) | (rw [if_pos (by omega)]; done) | (rw [if_neg (by omega)]; done) | (exfalso; omega) | ((repeat' split) <;> first | rfl | contradiction | (exfalso; omega))))
  exact lp_2 (5 + 1) 0 (by omega) (by omega)  _ _ _ (hW.to rfl) (lv_to (lv_sub (l' := [(2, .int (nI 0)), (1, .int (pinV (blB (scL n rv) pl pl))), (0, .ref h0)]) hl [0, 1, 2] rfl) rfl)

set_option maxHeartbeats 4000000 in
set_option maxRecDepth 100000 in
theorem met_X5_play_go (l : Launch) (E : EV) (h0 k1 k2 k3 k4 : Nat) (sp pl tu fr nf : Nat) (g : Nat) (w aw : Nat → Nat) (n : Nat) (ra : Nat → Nat) (rv : Nat → Nat → Nat) (b z : Nat) (hnn : n ≤ 120) (hrv : ∀ k j, rv k j ≤ 10) (hp1 : 1 ≤ pl) (hpl : pl ≤ 4) (htu : tu < 4) (hfr : fr < 10) (hnf : nf ≤ 2) (hg : g < 512) (hb : b < 5) (hw : ∀ i, w i ≤ 12) (ha : ∀ i, aw i ≤ 2) (hgo : ¬ roN g b z = 0) (hg2 : ¬ nf + 1 = 3) : MG l yX5_play wsX5_play { frames := 5, cells := 3, slots := 140, locals := 118 } E [.ref h0, .int (nI b), .int (nI z)] ([(h0, .inr (4, [.ref k1, .ref k2, .ref k3, .int (nI sp), .int (nI pl), .int (nI tu), .int (nI fr), .int (nI nf), .ref k4])), (k1, bI E 9 (mB g)), (k2, aI E 9 w), (k3, aI E 5 aw), (k4, qI E n (fun k => some (ra k)))] ++ plR E n ra rv) 3 140 (fun r w1 => r = nI (pcN (feN g b z)) ∧ ∃ q1 q4 q : Nat, w1 = ([(h0, .inr (4, [.ref q1, .ref k2, .ref k3, .int (nI sp), .int (nI pl), .int (nI tu), .int (nI fr), .int (nI (nf + 1)), .ref q4])), (q1, bI E 9 (mB (roN g b z))), (k2, aI E 9 (rwW (feN g b z) w 9)), (k3, aI E 5 (upN (snW aw 5) b 2)), (q4, qI E (n + 1) (fun k => some (upN ra n q k)))] ++ plR E (n + 1) (upN ra n q) (upN rv n (pk5 tu fr (pcN (feN g b z)) (pcN (roN g b z)) (nf + 1))))) := by
  refine sG (own := RX5) (cc := cX5_play) (maxL := 7) (ret := (some .int)) rfl (by decide) rfl (Nat.le_of_ble_eq_true rfl) ?_
  intro p e s m below meth c C hnm ls hl hW
  have hl : lv_has ls 7 [(0, .ref h0), (1, .int (nI b)), (2, .int (nI z))] := hl
  have hW : WD E _ s ([(h0, .inr (4, [.ref k1, .ref k2, .ref k3, .int (nI sp), .int (nI pl), .int (nI tu), .int (nI fr), .int (nI nf), .ref k4])), (k1, bI E 9 (mB g)), (k2, aI E 9 w), (k3, aI E 5 aw), (k4, qI E n (fun k => some (ra k)))] ++ plR E n ra rv) s.heap [] := hW
  have hinX5 : ∀ w ∈ u_ws RX5 TX5 9, w ∈ wsX5_play := by decide +kernel
  have hf7 : Cond.fieldLink RX5 7 (TX5 0).1 (TX5 0).2.1 (TX5 0).2.2.1 ∈ wsX5_play := by decide +kernel
  have hf13 : Cond.fieldLink RX5 13 (TX5 1).1 (TX5 1).2.1 (TX5 1).2.2.1 ∈ wsX5_play := by decide +kernel
  have hf17 : Cond.fieldLink RX5 17 (TX5 2).1 (TX5 2).2.1 (TX5 2).2.2.1 ∈ wsX5_play := by decide +kernel
  have hf71 : Cond.fieldLink RX5 71 (TX5 5).1 (TX5 5).2.1 (TX5 5).2.2.1 ∈ wsX5_play := by decide +kernel
  have hf50 : Cond.fieldLink RX5 50 (TX5 6).1 (TX5 6).2.1 (TX5 6).2.2.1 ∈ wsX5_play := by decide +kernel
  have hf68 : Cond.fieldLink RX5 68 (TX5 7).1 (TX5 7).2.1 (TX5 7).2.2.1 ∈ wsX5_play := by decide +kernel
  have hf25 : Cond.fieldLink RX5 25 (TX5 8).1 (TX5 8).2.1 (TX5 8).2.2.1 ∈ wsX5_play := by decide +kernel
  refine lv_aload_n C.x C.b dX5_play_0 rfl (lv_at hl 0 rfl) ?_
  refine x_get C hW 0 4 0 (Cn := RX5) (T := TX5) (N := 9) rfl rfl (by decide) hinX5 hf7 rfl dX5_play_1 ?_
  refine lv_iload_n C.x C.b dX5_play_4 rfl (lv_at hl 1 rfl) ?_
  refine lv_iload_n C.x C.b dX5_play_5 rfl (lv_at hl 2 rfl) ?_
  refine x_rSN C hW (As := [.ref k1, .int (nI b), .int (nI z)]) (rest := []) (met_X5_behind l E k1 g b z (by omega) (by omega)) gX5_play_X5_behind rfl 3 rfl ⟨rfl, rfl⟩ ⟨by decide +kernel, by decide +kernel, by decide +kernel⟩ ⟨Nat.le_of_ble_eq_true rfl, Nat.le_of_ble_eq_true rfl⟩ [1] rfl (by decide) hl.1 rfl (Nat.le_of_ble_eq_true rfl) dX5_play_6 ⟨by show _ ≤ 3; omega, by show _ ≤ 140; omega⟩ (fun o_1 H locs hW => ?_)
  have hW := hW.front
  have hW : WD E _ s ([(o_1, bI E 9 (mB (roN g b z))), (h0, .inr (4, [.ref k1, .ref k2, .ref k3, .int (nI sp), .int (nI pl), .int (nI tu), .int (nI fr), .int (nI nf), .ref k4])), (k1, bI E 9 (mB g)), (k2, aI E 9 w), (k3, aI E 5 aw), (k4, qI E n (fun k => some (ra k)))] ++ plR E n ra rv) H _ := hW
  refine lv_astore_n (lv' := [(3, .ref o_1), (0, .ref h0), (1, .int (nI b)), (2, .int (nI z))]) C.x C.b dX5_play_9 rfl hl (by decide) rfl (fun ls hl => ?_)
  refine lv_aload_n C.x C.b dX5_play_10 rfl (lv_at hl 1 rfl) ?_
  refine x_get C hW 1 4 0 (Cn := RX5) (T := TX5) (N := 9) rfl rfl (by decide) hinX5 hf7 rfl dX5_play_11 ?_
  refine x_rSI C hW (As := [.ref k1]) (rest := []) (met_X5_many l E k1 g) gX5_play_X5_many rfl 1 rfl ⟨rfl, rfl⟩ ⟨by decide +kernel, by decide +kernel, by decide +kernel⟩ ⟨Nat.le_of_ble_eq_true rfl, Nat.le_of_ble_eq_true rfl⟩ [2] rfl (by decide) hl.1 rfl (Nat.le_of_ble_eq_true rfl) dX5_play_14 ⟨by show _ ≤ 3; omega, by show _ ≤ 140; omega⟩ (fun H locs hW => ?_)
  refine lv_aload_n C.x C.b dX5_play_17 rfl (lv_at hl 0 rfl) ?_
  refine x_rSI C hW (As := [.ref o_1]) (rest := [.int (nI (pcN g))]) (met_X5_many l E o_1 (roN g b z)) gX5_play_X5_many rfl 1 rfl ⟨rfl, rfl⟩ ⟨by decide +kernel, by decide +kernel, by decide +kernel⟩ ⟨Nat.le_of_ble_eq_true rfl, Nat.le_of_ble_eq_true rfl⟩ [0] rfl (by decide) hl.1 rfl (Nat.le_of_ble_eq_true rfl) dX5_play_18 ⟨by show _ ≤ 3; omega, by show _ ≤ 140; omega⟩ (fun H locs hW => ?_)
  refine lv_isub C.x C.b dX5_play_21 ?_
  refine x_toi (y := nI (pcN (feN g b z))) (pc_sub hg) ?_
  refine lv_istore (lv' := [(4, .int (nI (pcN (feN g b z)))), (3, .ref o_1), (0, .ref h0), (1, .int (nI b)), (2, .int (nI z))]) C.x C.b dX5_play_22 hl (by decide) rfl (fun ls hl => ?_)
  refine lv_iconst (v := nI 0) C.x C.b dX5_play_24 (by decide) ?_
  refine lv_istore (lv' := [(5, .int (nI 0)), (4, .int (nI (pcN (feN g b z)))), (3, .ref o_1), (0, .ref h0), (1, .int (nI b)), (2, .int (nI z))]) C.x C.b dX5_play_25 hl (by decide) rfl (fun ls hl => ?_)
  have lp_2 : ∀ (n2 i : Nat), i ≤ 9 → 9 + 1 ≤ i + n2 → ∀ (H : Heap) (locs : List Loc) (ls : Array Slot), WD E (va_A ([(h0, .inr (4, [.ref k1, .ref k2, .ref k3, .int (nI sp), .int (nI pl), .int (nI tu), .int (nI fr), .int (nI nf), .ref k4])), (k1, bI E 9 (mB g)), (k2, aI E 9 w), (k3, aI E 5 aw), (k4, qI E n (fun k => some (ra k)))] ++ plR E n ra rv) s.heap.size) s ([(o_1, bI E 9 (mB (roN g b z))), (h0, .inr (4, [.ref k1, .ref k2, .ref k3, .int (nI sp), .int (nI pl), .int (nI tu), .int (nI fr), .int (nI nf), .ref k4])), (k1, bI E 9 (mB g)), (k2, aI E 9 (rwW (feN g b z) w i)), (k3, aI E 5 aw), (k4, qI E n (fun k => some (ra k)))] ++ plR E n ra rv) H locs → lv_has ls 7 [(5, .int (nI i)), (4, .int (nI (pcN (feN g b z)))), (3, .ref o_1), (0, .ref h0), (1, .int (nI b)), (2, .int (nI z))] → W p l e ({ frames := 5, cells := 3, slots := 140, locals := 118 } : Room) s m ([.ref h0, .int (nI b), .int (nI z)] : List Value).toArray below meth c H locs (0 + 1) (0 + 9) (QG E ([(h0, .inr (4, [.ref k1, .ref k2, .ref k3, .int (nI sp), .int (nI pl), .int (nI tu), .int (nI fr), .int (nI nf), .ref k4])), (k1, bI E 9 (mB g)), (k2, aI E 9 w), (k3, aI E 5 aw), (k4, qI E n (fun k => some (ra k)))] ++ plR E n ra rv) 3 140 (fun r w1 => r = nI (pcN (feN g b z)) ∧ ∃ q1 q4 q : Nat, w1 = ([(h0, .inr (4, [.ref q1, .ref k2, .ref k3, .int (nI sp), .int (nI pl), .int (nI tu), .int (nI fr), .int (nI (nf + 1)), .ref q4])), (q1, bI E 9 (mB (roN g b z))), (k2, aI E 9 (rwW (feN g b z) w 9)), (k3, aI E 5 (upN (snW aw 5) b 2)), (q4, qI E (n + 1) (fun k => some (upN ra n q k)))] ++ plR E (n + 1) (upN ra n q) (upN rv n (pk5 tu fr (pcN (feN g b z)) (pcN (roN g b z)) (nf + 1))))) below ([.ref h0, .int (nI b), .int (nI z)] : List Value).toArray s) (F0 m 27 ls []) := by
    intro n2
    induction n2 with
    | zero => intro i hi hn; exact absurd hn (by omega)
    | succ n2 ih2 =>
      intro i hi hn  H locs ls hW hl
      refine lv_iload C.x C.b dX5_play_27 (lv_at hl 0 rfl) ?_
      refine lv_bipush (v := nI 9) C.x C.b dX5_play_29 (by decide) ?_
      refine x_icmp_ge C (by omega) (by omega) (tgt := 68) dX5_play_31 (by decide) (fun c_3 => ?_) (fun c_3 => ?_)
      · obtain rfl : i = 9 := by omega
        refine lv_aload_n C.x C.b dX5_play_68 rfl (lv_at hl 3 rfl) ?_
        refine lv_aload_n C.x C.b dX5_play_69 rfl (lv_at hl 2 rfl) ?_
        refine x_putR C hW 1 4 0 (ty := .array .boolean) (Cn := RX5) (T := TX5) (N := 9) (w' := ([(o_1, bI E 9 (mB (roN g b z))), (h0, .inr (4, [.ref o_1, .ref k2, .ref k3, .int (nI sp), .int (nI pl), .int (nI tu), .int (nI fr), .int (nI nf), .ref k4])), (k1, bI E 9 (mB g)), (k2, aI E 9 (rwW (feN g b z) w 9)), (k3, aI E 5 aw), (k4, qI E n (fun k => some (ra k)))] ++ plR E n ra rv)) tyX5 tyX5_ok nmX5 rfl rfl (by decide) hinX5 hf7 rfl rfl rfl rfl (Nat.le_of_ble_eq_true rfl) dX5_play_70 rfl (fun H locs hW => ?_)
        refine lv_iconst (v := nI 0) C.x C.b dX5_play_73 (by decide) ?_
        refine lv_istore (lv' := [(5, .int (nI 0)), (4, .int (nI (pcN (feN g b z)))), (3, .ref o_1), (0, .ref h0), (1, .int (nI b)), (2, .int (nI z))]) C.x C.b dX5_play_74 hl (by decide) rfl (fun ls hl => ?_)
        have lp_4 : ∀ (n4 i : Nat), i ≤ 5 → 5 + 1 ≤ i + n4 → ∀ (H : Heap) (locs : List Loc) (ls : Array Slot), WD E (va_A ([(h0, .inr (4, [.ref k1, .ref k2, .ref k3, .int (nI sp), .int (nI pl), .int (nI tu), .int (nI fr), .int (nI nf), .ref k4])), (k1, bI E 9 (mB g)), (k2, aI E 9 w), (k3, aI E 5 aw), (k4, qI E n (fun k => some (ra k)))] ++ plR E n ra rv) s.heap.size) s ([(o_1, bI E 9 (mB (roN g b z))), (h0, .inr (4, [.ref o_1, .ref k2, .ref k3, .int (nI sp), .int (nI pl), .int (nI tu), .int (nI fr), .int (nI nf), .ref k4])), (k1, bI E 9 (mB g)), (k2, aI E 9 (rwW (feN g b z) w 9)), (k3, aI E 5 (awW aw b i)), (k4, qI E n (fun k => some (ra k)))] ++ plR E n ra rv) H locs → lv_has ls 7 [(5, .int (nI i)), (4, .int (nI (pcN (feN g b z)))), (3, .ref o_1), (0, .ref h0), (1, .int (nI b)), (2, .int (nI z))] → W p l e ({ frames := 5, cells := 3, slots := 140, locals := 118 } : Room) s m ([.ref h0, .int (nI b), .int (nI z)] : List Value).toArray below meth c H locs (0 + 1) (0 + 9) (QG E ([(h0, .inr (4, [.ref k1, .ref k2, .ref k3, .int (nI sp), .int (nI pl), .int (nI tu), .int (nI fr), .int (nI nf), .ref k4])), (k1, bI E 9 (mB g)), (k2, aI E 9 w), (k3, aI E 5 aw), (k4, qI E n (fun k => some (ra k)))] ++ plR E n ra rv) 3 140 (fun r w1 => r = nI (pcN (feN g b z)) ∧ ∃ q1 q4 q : Nat, w1 = ([(h0, .inr (4, [.ref q1, .ref k2, .ref k3, .int (nI sp), .int (nI pl), .int (nI tu), .int (nI fr), .int (nI (nf + 1)), .ref q4])), (q1, bI E 9 (mB (roN g b z))), (k2, aI E 9 (rwW (feN g b z) w 9)), (k3, aI E 5 (upN (snW aw 5) b 2)), (q4, qI E (n + 1) (fun k => some (upN ra n q k)))] ++ plR E (n + 1) (upN ra n q) (upN rv n (pk5 tu fr (pcN (feN g b z)) (pcN (roN g b z)) (nf + 1))))) below ([.ref h0, .int (nI b), .int (nI z)] : List Value).toArray s) (F0 m 76 ls []) := by
          intro n4
          induction n4 with
          | zero => intro i hi hn; exact absurd hn (by omega)
          | succ n4 ih4 =>
            intro i hi hn  H locs ls hW hl
            have h7 : awW aw b i i = aw i := by rw [awW_val, if_neg (by omega)]
            have h6 := ha i
            refine lv_iload C.x C.b dX5_play_76 (lv_at hl 0 rfl) ?_
            refine lv_iconst (v := nI 5) C.x C.b dX5_play_78 (by decide) ?_
            refine x_icmp_ge C (by omega) (by omega) (tgt := 128) dX5_play_79 (by decide) (fun c_5 => ?_) (fun c_5 => ?_)
            · obtain rfl : i = 5 := by omega
              refine lv_aload_n C.x C.b dX5_play_128 rfl (lv_at hl 3 rfl) ?_
              have hW := hW.to (w' := ([(o_1, bI E 9 (mB (roN g b z))), (h0, .inr (4, [.ref o_1, .ref k2, .ref k3, .int (nI sp), .int (nI pl), .int (nI tu), .int (nI fr), .int (nI nf), .ref k4])), (k1, bI E 9 (mB g)), (k2, aI E 9 (rwW (feN g b z) w 9)), (k3, aI E 5 (upN (snW aw 5) b 2)), (k4, qI E n (fun k => some (ra k)))] ++ plR E n ra rv)) (by rw [aw_sn hb])
              refine lv_dup C.x C.b dX5_play_129 rfl ?_
              refine x_get C hW 1 4 7 (Cn := RX5) (T := TX5) (N := 9) rfl rfl (by decide) hinX5 hf68 rfl dX5_play_130 ?_
              refine lv_iconst (v := nI 1) C.x C.b dX5_play_133 (by decide) ?_
              refine x_iadd C dX5_play_134 ?_
              refine x_put C hW 1 4 7 (Cn := RX5) (T := TX5) (N := 9) (w' := ([(o_1, bI E 9 (mB (roN g b z))), (h0, .inr (4, [.ref o_1, .ref k2, .ref k3, .int (nI sp), .int (nI pl), .int (nI tu), .int (nI fr), .int (nI (nf + 1)), .ref k4])), (k1, bI E 9 (mB g)), (k2, aI E 9 (rwW (feN g b z) w 9)), (k3, aI E 5 (upN (snW aw 5) b 2)), (k4, qI E n (fun k => some (ra k)))] ++ plR E n ra rv)) tyX5 tyX5_ok nmX5 rfl rfl (by decide) hinX5 hf68 rfl (by decide +kernel) (Nat.le_of_ble_eq_true rfl) dX5_play_135 rfl (fun H locs hW => ?_)
              refine lv_aload_n C.x C.b dX5_play_138 rfl (lv_at hl 3 rfl) ?_
              refine x_get C hW 1 4 8 (Cn := RX5) (T := TX5) (N := 9) rfl rfl (by decide) hinX5 hf25 rfl dX5_play_139 ?_
              refine x_alen C hW 5 3 rfl rfl dX5_play_142 ?_
              refine x_toi (y := nI n) rfl ?_
              refine lv_iconst (v := nI 1) C.x C.b dX5_play_143 (by decide) ?_
              refine x_iadd C dX5_play_144 ?_
              refine x_newqI C hW (N' := n + 1) (by decide +kernel) rfl (by omega) (by show _ ≤ 3; omega) (by show _ ≤ 140; omega) dX5_play_145 (fun o_6 H hW => ?_)
              have hW := hW.front
              have hW : WD E _ s ([(o_6, qI E (n + 1) (fun _ => none)), (o_1, bI E 9 (mB (roN g b z))), (h0, .inr (4, [.ref o_1, .ref k2, .ref k3, .int (nI sp), .int (nI pl), .int (nI tu), .int (nI fr), .int (nI (nf + 1)), .ref k4])), (k1, bI E 9 (mB g)), (k2, aI E 9 (rwW (feN g b z) w 9)), (k3, aI E 5 (upN (snW aw 5) b 2)), (k4, qI E n (fun k => some (ra k)))] ++ plR E n ra rv) H _ := hW
              refine lv_astore (lv' := [(5, .ref o_6), (4, .int (nI (pcN (feN g b z)))), (3, .ref o_1), (0, .ref h0), (1, .int (nI b)), (2, .int (nI z))]) C.x C.b dX5_play_148 hl (by decide) rfl (fun ls hl => ?_)
              refine lv_iconst (v := nI 0) C.x C.b dX5_play_150 (by decide) ?_
              refine lv_istore (lv' := [(6, .int (nI 0)), (5, .ref o_6), (4, .int (nI (pcN (feN g b z)))), (3, .ref o_1), (0, .ref h0), (1, .int (nI b)), (2, .int (nI z))]) C.x C.b dX5_play_151 hl (by decide) rfl (fun ls hl => ?_)
              have lp_7 : ∀ (n7 i : Nat), i ≤ n → n + 1 ≤ i + n7 → ∀ (H : Heap) (locs : List Loc) (ls : Array Slot), WD E (va_A ([(h0, .inr (4, [.ref k1, .ref k2, .ref k3, .int (nI sp), .int (nI pl), .int (nI tu), .int (nI fr), .int (nI nf), .ref k4])), (k1, bI E 9 (mB g)), (k2, aI E 9 w), (k3, aI E 5 aw), (k4, qI E n (fun k => some (ra k)))] ++ plR E n ra rv) s.heap.size) s ([(o_6, qI E (n + 1) (prO ra i)), (o_1, bI E 9 (mB (roN g b z))), (h0, .inr (4, [.ref o_1, .ref k2, .ref k3, .int (nI sp), .int (nI pl), .int (nI tu), .int (nI fr), .int (nI (nf + 1)), .ref k4])), (k1, bI E 9 (mB g)), (k2, aI E 9 (rwW (feN g b z) w 9)), (k3, aI E 5 (upN (snW aw 5) b 2)), (k4, qI E n (fun k => some (ra k)))] ++ plR E n ra rv) H locs → lv_has ls 7 [(6, .int (nI i)), (5, .ref o_6), (4, .int (nI (pcN (feN g b z)))), (3, .ref o_1), (0, .ref h0), (1, .int (nI b)), (2, .int (nI z))] → W p l e ({ frames := 5, cells := 3, slots := 140, locals := 118 } : Room) s m ([.ref h0, .int (nI b), .int (nI z)] : List Value).toArray below meth c H locs (0 + 1 + 1) (0 + 9 + (n + 1)) (QG E ([(h0, .inr (4, [.ref k1, .ref k2, .ref k3, .int (nI sp), .int (nI pl), .int (nI tu), .int (nI fr), .int (nI nf), .ref k4])), (k1, bI E 9 (mB g)), (k2, aI E 9 w), (k3, aI E 5 aw), (k4, qI E n (fun k => some (ra k)))] ++ plR E n ra rv) 3 140 (fun r w1 => r = nI (pcN (feN g b z)) ∧ ∃ q1 q4 q : Nat, w1 = ([(h0, .inr (4, [.ref q1, .ref k2, .ref k3, .int (nI sp), .int (nI pl), .int (nI tu), .int (nI fr), .int (nI (nf + 1)), .ref q4])), (q1, bI E 9 (mB (roN g b z))), (k2, aI E 9 (rwW (feN g b z) w 9)), (k3, aI E 5 (upN (snW aw 5) b 2)), (q4, qI E (n + 1) (fun k => some (upN ra n q k)))] ++ plR E (n + 1) (upN ra n q) (upN rv n (pk5 tu fr (pcN (feN g b z)) (pcN (roN g b z)) (nf + 1))))) below ([.ref h0, .int (nI b), .int (nI z)] : List Value).toArray s) (F0 m 153 ls []) := by
                intro n7
                induction n7 with
                | zero => intro i hi hn; exact absurd hn (by omega)
                | succ n7 ih7 =>
                  intro i hi hn  H locs ls hW hl
                  refine lv_iload C.x C.b dX5_play_153 (lv_at hl 0 rfl) ?_
                  refine lv_aload_n C.x C.b dX5_play_155 rfl (lv_at hl 4 rfl) ?_
                  refine x_get C hW 2 4 8 (Cn := RX5) (T := TX5) (N := 9) rfl rfl (by decide) hinX5 hf25 rfl dX5_play_156 ?_
                  refine x_alen C hW 6 3 rfl rfl dX5_play_159 ?_
                  refine x_toi (y := nI n) rfl ?_
                  refine x_icmp_ge C (by omega) (by omega) (tgt := 181) dX5_play_160 (by decide) (fun c_8 => ?_) (fun c_8 => ?_)
                  · have e9 : n = i := by omega
                    subst e9
                    refine lv_aload C.x C.b dX5_play_181 (lv_at hl 1 rfl) ?_
                    refine lv_aload_n C.x C.b dX5_play_183 rfl (lv_at hl 4 rfl) ?_
                    refine x_get C hW 2 4 8 (Cn := RX5) (T := TX5) (N := 9) rfl rfl (by decide) hinX5 hf25 rfl dX5_play_184 ?_
                    refine x_alen C hW 6 3 rfl rfl dX5_play_187 ?_
                    refine x_toi (y := nI n) rfl ?_
                    refine lv_iconst (v := nI 5) C.x C.b dX5_play_188 (by decide) ?_
                    refine x_newa C hW (N' := 5) (by decide +kernel) rfl (by decide) (by show _ ≤ 3; omega) (by show _ ≤ 140; omega) dX5_play_189 (fun na_9 H hW => ?_)
                    have hW := hW.front
                    have hW : WD E _ s ([(na_9, aI E 5 (fun _ => 0)), (o_6, qI E (n + 1) (prO ra n)), (o_1, bI E 9 (mB (roN g b z))), (h0, .inr (4, [.ref o_1, .ref k2, .ref k3, .int (nI sp), .int (nI pl), .int (nI tu), .int (nI fr), .int (nI (nf + 1)), .ref k4])), (k1, bI E 9 (mB g)), (k2, aI E 9 (rwW (feN g b z) w 9)), (k3, aI E 5 (upN (snW aw 5) b 2)), (k4, qI E n (fun k => some (ra k)))] ++ plR E n ra rv) H _ := hW
                    refine lv_dup C.x C.b dX5_play_191 rfl ?_
                    refine lv_iconst (v := nI 0) C.x C.b dX5_play_192 (by decide) ?_
                    refine lv_aload_n C.x C.b dX5_play_193 rfl (lv_at hl 4 rfl) ?_
                    refine x_get C hW 3 4 5 (Cn := RX5) (T := TX5) (N := 9) rfl rfl (by decide) hinX5 hf71 rfl dX5_play_194 ?_
                    refine x_ast C hW 0 0 tu rfl rfl rfl (by omega) (by decide) dX5_play_197 (w' := ([(na_9, aI E 5 (upN (fun _ => 0) 0 tu)), (o_6, qI E (n + 1) (prO ra n)), (o_1, bI E 9 (mB (roN g b z))), (h0, .inr (4, [.ref o_1, .ref k2, .ref k3, .int (nI sp), .int (nI pl), .int (nI tu), .int (nI fr), .int (nI (nf + 1)), .ref k4])), (k1, bI E 9 (mB g)), (k2, aI E 9 (rwW (feN g b z) w 9)), (k3, aI E 5 (upN (snW aw 5) b 2)), (k4, qI E n (fun k => some (ra k)))] ++ plR E n ra rv)) rfl (fun H locs hW => ?_)
                    refine lv_dup C.x C.b dX5_play_198 rfl ?_
                    refine lv_iconst (v := nI 1) C.x C.b dX5_play_199 (by decide) ?_
                    refine lv_aload_n C.x C.b dX5_play_200 rfl (lv_at hl 4 rfl) ?_
                    refine x_get C hW 3 4 6 (Cn := RX5) (T := TX5) (N := 9) rfl rfl (by decide) hinX5 hf50 rfl dX5_play_201 ?_
                    refine x_ast C hW 0 1 fr rfl rfl rfl (by omega) (by decide) dX5_play_204 (w' := ([(na_9, aI E 5 (upN (upN (fun _ => 0) 0 tu) 1 fr)), (o_6, qI E (n + 1) (prO ra n)), (o_1, bI E 9 (mB (roN g b z))), (h0, .inr (4, [.ref o_1, .ref k2, .ref k3, .int (nI sp), .int (nI pl), .int (nI tu), .int (nI fr), .int (nI (nf + 1)), .ref k4])), (k1, bI E 9 (mB g)), (k2, aI E 9 (rwW (feN g b z) w 9)), (k3, aI E 5 (upN (snW aw 5) b 2)), (k4, qI E n (fun k => some (ra k)))] ++ plR E n ra rv)) rfl (fun H locs hW => ?_)
                    refine lv_dup C.x C.b dX5_play_205 rfl ?_
                    refine lv_iconst (v := nI 2) C.x C.b dX5_play_206 (by decide) ?_
                    refine lv_iload C.x C.b dX5_play_207 (lv_at hl 2 rfl) ?_
                    refine x_ast C hW 0 2 (pcN (feN g b z)) rfl rfl rfl (by omega) (by decide) dX5_play_209 (w' := ([(na_9, aI E 5 (upN (upN (upN (fun _ => 0) 0 tu) 1 fr) 2 (pcN (feN g b z)))), (o_6, qI E (n + 1) (prO ra n)), (o_1, bI E 9 (mB (roN g b z))), (h0, .inr (4, [.ref o_1, .ref k2, .ref k3, .int (nI sp), .int (nI pl), .int (nI tu), .int (nI fr), .int (nI (nf + 1)), .ref k4])), (k1, bI E 9 (mB g)), (k2, aI E 9 (rwW (feN g b z) w 9)), (k3, aI E 5 (upN (snW aw 5) b 2)), (k4, qI E n (fun k => some (ra k)))] ++ plR E n ra rv)) rfl (fun H locs hW => ?_)
                    refine lv_dup C.x C.b dX5_play_210 rfl ?_
                    refine lv_iconst (v := nI 3) C.x C.b dX5_play_211 (by decide) ?_
                    refine lv_aload_n C.x C.b dX5_play_212 rfl (lv_at hl 4 rfl) ?_
                    refine x_get C hW 3 4 0 (Cn := RX5) (T := TX5) (N := 9) rfl rfl (by decide) hinX5 hf7 rfl dX5_play_213 ?_
                    refine x_rSI C hW (As := [.ref o_1]) (rest := [.int (nI 3), .ref na_9, .ref na_9, .int (nI n), .ref o_6]) (met_X5_many l E o_1 (roN g b z)) gX5_play_X5_many rfl 1 rfl ⟨rfl, rfl⟩ ⟨by decide +kernel, by decide +kernel, by decide +kernel⟩ ⟨Nat.le_of_ble_eq_true rfl, Nat.le_of_ble_eq_true rfl⟩ [2] rfl (by decide) hl.1 rfl (Nat.le_of_ble_eq_true rfl) dX5_play_216 ⟨by show _ ≤ 3; omega, by show _ ≤ 140; omega⟩ (fun H locs hW => ?_)
                    refine x_ast C hW 0 3 (pcN (roN g b z)) rfl rfl rfl (by omega) (by decide) dX5_play_219 (w' := ([(na_9, aI E 5 (upN (upN (upN (upN (fun _ => 0) 0 tu) 1 fr) 2 (pcN (feN g b z))) 3 (pcN (roN g b z)))), (o_6, qI E (n + 1) (prO ra n)), (o_1, bI E 9 (mB (roN g b z))), (h0, .inr (4, [.ref o_1, .ref k2, .ref k3, .int (nI sp), .int (nI pl), .int (nI tu), .int (nI fr), .int (nI (nf + 1)), .ref k4])), (k1, bI E 9 (mB g)), (k2, aI E 9 (rwW (feN g b z) w 9)), (k3, aI E 5 (upN (snW aw 5) b 2)), (k4, qI E n (fun k => some (ra k)))] ++ plR E n ra rv)) rfl (fun H locs hW => ?_)
                    refine lv_dup C.x C.b dX5_play_220 rfl ?_
                    refine lv_iconst (v := nI 4) C.x C.b dX5_play_221 (by decide) ?_
                    refine lv_aload_n C.x C.b dX5_play_222 rfl (lv_at hl 4 rfl) ?_
                    refine x_get C hW 3 4 7 (Cn := RX5) (T := TX5) (N := 9) rfl rfl (by decide) hinX5 hf68 rfl dX5_play_223 ?_
                    refine x_ast C hW 0 4 (nf + 1) rfl rfl rfl (by omega) (by decide) dX5_play_226 (w' := ([(na_9, aI E 5 (upN (upN (upN (upN (upN (fun _ => 0) 0 tu) 1 fr) 2 (pcN (feN g b z))) 3 (pcN (roN g b z))) 4 (nf + 1))), (o_6, qI E (n + 1) (prO ra n)), (o_1, bI E 9 (mB (roN g b z))), (h0, .inr (4, [.ref o_1, .ref k2, .ref k3, .int (nI sp), .int (nI pl), .int (nI tu), .int (nI fr), .int (nI (nf + 1)), .ref k4])), (k1, bI E 9 (mB g)), (k2, aI E 9 (rwW (feN g b z) w 9)), (k3, aI E 5 (upN (snW aw 5) b 2)), (k4, qI E n (fun k => some (ra k)))] ++ plR E n ra rv)) rfl (fun H locs hW => ?_)
                    refine x_astqI C hW 1 (0) n rfl rfl rfl (by omega) (by omega) dX5_play_227 (w' := ([(na_9, aI E 5 (upN (upN (upN (upN (upN (fun _ => 0) 0 tu) 1 fr) 2 (pcN (feN g b z))) 3 (pcN (roN g b z))) 4 (nf + 1))), (o_6, qI E (n + 1) (va_up (prO ra n) n (some (na_9)))), (o_1, bI E 9 (mB (roN g b z))), (h0, .inr (4, [.ref o_1, .ref k2, .ref k3, .int (nI sp), .int (nI pl), .int (nI tu), .int (nI fr), .int (nI (nf + 1)), .ref k4])), (k1, bI E 9 (mB g)), (k2, aI E 9 (rwW (feN g b z) w 9)), (k3, aI E 5 (upN (snW aw 5) b 2)), (k4, qI E n (fun k => some (ra k)))] ++ plR E n ra rv)) rfl (fun H locs hW => ?_)
                    have hW := WD.row hW 1 rfl (w' := ([(na_9, aI E 5 (upN (upN (upN (upN (upN (fun _ => 0) 0 tu) 1 fr) 2 (pcN (feN g b z))) 3 (pcN (roN g b z))) 4 (nf + 1))), (o_6, qI E (n + 1) (fun k => some (upN ra n na_9 k))), (o_1, bI E 9 (mB (roN g b z))), (h0, .inr (4, [.ref o_1, .ref k2, .ref k3, .int (nI sp), .int (nI pl), .int (nI tu), .int (nI fr), .int (nI (nf + 1)), .ref k4])), (k1, bI E 9 (mB g)), (k2, aI E 9 (rwW (feN g b z) w 9)), (k3, aI E 5 (upN (snW aw 5) b 2)), (k4, qI E n (fun k => some (ra k)))] ++ plR E n ra rv)) (fun j hj => prO_n hj) rfl
                    refine lv_aload_n C.x C.b dX5_play_228 rfl (lv_at hl 4 rfl) ?_
                    refine lv_aload C.x C.b dX5_play_229 (lv_at hl 1 rfl) ?_
                    refine x_putR C hW 3 4 8 (ty := .array (.array .int)) (Cn := RX5) (T := TX5) (N := 9) (w' := ([(na_9, aI E 5 (upN (upN (upN (upN (upN (fun _ => 0) 0 tu) 1 fr) 2 (pcN (feN g b z))) 3 (pcN (roN g b z))) 4 (nf + 1))), (o_6, qI E (n + 1) (fun k => some (upN ra n na_9 k))), (o_1, bI E 9 (mB (roN g b z))), (h0, .inr (4, [.ref o_1, .ref k2, .ref k3, .int (nI sp), .int (nI pl), .int (nI tu), .int (nI fr), .int (nI (nf + 1)), .ref o_6])), (k1, bI E 9 (mB g)), (k2, aI E 9 (rwW (feN g b z) w 9)), (k3, aI E 5 (upN (snW aw 5) b 2)), (k4, qI E n (fun k => some (ra k)))] ++ plR E n ra rv)) tyX5 tyX5_ok nmX5 rfl rfl (by decide) hinX5 hf25 rfl rfl rfl rfl (Nat.le_of_ble_eq_true rfl) dX5_play_231 rfl (fun H locs hW => ?_)
                    refine lv_aload_n C.x C.b dX5_play_234 rfl (lv_at hl 4 rfl) ?_
                    refine x_get C hW 3 4 0 (Cn := RX5) (T := TX5) (N := 9) rfl rfl (by decide) hinX5 hf7 rfl dX5_play_235 ?_
                    refine x_rSI C hW (As := [.ref o_1]) (rest := []) (met_X5_many l E o_1 (roN g b z)) gX5_play_X5_many rfl 1 rfl ⟨rfl, rfl⟩ ⟨by decide +kernel, by decide +kernel, by decide +kernel⟩ ⟨Nat.le_of_ble_eq_true rfl, Nat.le_of_ble_eq_true rfl⟩ [2] rfl (by decide) hl.1 rfl (Nat.le_of_ble_eq_true rfl) dX5_play_238 ⟨by show _ ≤ 3; omega, by show _ ≤ 140; omega⟩ (fun H locs hW => ?_)
                    have hr0 := pcN_0 (ro_lt (b := b) (z := z) hg)
                    refine x_if_le C (by have := pcN_le (roN g b z); omega) (tgt := 255) dX5_play_241 (by decide) (fun c_10 => ?_) (fun c_10 => ?_)
                    · exact absurd (by omega) hgo
                    · refine lv_aload_n C.x C.b dX5_play_244 rfl (lv_at hl 4 rfl) ?_
                      refine x_get C hW 3 4 7 (Cn := RX5) (T := TX5) (N := 9) rfl rfl (by decide) hinX5 hf68 rfl dX5_play_245 ?_
                      refine lv_iconst (v := nI 3) C.x C.b dX5_play_248 (by decide) ?_
                      refine x_icmp_ge C (by omega) (by omega) (tgt := 255) dX5_play_249 (by decide) (fun c_11 => ?_) (fun c_11 => ?_)
                      · exact absurd c_11 (by omega)
                      · refine lv_iload C.x C.b dX5_play_252 (lv_at hl 2 rfl) ?_
                        refine W.widen (k := 3) (n := 140) (by omega) (by omega) ?_
                        have hW : WD E _ s (([(h0, .inr (4, [.ref o_1, .ref k2, .ref k3, .int (nI sp), .int (nI pl), .int (nI tu), .int (nI fr), .int (nI (nf + 1)), .ref o_6])), (o_1, bI E 9 (mB (roN g b z))), (k2, aI E 9 (rwW (feN g b z) w 9)), (k3, aI E 5 (upN (snW aw 5) b 2)), (o_6, qI E (n + 1) (fun k => some (upN ra n na_9 k)))] ++ [(na_9, aI E 5 (upN (upN (upN (upN (upN (fun _ => 0) 0 tu) 1 fr) 2 (pcN (feN g b z))) 3 (pcN (roN g b z))) 4 (nf + 1)))]) ++ plR E n ra rv) H _ := WD.part hW (w' := [(h0, .inr (4, [.ref o_1, .ref k2, .ref k3, .int (nI sp), .int (nI pl), .int (nI tu), .int (nI fr), .int (nI (nf + 1)), .ref o_6])), (o_1, bI E 9 (mB (roN g b z))), (k2, aI E 9 (rwW (feN g b z) w 9)), (k3, aI E 5 (upN (snW aw 5) b 2)), (o_6, qI E (n + 1) (fun k => some (upN ra n na_9 k))), (na_9, aI E 5 (upN (upN (upN (upN (upN (fun _ => 0) 0 tu) 1 fr) 2 (pcN (feN g b z))) 3 (pcN (roN g b z))) 4 (nf + 1)))]) [3, 2, 5, 6, 1, 0] rfl (by decide)
                        have hW := WD.pushT hW
                        have hW := hW.to (w' := ([(h0, .inr (4, [.ref o_1, .ref k2, .ref k3, .int (nI sp), .int (nI pl), .int (nI tu), .int (nI fr), .int (nI (nf + 1)), .ref o_6])), (o_1, bI E 9 (mB (roN g b z))), (k2, aI E 9 (rwW (feN g b z) w 9)), (k3, aI E 5 (upN (snW aw 5) b 2)), (o_6, qI E (n + 1) (fun k => some ((upN ra n na_9) k)))] ++ plR E (n + 1) (upN ra n na_9) (upN rv n (pk5 tu fr (pcN (feN g b z)) (pcN (roN g b z)) (nf + 1))))) (rfl)
                        exact x_iretG C hW rfl ⟨rfl, o_1, o_6, na_9, rfl⟩ rfl rfl dX5_play_254
                  · refine lv_aload C.x C.b dX5_play_163 (lv_at hl 1 rfl) ?_
                    refine lv_iload C.x C.b dX5_play_165 (lv_at hl 0 rfl) ?_
                    refine lv_aload_n C.x C.b dX5_play_167 rfl (lv_at hl 4 rfl) ?_
                    refine x_get C hW 2 4 8 (Cn := RX5) (T := TX5) (N := 9) rfl rfl (by decide) hinX5 hf25 rfl dX5_play_168 ?_
                    refine lv_iload C.x C.b dX5_play_171 (lv_at hl 0 rfl) ?_
                    refine x_aldqI C hW 6 i rfl rfl (by omega) (by omega) rfl dX5_play_173 ?_
                    refine x_astqI C hW 0 (7 + i) i rfl (plR_at rfl (by omega)) rfl (by omega) (by omega) dX5_play_174 (w' := ([(o_6, qI E (n + 1) (va_up (prO ra i) i (some (ra i)))), (o_1, bI E 9 (mB (roN g b z))), (h0, .inr (4, [.ref o_1, .ref k2, .ref k3, .int (nI sp), .int (nI pl), .int (nI tu), .int (nI fr), .int (nI (nf + 1)), .ref k4])), (k1, bI E 9 (mB g)), (k2, aI E 9 (rwW (feN g b z) w 9)), (k3, aI E 5 (upN (snW aw 5) b 2)), (k4, qI E n (fun k => some (ra k)))] ++ plR E n ra rv)) rfl (fun H locs hW => ?_)
                    have hW := hW.to (w' := ([(o_6, qI E (n + 1) (prO ra (i + 1))), (o_1, bI E 9 (mB (roN g b z))), (h0, .inr (4, [.ref o_1, .ref k2, .ref k3, .int (nI sp), .int (nI pl), .int (nI tu), .int (nI fr), .int (nI (nf + 1)), .ref k4])), (k1, bI E 9 (mB g)), (k2, aI E 9 (rwW (feN g b z) w 9)), (k3, aI E 5 (upN (snW aw 5) b 2)), (k4, qI E n (fun k => some (ra k)))] ++ plR E n ra rv)) (by rw [prO_s])
                    refine lv_iinc (k := 0) (v := nI (i + 1)) (lv' := [(6, .int (nI (i + 1))), (5, .ref o_6), (4, .int (nI (pcN (feN g b z)))), (3, .ref o_1), (0, .ref h0), (1, .int (nI b)), (2, .int (nI z))]) C.x C.b dX5_play_175 hl rfl (z_inc i 1) (by decide) rfl (fun ls hl => ?_)
                    refine lv_goto (tgt := 153) C.x C.b dX5_play_178 (by decide) ?_
                    exact ih7 (i + 1) (by omega) (by omega)  _ _ _ (hW.to rfl) (lv_to (lv_sub (l' := [(6, .int (nI (i + 1))), (5, .ref o_6), (4, .int (nI (pcN (feN g b z)))), (3, .ref o_1), (0, .ref h0), (1, .int (nI b)), (2, .int (nI z))]) hl [0, 1, 2, 3, 4, 5, 6] rfl) (by first | rfl | (simp [c_3, c_5, c_8]; done) | (rw [if_pos (by omega)]; done) | (rw [if_neg (by omega)]; done) | (exfalso; omega) | ((repeat' split) <;> first | rfl | contradiction | (exfalso; omega))))
              exact lp_7 (n + 1) 0 (by omega) (by omega)  _ _ _ (hW.to (by rw [prO_0])) (lv_to (lv_sub (l' := [(6, .int (nI 0)), (5, .ref o_6), (4, .int (nI (pcN (feN g b z)))), (3, .ref o_1), (0, .ref h0), (1, .int (nI b)), (2, .int (nI z))]) hl [0, 1, 2, 3, 4, 5, 6] rfl) rfl)
            · refine lv_aload_n C.x C.b dX5_play_82 rfl (lv_at hl 3 rfl) ?_
              refine x_get C hW 1 4 2 (Cn := RX5) (T := TX5) (N := 9) rfl rfl (by decide) hinX5 hf17 rfl dX5_play_83 ?_
              refine lv_iload C.x C.b dX5_play_86 (lv_at hl 0 rfl) ?_
              refine lv_iload C.x C.b dX5_play_88 (lv_at hl 0 rfl) ?_
              refine lv_iload_n C.x C.b dX5_play_90 rfl (lv_at hl 4 rfl) ?_
              refine x_icmp_ne C (by omega) (by omega) (tgt := 98) dX5_play_91 (by decide) (fun c_12 => ?_) (fun c_12 => ?_)
              · refine lv_aload_n C.x C.b dX5_play_98 rfl (lv_at hl 3 rfl) ?_
                refine x_get C hW 1 4 2 (Cn := RX5) (T := TX5) (N := 9) rfl rfl (by decide) hinX5 hf17 rfl dX5_play_99 ?_
                refine lv_iload C.x C.b dX5_play_102 (lv_at hl 0 rfl) ?_
                refine x_ald C hW 4 i rfl rfl (by omega) (by decide) dX5_play_104 ?_
                refine x_if_le C (by omega) (tgt := 120) dX5_play_105 (by decide) (fun c_13 => ?_) (fun c_13 => ?_)
                · refine lv_iconst (v := nI 0) C.x C.b dX5_play_120 (by decide) ?_
                  refine x_ast C hW 4 i 0 rfl rfl rfl (by omega) (by decide) dX5_play_121 (w' := ([(o_1, bI E 9 (mB (roN g b z))), (h0, .inr (4, [.ref o_1, .ref k2, .ref k3, .int (nI sp), .int (nI pl), .int (nI tu), .int (nI fr), .int (nI nf), .ref k4])), (k1, bI E 9 (mB g)), (k2, aI E 9 (rwW (feN g b z) w 9)), (k3, aI E 5 (upN (awW aw b i) i 0)), (k4, qI E n (fun k => some (ra k)))] ++ plR E n ra rv)) rfl (fun H locs hW => ?_)
                  refine lv_iinc (k := 0) (v := nI (i + 1)) (lv' := [(5, .int (nI (i + 1))), (4, .int (nI (pcN (feN g b z)))), (3, .ref o_1), (0, .ref h0), (1, .int (nI b)), (2, .int (nI z))]) C.x C.b dX5_play_122 hl rfl (z_inc i 1) (by decide) rfl (fun ls hl => ?_)
                  refine lv_goto (tgt := 76) C.x C.b dX5_play_125 (by decide) ?_
                  exact ih4 (i + 1) (by omega) (by omega)  _ _ _ (hW.to (by first | (rw [show awW aw b (i + 1) = upN (awW aw b i) i (2) from by simp only [awW]; rw [show (if i = b then 2 else aw i - 1) = 2 from by split <;> omega]]; done) | (rw [show awW aw b (i + 1) = upN (awW aw b i) i (awW aw b i i - 1) from by simp only [awW]; rw [show (if i = b then 2 else aw i - 1) = awW aw b i i - 1 from by split <;> omega]]; done) | (rw [show awW aw b (i + 1) = upN (awW aw b i) i (0) from by simp only [awW]; rw [show (if i = b then 2 else aw i - 1) = 0 from by split <;> omega]]; done))) (lv_to (lv_sub (l' := [(5, .int (nI (i + 1))), (4, .int (nI (pcN (feN g b z)))), (3, .ref o_1), (0, .ref h0), (1, .int (nI b)), (2, .int (nI z))]) hl [0, 1, 2, 3, 4, 5] rfl) (by first | rfl | (simp [c_3, c_5, c_12, c_13]; done) | (rw [if_pos (by omega)]; done) | (rw [if_neg (by omega)]; done) | (exfalso; omega) | ((repeat' split) <;> first | rfl | contradiction | (exfalso; omega))))
                · refine lv_aload_n C.x C.b dX5_play_108 rfl (lv_at hl 3 rfl) ?_
                  refine x_get C hW 1 4 2 (Cn := RX5) (T := TX5) (N := 9) rfl rfl (by decide) hinX5 hf17 rfl dX5_play_109 ?_
                  refine lv_iload C.x C.b dX5_play_112 (lv_at hl 0 rfl) ?_
                  refine x_ald C hW 4 i rfl rfl (by omega) (by decide) dX5_play_114 ?_
                  refine lv_iconst (v := nI 1) C.x C.b dX5_play_115 (by decide) ?_
                  refine x_isub C (by omega) dX5_play_116 ?_
                  refine lv_goto (tgt := 121) C.x C.b dX5_play_117 (by decide) ?_
                  refine x_ast C hW 4 i (((awW aw b i) i) - 1) rfl rfl rfl (by omega) (by decide) dX5_play_121 (w' := ([(o_1, bI E 9 (mB (roN g b z))), (h0, .inr (4, [.ref o_1, .ref k2, .ref k3, .int (nI sp), .int (nI pl), .int (nI tu), .int (nI fr), .int (nI nf), .ref k4])), (k1, bI E 9 (mB g)), (k2, aI E 9 (rwW (feN g b z) w 9)), (k3, aI E 5 (upN (awW aw b i) i (((awW aw b i) i) - 1))), (k4, qI E n (fun k => some (ra k)))] ++ plR E n ra rv)) rfl (fun H locs hW => ?_)
                  refine lv_iinc (k := 0) (v := nI (i + 1)) (lv' := [(5, .int (nI (i + 1))), (4, .int (nI (pcN (feN g b z)))), (3, .ref o_1), (0, .ref h0), (1, .int (nI b)), (2, .int (nI z))]) C.x C.b dX5_play_122 hl rfl (z_inc i 1) (by decide) rfl (fun ls hl => ?_)
                  refine lv_goto (tgt := 76) C.x C.b dX5_play_125 (by decide) ?_
                  exact ih4 (i + 1) (by omega) (by omega)  _ _ _ (hW.to (by first | (rw [show awW aw b (i + 1) = upN (awW aw b i) i (2) from by simp only [awW]; rw [show (if i = b then 2 else aw i - 1) = 2 from by split <;> omega]]; done) | (rw [show awW aw b (i + 1) = upN (awW aw b i) i (awW aw b i i - 1) from by simp only [awW]; rw [show (if i = b then 2 else aw i - 1) = awW aw b i i - 1 from by split <;> omega]]; done) | (rw [show awW aw b (i + 1) = upN (awW aw b i) i (0) from by simp only [awW]; rw [show (if i = b then 2 else aw i - 1) = 0 from by split <;> omega]]; done))) (lv_to (lv_sub (l' := [(5, .int (nI (i + 1))), (4, .int (nI (pcN (feN g b z)))), (3, .ref o_1), (0, .ref h0), (1, .int (nI b)), (2, .int (nI z))]) hl [0, 1, 2, 3, 4, 5] rfl) (by first | rfl | (simp [c_3, c_5, c_12, c_13]; done) | (rw [if_pos (by omega)]; done) | (rw [if_neg (by omega)]; done) | (exfalso; omega) | ((repeat' split) <;> first | rfl | contradiction | (exfalso; omega))))
              · refine lv_iconst (v := nI 2) C.x C.b dX5_play_94 (by decide) ?_
                refine lv_goto (tgt := 121) C.x C.b dX5_play_95 (by decide) ?_
                refine x_ast C hW 4 i 2 rfl rfl rfl (by omega) (by decide) dX5_play_121 (w' := ([(o_1, bI E 9 (mB (roN g b z))), (h0, .inr (4, [.ref o_1, .ref k2, .ref k3, .int (nI sp), .int (nI pl), .int (nI tu), .int (nI fr), .int (nI nf), .ref k4])), (k1, bI E 9 (mB g)), (k2, aI E 9 (rwW (feN g b z) w 9)), (k3, aI E 5 (upN (awW aw b i) i 2)), (k4, qI E n (fun k => some (ra k)))] ++ plR E n ra rv)) rfl (fun H locs hW => ?_)
                refine lv_iinc (k := 0) (v := nI (i + 1)) (lv' := [(5, .int (nI (i + 1))), (4, .int (nI (pcN (feN g b z)))), (3, .ref o_1), (0, .ref h0), (1, .int (nI b)), (2, .int (nI z))]) C.x C.b dX5_play_122 hl rfl (z_inc i 1) (by decide) rfl (fun ls hl => ?_)
                refine lv_goto (tgt := 76) C.x C.b dX5_play_125 (by decide) ?_
                exact ih4 (i + 1) (by omega) (by omega)  _ _ _ (hW.to (by first | (rw [show awW aw b (i + 1) = upN (awW aw b i) i (2) from by simp only [awW]; rw [show (if i = b then 2 else aw i - 1) = 2 from by split <;> omega]]; done) | (rw [show awW aw b (i + 1) = upN (awW aw b i) i (awW aw b i i - 1) from by simp only [awW]; rw [show (if i = b then 2 else aw i - 1) = awW aw b i i - 1 from by split <;> omega]]; done) | (rw [show awW aw b (i + 1) = upN (awW aw b i) i (0) from by simp only [awW]; rw [show (if i = b then 2 else aw i - 1) = 0 from by split <;> omega]]; done))) (lv_to (lv_sub (l' := [(5, .int (nI (i + 1))), (4, .int (nI (pcN (feN g b z)))), (3, .ref o_1), (0, .ref h0), (1, .int (nI b)), (2, .int (nI z))]) hl [0, 1, 2, 3, 4, 5] rfl) (by first | rfl | (simp [c_3, c_5, c_12]; done) | (rw [if_pos (by omega)]; done) | (rw [if_neg (by omega)]; done) | (exfalso; omega) | ((repeat' split) <;> first | rfl | contradiction | (exfalso; omega))))
        exact lp_4 (5 + 1) 0 (by omega) (by omega)  _ _ _ (hW.to rfl) (lv_to (lv_sub (l' := [(5, .int (nI 0)), (4, .int (nI (pcN (feN g b z)))), (3, .ref o_1), (0, .ref h0), (1, .int (nI b)), (2, .int (nI z))]) hl [0, 1, 2, 3, 4, 5] rfl) rfl)
      · refine lv_aload_n C.x C.b dX5_play_34 rfl (lv_at hl 3 rfl) ?_
        refine x_get C hW 1 4 0 (Cn := RX5) (T := TX5) (N := 9) rfl rfl (by decide) hinX5 hf7 rfl dX5_play_35 ?_
        refine lv_iload C.x C.b dX5_play_38 (lv_at hl 0 rfl) ?_
        refine x_zld C hW 2 i rfl rfl (by omega) (by decide) dX5_play_40 ?_
        refine x_if_eq C (by have := mB_lt g i; omega) (tgt := 62) dX5_play_41 (by decide) (fun c_14 => ?_) (fun c_14 => ?_)
        · refine lv_iinc (k := 0) (v := nI (i + 1)) (lv' := [(5, .int (nI (i + 1))), (4, .int (nI (pcN (feN g b z)))), (3, .ref o_1), (0, .ref h0), (1, .int (nI b)), (2, .int (nI z))]) C.x C.b dX5_play_62 hl rfl (z_inc i 1) (by decide) rfl (fun ls hl => ?_)
          refine lv_goto (tgt := 27) C.x C.b dX5_play_65 (by decide) ?_
          exact ih2 (i + 1) (by omega) (by omega)  _ _ _ (hW.to (by first | (rw [rw_yes (i := i) (by have h8 := mB_fr (b := b) (z := z) hg i; have h7 := mB_01 g i; omega)]; done) | (rw [rw_no (i := i) (by have h8 := mB_fr (b := b) (z := z) hg i; have h7 := mB_01 g i; have h6 := mB_01 (roN g b z) i; omega)]; done))) (lv_to (lv_sub (l' := [(5, .int (nI (i + 1))), (4, .int (nI (pcN (feN g b z)))), (3, .ref o_1), (0, .ref h0), (1, .int (nI b)), (2, .int (nI z))]) hl [0, 1, 2, 3, 4, 5] rfl) (by first | rfl | (simp [c_3, c_14]; done) | (rw [if_pos (by omega)]; done) | (rw [if_neg (by omega)]; done) | (exfalso; omega) | ((repeat' split) <;> first | rfl | contradiction | (exfalso; omega))))
        · refine lv_aload_n C.x C.b dX5_play_44 rfl (lv_at hl 2 rfl) ?_
          refine lv_iload C.x C.b dX5_play_45 (lv_at hl 0 rfl) ?_
          refine x_zld C hW 0 i rfl rfl (by omega) (by decide) dX5_play_47 ?_
          refine x_if_ne C (by have := mB_lt (roN g b z) i; omega) (tgt := 62) dX5_play_48 (by decide) (fun c_15 => ?_) (fun c_15 => ?_)
          · refine lv_iinc (k := 0) (v := nI (i + 1)) (lv' := [(5, .int (nI (i + 1))), (4, .int (nI (pcN (feN g b z)))), (3, .ref o_1), (0, .ref h0), (1, .int (nI b)), (2, .int (nI z))]) C.x C.b dX5_play_62 hl rfl (z_inc i 1) (by decide) rfl (fun ls hl => ?_)
            refine lv_goto (tgt := 27) C.x C.b dX5_play_65 (by decide) ?_
            exact ih2 (i + 1) (by omega) (by omega)  _ _ _ (hW.to (by first | (rw [rw_yes (i := i) (by have h8 := mB_fr (b := b) (z := z) hg i; have h7 := mB_01 g i; omega)]; done) | (rw [rw_no (i := i) (by have h8 := mB_fr (b := b) (z := z) hg i; have h7 := mB_01 g i; have h6 := mB_01 (roN g b z) i; omega)]; done))) (lv_to (lv_sub (l' := [(5, .int (nI (i + 1))), (4, .int (nI (pcN (feN g b z)))), (3, .ref o_1), (0, .ref h0), (1, .int (nI b)), (2, .int (nI z))]) hl [0, 1, 2, 3, 4, 5] rfl) (by first | rfl | (simp [c_3, c_14, c_15]; done) | (rw [if_pos (by omega)]; done) | (rw [if_neg (by omega)]; done) | (exfalso; omega) | ((repeat' split) <;> first | rfl | contradiction | (exfalso; omega))))
          · refine lv_aload_n C.x C.b dX5_play_51 rfl (lv_at hl 3 rfl) ?_
            refine x_get C hW 1 4 1 (Cn := RX5) (T := TX5) (N := 9) rfl rfl (by decide) hinX5 hf13 rfl dX5_play_52 ?_
            refine lv_iload C.x C.b dX5_play_55 (lv_at hl 0 rfl) ?_
            refine lv_dup2_11 C.x C.b dX5_play_57 rfl rfl ?_
            refine x_ald C hW 3 i rfl rfl (by omega) (by decide) dX5_play_58 ?_
            refine lv_iconst (v := nI 1) C.x C.b dX5_play_59 (by decide) ?_
            refine x_iadd C dX5_play_60 ?_
            refine x_ast C hW 3 i (((rwW (feN g b z) w i) i) + 1) rfl rfl rfl (by omega) (by decide) dX5_play_61 (w' := ([(o_1, bI E 9 (mB (roN g b z))), (h0, .inr (4, [.ref k1, .ref k2, .ref k3, .int (nI sp), .int (nI pl), .int (nI tu), .int (nI fr), .int (nI nf), .ref k4])), (k1, bI E 9 (mB g)), (k2, aI E 9 (upN (rwW (feN g b z) w i) i (((rwW (feN g b z) w i) i) + 1))), (k3, aI E 5 aw), (k4, qI E n (fun k => some (ra k)))] ++ plR E n ra rv)) rfl (fun H locs hW => ?_)
            refine lv_iinc (k := 0) (v := nI (i + 1)) (lv' := [(5, .int (nI (i + 1))), (4, .int (nI (pcN (feN g b z)))), (3, .ref o_1), (0, .ref h0), (1, .int (nI b)), (2, .int (nI z))]) C.x C.b dX5_play_62 hl rfl (z_inc i 1) (by decide) rfl (fun ls hl => ?_)
            refine lv_goto (tgt := 27) C.x C.b dX5_play_65 (by decide) ?_
            exact ih2 (i + 1) (by omega) (by omega)  _ _ _ (hW.to (by first | (rw [rw_yes (i := i) (by have h8 := mB_fr (b := b) (z := z) hg i; have h7 := mB_01 g i; omega)]; done) | (rw [rw_no (i := i) (by have h8 := mB_fr (b := b) (z := z) hg i; have h7 := mB_01 g i; have h6 := mB_01 (roN g b z) i; omega)]; done))) (lv_to (lv_sub (l' := [(5, .int (nI (i + 1))), (4, .int (nI (pcN (feN g b z)))), (3, .ref o_1), (0, .ref h0), (1, .int (nI b)), (2, .int (nI z))]) hl [0, 1, 2, 3, 4, 5] rfl) (by first | rfl | (simp [c_3, c_14, c_15]; done) | (rw [if_pos (by omega)]; done) | (rw [if_neg (by omega)]; done) | (exfalso; omega) | ((repeat' split) <;> first | rfl | contradiction | (exfalso; omega))))
  exact lp_2 (9 + 1) 0 (by omega) (by omega)  _ _ _ (hW.to rfl) (lv_to (lv_sub (l' := [(5, .int (nI 0)), (4, .int (nI (pcN (feN g b z)))), (3, .ref o_1), (0, .ref h0), (1, .int (nI b)), (2, .int (nI z))]) hl [0, 1, 2, 3, 4, 5] rfl) rfl)

set_option maxHeartbeats 4000000 in
set_option maxRecDepth 100000 in
theorem met_X5_play_end (l : Launch) (E : EV) (h0 k1 k2 k3 k4 : Nat) (sp pl tu fr nf : Nat) (g : Nat) (w aw : Nat → Nat) (n : Nat) (ra : Nat → Nat) (rv : Nat → Nat → Nat) (b z : Nat) (hnn : n ≤ 120) (hrv : ∀ k j, rv k j ≤ 10) (hp1 : 1 ≤ pl) (hpl : pl ≤ 4) (htu : tu < 4) (hfr : fr < 10) (hnf : nf ≤ 2) (hg : g < 512) (hb : b < 5) (hw : ∀ i, w i ≤ 12) (ha : ∀ i, aw i ≤ 2) (hend : roN g b z = 0 ∨ nf + 1 = 3) (hrw : ∀ i, rwW (feN g b z) w 9 i ≤ 12) : MG l yX5_play wsX5_play { frames := 5, cells := 3, slots := 140, locals := 118 } E [.ref h0, .int (nI b), .int (nI z)] ([(h0, .inr (4, [.ref k1, .ref k2, .ref k3, .int (nI sp), .int (nI pl), .int (nI tu), .int (nI fr), .int (nI nf), .ref k4])), (k1, bI E 9 (mB g)), (k2, aI E 9 w), (k3, aI E 5 aw), (k4, qI E n (fun k => some (ra k)))] ++ plR E n ra rv) 3 140 (fun r w1 => r = nI (pcN (feN g b z)) ∧ ∃ q1 q4 q : Nat, w1 = ([(h0, .inr (4, [.ref q1, .ref k2, .ref k3, .int (nI sp), .int (nI pl), .int (nI ((tu + 1) % pl)), .int (nI (if (tu + 1) % pl = 0 then fr + 1 else fr)), .int (nI 0), .ref q4])), (q1, bI E 9 (mB (if (if (tu + 1) % pl = 0 then fr + 1 else fr) = 10 then roN g b z else suN (rwW (feN g b z) w 9) 9))), (k2, aI E 9 (rwW (feN g b z) w 9)), (k3, aI E 5 (upN (snW aw 5) b 2)), (q4, qI E (n + 1) (fun k => some (upN ra n q k)))] ++ plR E (n + 1) (upN ra n q) (upN rv n (pk5 tu fr (pcN (feN g b z)) (pcN (roN g b z)) (nf + 1))))) := by
  refine sG (own := RX5) (cc := cX5_play) (maxL := 7) (ret := (some .int)) rfl (by decide) rfl (Nat.le_of_ble_eq_true rfl) ?_
  intro p e s m below meth c C hnm ls hl hW
  have hl : lv_has ls 7 [(0, .ref h0), (1, .int (nI b)), (2, .int (nI z))] := hl
  have hW : WD E _ s ([(h0, .inr (4, [.ref k1, .ref k2, .ref k3, .int (nI sp), .int (nI pl), .int (nI tu), .int (nI fr), .int (nI nf), .ref k4])), (k1, bI E 9 (mB g)), (k2, aI E 9 w), (k3, aI E 5 aw), (k4, qI E n (fun k => some (ra k)))] ++ plR E n ra rv) s.heap [] := hW
  have hinX5 : ∀ w ∈ u_ws RX5 TX5 9, w ∈ wsX5_play := by decide +kernel
  have hf7 : Cond.fieldLink RX5 7 (TX5 0).1 (TX5 0).2.1 (TX5 0).2.2.1 ∈ wsX5_play := by decide +kernel
  have hf13 : Cond.fieldLink RX5 13 (TX5 1).1 (TX5 1).2.1 (TX5 1).2.2.1 ∈ wsX5_play := by decide +kernel
  have hf17 : Cond.fieldLink RX5 17 (TX5 2).1 (TX5 2).2.1 (TX5 2).2.2.1 ∈ wsX5_play := by decide +kernel
  have hf53 : Cond.fieldLink RX5 53 (TX5 4).1 (TX5 4).2.1 (TX5 4).2.2.1 ∈ wsX5_play := by decide +kernel
  have hf71 : Cond.fieldLink RX5 71 (TX5 5).1 (TX5 5).2.1 (TX5 5).2.2.1 ∈ wsX5_play := by decide +kernel
  have hf50 : Cond.fieldLink RX5 50 (TX5 6).1 (TX5 6).2.1 (TX5 6).2.2.1 ∈ wsX5_play := by decide +kernel
  have hf68 : Cond.fieldLink RX5 68 (TX5 7).1 (TX5 7).2.1 (TX5 7).2.2.1 ∈ wsX5_play := by decide +kernel
  have hf25 : Cond.fieldLink RX5 25 (TX5 8).1 (TX5 8).2.1 (TX5 8).2.2.1 ∈ wsX5_play := by decide +kernel
  refine lv_aload_n C.x C.b dX5_play_0 rfl (lv_at hl 0 rfl) ?_
  refine x_get C hW 0 4 0 (Cn := RX5) (T := TX5) (N := 9) rfl rfl (by decide) hinX5 hf7 rfl dX5_play_1 ?_
  refine lv_iload_n C.x C.b dX5_play_4 rfl (lv_at hl 1 rfl) ?_
  refine lv_iload_n C.x C.b dX5_play_5 rfl (lv_at hl 2 rfl) ?_
  refine x_rSN C hW (As := [.ref k1, .int (nI b), .int (nI z)]) (rest := []) (met_X5_behind l E k1 g b z (by omega) (by omega)) gX5_play_X5_behind rfl 3 rfl ⟨rfl, rfl⟩ ⟨by decide +kernel, by decide +kernel, by decide +kernel⟩ ⟨Nat.le_of_ble_eq_true rfl, Nat.le_of_ble_eq_true rfl⟩ [1] rfl (by decide) hl.1 rfl (Nat.le_of_ble_eq_true rfl) dX5_play_6 ⟨by show _ ≤ 3; omega, by show _ ≤ 140; omega⟩ (fun o_1 H locs hW => ?_)
  have hW := hW.front
  have hW : WD E _ s ([(o_1, bI E 9 (mB (roN g b z))), (h0, .inr (4, [.ref k1, .ref k2, .ref k3, .int (nI sp), .int (nI pl), .int (nI tu), .int (nI fr), .int (nI nf), .ref k4])), (k1, bI E 9 (mB g)), (k2, aI E 9 w), (k3, aI E 5 aw), (k4, qI E n (fun k => some (ra k)))] ++ plR E n ra rv) H _ := hW
  refine lv_astore_n (lv' := [(3, .ref o_1), (0, .ref h0), (1, .int (nI b)), (2, .int (nI z))]) C.x C.b dX5_play_9 rfl hl (by decide) rfl (fun ls hl => ?_)
  refine lv_aload_n C.x C.b dX5_play_10 rfl (lv_at hl 1 rfl) ?_
  refine x_get C hW 1 4 0 (Cn := RX5) (T := TX5) (N := 9) rfl rfl (by decide) hinX5 hf7 rfl dX5_play_11 ?_
  refine x_rSI C hW (As := [.ref k1]) (rest := []) (met_X5_many l E k1 g) gX5_play_X5_many rfl 1 rfl ⟨rfl, rfl⟩ ⟨by decide +kernel, by decide +kernel, by decide +kernel⟩ ⟨Nat.le_of_ble_eq_true rfl, Nat.le_of_ble_eq_true rfl⟩ [2] rfl (by decide) hl.1 rfl (Nat.le_of_ble_eq_true rfl) dX5_play_14 ⟨by show _ ≤ 3; omega, by show _ ≤ 140; omega⟩ (fun H locs hW => ?_)
  refine lv_aload_n C.x C.b dX5_play_17 rfl (lv_at hl 0 rfl) ?_
  refine x_rSI C hW (As := [.ref o_1]) (rest := [.int (nI (pcN g))]) (met_X5_many l E o_1 (roN g b z)) gX5_play_X5_many rfl 1 rfl ⟨rfl, rfl⟩ ⟨by decide +kernel, by decide +kernel, by decide +kernel⟩ ⟨Nat.le_of_ble_eq_true rfl, Nat.le_of_ble_eq_true rfl⟩ [0] rfl (by decide) hl.1 rfl (Nat.le_of_ble_eq_true rfl) dX5_play_18 ⟨by show _ ≤ 3; omega, by show _ ≤ 140; omega⟩ (fun H locs hW => ?_)
  refine lv_isub C.x C.b dX5_play_21 ?_
  refine x_toi (y := nI (pcN (feN g b z))) (pc_sub hg) ?_
  refine lv_istore (lv' := [(4, .int (nI (pcN (feN g b z)))), (3, .ref o_1), (0, .ref h0), (1, .int (nI b)), (2, .int (nI z))]) C.x C.b dX5_play_22 hl (by decide) rfl (fun ls hl => ?_)
  refine lv_iconst (v := nI 0) C.x C.b dX5_play_24 (by decide) ?_
  refine lv_istore (lv' := [(5, .int (nI 0)), (4, .int (nI (pcN (feN g b z)))), (3, .ref o_1), (0, .ref h0), (1, .int (nI b)), (2, .int (nI z))]) C.x C.b dX5_play_25 hl (by decide) rfl (fun ls hl => ?_)
  have lp_2 : ∀ (n2 i : Nat), i ≤ 9 → 9 + 1 ≤ i + n2 → ∀ (H : Heap) (locs : List Loc) (ls : Array Slot), WD E (va_A ([(h0, .inr (4, [.ref k1, .ref k2, .ref k3, .int (nI sp), .int (nI pl), .int (nI tu), .int (nI fr), .int (nI nf), .ref k4])), (k1, bI E 9 (mB g)), (k2, aI E 9 w), (k3, aI E 5 aw), (k4, qI E n (fun k => some (ra k)))] ++ plR E n ra rv) s.heap.size) s ([(o_1, bI E 9 (mB (roN g b z))), (h0, .inr (4, [.ref k1, .ref k2, .ref k3, .int (nI sp), .int (nI pl), .int (nI tu), .int (nI fr), .int (nI nf), .ref k4])), (k1, bI E 9 (mB g)), (k2, aI E 9 (rwW (feN g b z) w i)), (k3, aI E 5 aw), (k4, qI E n (fun k => some (ra k)))] ++ plR E n ra rv) H locs → lv_has ls 7 [(5, .int (nI i)), (4, .int (nI (pcN (feN g b z)))), (3, .ref o_1), (0, .ref h0), (1, .int (nI b)), (2, .int (nI z))] → W p l e ({ frames := 5, cells := 3, slots := 140, locals := 118 } : Room) s m ([.ref h0, .int (nI b), .int (nI z)] : List Value).toArray below meth c H locs (0 + 1) (0 + 9) (QG E ([(h0, .inr (4, [.ref k1, .ref k2, .ref k3, .int (nI sp), .int (nI pl), .int (nI tu), .int (nI fr), .int (nI nf), .ref k4])), (k1, bI E 9 (mB g)), (k2, aI E 9 w), (k3, aI E 5 aw), (k4, qI E n (fun k => some (ra k)))] ++ plR E n ra rv) 3 140 (fun r w1 => r = nI (pcN (feN g b z)) ∧ ∃ q1 q4 q : Nat, w1 = ([(h0, .inr (4, [.ref q1, .ref k2, .ref k3, .int (nI sp), .int (nI pl), .int (nI ((tu + 1) % pl)), .int (nI (if (tu + 1) % pl = 0 then fr + 1 else fr)), .int (nI 0), .ref q4])), (q1, bI E 9 (mB (if (if (tu + 1) % pl = 0 then fr + 1 else fr) = 10 then roN g b z else suN (rwW (feN g b z) w 9) 9))), (k2, aI E 9 (rwW (feN g b z) w 9)), (k3, aI E 5 (upN (snW aw 5) b 2)), (q4, qI E (n + 1) (fun k => some (upN ra n q k)))] ++ plR E (n + 1) (upN ra n q) (upN rv n (pk5 tu fr (pcN (feN g b z)) (pcN (roN g b z)) (nf + 1))))) below ([.ref h0, .int (nI b), .int (nI z)] : List Value).toArray s) (F0 m 27 ls []) := by
    intro n2
    induction n2 with
    | zero => intro i hi hn; exact absurd hn (by omega)
    | succ n2 ih2 =>
      intro i hi hn  H locs ls hW hl
      refine lv_iload C.x C.b dX5_play_27 (lv_at hl 0 rfl) ?_
      refine lv_bipush (v := nI 9) C.x C.b dX5_play_29 (by decide) ?_
      refine x_icmp_ge C (by omega) (by omega) (tgt := 68) dX5_play_31 (by decide) (fun c_3 => ?_) (fun c_3 => ?_)
      · obtain rfl : i = 9 := by omega
        refine lv_aload_n C.x C.b dX5_play_68 rfl (lv_at hl 3 rfl) ?_
        refine lv_aload_n C.x C.b dX5_play_69 rfl (lv_at hl 2 rfl) ?_
        refine x_putR C hW 1 4 0 (ty := .array .boolean) (Cn := RX5) (T := TX5) (N := 9) (w' := ([(o_1, bI E 9 (mB (roN g b z))), (h0, .inr (4, [.ref o_1, .ref k2, .ref k3, .int (nI sp), .int (nI pl), .int (nI tu), .int (nI fr), .int (nI nf), .ref k4])), (k1, bI E 9 (mB g)), (k2, aI E 9 (rwW (feN g b z) w 9)), (k3, aI E 5 aw), (k4, qI E n (fun k => some (ra k)))] ++ plR E n ra rv)) tyX5 tyX5_ok nmX5 rfl rfl (by decide) hinX5 hf7 rfl rfl rfl rfl (Nat.le_of_ble_eq_true rfl) dX5_play_70 rfl (fun H locs hW => ?_)
        refine lv_iconst (v := nI 0) C.x C.b dX5_play_73 (by decide) ?_
        refine lv_istore (lv' := [(5, .int (nI 0)), (4, .int (nI (pcN (feN g b z)))), (3, .ref o_1), (0, .ref h0), (1, .int (nI b)), (2, .int (nI z))]) C.x C.b dX5_play_74 hl (by decide) rfl (fun ls hl => ?_)
        have lp_4 : ∀ (n4 i : Nat), i ≤ 5 → 5 + 1 ≤ i + n4 → ∀ (H : Heap) (locs : List Loc) (ls : Array Slot), WD E (va_A ([(h0, .inr (4, [.ref k1, .ref k2, .ref k3, .int (nI sp), .int (nI pl), .int (nI tu), .int (nI fr), .int (nI nf), .ref k4])), (k1, bI E 9 (mB g)), (k2, aI E 9 w), (k3, aI E 5 aw), (k4, qI E n (fun k => some (ra k)))] ++ plR E n ra rv) s.heap.size) s ([(o_1, bI E 9 (mB (roN g b z))), (h0, .inr (4, [.ref o_1, .ref k2, .ref k3, .int (nI sp), .int (nI pl), .int (nI tu), .int (nI fr), .int (nI nf), .ref k4])), (k1, bI E 9 (mB g)), (k2, aI E 9 (rwW (feN g b z) w 9)), (k3, aI E 5 (awW aw b i)), (k4, qI E n (fun k => some (ra k)))] ++ plR E n ra rv) H locs → lv_has ls 7 [(5, .int (nI i)), (4, .int (nI (pcN (feN g b z)))), (3, .ref o_1), (0, .ref h0), (1, .int (nI b)), (2, .int (nI z))] → W p l e ({ frames := 5, cells := 3, slots := 140, locals := 118 } : Room) s m ([.ref h0, .int (nI b), .int (nI z)] : List Value).toArray below meth c H locs (0 + 1) (0 + 9) (QG E ([(h0, .inr (4, [.ref k1, .ref k2, .ref k3, .int (nI sp), .int (nI pl), .int (nI tu), .int (nI fr), .int (nI nf), .ref k4])), (k1, bI E 9 (mB g)), (k2, aI E 9 w), (k3, aI E 5 aw), (k4, qI E n (fun k => some (ra k)))] ++ plR E n ra rv) 3 140 (fun r w1 => r = nI (pcN (feN g b z)) ∧ ∃ q1 q4 q : Nat, w1 = ([(h0, .inr (4, [.ref q1, .ref k2, .ref k3, .int (nI sp), .int (nI pl), .int (nI ((tu + 1) % pl)), .int (nI (if (tu + 1) % pl = 0 then fr + 1 else fr)), .int (nI 0), .ref q4])), (q1, bI E 9 (mB (if (if (tu + 1) % pl = 0 then fr + 1 else fr) = 10 then roN g b z else suN (rwW (feN g b z) w 9) 9))), (k2, aI E 9 (rwW (feN g b z) w 9)), (k3, aI E 5 (upN (snW aw 5) b 2)), (q4, qI E (n + 1) (fun k => some (upN ra n q k)))] ++ plR E (n + 1) (upN ra n q) (upN rv n (pk5 tu fr (pcN (feN g b z)) (pcN (roN g b z)) (nf + 1))))) below ([.ref h0, .int (nI b), .int (nI z)] : List Value).toArray s) (F0 m 76 ls []) := by
          intro n4
          induction n4 with
          | zero => intro i hi hn; exact absurd hn (by omega)
          | succ n4 ih4 =>
            intro i hi hn  H locs ls hW hl
            have h7 : awW aw b i i = aw i := by rw [awW_val, if_neg (by omega)]
            have h6 := ha i
            refine lv_iload C.x C.b dX5_play_76 (lv_at hl 0 rfl) ?_
            refine lv_iconst (v := nI 5) C.x C.b dX5_play_78 (by decide) ?_
            refine x_icmp_ge C (by omega) (by omega) (tgt := 128) dX5_play_79 (by decide) (fun c_5 => ?_) (fun c_5 => ?_)
            · obtain rfl : i = 5 := by omega
              refine lv_aload_n C.x C.b dX5_play_128 rfl (lv_at hl 3 rfl) ?_
              have hW := hW.to (w' := ([(o_1, bI E 9 (mB (roN g b z))), (h0, .inr (4, [.ref o_1, .ref k2, .ref k3, .int (nI sp), .int (nI pl), .int (nI tu), .int (nI fr), .int (nI nf), .ref k4])), (k1, bI E 9 (mB g)), (k2, aI E 9 (rwW (feN g b z) w 9)), (k3, aI E 5 (upN (snW aw 5) b 2)), (k4, qI E n (fun k => some (ra k)))] ++ plR E n ra rv)) (by rw [aw_sn hb])
              refine lv_dup C.x C.b dX5_play_129 rfl ?_
              refine x_get C hW 1 4 7 (Cn := RX5) (T := TX5) (N := 9) rfl rfl (by decide) hinX5 hf68 rfl dX5_play_130 ?_
              refine lv_iconst (v := nI 1) C.x C.b dX5_play_133 (by decide) ?_
              refine x_iadd C dX5_play_134 ?_
              refine x_put C hW 1 4 7 (Cn := RX5) (T := TX5) (N := 9) (w' := ([(o_1, bI E 9 (mB (roN g b z))), (h0, .inr (4, [.ref o_1, .ref k2, .ref k3, .int (nI sp), .int (nI pl), .int (nI tu), .int (nI fr), .int (nI (nf + 1)), .ref k4])), (k1, bI E 9 (mB g)), (k2, aI E 9 (rwW (feN g b z) w 9)), (k3, aI E 5 (upN (snW aw 5) b 2)), (k4, qI E n (fun k => some (ra k)))] ++ plR E n ra rv)) tyX5 tyX5_ok nmX5 rfl rfl (by decide) hinX5 hf68 rfl (by decide +kernel) (Nat.le_of_ble_eq_true rfl) dX5_play_135 rfl (fun H locs hW => ?_)
              refine lv_aload_n C.x C.b dX5_play_138 rfl (lv_at hl 3 rfl) ?_
              refine x_get C hW 1 4 8 (Cn := RX5) (T := TX5) (N := 9) rfl rfl (by decide) hinX5 hf25 rfl dX5_play_139 ?_
              refine x_alen C hW 5 3 rfl rfl dX5_play_142 ?_
              refine x_toi (y := nI n) rfl ?_
              refine lv_iconst (v := nI 1) C.x C.b dX5_play_143 (by decide) ?_
              refine x_iadd C dX5_play_144 ?_
              refine x_newqI C hW (N' := n + 1) (by decide +kernel) rfl (by omega) (by show _ ≤ 3; omega) (by show _ ≤ 140; omega) dX5_play_145 (fun o_6 H hW => ?_)
              have hW := hW.front
              have hW : WD E _ s ([(o_6, qI E (n + 1) (fun _ => none)), (o_1, bI E 9 (mB (roN g b z))), (h0, .inr (4, [.ref o_1, .ref k2, .ref k3, .int (nI sp), .int (nI pl), .int (nI tu), .int (nI fr), .int (nI (nf + 1)), .ref k4])), (k1, bI E 9 (mB g)), (k2, aI E 9 (rwW (feN g b z) w 9)), (k3, aI E 5 (upN (snW aw 5) b 2)), (k4, qI E n (fun k => some (ra k)))] ++ plR E n ra rv) H _ := hW
              refine lv_astore (lv' := [(5, .ref o_6), (4, .int (nI (pcN (feN g b z)))), (3, .ref o_1), (0, .ref h0), (1, .int (nI b)), (2, .int (nI z))]) C.x C.b dX5_play_148 hl (by decide) rfl (fun ls hl => ?_)
              refine lv_iconst (v := nI 0) C.x C.b dX5_play_150 (by decide) ?_
              refine lv_istore (lv' := [(6, .int (nI 0)), (5, .ref o_6), (4, .int (nI (pcN (feN g b z)))), (3, .ref o_1), (0, .ref h0), (1, .int (nI b)), (2, .int (nI z))]) C.x C.b dX5_play_151 hl (by decide) rfl (fun ls hl => ?_)
              have lp_7 : ∀ (n7 i : Nat), i ≤ n → n + 1 ≤ i + n7 → ∀ (H : Heap) (locs : List Loc) (ls : Array Slot), WD E (va_A ([(h0, .inr (4, [.ref k1, .ref k2, .ref k3, .int (nI sp), .int (nI pl), .int (nI tu), .int (nI fr), .int (nI nf), .ref k4])), (k1, bI E 9 (mB g)), (k2, aI E 9 w), (k3, aI E 5 aw), (k4, qI E n (fun k => some (ra k)))] ++ plR E n ra rv) s.heap.size) s ([(o_6, qI E (n + 1) (prO ra i)), (o_1, bI E 9 (mB (roN g b z))), (h0, .inr (4, [.ref o_1, .ref k2, .ref k3, .int (nI sp), .int (nI pl), .int (nI tu), .int (nI fr), .int (nI (nf + 1)), .ref k4])), (k1, bI E 9 (mB g)), (k2, aI E 9 (rwW (feN g b z) w 9)), (k3, aI E 5 (upN (snW aw 5) b 2)), (k4, qI E n (fun k => some (ra k)))] ++ plR E n ra rv) H locs → lv_has ls 7 [(6, .int (nI i)), (5, .ref o_6), (4, .int (nI (pcN (feN g b z)))), (3, .ref o_1), (0, .ref h0), (1, .int (nI b)), (2, .int (nI z))] → W p l e ({ frames := 5, cells := 3, slots := 140, locals := 118 } : Room) s m ([.ref h0, .int (nI b), .int (nI z)] : List Value).toArray below meth c H locs (0 + 1 + 1) (0 + 9 + (n + 1)) (QG E ([(h0, .inr (4, [.ref k1, .ref k2, .ref k3, .int (nI sp), .int (nI pl), .int (nI tu), .int (nI fr), .int (nI nf), .ref k4])), (k1, bI E 9 (mB g)), (k2, aI E 9 w), (k3, aI E 5 aw), (k4, qI E n (fun k => some (ra k)))] ++ plR E n ra rv) 3 140 (fun r w1 => r = nI (pcN (feN g b z)) ∧ ∃ q1 q4 q : Nat, w1 = ([(h0, .inr (4, [.ref q1, .ref k2, .ref k3, .int (nI sp), .int (nI pl), .int (nI ((tu + 1) % pl)), .int (nI (if (tu + 1) % pl = 0 then fr + 1 else fr)), .int (nI 0), .ref q4])), (q1, bI E 9 (mB (if (if (tu + 1) % pl = 0 then fr + 1 else fr) = 10 then roN g b z else suN (rwW (feN g b z) w 9) 9))), (k2, aI E 9 (rwW (feN g b z) w 9)), (k3, aI E 5 (upN (snW aw 5) b 2)), (q4, qI E (n + 1) (fun k => some (upN ra n q k)))] ++ plR E (n + 1) (upN ra n q) (upN rv n (pk5 tu fr (pcN (feN g b z)) (pcN (roN g b z)) (nf + 1))))) below ([.ref h0, .int (nI b), .int (nI z)] : List Value).toArray s) (F0 m 153 ls []) := by
                intro n7
                induction n7 with
                | zero => intro i hi hn; exact absurd hn (by omega)
                | succ n7 ih7 =>
                  intro i hi hn  H locs ls hW hl
                  refine lv_iload C.x C.b dX5_play_153 (lv_at hl 0 rfl) ?_
                  refine lv_aload_n C.x C.b dX5_play_155 rfl (lv_at hl 4 rfl) ?_
                  refine x_get C hW 2 4 8 (Cn := RX5) (T := TX5) (N := 9) rfl rfl (by decide) hinX5 hf25 rfl dX5_play_156 ?_
                  refine x_alen C hW 6 3 rfl rfl dX5_play_159 ?_
                  refine x_toi (y := nI n) rfl ?_
                  refine x_icmp_ge C (by omega) (by omega) (tgt := 181) dX5_play_160 (by decide) (fun c_8 => ?_) (fun c_8 => ?_)
                  · have e9 : n = i := by omega
                    subst e9
                    refine lv_aload C.x C.b dX5_play_181 (lv_at hl 1 rfl) ?_
                    refine lv_aload_n C.x C.b dX5_play_183 rfl (lv_at hl 4 rfl) ?_
                    refine x_get C hW 2 4 8 (Cn := RX5) (T := TX5) (N := 9) rfl rfl (by decide) hinX5 hf25 rfl dX5_play_184 ?_
                    refine x_alen C hW 6 3 rfl rfl dX5_play_187 ?_
                    refine x_toi (y := nI n) rfl ?_
                    refine lv_iconst (v := nI 5) C.x C.b dX5_play_188 (by decide) ?_
                    refine x_newa C hW (N' := 5) (by decide +kernel) rfl (by decide) (by show _ ≤ 3; omega) (by show _ ≤ 140; omega) dX5_play_189 (fun na_9 H hW => ?_)
                    have hW := hW.front
                    have hW : WD E _ s ([(na_9, aI E 5 (fun _ => 0)), (o_6, qI E (n + 1) (prO ra n)), (o_1, bI E 9 (mB (roN g b z))), (h0, .inr (4, [.ref o_1, .ref k2, .ref k3, .int (nI sp), .int (nI pl), .int (nI tu), .int (nI fr), .int (nI (nf + 1)), .ref k4])), (k1, bI E 9 (mB g)), (k2, aI E 9 (rwW (feN g b z) w 9)), (k3, aI E 5 (upN (snW aw 5) b 2)), (k4, qI E n (fun k => some (ra k)))] ++ plR E n ra rv) H _ := hW
                    refine lv_dup C.x C.b dX5_play_191 rfl ?_
                    refine lv_iconst (v := nI 0) C.x C.b dX5_play_192 (by decide) ?_
                    refine lv_aload_n C.x C.b dX5_play_193 rfl (lv_at hl 4 rfl) ?_
                    refine x_get C hW 3 4 5 (Cn := RX5) (T := TX5) (N := 9) rfl rfl (by decide) hinX5 hf71 rfl dX5_play_194 ?_
                    refine x_ast C hW 0 0 tu rfl rfl rfl (by omega) (by decide) dX5_play_197 (w' := ([(na_9, aI E 5 (upN (fun _ => 0) 0 tu)), (o_6, qI E (n + 1) (prO ra n)), (o_1, bI E 9 (mB (roN g b z))), (h0, .inr (4, [.ref o_1, .ref k2, .ref k3, .int (nI sp), .int (nI pl), .int (nI tu), .int (nI fr), .int (nI (nf + 1)), .ref k4])), (k1, bI E 9 (mB g)), (k2, aI E 9 (rwW (feN g b z) w 9)), (k3, aI E 5 (upN (snW aw 5) b 2)), (k4, qI E n (fun k => some (ra k)))] ++ plR E n ra rv)) rfl (fun H locs hW => ?_)
                    refine lv_dup C.x C.b dX5_play_198 rfl ?_
                    refine lv_iconst (v := nI 1) C.x C.b dX5_play_199 (by decide) ?_
                    refine lv_aload_n C.x C.b dX5_play_200 rfl (lv_at hl 4 rfl) ?_
                    refine x_get C hW 3 4 6 (Cn := RX5) (T := TX5) (N := 9) rfl rfl (by decide) hinX5 hf50 rfl dX5_play_201 ?_
                    refine x_ast C hW 0 1 fr rfl rfl rfl (by omega) (by decide) dX5_play_204 (w' := ([(na_9, aI E 5 (upN (upN (fun _ => 0) 0 tu) 1 fr)), (o_6, qI E (n + 1) (prO ra n)), (o_1, bI E 9 (mB (roN g b z))), (h0, .inr (4, [.ref o_1, .ref k2, .ref k3, .int (nI sp), .int (nI pl), .int (nI tu), .int (nI fr), .int (nI (nf + 1)), .ref k4])), (k1, bI E 9 (mB g)), (k2, aI E 9 (rwW (feN g b z) w 9)), (k3, aI E 5 (upN (snW aw 5) b 2)), (k4, qI E n (fun k => some (ra k)))] ++ plR E n ra rv)) rfl (fun H locs hW => ?_)
                    refine lv_dup C.x C.b dX5_play_205 rfl ?_
                    refine lv_iconst (v := nI 2) C.x C.b dX5_play_206 (by decide) ?_
                    refine lv_iload C.x C.b dX5_play_207 (lv_at hl 2 rfl) ?_
                    refine x_ast C hW 0 2 (pcN (feN g b z)) rfl rfl rfl (by omega) (by decide) dX5_play_209 (w' := ([(na_9, aI E 5 (upN (upN (upN (fun _ => 0) 0 tu) 1 fr) 2 (pcN (feN g b z)))), (o_6, qI E (n + 1) (prO ra n)), (o_1, bI E 9 (mB (roN g b z))), (h0, .inr (4, [.ref o_1, .ref k2, .ref k3, .int (nI sp), .int (nI pl), .int (nI tu), .int (nI fr), .int (nI (nf + 1)), .ref k4])), (k1, bI E 9 (mB g)), (k2, aI E 9 (rwW (feN g b z) w 9)), (k3, aI E 5 (upN (snW aw 5) b 2)), (k4, qI E n (fun k => some (ra k)))] ++ plR E n ra rv)) rfl (fun H locs hW => ?_)
                    refine lv_dup C.x C.b dX5_play_210 rfl ?_
                    refine lv_iconst (v := nI 3) C.x C.b dX5_play_211 (by decide) ?_
                    refine lv_aload_n C.x C.b dX5_play_212 rfl (lv_at hl 4 rfl) ?_
                    refine x_get C hW 3 4 0 (Cn := RX5) (T := TX5) (N := 9) rfl rfl (by decide) hinX5 hf7 rfl dX5_play_213 ?_
                    refine x_rSI C hW (As := [.ref o_1]) (rest := [.int (nI 3), .ref na_9, .ref na_9, .int (nI n), .ref o_6]) (met_X5_many l E o_1 (roN g b z)) gX5_play_X5_many rfl 1 rfl ⟨rfl, rfl⟩ ⟨by decide +kernel, by decide +kernel, by decide +kernel⟩ ⟨Nat.le_of_ble_eq_true rfl, Nat.le_of_ble_eq_true rfl⟩ [2] rfl (by decide) hl.1 rfl (Nat.le_of_ble_eq_true rfl) dX5_play_216 ⟨by show _ ≤ 3; omega, by show _ ≤ 140; omega⟩ (fun H locs hW => ?_)
                    refine x_ast C hW 0 3 (pcN (roN g b z)) rfl rfl rfl (by omega) (by decide) dX5_play_219 (w' := ([(na_9, aI E 5 (upN (upN (upN (upN (fun _ => 0) 0 tu) 1 fr) 2 (pcN (feN g b z))) 3 (pcN (roN g b z)))), (o_6, qI E (n + 1) (prO ra n)), (o_1, bI E 9 (mB (roN g b z))), (h0, .inr (4, [.ref o_1, .ref k2, .ref k3, .int (nI sp), .int (nI pl), .int (nI tu), .int (nI fr), .int (nI (nf + 1)), .ref k4])), (k1, bI E 9 (mB g)), (k2, aI E 9 (rwW (feN g b z) w 9)), (k3, aI E 5 (upN (snW aw 5) b 2)), (k4, qI E n (fun k => some (ra k)))] ++ plR E n ra rv)) rfl (fun H locs hW => ?_)
                    refine lv_dup C.x C.b dX5_play_220 rfl ?_
                    refine lv_iconst (v := nI 4) C.x C.b dX5_play_221 (by decide) ?_
                    refine lv_aload_n C.x C.b dX5_play_222 rfl (lv_at hl 4 rfl) ?_
                    refine x_get C hW 3 4 7 (Cn := RX5) (T := TX5) (N := 9) rfl rfl (by decide) hinX5 hf68 rfl dX5_play_223 ?_
                    refine x_ast C hW 0 4 (nf + 1) rfl rfl rfl (by omega) (by decide) dX5_play_226 (w' := ([(na_9, aI E 5 (upN (upN (upN (upN (upN (fun _ => 0) 0 tu) 1 fr) 2 (pcN (feN g b z))) 3 (pcN (roN g b z))) 4 (nf + 1))), (o_6, qI E (n + 1) (prO ra n)), (o_1, bI E 9 (mB (roN g b z))), (h0, .inr (4, [.ref o_1, .ref k2, .ref k3, .int (nI sp), .int (nI pl), .int (nI tu), .int (nI fr), .int (nI (nf + 1)), .ref k4])), (k1, bI E 9 (mB g)), (k2, aI E 9 (rwW (feN g b z) w 9)), (k3, aI E 5 (upN (snW aw 5) b 2)), (k4, qI E n (fun k => some (ra k)))] ++ plR E n ra rv)) rfl (fun H locs hW => ?_)
                    refine x_astqI C hW 1 (0) n rfl rfl rfl (by omega) (by omega) dX5_play_227 (w' := ([(na_9, aI E 5 (upN (upN (upN (upN (upN (fun _ => 0) 0 tu) 1 fr) 2 (pcN (feN g b z))) 3 (pcN (roN g b z))) 4 (nf + 1))), (o_6, qI E (n + 1) (va_up (prO ra n) n (some (na_9)))), (o_1, bI E 9 (mB (roN g b z))), (h0, .inr (4, [.ref o_1, .ref k2, .ref k3, .int (nI sp), .int (nI pl), .int (nI tu), .int (nI fr), .int (nI (nf + 1)), .ref k4])), (k1, bI E 9 (mB g)), (k2, aI E 9 (rwW (feN g b z) w 9)), (k3, aI E 5 (upN (snW aw 5) b 2)), (k4, qI E n (fun k => some (ra k)))] ++ plR E n ra rv)) rfl (fun H locs hW => ?_)
                    have hW := WD.row hW 1 rfl (w' := ([(na_9, aI E 5 (upN (upN (upN (upN (upN (fun _ => 0) 0 tu) 1 fr) 2 (pcN (feN g b z))) 3 (pcN (roN g b z))) 4 (nf + 1))), (o_6, qI E (n + 1) (fun k => some (upN ra n na_9 k))), (o_1, bI E 9 (mB (roN g b z))), (h0, .inr (4, [.ref o_1, .ref k2, .ref k3, .int (nI sp), .int (nI pl), .int (nI tu), .int (nI fr), .int (nI (nf + 1)), .ref k4])), (k1, bI E 9 (mB g)), (k2, aI E 9 (rwW (feN g b z) w 9)), (k3, aI E 5 (upN (snW aw 5) b 2)), (k4, qI E n (fun k => some (ra k)))] ++ plR E n ra rv)) (fun j hj => prO_n hj) rfl
                    refine lv_aload_n C.x C.b dX5_play_228 rfl (lv_at hl 4 rfl) ?_
                    refine lv_aload C.x C.b dX5_play_229 (lv_at hl 1 rfl) ?_
                    refine x_putR C hW 3 4 8 (ty := .array (.array .int)) (Cn := RX5) (T := TX5) (N := 9) (w' := ([(na_9, aI E 5 (upN (upN (upN (upN (upN (fun _ => 0) 0 tu) 1 fr) 2 (pcN (feN g b z))) 3 (pcN (roN g b z))) 4 (nf + 1))), (o_6, qI E (n + 1) (fun k => some (upN ra n na_9 k))), (o_1, bI E 9 (mB (roN g b z))), (h0, .inr (4, [.ref o_1, .ref k2, .ref k3, .int (nI sp), .int (nI pl), .int (nI tu), .int (nI fr), .int (nI (nf + 1)), .ref o_6])), (k1, bI E 9 (mB g)), (k2, aI E 9 (rwW (feN g b z) w 9)), (k3, aI E 5 (upN (snW aw 5) b 2)), (k4, qI E n (fun k => some (ra k)))] ++ plR E n ra rv)) tyX5 tyX5_ok nmX5 rfl rfl (by decide) hinX5 hf25 rfl rfl rfl rfl (Nat.le_of_ble_eq_true rfl) dX5_play_231 rfl (fun H locs hW => ?_)
                    refine lv_aload_n C.x C.b dX5_play_234 rfl (lv_at hl 4 rfl) ?_
                    refine x_get C hW 3 4 0 (Cn := RX5) (T := TX5) (N := 9) rfl rfl (by decide) hinX5 hf7 rfl dX5_play_235 ?_
                    refine x_rSI C hW (As := [.ref o_1]) (rest := []) (met_X5_many l E o_1 (roN g b z)) gX5_play_X5_many rfl 1 rfl ⟨rfl, rfl⟩ ⟨by decide +kernel, by decide +kernel, by decide +kernel⟩ ⟨Nat.le_of_ble_eq_true rfl, Nat.le_of_ble_eq_true rfl⟩ [2] rfl (by decide) hl.1 rfl (Nat.le_of_ble_eq_true rfl) dX5_play_238 ⟨by show _ ≤ 3; omega, by show _ ≤ 140; omega⟩ (fun H locs hW => ?_)
                    have hr0 := pcN_0 (ro_lt (b := b) (z := z) hg)
                    refine x_if_le C (by have := pcN_le (roN g b z); omega) (tgt := 255) dX5_play_241 (by decide) (fun c_10 => ?_) (fun c_10 => ?_)
                    · refine lv_aload_n C.x C.b dX5_play_255 rfl (lv_at hl 4 rfl) ?_
                      refine lv_iconst (v := nI 0) C.x C.b dX5_play_256 (by decide) ?_
                      refine x_put C hW 3 4 7 (Cn := RX5) (T := TX5) (N := 9) (w' := ([(na_9, aI E 5 (upN (upN (upN (upN (upN (fun _ => 0) 0 tu) 1 fr) 2 (pcN (feN g b z))) 3 (pcN (roN g b z))) 4 (nf + 1))), (o_6, qI E (n + 1) (fun k => some (upN ra n na_9 k))), (o_1, bI E 9 (mB (roN g b z))), (h0, .inr (4, [.ref o_1, .ref k2, .ref k3, .int (nI sp), .int (nI pl), .int (nI tu), .int (nI fr), .int (nI 0), .ref o_6])), (k1, bI E 9 (mB g)), (k2, aI E 9 (rwW (feN g b z) w 9)), (k3, aI E 5 (upN (snW aw 5) b 2)), (k4, qI E n (fun k => some (ra k)))] ++ plR E n ra rv)) tyX5 tyX5_ok nmX5 rfl rfl (by decide) hinX5 hf68 rfl (by decide +kernel) (Nat.le_of_ble_eq_true rfl) dX5_play_257 rfl (fun H locs hW => ?_)
                      refine lv_aload_n C.x C.b dX5_play_260 rfl (lv_at hl 4 rfl) ?_
                      refine lv_aload_n C.x C.b dX5_play_261 rfl (lv_at hl 4 rfl) ?_
                      refine x_get C hW 3 4 5 (Cn := RX5) (T := TX5) (N := 9) rfl rfl (by decide) hinX5 hf71 rfl dX5_play_262 ?_
                      refine lv_iconst (v := nI 1) C.x C.b dX5_play_265 (by decide) ?_
                      refine x_iadd C dX5_play_266 ?_
                      refine lv_aload_n C.x C.b dX5_play_267 rfl (lv_at hl 4 rfl) ?_
                      refine x_get C hW 3 4 4 (Cn := RX5) (T := TX5) (N := 9) rfl rfl (by decide) hinX5 hf53 rfl dX5_play_268 ?_
                      refine x_irem C (by omega) (by omega) (by omega) dX5_play_271 ?_
                      refine x_put C hW 3 4 5 (Cn := RX5) (T := TX5) (N := 9) (w' := ([(na_9, aI E 5 (upN (upN (upN (upN (upN (fun _ => 0) 0 tu) 1 fr) 2 (pcN (feN g b z))) 3 (pcN (roN g b z))) 4 (nf + 1))), (o_6, qI E (n + 1) (fun k => some (upN ra n na_9 k))), (o_1, bI E 9 (mB (roN g b z))), (h0, .inr (4, [.ref o_1, .ref k2, .ref k3, .int (nI sp), .int (nI pl), .int (nI ((tu + 1) % pl)), .int (nI fr), .int (nI 0), .ref o_6])), (k1, bI E 9 (mB g)), (k2, aI E 9 (rwW (feN g b z) w 9)), (k3, aI E 5 (upN (snW aw 5) b 2)), (k4, qI E n (fun k => some (ra k)))] ++ plR E n ra rv)) tyX5 tyX5_ok nmX5 rfl rfl (by decide) hinX5 hf71 rfl (by decide +kernel) (Nat.le_of_ble_eq_true rfl) dX5_play_272 rfl (fun H locs hW => ?_)
                      refine lv_aload_n C.x C.b dX5_play_275 rfl (lv_at hl 4 rfl) ?_
                      refine x_get C hW 3 4 5 (Cn := RX5) (T := TX5) (N := 9) rfl rfl (by decide) hinX5 hf71 rfl dX5_play_276 ?_
                      refine x_if_ne C (Nat.lt_trans (Nat.mod_lt _ (by omega)) (by omega)) (tgt := 292) dX5_play_279 (by decide) (fun c_11 => ?_) (fun c_11 => ?_)
                      · refine lv_aload_n C.x C.b dX5_play_292 rfl (lv_at hl 4 rfl) ?_
                        refine x_rVI C hW (As := []) (rest := []) (Cn := RX5) (met_X5_isOver l E h0 o_1 k2 k3 o_6 sp pl ((tu + 1) % pl) fr 0 (by omega)) gX5_play_X5_isOver rfl 0 rfl ⟨rfl, rfl⟩ ⟨rfl, by decide +kernel, by decide +kernel, by decide +kernel⟩ ⟨Nat.le_of_ble_eq_true rfl, Nat.le_of_ble_eq_true rfl⟩ [3] rfl (by decide) 3 4 rfl rfl hl.1 rfl (Nat.le_of_ble_eq_true rfl) dX5_play_293 ⟨by show _ ≤ 3; omega, by show _ ≤ 140; omega⟩ (fun H locs hW => ?_)
                        refine x_ifb_ne C (tgt := 303) dX5_play_296 (by decide) (fun c_12 => ?_) (fun c_12 => ?_)
                        · refine lv_iload C.x C.b dX5_play_303 (lv_at hl 2 rfl) ?_
                          refine W.widen (k := 3) (n := 140) (by omega) (by omega) ?_
                          have hW : WD E _ s (([(h0, .inr (4, [.ref o_1, .ref k2, .ref k3, .int (nI sp), .int (nI pl), .int (nI ((tu + 1) % pl)), .int (nI fr), .int (nI 0), .ref o_6])), (o_1, bI E 9 (mB (roN g b z))), (k2, aI E 9 (rwW (feN g b z) w 9)), (k3, aI E 5 (upN (snW aw 5) b 2)), (o_6, qI E (n + 1) (fun k => some (upN ra n na_9 k)))] ++ [(na_9, aI E 5 (upN (upN (upN (upN (upN (fun _ => 0) 0 tu) 1 fr) 2 (pcN (feN g b z))) 3 (pcN (roN g b z))) 4 (nf + 1)))]) ++ plR E n ra rv) H _ := WD.part hW (w' := [(h0, .inr (4, [.ref o_1, .ref k2, .ref k3, .int (nI sp), .int (nI pl), .int (nI ((tu + 1) % pl)), .int (nI fr), .int (nI 0), .ref o_6])), (o_1, bI E 9 (mB (roN g b z))), (k2, aI E 9 (rwW (feN g b z) w 9)), (k3, aI E 5 (upN (snW aw 5) b 2)), (o_6, qI E (n + 1) (fun k => some (upN ra n na_9 k))), (na_9, aI E 5 (upN (upN (upN (upN (upN (fun _ => 0) 0 tu) 1 fr) 2 (pcN (feN g b z))) 3 (pcN (roN g b z))) 4 (nf + 1)))]) [3, 2, 5, 6, 1, 0] rfl (by decide)
                          have hW := WD.pushT hW
                          have hW := hW.to (w' := ([(h0, .inr (4, [.ref o_1, .ref k2, .ref k3, .int (nI sp), .int (nI pl), .int (nI ((tu + 1) % pl)), .int (nI (if (tu + 1) % pl = 0 then fr + 1 else fr)), .int (nI 0), .ref o_6])), (o_1, bI E 9 (mB (if (if (tu + 1) % pl = 0 then fr + 1 else fr) = 10 then roN g b z else suN (rwW (feN g b z) w 9) 9))), (k2, aI E 9 (rwW (feN g b z) w 9)), (k3, aI E 5 (upN (snW aw 5) b 2)), (o_6, qI E (n + 1) (fun k => some ((upN ra n na_9) k)))] ++ plR E (n + 1) (upN ra n na_9) (upN rv n (pk5 tu fr (pcN (feN g b z)) (pcN (roN g b z)) (nf + 1))))) (by first | (rw [if_pos (show (tu + 1) % pl = 0 by omega)]; rw [if_pos (show fr + 1 = 10 by omega)] <;> rfl) | (rw [if_pos (show (tu + 1) % pl = 0 by omega)]; rw [if_neg (show ¬ fr + 1 = 10 by omega)] <;> rfl) | (rw [if_neg (show ¬ (tu + 1) % pl = 0 by omega)]; rw [if_pos (show fr = 10 by omega)] <;> rfl) | (rw [if_neg (show ¬ (tu + 1) % pl = 0 by omega)]; rw [if_neg (show ¬ fr = 10 by omega)] <;> rfl))
                          exact x_iretG C hW rfl ⟨rfl, o_1, o_6, na_9, rfl⟩ rfl rfl dX5_play_305
                        · refine lv_aload_n C.x C.b dX5_play_299 rfl (lv_at hl 4 rfl) ?_
                          refine x_wVV C hW (As := []) (rest := []) (wr := [(na_9, aI E 5 (upN (upN (upN (upN (upN (fun _ => 0) 0 tu) 1 fr) 2 (pcN (feN g b z))) 3 (pcN (roN g b z))) 4 (nf + 1))), (o_6, qI E (n + 1) (fun k => some (upN ra n na_9 k))), (k1, bI E 9 (mB g)), (k3, aI E 5 (upN (snW aw 5) b 2)), (k4, qI E n (fun k => some (ra k)))]) (wn := [(na_9, aI E 5 (upN (upN (upN (upN (upN (fun _ => 0) 0 tu) 1 fr) 2 (pcN (feN g b z))) 3 (pcN (roN g b z))) 4 (nf + 1))), (o_6, qI E (n + 1) (fun k => some (upN ra n na_9 k))), (o_1, bI E 9 (mB (suN (rwW (feN g b z) w 9) 9))), (h0, .inr (4, [.ref o_1, .ref k2, .ref k3, .int (nI sp), .int (nI pl), .int (nI (((tu + 1) % pl))), .int (nI fr), .int (nI 0), .ref o_6])), (k1, bI E 9 (mB g)), (k2, aI E 9 ((rwW (feN g b z) w 9))), (k3, aI E 5 (upN (snW aw 5) b 2)), (k4, qI E n (fun k => some (ra k)))]) (Cn := RX5) (met_X5_setUp l E h0 o_1 k2 k3 o_6 sp pl ((tu + 1) % pl) fr 0 (roN g b z) (rwW (feN g b z) w 9) (ro_lt hg) hrw) gX5_play_X5_setUp rfl 0 rfl ⟨rfl, rfl⟩ ⟨rfl, by decide +kernel, by decide +kernel, by decide +kernel⟩ ⟨Nat.le_of_ble_eq_true rfl, Nat.le_of_ble_eq_true rfl⟩ [3, 2, 5] [0, 1, 4, 6, 7] [0, 1, 6, 5, 2, 7, 3, 4] rfl (by decide) rfl (by decide) (by decide) rfl (by decide) 3 4 rfl rfl hl.1 rfl (Nat.le_of_ble_eq_true rfl) dX5_play_300 ⟨by show _ ≤ 3; omega, by show _ ≤ 140; omega⟩ (fun H locs hW => ?_)
                          have hW : WD E _ s ([(na_9, aI E 5 (upN (upN (upN (upN (upN (fun _ => 0) 0 tu) 1 fr) 2 (pcN (feN g b z))) 3 (pcN (roN g b z))) 4 (nf + 1))), (o_6, qI E (n + 1) (fun k => some (upN ra n na_9 k))), (o_1, bI E 9 (mB (suN (rwW (feN g b z) w 9) 9))), (h0, .inr (4, [.ref o_1, .ref k2, .ref k3, .int (nI sp), .int (nI pl), .int (nI (((tu + 1) % pl))), .int (nI fr), .int (nI 0), .ref o_6])), (k1, bI E 9 (mB g)), (k2, aI E 9 ((rwW (feN g b z) w 9))), (k3, aI E 5 (upN (snW aw 5) b 2)), (k4, qI E n (fun k => some (ra k)))] ++ plR E n ra rv) H _ := hW
                          refine lv_iload C.x C.b dX5_play_303 (lv_at hl 2 rfl) ?_
                          refine W.widen (k := 3) (n := 140) (by omega) (by omega) ?_
                          have hW : WD E _ s (([(h0, .inr (4, [.ref o_1, .ref k2, .ref k3, .int (nI sp), .int (nI pl), .int (nI (((tu + 1) % pl))), .int (nI fr), .int (nI 0), .ref o_6])), (o_1, bI E 9 (mB (suN (rwW (feN g b z) w 9) 9))), (k2, aI E 9 ((rwW (feN g b z) w 9))), (k3, aI E 5 (upN (snW aw 5) b 2)), (o_6, qI E (n + 1) (fun k => some (upN ra n na_9 k)))] ++ [(na_9, aI E 5 (upN (upN (upN (upN (upN (fun _ => 0) 0 tu) 1 fr) 2 (pcN (feN g b z))) 3 (pcN (roN g b z))) 4 (nf + 1)))]) ++ plR E n ra rv) H _ := WD.part hW (w' := [(h0, .inr (4, [.ref o_1, .ref k2, .ref k3, .int (nI sp), .int (nI pl), .int (nI (((tu + 1) % pl))), .int (nI fr), .int (nI 0), .ref o_6])), (o_1, bI E 9 (mB (suN (rwW (feN g b z) w 9) 9))), (k2, aI E 9 ((rwW (feN g b z) w 9))), (k3, aI E 5 (upN (snW aw 5) b 2)), (o_6, qI E (n + 1) (fun k => some (upN ra n na_9 k))), (na_9, aI E 5 (upN (upN (upN (upN (upN (fun _ => 0) 0 tu) 1 fr) 2 (pcN (feN g b z))) 3 (pcN (roN g b z))) 4 (nf + 1)))]) [3, 2, 5, 6, 1, 0] rfl (by decide)
                          have hW := WD.pushT hW
                          have hW := hW.to (w' := ([(h0, .inr (4, [.ref o_1, .ref k2, .ref k3, .int (nI sp), .int (nI pl), .int (nI ((tu + 1) % pl)), .int (nI (if (tu + 1) % pl = 0 then fr + 1 else fr)), .int (nI 0), .ref o_6])), (o_1, bI E 9 (mB (if (if (tu + 1) % pl = 0 then fr + 1 else fr) = 10 then roN g b z else suN (rwW (feN g b z) w 9) 9))), (k2, aI E 9 (rwW (feN g b z) w 9)), (k3, aI E 5 (upN (snW aw 5) b 2)), (o_6, qI E (n + 1) (fun k => some ((upN ra n na_9) k)))] ++ plR E (n + 1) (upN ra n na_9) (upN rv n (pk5 tu fr (pcN (feN g b z)) (pcN (roN g b z)) (nf + 1))))) (by first | (rw [if_pos (show (tu + 1) % pl = 0 by omega)]; rw [if_pos (show fr + 1 = 10 by omega)] <;> rfl) | (rw [if_pos (show (tu + 1) % pl = 0 by omega)]; rw [if_neg (show ¬ fr + 1 = 10 by omega)] <;> rfl) | (rw [if_neg (show ¬ (tu + 1) % pl = 0 by omega)]; rw [if_pos (show fr = 10 by omega)] <;> rfl) | (rw [if_neg (show ¬ (tu + 1) % pl = 0 by omega)]; rw [if_neg (show ¬ fr = 10 by omega)] <;> rfl))
                          exact x_iretG C hW rfl ⟨rfl, o_1, o_6, na_9, rfl⟩ rfl rfl dX5_play_305
                      · refine lv_aload_n C.x C.b dX5_play_282 rfl (lv_at hl 4 rfl) ?_
                        refine lv_dup C.x C.b dX5_play_283 rfl ?_
                        refine x_get C hW 3 4 6 (Cn := RX5) (T := TX5) (N := 9) rfl rfl (by decide) hinX5 hf50 rfl dX5_play_284 ?_
                        refine lv_iconst (v := nI 1) C.x C.b dX5_play_287 (by decide) ?_
                        refine x_iadd C dX5_play_288 ?_
                        refine x_put C hW 3 4 6 (Cn := RX5) (T := TX5) (N := 9) (w' := ([(na_9, aI E 5 (upN (upN (upN (upN (upN (fun _ => 0) 0 tu) 1 fr) 2 (pcN (feN g b z))) 3 (pcN (roN g b z))) 4 (nf + 1))), (o_6, qI E (n + 1) (fun k => some (upN ra n na_9 k))), (o_1, bI E 9 (mB (roN g b z))), (h0, .inr (4, [.ref o_1, .ref k2, .ref k3, .int (nI sp), .int (nI pl), .int (nI ((tu + 1) % pl)), .int (nI (fr + 1)), .int (nI 0), .ref o_6])), (k1, bI E 9 (mB g)), (k2, aI E 9 (rwW (feN g b z) w 9)), (k3, aI E 5 (upN (snW aw 5) b 2)), (k4, qI E n (fun k => some (ra k)))] ++ plR E n ra rv)) tyX5 tyX5_ok nmX5 rfl rfl (by decide) hinX5 hf50 rfl (by decide +kernel) (Nat.le_of_ble_eq_true rfl) dX5_play_289 rfl (fun H locs hW => ?_)
                        refine lv_aload_n C.x C.b dX5_play_292 rfl (lv_at hl 4 rfl) ?_
                        refine x_rVI C hW (As := []) (rest := []) (Cn := RX5) (met_X5_isOver l E h0 o_1 k2 k3 o_6 sp pl ((tu + 1) % pl) (fr + 1) 0 (by omega)) gX5_play_X5_isOver rfl 0 rfl ⟨rfl, rfl⟩ ⟨rfl, by decide +kernel, by decide +kernel, by decide +kernel⟩ ⟨Nat.le_of_ble_eq_true rfl, Nat.le_of_ble_eq_true rfl⟩ [3] rfl (by decide) 3 4 rfl rfl hl.1 rfl (Nat.le_of_ble_eq_true rfl) dX5_play_293 ⟨by show _ ≤ 3; omega, by show _ ≤ 140; omega⟩ (fun H locs hW => ?_)
                        refine x_ifb_ne C (tgt := 303) dX5_play_296 (by decide) (fun c_13 => ?_) (fun c_13 => ?_)
                        · refine lv_iload C.x C.b dX5_play_303 (lv_at hl 2 rfl) ?_
                          refine W.widen (k := 3) (n := 140) (by omega) (by omega) ?_
                          have hW : WD E _ s (([(h0, .inr (4, [.ref o_1, .ref k2, .ref k3, .int (nI sp), .int (nI pl), .int (nI ((tu + 1) % pl)), .int (nI (fr + 1)), .int (nI 0), .ref o_6])), (o_1, bI E 9 (mB (roN g b z))), (k2, aI E 9 (rwW (feN g b z) w 9)), (k3, aI E 5 (upN (snW aw 5) b 2)), (o_6, qI E (n + 1) (fun k => some (upN ra n na_9 k)))] ++ [(na_9, aI E 5 (upN (upN (upN (upN (upN (fun _ => 0) 0 tu) 1 fr) 2 (pcN (feN g b z))) 3 (pcN (roN g b z))) 4 (nf + 1)))]) ++ plR E n ra rv) H _ := WD.part hW (w' := [(h0, .inr (4, [.ref o_1, .ref k2, .ref k3, .int (nI sp), .int (nI pl), .int (nI ((tu + 1) % pl)), .int (nI (fr + 1)), .int (nI 0), .ref o_6])), (o_1, bI E 9 (mB (roN g b z))), (k2, aI E 9 (rwW (feN g b z) w 9)), (k3, aI E 5 (upN (snW aw 5) b 2)), (o_6, qI E (n + 1) (fun k => some (upN ra n na_9 k))), (na_9, aI E 5 (upN (upN (upN (upN (upN (fun _ => 0) 0 tu) 1 fr) 2 (pcN (feN g b z))) 3 (pcN (roN g b z))) 4 (nf + 1)))]) [3, 2, 5, 6, 1, 0] rfl (by decide)
                          have hW := WD.pushT hW
                          have hW := hW.to (w' := ([(h0, .inr (4, [.ref o_1, .ref k2, .ref k3, .int (nI sp), .int (nI pl), .int (nI ((tu + 1) % pl)), .int (nI (if (tu + 1) % pl = 0 then fr + 1 else fr)), .int (nI 0), .ref o_6])), (o_1, bI E 9 (mB (if (if (tu + 1) % pl = 0 then fr + 1 else fr) = 10 then roN g b z else suN (rwW (feN g b z) w 9) 9))), (k2, aI E 9 (rwW (feN g b z) w 9)), (k3, aI E 5 (upN (snW aw 5) b 2)), (o_6, qI E (n + 1) (fun k => some ((upN ra n na_9) k)))] ++ plR E (n + 1) (upN ra n na_9) (upN rv n (pk5 tu fr (pcN (feN g b z)) (pcN (roN g b z)) (nf + 1))))) (by first | (rw [if_pos (show (tu + 1) % pl = 0 by omega)]; rw [if_pos (show fr + 1 = 10 by omega)] <;> rfl) | (rw [if_pos (show (tu + 1) % pl = 0 by omega)]; rw [if_neg (show ¬ fr + 1 = 10 by omega)] <;> rfl) | (rw [if_neg (show ¬ (tu + 1) % pl = 0 by omega)]; rw [if_pos (show fr = 10 by omega)] <;> rfl) | (rw [if_neg (show ¬ (tu + 1) % pl = 0 by omega)]; rw [if_neg (show ¬ fr = 10 by omega)] <;> rfl))
                          exact x_iretG C hW rfl ⟨rfl, o_1, o_6, na_9, rfl⟩ rfl rfl dX5_play_305
                        · refine lv_aload_n C.x C.b dX5_play_299 rfl (lv_at hl 4 rfl) ?_
                          refine x_wVV C hW (As := []) (rest := []) (wr := [(na_9, aI E 5 (upN (upN (upN (upN (upN (fun _ => 0) 0 tu) 1 fr) 2 (pcN (feN g b z))) 3 (pcN (roN g b z))) 4 (nf + 1))), (o_6, qI E (n + 1) (fun k => some (upN ra n na_9 k))), (k1, bI E 9 (mB g)), (k3, aI E 5 (upN (snW aw 5) b 2)), (k4, qI E n (fun k => some (ra k)))]) (wn := [(na_9, aI E 5 (upN (upN (upN (upN (upN (fun _ => 0) 0 tu) 1 fr) 2 (pcN (feN g b z))) 3 (pcN (roN g b z))) 4 (nf + 1))), (o_6, qI E (n + 1) (fun k => some (upN ra n na_9 k))), (o_1, bI E 9 (mB (suN (rwW (feN g b z) w 9) 9))), (h0, .inr (4, [.ref o_1, .ref k2, .ref k3, .int (nI sp), .int (nI pl), .int (nI (((tu + 1) % pl))), .int (nI ((fr + 1))), .int (nI 0), .ref o_6])), (k1, bI E 9 (mB g)), (k2, aI E 9 ((rwW (feN g b z) w 9))), (k3, aI E 5 (upN (snW aw 5) b 2)), (k4, qI E n (fun k => some (ra k)))]) (Cn := RX5) (met_X5_setUp l E h0 o_1 k2 k3 o_6 sp pl ((tu + 1) % pl) (fr + 1) 0 (roN g b z) (rwW (feN g b z) w 9) (ro_lt hg) hrw) gX5_play_X5_setUp rfl 0 rfl ⟨rfl, rfl⟩ ⟨rfl, by decide +kernel, by decide +kernel, by decide +kernel⟩ ⟨Nat.le_of_ble_eq_true rfl, Nat.le_of_ble_eq_true rfl⟩ [3, 2, 5] [0, 1, 4, 6, 7] [0, 1, 6, 5, 2, 7, 3, 4] rfl (by decide) rfl (by decide) (by decide) rfl (by decide) 3 4 rfl rfl hl.1 rfl (Nat.le_of_ble_eq_true rfl) dX5_play_300 ⟨by show _ ≤ 3; omega, by show _ ≤ 140; omega⟩ (fun H locs hW => ?_)
                          have hW : WD E _ s ([(na_9, aI E 5 (upN (upN (upN (upN (upN (fun _ => 0) 0 tu) 1 fr) 2 (pcN (feN g b z))) 3 (pcN (roN g b z))) 4 (nf + 1))), (o_6, qI E (n + 1) (fun k => some (upN ra n na_9 k))), (o_1, bI E 9 (mB (suN (rwW (feN g b z) w 9) 9))), (h0, .inr (4, [.ref o_1, .ref k2, .ref k3, .int (nI sp), .int (nI pl), .int (nI (((tu + 1) % pl))), .int (nI ((fr + 1))), .int (nI 0), .ref o_6])), (k1, bI E 9 (mB g)), (k2, aI E 9 ((rwW (feN g b z) w 9))), (k3, aI E 5 (upN (snW aw 5) b 2)), (k4, qI E n (fun k => some (ra k)))] ++ plR E n ra rv) H _ := hW
                          refine lv_iload C.x C.b dX5_play_303 (lv_at hl 2 rfl) ?_
                          refine W.widen (k := 3) (n := 140) (by omega) (by omega) ?_
                          have hW : WD E _ s (([(h0, .inr (4, [.ref o_1, .ref k2, .ref k3, .int (nI sp), .int (nI pl), .int (nI (((tu + 1) % pl))), .int (nI ((fr + 1))), .int (nI 0), .ref o_6])), (o_1, bI E 9 (mB (suN (rwW (feN g b z) w 9) 9))), (k2, aI E 9 ((rwW (feN g b z) w 9))), (k3, aI E 5 (upN (snW aw 5) b 2)), (o_6, qI E (n + 1) (fun k => some (upN ra n na_9 k)))] ++ [(na_9, aI E 5 (upN (upN (upN (upN (upN (fun _ => 0) 0 tu) 1 fr) 2 (pcN (feN g b z))) 3 (pcN (roN g b z))) 4 (nf + 1)))]) ++ plR E n ra rv) H _ := WD.part hW (w' := [(h0, .inr (4, [.ref o_1, .ref k2, .ref k3, .int (nI sp), .int (nI pl), .int (nI (((tu + 1) % pl))), .int (nI ((fr + 1))), .int (nI 0), .ref o_6])), (o_1, bI E 9 (mB (suN (rwW (feN g b z) w 9) 9))), (k2, aI E 9 ((rwW (feN g b z) w 9))), (k3, aI E 5 (upN (snW aw 5) b 2)), (o_6, qI E (n + 1) (fun k => some (upN ra n na_9 k))), (na_9, aI E 5 (upN (upN (upN (upN (upN (fun _ => 0) 0 tu) 1 fr) 2 (pcN (feN g b z))) 3 (pcN (roN g b z))) 4 (nf + 1)))]) [3, 2, 5, 6, 1, 0] rfl (by decide)
                          have hW := WD.pushT hW
                          have hW := hW.to (w' := ([(h0, .inr (4, [.ref o_1, .ref k2, .ref k3, .int (nI sp), .int (nI pl), .int (nI ((tu + 1) % pl)), .int (nI (if (tu + 1) % pl = 0 then fr + 1 else fr)), .int (nI 0), .ref o_6])), (o_1, bI E 9 (mB (if (if (tu + 1) % pl = 0 then fr + 1 else fr) = 10 then roN g b z else suN (rwW (feN g b z) w 9) 9))), (k2, aI E 9 (rwW (feN g b z) w 9)), (k3, aI E 5 (upN (snW aw 5) b 2)), (o_6, qI E (n + 1) (fun k => some ((upN ra n na_9) k)))] ++ plR E (n + 1) (upN ra n na_9) (upN rv n (pk5 tu fr (pcN (feN g b z)) (pcN (roN g b z)) (nf + 1))))) (by first | (rw [if_pos (show (tu + 1) % pl = 0 by omega)]; rw [if_pos (show fr + 1 = 10 by omega)] <;> rfl) | (rw [if_pos (show (tu + 1) % pl = 0 by omega)]; rw [if_neg (show ¬ fr + 1 = 10 by omega)] <;> rfl) | (rw [if_neg (show ¬ (tu + 1) % pl = 0 by omega)]; rw [if_pos (show fr = 10 by omega)] <;> rfl) | (rw [if_neg (show ¬ (tu + 1) % pl = 0 by omega)]; rw [if_neg (show ¬ fr = 10 by omega)] <;> rfl))
                          exact x_iretG C hW rfl ⟨rfl, o_1, o_6, na_9, rfl⟩ rfl rfl dX5_play_305
                    · refine lv_aload_n C.x C.b dX5_play_244 rfl (lv_at hl 4 rfl) ?_
                      refine x_get C hW 3 4 7 (Cn := RX5) (T := TX5) (N := 9) rfl rfl (by decide) hinX5 hf68 rfl dX5_play_245 ?_
                      refine lv_iconst (v := nI 3) C.x C.b dX5_play_248 (by decide) ?_
                      refine x_icmp_ge C (by omega) (by omega) (tgt := 255) dX5_play_249 (by decide) (fun c_14 => ?_) (fun c_14 => ?_)
                      · refine lv_aload_n C.x C.b dX5_play_255 rfl (lv_at hl 4 rfl) ?_
                        refine lv_iconst (v := nI 0) C.x C.b dX5_play_256 (by decide) ?_
                        refine x_put C hW 3 4 7 (Cn := RX5) (T := TX5) (N := 9) (w' := ([(na_9, aI E 5 (upN (upN (upN (upN (upN (fun _ => 0) 0 tu) 1 fr) 2 (pcN (feN g b z))) 3 (pcN (roN g b z))) 4 (nf + 1))), (o_6, qI E (n + 1) (fun k => some (upN ra n na_9 k))), (o_1, bI E 9 (mB (roN g b z))), (h0, .inr (4, [.ref o_1, .ref k2, .ref k3, .int (nI sp), .int (nI pl), .int (nI tu), .int (nI fr), .int (nI 0), .ref o_6])), (k1, bI E 9 (mB g)), (k2, aI E 9 (rwW (feN g b z) w 9)), (k3, aI E 5 (upN (snW aw 5) b 2)), (k4, qI E n (fun k => some (ra k)))] ++ plR E n ra rv)) tyX5 tyX5_ok nmX5 rfl rfl (by decide) hinX5 hf68 rfl (by decide +kernel) (Nat.le_of_ble_eq_true rfl) dX5_play_257 rfl (fun H locs hW => ?_)
                        refine lv_aload_n C.x C.b dX5_play_260 rfl (lv_at hl 4 rfl) ?_
                        refine lv_aload_n C.x C.b dX5_play_261 rfl (lv_at hl 4 rfl) ?_
                        refine x_get C hW 3 4 5 (Cn := RX5) (T := TX5) (N := 9) rfl rfl (by decide) hinX5 hf71 rfl dX5_play_262 ?_
                        refine lv_iconst (v := nI 1) C.x C.b dX5_play_265 (by decide) ?_
                        refine x_iadd C dX5_play_266 ?_
                        refine lv_aload_n C.x C.b dX5_play_267 rfl (lv_at hl 4 rfl) ?_
                        refine x_get C hW 3 4 4 (Cn := RX5) (T := TX5) (N := 9) rfl rfl (by decide) hinX5 hf53 rfl dX5_play_268 ?_
                        refine x_irem C (by omega) (by omega) (by omega) dX5_play_271 ?_
                        refine x_put C hW 3 4 5 (Cn := RX5) (T := TX5) (N := 9) (w' := ([(na_9, aI E 5 (upN (upN (upN (upN (upN (fun _ => 0) 0 tu) 1 fr) 2 (pcN (feN g b z))) 3 (pcN (roN g b z))) 4 (nf + 1))), (o_6, qI E (n + 1) (fun k => some (upN ra n na_9 k))), (o_1, bI E 9 (mB (roN g b z))), (h0, .inr (4, [.ref o_1, .ref k2, .ref k3, .int (nI sp), .int (nI pl), .int (nI ((tu + 1) % pl)), .int (nI fr), .int (nI 0), .ref o_6])), (k1, bI E 9 (mB g)), (k2, aI E 9 (rwW (feN g b z) w 9)), (k3, aI E 5 (upN (snW aw 5) b 2)), (k4, qI E n (fun k => some (ra k)))] ++ plR E n ra rv)) tyX5 tyX5_ok nmX5 rfl rfl (by decide) hinX5 hf71 rfl (by decide +kernel) (Nat.le_of_ble_eq_true rfl) dX5_play_272 rfl (fun H locs hW => ?_)
                        refine lv_aload_n C.x C.b dX5_play_275 rfl (lv_at hl 4 rfl) ?_
                        refine x_get C hW 3 4 5 (Cn := RX5) (T := TX5) (N := 9) rfl rfl (by decide) hinX5 hf71 rfl dX5_play_276 ?_
                        refine x_if_ne C (Nat.lt_trans (Nat.mod_lt _ (by omega)) (by omega)) (tgt := 292) dX5_play_279 (by decide) (fun c_15 => ?_) (fun c_15 => ?_)
                        · refine lv_aload_n C.x C.b dX5_play_292 rfl (lv_at hl 4 rfl) ?_
                          refine x_rVI C hW (As := []) (rest := []) (Cn := RX5) (met_X5_isOver l E h0 o_1 k2 k3 o_6 sp pl ((tu + 1) % pl) fr 0 (by omega)) gX5_play_X5_isOver rfl 0 rfl ⟨rfl, rfl⟩ ⟨rfl, by decide +kernel, by decide +kernel, by decide +kernel⟩ ⟨Nat.le_of_ble_eq_true rfl, Nat.le_of_ble_eq_true rfl⟩ [3] rfl (by decide) 3 4 rfl rfl hl.1 rfl (Nat.le_of_ble_eq_true rfl) dX5_play_293 ⟨by show _ ≤ 3; omega, by show _ ≤ 140; omega⟩ (fun H locs hW => ?_)
                          refine x_ifb_ne C (tgt := 303) dX5_play_296 (by decide) (fun c_16 => ?_) (fun c_16 => ?_)
                          · refine lv_iload C.x C.b dX5_play_303 (lv_at hl 2 rfl) ?_
                            refine W.widen (k := 3) (n := 140) (by omega) (by omega) ?_
                            have hW : WD E _ s (([(h0, .inr (4, [.ref o_1, .ref k2, .ref k3, .int (nI sp), .int (nI pl), .int (nI ((tu + 1) % pl)), .int (nI fr), .int (nI 0), .ref o_6])), (o_1, bI E 9 (mB (roN g b z))), (k2, aI E 9 (rwW (feN g b z) w 9)), (k3, aI E 5 (upN (snW aw 5) b 2)), (o_6, qI E (n + 1) (fun k => some (upN ra n na_9 k)))] ++ [(na_9, aI E 5 (upN (upN (upN (upN (upN (fun _ => 0) 0 tu) 1 fr) 2 (pcN (feN g b z))) 3 (pcN (roN g b z))) 4 (nf + 1)))]) ++ plR E n ra rv) H _ := WD.part hW (w' := [(h0, .inr (4, [.ref o_1, .ref k2, .ref k3, .int (nI sp), .int (nI pl), .int (nI ((tu + 1) % pl)), .int (nI fr), .int (nI 0), .ref o_6])), (o_1, bI E 9 (mB (roN g b z))), (k2, aI E 9 (rwW (feN g b z) w 9)), (k3, aI E 5 (upN (snW aw 5) b 2)), (o_6, qI E (n + 1) (fun k => some (upN ra n na_9 k))), (na_9, aI E 5 (upN (upN (upN (upN (upN (fun _ => 0) 0 tu) 1 fr) 2 (pcN (feN g b z))) 3 (pcN (roN g b z))) 4 (nf + 1)))]) [3, 2, 5, 6, 1, 0] rfl (by decide)
                            have hW := WD.pushT hW
                            have hW := hW.to (w' := ([(h0, .inr (4, [.ref o_1, .ref k2, .ref k3, .int (nI sp), .int (nI pl), .int (nI ((tu + 1) % pl)), .int (nI (if (tu + 1) % pl = 0 then fr + 1 else fr)), .int (nI 0), .ref o_6])), (o_1, bI E 9 (mB (if (if (tu + 1) % pl = 0 then fr + 1 else fr) = 10 then roN g b z else suN (rwW (feN g b z) w 9) 9))), (k2, aI E 9 (rwW (feN g b z) w 9)), (k3, aI E 5 (upN (snW aw 5) b 2)), (o_6, qI E (n + 1) (fun k => some ((upN ra n na_9) k)))] ++ plR E (n + 1) (upN ra n na_9) (upN rv n (pk5 tu fr (pcN (feN g b z)) (pcN (roN g b z)) (nf + 1))))) (by first | (rw [if_pos (show (tu + 1) % pl = 0 by omega)]; rw [if_pos (show fr + 1 = 10 by omega)] <;> rfl) | (rw [if_pos (show (tu + 1) % pl = 0 by omega)]; rw [if_neg (show ¬ fr + 1 = 10 by omega)] <;> rfl) | (rw [if_neg (show ¬ (tu + 1) % pl = 0 by omega)]; rw [if_pos (show fr = 10 by omega)] <;> rfl) | (rw [if_neg (show ¬ (tu + 1) % pl = 0 by omega)]; rw [if_neg (show ¬ fr = 10 by omega)] <;> rfl))
                            exact x_iretG C hW rfl ⟨rfl, o_1, o_6, na_9, rfl⟩ rfl rfl dX5_play_305
                          · refine lv_aload_n C.x C.b dX5_play_299 rfl (lv_at hl 4 rfl) ?_
                            refine x_wVV C hW (As := []) (rest := []) (wr := [(na_9, aI E 5 (upN (upN (upN (upN (upN (fun _ => 0) 0 tu) 1 fr) 2 (pcN (feN g b z))) 3 (pcN (roN g b z))) 4 (nf + 1))), (o_6, qI E (n + 1) (fun k => some (upN ra n na_9 k))), (k1, bI E 9 (mB g)), (k3, aI E 5 (upN (snW aw 5) b 2)), (k4, qI E n (fun k => some (ra k)))]) (wn := [(na_9, aI E 5 (upN (upN (upN (upN (upN (fun _ => 0) 0 tu) 1 fr) 2 (pcN (feN g b z))) 3 (pcN (roN g b z))) 4 (nf + 1))), (o_6, qI E (n + 1) (fun k => some (upN ra n na_9 k))), (o_1, bI E 9 (mB (suN (rwW (feN g b z) w 9) 9))), (h0, .inr (4, [.ref o_1, .ref k2, .ref k3, .int (nI sp), .int (nI pl), .int (nI (((tu + 1) % pl))), .int (nI fr), .int (nI 0), .ref o_6])), (k1, bI E 9 (mB g)), (k2, aI E 9 ((rwW (feN g b z) w 9))), (k3, aI E 5 (upN (snW aw 5) b 2)), (k4, qI E n (fun k => some (ra k)))]) (Cn := RX5) (met_X5_setUp l E h0 o_1 k2 k3 o_6 sp pl ((tu + 1) % pl) fr 0 (roN g b z) (rwW (feN g b z) w 9) (ro_lt hg) hrw) gX5_play_X5_setUp rfl 0 rfl ⟨rfl, rfl⟩ ⟨rfl, by decide +kernel, by decide +kernel, by decide +kernel⟩ ⟨Nat.le_of_ble_eq_true rfl, Nat.le_of_ble_eq_true rfl⟩ [3, 2, 5] [0, 1, 4, 6, 7] [0, 1, 6, 5, 2, 7, 3, 4] rfl (by decide) rfl (by decide) (by decide) rfl (by decide) 3 4 rfl rfl hl.1 rfl (Nat.le_of_ble_eq_true rfl) dX5_play_300 ⟨by show _ ≤ 3; omega, by show _ ≤ 140; omega⟩ (fun H locs hW => ?_)
                            have hW : WD E _ s ([(na_9, aI E 5 (upN (upN (upN (upN (upN (fun _ => 0) 0 tu) 1 fr) 2 (pcN (feN g b z))) 3 (pcN (roN g b z))) 4 (nf + 1))), (o_6, qI E (n + 1) (fun k => some (upN ra n na_9 k))), (o_1, bI E 9 (mB (suN (rwW (feN g b z) w 9) 9))), (h0, .inr (4, [.ref o_1, .ref k2, .ref k3, .int (nI sp), .int (nI pl), .int (nI (((tu + 1) % pl))), .int (nI fr), .int (nI 0), .ref o_6])), (k1, bI E 9 (mB g)), (k2, aI E 9 ((rwW (feN g b z) w 9))), (k3, aI E 5 (upN (snW aw 5) b 2)), (k4, qI E n (fun k => some (ra k)))] ++ plR E n ra rv) H _ := hW
                            refine lv_iload C.x C.b dX5_play_303 (lv_at hl 2 rfl) ?_
                            refine W.widen (k := 3) (n := 140) (by omega) (by omega) ?_
                            have hW : WD E _ s (([(h0, .inr (4, [.ref o_1, .ref k2, .ref k3, .int (nI sp), .int (nI pl), .int (nI (((tu + 1) % pl))), .int (nI fr), .int (nI 0), .ref o_6])), (o_1, bI E 9 (mB (suN (rwW (feN g b z) w 9) 9))), (k2, aI E 9 ((rwW (feN g b z) w 9))), (k3, aI E 5 (upN (snW aw 5) b 2)), (o_6, qI E (n + 1) (fun k => some (upN ra n na_9 k)))] ++ [(na_9, aI E 5 (upN (upN (upN (upN (upN (fun _ => 0) 0 tu) 1 fr) 2 (pcN (feN g b z))) 3 (pcN (roN g b z))) 4 (nf + 1)))]) ++ plR E n ra rv) H _ := WD.part hW (w' := [(h0, .inr (4, [.ref o_1, .ref k2, .ref k3, .int (nI sp), .int (nI pl), .int (nI (((tu + 1) % pl))), .int (nI fr), .int (nI 0), .ref o_6])), (o_1, bI E 9 (mB (suN (rwW (feN g b z) w 9) 9))), (k2, aI E 9 ((rwW (feN g b z) w 9))), (k3, aI E 5 (upN (snW aw 5) b 2)), (o_6, qI E (n + 1) (fun k => some (upN ra n na_9 k))), (na_9, aI E 5 (upN (upN (upN (upN (upN (fun _ => 0) 0 tu) 1 fr) 2 (pcN (feN g b z))) 3 (pcN (roN g b z))) 4 (nf + 1)))]) [3, 2, 5, 6, 1, 0] rfl (by decide)
                            have hW := WD.pushT hW
                            have hW := hW.to (w' := ([(h0, .inr (4, [.ref o_1, .ref k2, .ref k3, .int (nI sp), .int (nI pl), .int (nI ((tu + 1) % pl)), .int (nI (if (tu + 1) % pl = 0 then fr + 1 else fr)), .int (nI 0), .ref o_6])), (o_1, bI E 9 (mB (if (if (tu + 1) % pl = 0 then fr + 1 else fr) = 10 then roN g b z else suN (rwW (feN g b z) w 9) 9))), (k2, aI E 9 (rwW (feN g b z) w 9)), (k3, aI E 5 (upN (snW aw 5) b 2)), (o_6, qI E (n + 1) (fun k => some ((upN ra n na_9) k)))] ++ plR E (n + 1) (upN ra n na_9) (upN rv n (pk5 tu fr (pcN (feN g b z)) (pcN (roN g b z)) (nf + 1))))) (by first | (rw [if_pos (show (tu + 1) % pl = 0 by omega)]; rw [if_pos (show fr + 1 = 10 by omega)] <;> rfl) | (rw [if_pos (show (tu + 1) % pl = 0 by omega)]; rw [if_neg (show ¬ fr + 1 = 10 by omega)] <;> rfl) | (rw [if_neg (show ¬ (tu + 1) % pl = 0 by omega)]; rw [if_pos (show fr = 10 by omega)] <;> rfl) | (rw [if_neg (show ¬ (tu + 1) % pl = 0 by omega)]; rw [if_neg (show ¬ fr = 10 by omega)] <;> rfl))
                            exact x_iretG C hW rfl ⟨rfl, o_1, o_6, na_9, rfl⟩ rfl rfl dX5_play_305
                        · refine lv_aload_n C.x C.b dX5_play_282 rfl (lv_at hl 4 rfl) ?_
                          refine lv_dup C.x C.b dX5_play_283 rfl ?_
                          refine x_get C hW 3 4 6 (Cn := RX5) (T := TX5) (N := 9) rfl rfl (by decide) hinX5 hf50 rfl dX5_play_284 ?_
                          refine lv_iconst (v := nI 1) C.x C.b dX5_play_287 (by decide) ?_
                          refine x_iadd C dX5_play_288 ?_
                          refine x_put C hW 3 4 6 (Cn := RX5) (T := TX5) (N := 9) (w' := ([(na_9, aI E 5 (upN (upN (upN (upN (upN (fun _ => 0) 0 tu) 1 fr) 2 (pcN (feN g b z))) 3 (pcN (roN g b z))) 4 (nf + 1))), (o_6, qI E (n + 1) (fun k => some (upN ra n na_9 k))), (o_1, bI E 9 (mB (roN g b z))), (h0, .inr (4, [.ref o_1, .ref k2, .ref k3, .int (nI sp), .int (nI pl), .int (nI ((tu + 1) % pl)), .int (nI (fr + 1)), .int (nI 0), .ref o_6])), (k1, bI E 9 (mB g)), (k2, aI E 9 (rwW (feN g b z) w 9)), (k3, aI E 5 (upN (snW aw 5) b 2)), (k4, qI E n (fun k => some (ra k)))] ++ plR E n ra rv)) tyX5 tyX5_ok nmX5 rfl rfl (by decide) hinX5 hf50 rfl (by decide +kernel) (Nat.le_of_ble_eq_true rfl) dX5_play_289 rfl (fun H locs hW => ?_)
                          refine lv_aload_n C.x C.b dX5_play_292 rfl (lv_at hl 4 rfl) ?_
                          refine x_rVI C hW (As := []) (rest := []) (Cn := RX5) (met_X5_isOver l E h0 o_1 k2 k3 o_6 sp pl ((tu + 1) % pl) (fr + 1) 0 (by omega)) gX5_play_X5_isOver rfl 0 rfl ⟨rfl, rfl⟩ ⟨rfl, by decide +kernel, by decide +kernel, by decide +kernel⟩ ⟨Nat.le_of_ble_eq_true rfl, Nat.le_of_ble_eq_true rfl⟩ [3] rfl (by decide) 3 4 rfl rfl hl.1 rfl (Nat.le_of_ble_eq_true rfl) dX5_play_293 ⟨by show _ ≤ 3; omega, by show _ ≤ 140; omega⟩ (fun H locs hW => ?_)
                          refine x_ifb_ne C (tgt := 303) dX5_play_296 (by decide) (fun c_17 => ?_) (fun c_17 => ?_)
                          · refine lv_iload C.x C.b dX5_play_303 (lv_at hl 2 rfl) ?_
                            refine W.widen (k := 3) (n := 140) (by omega) (by omega) ?_
                            have hW : WD E _ s (([(h0, .inr (4, [.ref o_1, .ref k2, .ref k3, .int (nI sp), .int (nI pl), .int (nI ((tu + 1) % pl)), .int (nI (fr + 1)), .int (nI 0), .ref o_6])), (o_1, bI E 9 (mB (roN g b z))), (k2, aI E 9 (rwW (feN g b z) w 9)), (k3, aI E 5 (upN (snW aw 5) b 2)), (o_6, qI E (n + 1) (fun k => some (upN ra n na_9 k)))] ++ [(na_9, aI E 5 (upN (upN (upN (upN (upN (fun _ => 0) 0 tu) 1 fr) 2 (pcN (feN g b z))) 3 (pcN (roN g b z))) 4 (nf + 1)))]) ++ plR E n ra rv) H _ := WD.part hW (w' := [(h0, .inr (4, [.ref o_1, .ref k2, .ref k3, .int (nI sp), .int (nI pl), .int (nI ((tu + 1) % pl)), .int (nI (fr + 1)), .int (nI 0), .ref o_6])), (o_1, bI E 9 (mB (roN g b z))), (k2, aI E 9 (rwW (feN g b z) w 9)), (k3, aI E 5 (upN (snW aw 5) b 2)), (o_6, qI E (n + 1) (fun k => some (upN ra n na_9 k))), (na_9, aI E 5 (upN (upN (upN (upN (upN (fun _ => 0) 0 tu) 1 fr) 2 (pcN (feN g b z))) 3 (pcN (roN g b z))) 4 (nf + 1)))]) [3, 2, 5, 6, 1, 0] rfl (by decide)
                            have hW := WD.pushT hW
                            have hW := hW.to (w' := ([(h0, .inr (4, [.ref o_1, .ref k2, .ref k3, .int (nI sp), .int (nI pl), .int (nI ((tu + 1) % pl)), .int (nI (if (tu + 1) % pl = 0 then fr + 1 else fr)), .int (nI 0), .ref o_6])), (o_1, bI E 9 (mB (if (if (tu + 1) % pl = 0 then fr + 1 else fr) = 10 then roN g b z else suN (rwW (feN g b z) w 9) 9))), (k2, aI E 9 (rwW (feN g b z) w 9)), (k3, aI E 5 (upN (snW aw 5) b 2)), (o_6, qI E (n + 1) (fun k => some ((upN ra n na_9) k)))] ++ plR E (n + 1) (upN ra n na_9) (upN rv n (pk5 tu fr (pcN (feN g b z)) (pcN (roN g b z)) (nf + 1))))) (by first | (rw [if_pos (show (tu + 1) % pl = 0 by omega)]; rw [if_pos (show fr + 1 = 10 by omega)] <;> rfl) | (rw [if_pos (show (tu + 1) % pl = 0 by omega)]; rw [if_neg (show ¬ fr + 1 = 10 by omega)] <;> rfl) | (rw [if_neg (show ¬ (tu + 1) % pl = 0 by omega)]; rw [if_pos (show fr = 10 by omega)] <;> rfl) | (rw [if_neg (show ¬ (tu + 1) % pl = 0 by omega)]; rw [if_neg (show ¬ fr = 10 by omega)] <;> rfl))
                            exact x_iretG C hW rfl ⟨rfl, o_1, o_6, na_9, rfl⟩ rfl rfl dX5_play_305
                          · refine lv_aload_n C.x C.b dX5_play_299 rfl (lv_at hl 4 rfl) ?_
                            refine x_wVV C hW (As := []) (rest := []) (wr := [(na_9, aI E 5 (upN (upN (upN (upN (upN (fun _ => 0) 0 tu) 1 fr) 2 (pcN (feN g b z))) 3 (pcN (roN g b z))) 4 (nf + 1))), (o_6, qI E (n + 1) (fun k => some (upN ra n na_9 k))), (k1, bI E 9 (mB g)), (k3, aI E 5 (upN (snW aw 5) b 2)), (k4, qI E n (fun k => some (ra k)))]) (wn := [(na_9, aI E 5 (upN (upN (upN (upN (upN (fun _ => 0) 0 tu) 1 fr) 2 (pcN (feN g b z))) 3 (pcN (roN g b z))) 4 (nf + 1))), (o_6, qI E (n + 1) (fun k => some (upN ra n na_9 k))), (o_1, bI E 9 (mB (suN (rwW (feN g b z) w 9) 9))), (h0, .inr (4, [.ref o_1, .ref k2, .ref k3, .int (nI sp), .int (nI pl), .int (nI (((tu + 1) % pl))), .int (nI ((fr + 1))), .int (nI 0), .ref o_6])), (k1, bI E 9 (mB g)), (k2, aI E 9 ((rwW (feN g b z) w 9))), (k3, aI E 5 (upN (snW aw 5) b 2)), (k4, qI E n (fun k => some (ra k)))]) (Cn := RX5) (met_X5_setUp l E h0 o_1 k2 k3 o_6 sp pl ((tu + 1) % pl) (fr + 1) 0 (roN g b z) (rwW (feN g b z) w 9) (ro_lt hg) hrw) gX5_play_X5_setUp rfl 0 rfl ⟨rfl, rfl⟩ ⟨rfl, by decide +kernel, by decide +kernel, by decide +kernel⟩ ⟨Nat.le_of_ble_eq_true rfl, Nat.le_of_ble_eq_true rfl⟩ [3, 2, 5] [0, 1, 4, 6, 7] [0, 1, 6, 5, 2, 7, 3, 4] rfl (by decide) rfl (by decide) (by decide) rfl (by decide) 3 4 rfl rfl hl.1 rfl (Nat.le_of_ble_eq_true rfl) dX5_play_300 ⟨by show _ ≤ 3; omega, by show _ ≤ 140; omega⟩ (fun H locs hW => ?_)
                            have hW : WD E _ s ([(na_9, aI E 5 (upN (upN (upN (upN (upN (fun _ => 0) 0 tu) 1 fr) 2 (pcN (feN g b z))) 3 (pcN (roN g b z))) 4 (nf + 1))), (o_6, qI E (n + 1) (fun k => some (upN ra n na_9 k))), (o_1, bI E 9 (mB (suN (rwW (feN g b z) w 9) 9))), (h0, .inr (4, [.ref o_1, .ref k2, .ref k3, .int (nI sp), .int (nI pl), .int (nI (((tu + 1) % pl))), .int (nI ((fr + 1))), .int (nI 0), .ref o_6])), (k1, bI E 9 (mB g)), (k2, aI E 9 ((rwW (feN g b z) w 9))), (k3, aI E 5 (upN (snW aw 5) b 2)), (k4, qI E n (fun k => some (ra k)))] ++ plR E n ra rv) H _ := hW
                            refine lv_iload C.x C.b dX5_play_303 (lv_at hl 2 rfl) ?_
                            refine W.widen (k := 3) (n := 140) (by omega) (by omega) ?_
                            have hW : WD E _ s (([(h0, .inr (4, [.ref o_1, .ref k2, .ref k3, .int (nI sp), .int (nI pl), .int (nI (((tu + 1) % pl))), .int (nI ((fr + 1))), .int (nI 0), .ref o_6])), (o_1, bI E 9 (mB (suN (rwW (feN g b z) w 9) 9))), (k2, aI E 9 ((rwW (feN g b z) w 9))), (k3, aI E 5 (upN (snW aw 5) b 2)), (o_6, qI E (n + 1) (fun k => some (upN ra n na_9 k)))] ++ [(na_9, aI E 5 (upN (upN (upN (upN (upN (fun _ => 0) 0 tu) 1 fr) 2 (pcN (feN g b z))) 3 (pcN (roN g b z))) 4 (nf + 1)))]) ++ plR E n ra rv) H _ := WD.part hW (w' := [(h0, .inr (4, [.ref o_1, .ref k2, .ref k3, .int (nI sp), .int (nI pl), .int (nI (((tu + 1) % pl))), .int (nI ((fr + 1))), .int (nI 0), .ref o_6])), (o_1, bI E 9 (mB (suN (rwW (feN g b z) w 9) 9))), (k2, aI E 9 ((rwW (feN g b z) w 9))), (k3, aI E 5 (upN (snW aw 5) b 2)), (o_6, qI E (n + 1) (fun k => some (upN ra n na_9 k))), (na_9, aI E 5 (upN (upN (upN (upN (upN (fun _ => 0) 0 tu) 1 fr) 2 (pcN (feN g b z))) 3 (pcN (roN g b z))) 4 (nf + 1)))]) [3, 2, 5, 6, 1, 0] rfl (by decide)
                            have hW := WD.pushT hW
                            have hW := hW.to (w' := ([(h0, .inr (4, [.ref o_1, .ref k2, .ref k3, .int (nI sp), .int (nI pl), .int (nI ((tu + 1) % pl)), .int (nI (if (tu + 1) % pl = 0 then fr + 1 else fr)), .int (nI 0), .ref o_6])), (o_1, bI E 9 (mB (if (if (tu + 1) % pl = 0 then fr + 1 else fr) = 10 then roN g b z else suN (rwW (feN g b z) w 9) 9))), (k2, aI E 9 (rwW (feN g b z) w 9)), (k3, aI E 5 (upN (snW aw 5) b 2)), (o_6, qI E (n + 1) (fun k => some ((upN ra n na_9) k)))] ++ plR E (n + 1) (upN ra n na_9) (upN rv n (pk5 tu fr (pcN (feN g b z)) (pcN (roN g b z)) (nf + 1))))) (by first | (rw [if_pos (show (tu + 1) % pl = 0 by omega)]; rw [if_pos (show fr + 1 = 10 by omega)] <;> rfl) | (rw [if_pos (show (tu + 1) % pl = 0 by omega)]; rw [if_neg (show ¬ fr + 1 = 10 by omega)] <;> rfl) | (rw [if_neg (show ¬ (tu + 1) % pl = 0 by omega)]; rw [if_pos (show fr = 10 by omega)] <;> rfl) | (rw [if_neg (show ¬ (tu + 1) % pl = 0 by omega)]; rw [if_neg (show ¬ fr = 10 by omega)] <;> rfl))
                            exact x_iretG C hW rfl ⟨rfl, o_1, o_6, na_9, rfl⟩ rfl rfl dX5_play_305
                      · exact absurd hend (by omega)
                  · refine lv_aload C.x C.b dX5_play_163 (lv_at hl 1 rfl) ?_
                    refine lv_iload C.x C.b dX5_play_165 (lv_at hl 0 rfl) ?_
                    refine lv_aload_n C.x C.b dX5_play_167 rfl (lv_at hl 4 rfl) ?_
                    refine x_get C hW 2 4 8 (Cn := RX5) (T := TX5) (N := 9) rfl rfl (by decide) hinX5 hf25 rfl dX5_play_168 ?_
                    refine lv_iload C.x C.b dX5_play_171 (lv_at hl 0 rfl) ?_
                    refine x_aldqI C hW 6 i rfl rfl (by omega) (by omega) rfl dX5_play_173 ?_
                    refine x_astqI C hW 0 (7 + i) i rfl (plR_at rfl (by omega)) rfl (by omega) (by omega) dX5_play_174 (w' := ([(o_6, qI E (n + 1) (va_up (prO ra i) i (some (ra i)))), (o_1, bI E 9 (mB (roN g b z))), (h0, .inr (4, [.ref o_1, .ref k2, .ref k3, .int (nI sp), .int (nI pl), .int (nI tu), .int (nI fr), .int (nI (nf + 1)), .ref k4])), (k1, bI E 9 (mB g)), (k2, aI E 9 (rwW (feN g b z) w 9)), (k3, aI E 5 (upN (snW aw 5) b 2)), (k4, qI E n (fun k => some (ra k)))] ++ plR E n ra rv)) rfl (fun H locs hW => ?_)
                    have hW := hW.to (w' := ([(o_6, qI E (n + 1) (prO ra (i + 1))), (o_1, bI E 9 (mB (roN g b z))), (h0, .inr (4, [.ref o_1, .ref k2, .ref k3, .int (nI sp), .int (nI pl), .int (nI tu), .int (nI fr), .int (nI (nf + 1)), .ref k4])), (k1, bI E 9 (mB g)), (k2, aI E 9 (rwW (feN g b z) w 9)), (k3, aI E 5 (upN (snW aw 5) b 2)), (k4, qI E n (fun k => some (ra k)))] ++ plR E n ra rv)) (by rw [prO_s])
                    refine lv_iinc (k := 0) (v := nI (i + 1)) (lv' := [(6, .int (nI (i + 1))), (5, .ref o_6), (4, .int (nI (pcN (feN g b z)))), (3, .ref o_1), (0, .ref h0), (1, .int (nI b)), (2, .int (nI z))]) C.x C.b dX5_play_175 hl rfl (z_inc i 1) (by decide) rfl (fun ls hl => ?_)
                    refine lv_goto (tgt := 153) C.x C.b dX5_play_178 (by decide) ?_
                    exact ih7 (i + 1) (by omega) (by omega)  _ _ _ (hW.to rfl) (lv_to (lv_sub (l' := [(6, .int (nI (i + 1))), (5, .ref o_6), (4, .int (nI (pcN (feN g b z)))), (3, .ref o_1), (0, .ref h0), (1, .int (nI b)), (2, .int (nI z))]) hl [0, 1, 2, 3, 4, 5, 6] rfl) (by first | rfl | (simp [c_3, c_5, c_8]; done) | (rw [if_pos (by omega)]; done) | (rw [if_neg (by omega)]; done) | (exfalso; omega) | ((repeat' split) <;> first | rfl | contradiction | (exfalso; omega))))
              exact lp_7 (n + 1) 0 (by omega) (by omega)  _ _ _ (hW.to (by rw [prO_0])) (lv_to (lv_sub (l' := [(6, .int (nI 0)), (5, .ref o_6), (4, .int (nI (pcN (feN g b z)))), (3, .ref o_1), (0, .ref h0), (1, .int (nI b)), (2, .int (nI z))]) hl [0, 1, 2, 3, 4, 5, 6] rfl) rfl)
            · refine lv_aload_n C.x C.b dX5_play_82 rfl (lv_at hl 3 rfl) ?_
              refine x_get C hW 1 4 2 (Cn := RX5) (T := TX5) (N := 9) rfl rfl (by decide) hinX5 hf17 rfl dX5_play_83 ?_
              refine lv_iload C.x C.b dX5_play_86 (lv_at hl 0 rfl) ?_
              refine lv_iload C.x C.b dX5_play_88 (lv_at hl 0 rfl) ?_
              refine lv_iload_n C.x C.b dX5_play_90 rfl (lv_at hl 4 rfl) ?_
              refine x_icmp_ne C (by omega) (by omega) (tgt := 98) dX5_play_91 (by decide) (fun c_18 => ?_) (fun c_18 => ?_)
              · refine lv_aload_n C.x C.b dX5_play_98 rfl (lv_at hl 3 rfl) ?_
                refine x_get C hW 1 4 2 (Cn := RX5) (T := TX5) (N := 9) rfl rfl (by decide) hinX5 hf17 rfl dX5_play_99 ?_
                refine lv_iload C.x C.b dX5_play_102 (lv_at hl 0 rfl) ?_
                refine x_ald C hW 4 i rfl rfl (by omega) (by decide) dX5_play_104 ?_
                refine x_if_le C (by omega) (tgt := 120) dX5_play_105 (by decide) (fun c_19 => ?_) (fun c_19 => ?_)
                · refine lv_iconst (v := nI 0) C.x C.b dX5_play_120 (by decide) ?_
                  refine x_ast C hW 4 i 0 rfl rfl rfl (by omega) (by decide) dX5_play_121 (w' := ([(o_1, bI E 9 (mB (roN g b z))), (h0, .inr (4, [.ref o_1, .ref k2, .ref k3, .int (nI sp), .int (nI pl), .int (nI tu), .int (nI fr), .int (nI nf), .ref k4])), (k1, bI E 9 (mB g)), (k2, aI E 9 (rwW (feN g b z) w 9)), (k3, aI E 5 (upN (awW aw b i) i 0)), (k4, qI E n (fun k => some (ra k)))] ++ plR E n ra rv)) rfl (fun H locs hW => ?_)
                  refine lv_iinc (k := 0) (v := nI (i + 1)) (lv' := [(5, .int (nI (i + 1))), (4, .int (nI (pcN (feN g b z)))), (3, .ref o_1), (0, .ref h0), (1, .int (nI b)), (2, .int (nI z))]) C.x C.b dX5_play_122 hl rfl (z_inc i 1) (by decide) rfl (fun ls hl => ?_)
                  refine lv_goto (tgt := 76) C.x C.b dX5_play_125 (by decide) ?_
                  exact ih4 (i + 1) (by omega) (by omega)  _ _ _ (hW.to (by first | (rw [show awW aw b (i + 1) = upN (awW aw b i) i (2) from by simp only [awW]; rw [show (if i = b then 2 else aw i - 1) = 2 from by split <;> omega]]; done) | (rw [show awW aw b (i + 1) = upN (awW aw b i) i (awW aw b i i - 1) from by simp only [awW]; rw [show (if i = b then 2 else aw i - 1) = awW aw b i i - 1 from by split <;> omega]]; done) | (rw [show awW aw b (i + 1) = upN (awW aw b i) i (0) from by simp only [awW]; rw [show (if i = b then 2 else aw i - 1) = 0 from by split <;> omega]]; done))) (lv_to (lv_sub (l' := [(5, .int (nI (i + 1))), (4, .int (nI (pcN (feN g b z)))), (3, .ref o_1), (0, .ref h0), (1, .int (nI b)), (2, .int (nI z))]) hl [0, 1, 2, 3, 4, 5] rfl) (by first | rfl | (simp [c_3, c_5, c_18, c_19]; done) | (rw [if_pos (by omega)]; done) | (rw [if_neg (by omega)]; done) | (exfalso; omega) | ((repeat' split) <;> first | rfl | contradiction | (exfalso; omega))))
                · refine lv_aload_n C.x C.b dX5_play_108 rfl (lv_at hl 3 rfl) ?_
                  refine x_get C hW 1 4 2 (Cn := RX5) (T := TX5) (N := 9) rfl rfl (by decide) hinX5 hf17 rfl dX5_play_109 ?_
                  refine lv_iload C.x C.b dX5_play_112 (lv_at hl 0 rfl) ?_
                  refine x_ald C hW 4 i rfl rfl (by omega) (by decide) dX5_play_114 ?_
                  refine lv_iconst (v := nI 1) C.x C.b dX5_play_115 (by decide) ?_
                  refine x_isub C (by omega) dX5_play_116 ?_
                  refine lv_goto (tgt := 121) C.x C.b dX5_play_117 (by decide) ?_
                  refine x_ast C hW 4 i (((awW aw b i) i) - 1) rfl rfl rfl (by omega) (by decide) dX5_play_121 (w' := ([(o_1, bI E 9 (mB (roN g b z))), (h0, .inr (4, [.ref o_1, .ref k2, .ref k3, .int (nI sp), .int (nI pl), .int (nI tu), .int (nI fr), .int (nI nf), .ref k4])), (k1, bI E 9 (mB g)), (k2, aI E 9 (rwW (feN g b z) w 9)), (k3, aI E 5 (upN (awW aw b i) i (((awW aw b i) i) - 1))), (k4, qI E n (fun k => some (ra k)))] ++ plR E n ra rv)) rfl (fun H locs hW => ?_)
                  refine lv_iinc (k := 0) (v := nI (i + 1)) (lv' := [(5, .int (nI (i + 1))), (4, .int (nI (pcN (feN g b z)))), (3, .ref o_1), (0, .ref h0), (1, .int (nI b)), (2, .int (nI z))]) C.x C.b dX5_play_122 hl rfl (z_inc i 1) (by decide) rfl (fun ls hl => ?_)
                  refine lv_goto (tgt := 76) C.x C.b dX5_play_125 (by decide) ?_
                  exact ih4 (i + 1) (by omega) (by omega)  _ _ _ (hW.to (by first | (rw [show awW aw b (i + 1) = upN (awW aw b i) i (2) from by simp only [awW]; rw [show (if i = b then 2 else aw i - 1) = 2 from by split <;> omega]]; done) | (rw [show awW aw b (i + 1) = upN (awW aw b i) i (awW aw b i i - 1) from by simp only [awW]; rw [show (if i = b then 2 else aw i - 1) = awW aw b i i - 1 from by split <;> omega]]; done) | (rw [show awW aw b (i + 1) = upN (awW aw b i) i (0) from by simp only [awW]; rw [show (if i = b then 2 else aw i - 1) = 0 from by split <;> omega]]; done))) (lv_to (lv_sub (l' := [(5, .int (nI (i + 1))), (4, .int (nI (pcN (feN g b z)))), (3, .ref o_1), (0, .ref h0), (1, .int (nI b)), (2, .int (nI z))]) hl [0, 1, 2, 3, 4, 5] rfl) (by first | rfl | (simp [c_3, c_5, c_18, c_19]; done) | (rw [if_pos (by omega)]; done) | (rw [if_neg (by omega)]; done) | (exfalso; omega) | ((repeat' split) <;> first | rfl | contradiction | (exfalso; omega))))
              · refine lv_iconst (v := nI 2) C.x C.b dX5_play_94 (by decide) ?_
                refine lv_goto (tgt := 121) C.x C.b dX5_play_95 (by decide) ?_
                refine x_ast C hW 4 i 2 rfl rfl rfl (by omega) (by decide) dX5_play_121 (w' := ([(o_1, bI E 9 (mB (roN g b z))), (h0, .inr (4, [.ref o_1, .ref k2, .ref k3, .int (nI sp), .int (nI pl), .int (nI tu), .int (nI fr), .int (nI nf), .ref k4])), (k1, bI E 9 (mB g)), (k2, aI E 9 (rwW (feN g b z) w 9)), (k3, aI E 5 (upN (awW aw b i) i 2)), (k4, qI E n (fun k => some (ra k)))] ++ plR E n ra rv)) rfl (fun H locs hW => ?_)
                refine lv_iinc (k := 0) (v := nI (i + 1)) (lv' := [(5, .int (nI (i + 1))), (4, .int (nI (pcN (feN g b z)))), (3, .ref o_1), (0, .ref h0), (1, .int (nI b)), (2, .int (nI z))]) C.x C.b dX5_play_122 hl rfl (z_inc i 1) (by decide) rfl (fun ls hl => ?_)
                refine lv_goto (tgt := 76) C.x C.b dX5_play_125 (by decide) ?_
                exact ih4 (i + 1) (by omega) (by omega)  _ _ _ (hW.to (by first | (rw [show awW aw b (i + 1) = upN (awW aw b i) i (2) from by simp only [awW]; rw [show (if i = b then 2 else aw i - 1) = 2 from by split <;> omega]]; done) | (rw [show awW aw b (i + 1) = upN (awW aw b i) i (awW aw b i i - 1) from by simp only [awW]; rw [show (if i = b then 2 else aw i - 1) = awW aw b i i - 1 from by split <;> omega]]; done) | (rw [show awW aw b (i + 1) = upN (awW aw b i) i (0) from by simp only [awW]; rw [show (if i = b then 2 else aw i - 1) = 0 from by split <;> omega]]; done))) (lv_to (lv_sub (l' := [(5, .int (nI (i + 1))), (4, .int (nI (pcN (feN g b z)))), (3, .ref o_1), (0, .ref h0), (1, .int (nI b)), (2, .int (nI z))]) hl [0, 1, 2, 3, 4, 5] rfl) (by first | rfl | (simp [c_3, c_5, c_18]; done) | (rw [if_pos (by omega)]; done) | (rw [if_neg (by omega)]; done) | (exfalso; omega) | ((repeat' split) <;> first | rfl | contradiction | (exfalso; omega))))
        exact lp_4 (5 + 1) 0 (by omega) (by omega)  _ _ _ (hW.to rfl) (lv_to (lv_sub (l' := [(5, .int (nI 0)), (4, .int (nI (pcN (feN g b z)))), (3, .ref o_1), (0, .ref h0), (1, .int (nI b)), (2, .int (nI z))]) hl [0, 1, 2, 3, 4, 5] rfl) rfl)
      · refine lv_aload_n C.x C.b dX5_play_34 rfl (lv_at hl 3 rfl) ?_
        refine x_get C hW 1 4 0 (Cn := RX5) (T := TX5) (N := 9) rfl rfl (by decide) hinX5 hf7 rfl dX5_play_35 ?_
        refine lv_iload C.x C.b dX5_play_38 (lv_at hl 0 rfl) ?_
        refine x_zld C hW 2 i rfl rfl (by omega) (by decide) dX5_play_40 ?_
        refine x_if_eq C (by have := mB_lt g i; omega) (tgt := 62) dX5_play_41 (by decide) (fun c_20 => ?_) (fun c_20 => ?_)
        · refine lv_iinc (k := 0) (v := nI (i + 1)) (lv' := [(5, .int (nI (i + 1))), (4, .int (nI (pcN (feN g b z)))), (3, .ref o_1), (0, .ref h0), (1, .int (nI b)), (2, .int (nI z))]) C.x C.b dX5_play_62 hl rfl (z_inc i 1) (by decide) rfl (fun ls hl => ?_)
          refine lv_goto (tgt := 27) C.x C.b dX5_play_65 (by decide) ?_
          exact ih2 (i + 1) (by omega) (by omega)  _ _ _ (hW.to (by first | (rw [rw_yes (i := i) (by have h8 := mB_fr (b := b) (z := z) hg i; have h7 := mB_01 g i; omega)]; done) | (rw [rw_no (i := i) (by have h8 := mB_fr (b := b) (z := z) hg i; have h7 := mB_01 g i; have h6 := mB_01 (roN g b z) i; omega)]; done))) (lv_to (lv_sub (l' := [(5, .int (nI (i + 1))), (4, .int (nI (pcN (feN g b z)))), (3, .ref o_1), (0, .ref h0), (1, .int (nI b)), (2, .int (nI z))]) hl [0, 1, 2, 3, 4, 5] rfl) (by first | rfl | (simp [c_3, c_20]; done) | (rw [if_pos (by omega)]; done) | (rw [if_neg (by omega)]; done) | (exfalso; omega) | ((repeat' split) <;> first | rfl | contradiction | (exfalso; omega))))
        · refine lv_aload_n C.x C.b dX5_play_44 rfl (lv_at hl 2 rfl) ?_
          refine lv_iload C.x C.b dX5_play_45 (lv_at hl 0 rfl) ?_
          refine x_zld C hW 0 i rfl rfl (by omega) (by decide) dX5_play_47 ?_
          refine x_if_ne C (by have := mB_lt (roN g b z) i; omega) (tgt := 62) dX5_play_48 (by decide) (fun c_21 => ?_) (fun c_21 => ?_)
          · refine lv_iinc (k := 0) (v := nI (i + 1)) (lv' := [(5, .int (nI (i + 1))), (4, .int (nI (pcN (feN g b z)))), (3, .ref o_1), (0, .ref h0), (1, .int (nI b)), (2, .int (nI z))]) C.x C.b dX5_play_62 hl rfl (z_inc i 1) (by decide) rfl (fun ls hl => ?_)
            refine lv_goto (tgt := 27) C.x C.b dX5_play_65 (by decide) ?_
            exact ih2 (i + 1) (by omega) (by omega)  _ _ _ (hW.to (by first | (rw [rw_yes (i := i) (by have h8 := mB_fr (b := b) (z := z) hg i; have h7 := mB_01 g i; omega)]; done) | (rw [rw_no (i := i) (by have h8 := mB_fr (b := b) (z := z) hg i; have h7 := mB_01 g i; have h6 := mB_01 (roN g b z) i; omega)]; done))) (lv_to (lv_sub (l' := [(5, .int (nI (i + 1))), (4, .int (nI (pcN (feN g b z)))), (3, .ref o_1), (0, .ref h0), (1, .int (nI b)), (2, .int (nI z))]) hl [0, 1, 2, 3, 4, 5] rfl) (by first | rfl | (simp [c_3, c_20, c_21]; done) | (rw [if_pos (by omega)]; done) | (rw [if_neg (by omega)]; done) | (exfalso; omega) | ((repeat' split) <;> first | rfl | contradiction | (exfalso; omega))))
          · refine lv_aload_n C.x C.b dX5_play_51 rfl (lv_at hl 3 rfl) ?_
            refine x_get C hW 1 4 1 (Cn := RX5) (T := TX5) (N := 9) rfl rfl (by decide) hinX5 hf13 rfl dX5_play_52 ?_
            refine lv_iload C.x C.b dX5_play_55 (lv_at hl 0 rfl) ?_
            refine lv_dup2_11 C.x C.b dX5_play_57 rfl rfl ?_
            refine x_ald C hW 3 i rfl rfl (by omega) (by decide) dX5_play_58 ?_
            refine lv_iconst (v := nI 1) C.x C.b dX5_play_59 (by decide) ?_
            refine x_iadd C dX5_play_60 ?_
            refine x_ast C hW 3 i (((rwW (feN g b z) w i) i) + 1) rfl rfl rfl (by omega) (by decide) dX5_play_61 (w' := ([(o_1, bI E 9 (mB (roN g b z))), (h0, .inr (4, [.ref k1, .ref k2, .ref k3, .int (nI sp), .int (nI pl), .int (nI tu), .int (nI fr), .int (nI nf), .ref k4])), (k1, bI E 9 (mB g)), (k2, aI E 9 (upN (rwW (feN g b z) w i) i (((rwW (feN g b z) w i) i) + 1))), (k3, aI E 5 aw), (k4, qI E n (fun k => some (ra k)))] ++ plR E n ra rv)) rfl (fun H locs hW => ?_)
            refine lv_iinc (k := 0) (v := nI (i + 1)) (lv' := [(5, .int (nI (i + 1))), (4, .int (nI (pcN (feN g b z)))), (3, .ref o_1), (0, .ref h0), (1, .int (nI b)), (2, .int (nI z))]) C.x C.b dX5_play_62 hl rfl (z_inc i 1) (by decide) rfl (fun ls hl => ?_)
            refine lv_goto (tgt := 27) C.x C.b dX5_play_65 (by decide) ?_
            exact ih2 (i + 1) (by omega) (by omega)  _ _ _ (hW.to (by first | (rw [rw_yes (i := i) (by have h8 := mB_fr (b := b) (z := z) hg i; have h7 := mB_01 g i; omega)]; done) | (rw [rw_no (i := i) (by have h8 := mB_fr (b := b) (z := z) hg i; have h7 := mB_01 g i; have h6 := mB_01 (roN g b z) i; omega)]; done))) (lv_to (lv_sub (l' := [(5, .int (nI (i + 1))), (4, .int (nI (pcN (feN g b z)))), (3, .ref o_1), (0, .ref h0), (1, .int (nI b)), (2, .int (nI z))]) hl [0, 1, 2, 3, 4, 5] rfl) (by first | rfl | (simp [c_3, c_20, c_21]; done) | (rw [if_pos (by omega)]; done) | (rw [if_neg (by omega)]; done) | (exfalso; omega) | ((repeat' split) <;> first | rfl | contradiction | (exfalso; omega))))
  exact lp_2 (9 + 1) 0 (by omega) (by omega)  _ _ _ (hW.to rfl) (lv_to (lv_sub (l' := [(5, .int (nI 0)), (4, .int (nI (pcN (feN g b z)))), (3, .ref o_1), (0, .ref h0), (1, .int (nI b)), (2, .int (nI z))]) hl [0, 1, 2, 3, 4, 5] rfl) rfl)
