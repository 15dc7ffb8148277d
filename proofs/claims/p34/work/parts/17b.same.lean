/-! BOTH SIDES AT THE END -/
set_option maxHeartbeats 4000000 in
set_option maxRecDepth 100000 in
theorem met_X5_isSame (l : Launch) (E : EV) (h0 k1 k2 k3 k4 : Nat) (sp pl tu fr nf : Nat) (g : Nat) (w aw : Nat → Nat) (n : Nat) (ra : Nat → Nat) (rv : Nat → Nat → Nat) (c0 a1 a2 a3 a4 a5 : Nat) (qs qa qb qc qd : Nat → Nat) (pt ft ti bt : Nat → Nat → Nat) (th : Nat → Nat) (hnn : n ≤ 120) (hsp : sp ≤ 20000) (hI : Iv pl tu fr nf g n rv w aw pt ft ti bt th) : MIa l yX5_isSame wsX5_isSame { frames := 4, cells := 200, slots := 600, locals := 91 } E [.ref h0, .ref c0] (([(h0, .inr (4, [.ref k1, .ref k2, .ref k3, .int (nI sp), .int (nI pl), .int (nI tu), .int (nI fr), .int (nI nf), .ref k4])), (k1, bI E 9 (mB g)), (k2, aI E 9 w), (k3, aI E 5 aw), (k4, qI E n (fun k => some (ra k)))] ++ CW E c0 a1 a2 a3 a4 a5 qs qa qb qc qd pl tu fr nf g sp w aw pt ft ti bt th) ++ plR E n ra rv) 200 600 (nI 1) (([(h0, .inr (4, [.ref k1, .ref k2, .ref k3, .int (nI sp), .int (nI pl), .int (nI tu), .int (nI fr), .int (nI nf), .ref k4])), (k1, bI E 9 (mB g)), (k2, aI E 9 w), (k3, aI E 5 aw), (k4, qI E n (fun k => some (ra k)))] ++ CW E c0 a1 a2 a3 a4 a5 qs qa qb qc qd pl tu fr nf g sp w aw pt ft ti bt th) ++ plR E n ra rv) := by
  refine sIa (own := RX5) (cc := cX5_isSame) (maxL := 14) (ret := (some .boolean)) rfl (by decide) rfl (Nat.le_of_ble_eq_true rfl) ?_
  intro p e s m below meth c C hnm ls hl hW
  have hl : lv_has ls 14 [(0, .ref h0), (1, .ref c0)] := hl
  have hW : WD E _ s (([(h0, .inr (4, [.ref k1, .ref k2, .ref k3, .int (nI sp), .int (nI pl), .int (nI tu), .int (nI fr), .int (nI nf), .ref k4])), (k1, bI E 9 (mB g)), (k2, aI E 9 w), (k3, aI E 5 aw), (k4, qI E n (fun k => some (ra k)))] ++ CW E c0 a1 a2 a3 a4 a5 qs qa qb qc qd pl tu fr nf g sp w aw pt ft ti bt th) ++ plR E n ra rv) s.heap [] := hW
  have hinX5 : ∀ w ∈ u_ws RX5 TX5 9, w ∈ wsX5_isSame := by decide +kernel
  have hf7 : Cond.fieldLink RX5 7 (TX5 0).1 (TX5 0).2.1 (TX5 0).2.2.1 ∈ wsX5_isSame := by decide +kernel
  have hf13 : Cond.fieldLink RX5 13 (TX5 1).1 (TX5 1).2.1 (TX5 1).2.2.1 ∈ wsX5_isSame := by decide +kernel
  have hf17 : Cond.fieldLink RX5 17 (TX5 2).1 (TX5 2).2.1 (TX5 2).2.2.1 ∈ wsX5_isSame := by decide +kernel
  have hf20 : Cond.fieldLink RX5 20 (TX5 3).1 (TX5 3).2.1 (TX5 3).2.2.1 ∈ wsX5_isSame := by decide +kernel
  have hf53 : Cond.fieldLink RX5 53 (TX5 4).1 (TX5 4).2.1 (TX5 4).2.2.1 ∈ wsX5_isSame := by decide +kernel
  have hf71 : Cond.fieldLink RX5 71 (TX5 5).1 (TX5 5).2.1 (TX5 5).2.2.1 ∈ wsX5_isSame := by decide +kernel
  have hf50 : Cond.fieldLink RX5 50 (TX5 6).1 (TX5 6).2.1 (TX5 6).2.2.1 ∈ wsX5_isSame := by decide +kernel
  have hf68 : Cond.fieldLink RX5 68 (TX5 7).1 (TX5 7).2.1 (TX5 7).2.2.1 ∈ wsX5_isSame := by decide +kernel
  have hf25 : Cond.fieldLink RX5 25 (TX5 8).1 (TX5 8).2.1 (TX5 8).2.2.1 ∈ wsX5_isSame := by decide +kernel
  have hp1 := hI.hp1
  have hpl := hI.hpl
  have hfr := hI.hfr
  have htp := hI.htp
  have htu : tu < 4 := by omega
  have hnf := hI.hnf
  have hg := hI.hg
  have hw := hI.hw
  have ha := hI.ha
  have hpt := hI.hpt
  have hft := hI.hft
  have hti := hI.hti
  have hbt := hI.hbt
  have hth := hI.hth
  have hrv := hI.hrv
  refine lv_iconst (v := nI 0) C.x C.b dX5_isSame_0 (by decide) ?_
  refine lv_istore_n (lv' := [(2, .int (nI 0)), (0, .ref h0), (1, .ref c0)]) C.x C.b dX5_isSame_1 rfl hl (by decide) rfl (fun ls hl => ?_)
  refine lv_iconst (v := (-1)) C.x C.b dX5_isSame_2 (by decide) ?_
  refine lv_istore_n (lv' := [(3, .int ((-1 : Int32))), (2, .int (nI 0)), (0, .ref h0), (1, .ref c0)]) C.x C.b dX5_isSame_3 rfl hl (by decide) rfl (fun ls hl => ?_)
  refine lv_iconst (v := nI 0) C.x C.b dX5_isSame_4 (by decide) ?_
  refine lv_istore (lv' := [(4, .int (nI 0)), (3, .int ((-1 : Int32))), (2, .int (nI 0)), (0, .ref h0), (1, .ref c0)]) C.x C.b dX5_isSame_5 hl (by decide) rfl (fun ls hl => ?_)
  refine lv_bipush (v := nI 8) C.x C.b dX5_isSame_7 (by decide) ?_
  refine lv_istore (lv' := [(5, .int (nI 8)), (4, .int (nI 0)), (3, .int ((-1 : Int32))), (2, .int (nI 0)), (0, .ref h0), (1, .ref c0)]) C.x C.b dX5_isSame_9 hl (by decide) rfl (fun ls hl => ?_)
  have lp_1 : ∀ (n1 k : Nat), k ≤ 9 → 9 + 1 ≤ k + n1 → ∀ (H : Heap) (locs : List Loc) (ls : Array Slot), WD E (va_A (([(h0, .inr (4, [.ref k1, .ref k2, .ref k3, .int (nI sp), .int (nI pl), .int (nI tu), .int (nI fr), .int (nI nf), .ref k4])), (k1, bI E 9 (mB g)), (k2, aI E 9 w), (k3, aI E 5 aw), (k4, qI E n (fun k => some (ra k)))] ++ CW E c0 a1 a2 a3 a4 a5 qs qa qb qc qd pl tu fr nf g sp w aw pt ft ti bt th) ++ plR E n ra rv) s.heap.size) s (([(h0, .inr (4, [.ref k1, .ref k2, .ref k3, .int (nI sp), .int (nI pl), .int (nI tu), .int (nI fr), .int (nI nf), .ref k4])), (k1, bI E 9 (mB g)), (k2, aI E 9 w), (k3, aI E 5 aw), (k4, qI E n (fun k => some (ra k)))] ++ CW E c0 a1 a2 a3 a4 a5 qs qa qb qc qd pl tu fr nf g sp w aw pt ft ti bt th) ++ plR E n ra rv) H locs → lv_has ls 14 [(5, .int (dnI 9 k)), (4, .int (nI (smD (b11 g w) k))), (3, .int (pinV (woD w k))), (2, .int (nI (smD (b12 w) k))), (0, .ref h0), (1, .ref c0)] → W p l e ({ frames := 4, cells := 200, slots := 600, locals := 91 } : Room) s m ([.ref h0, .ref c0] : List Value).toArray below meth c H locs 0 0 (QIa E (([(h0, .inr (4, [.ref k1, .ref k2, .ref k3, .int (nI sp), .int (nI pl), .int (nI tu), .int (nI fr), .int (nI nf), .ref k4])), (k1, bI E 9 (mB g)), (k2, aI E 9 w), (k3, aI E 5 aw), (k4, qI E n (fun k => some (ra k)))] ++ CW E c0 a1 a2 a3 a4 a5 qs qa qb qc qd pl tu fr nf g sp w aw pt ft ti bt th) ++ plR E n ra rv) 200 600 (nI 1) (([(h0, .inr (4, [.ref k1, .ref k2, .ref k3, .int (nI sp), .int (nI pl), .int (nI tu), .int (nI fr), .int (nI nf), .ref k4])), (k1, bI E 9 (mB g)), (k2, aI E 9 w), (k3, aI E 5 aw), (k4, qI E n (fun k => some (ra k)))] ++ CW E c0 a1 a2 a3 a4 a5 qs qa qb qc qd pl tu fr nf g sp w aw pt ft ti bt th) ++ plR E n ra rv) below ([.ref h0, .ref c0] : List Value).toArray s) (F0 m 11 ls []) := by
    intro n1
    induction n1 with
    | zero => intro k hk hn; exact absurd hn (by omega)
    | succ n1 ih1 =>
      intro k hk hn  H locs ls hW hl
      have h6 := mB_lt g (8 - k)
      have h9 := hw (8 - k)
      refine lv_iload C.x C.b dX5_isSame_11 (lv_at hl 0 rfl) ?_
      by_cases hk : k < 9
      · rw [show dnI 9 k = nI (8 - k) from if_pos hk] at hl ⊢
        refine x_if_lt C (by omega) (tgt := 181) dX5_isSame_13 (by decide) (fun c_2 => ?_) (fun c_2 => ?_)
        · exact absurd c_2 (by omega)
        · refine lv_aload_n C.x C.b dX5_isSame_16 rfl (lv_at hl 5 rfl) ?_
          refine lv_iload C.x C.b dX5_isSame_17 (lv_at hl 0 rfl) ?_
          refine x_rVI C hW (As := [.int (nI (8 - k))]) (rest := []) (Cn := RX4) (met_X4_isStanding_ok l E c0 a1 a3 a5 pl tu fr nf a2 g sp w (8 - k) (by omega) hg) gX5_isSame_X4_isStanding rfl 1 rfl ⟨rfl, rfl⟩ ⟨rfl, by decide +kernel, by decide +kernel, by decide +kernel⟩ ⟨Nat.le_of_ble_eq_true rfl, Nat.le_of_ble_eq_true rfl⟩ [5, 6, 7] rfl (by decide) 5 3 rfl rfl hl.1 rfl (Nat.le_of_ble_eq_true rfl) dX5_isSame_19 ⟨by show _ ≤ 200; omega, by show _ ≤ 600; omega⟩ (fun H locs hW => ?_)
          refine lv_aload_n C.x C.b dX5_isSame_22 rfl (lv_at hl 4 rfl) ?_
          refine x_get C hW 0 4 0 (Cn := RX5) (T := TX5) (N := 9) rfl rfl (by decide) hinX5 hf7 rfl dX5_isSame_23 ?_
          refine lv_iload C.x C.b dX5_isSame_26 (lv_at hl 0 rfl) ?_
          refine x_zld C hW 1 (8 - k) rfl rfl (by omega) (by decide) dX5_isSame_28 ?_
          refine x_icmp_ne C (z_ite_lt _) (by omega) (tgt := 74) dX5_isSame_29 (by decide) (fun c_3 => ?_) (fun c_3 => ?_)
          · exact absurd (mB_if _ _) c_3
          · refine lv_aload_n C.x C.b dX5_isSame_32 rfl (lv_at hl 5 rfl) ?_
            refine lv_iload C.x C.b dX5_isSame_33 (lv_at hl 0 rfl) ?_
            refine x_rVI C hW (As := [.int (nI (8 - k))]) (rest := []) (Cn := RX4) (met_X4_wearOf_ok l E c0 a1 a3 a5 pl tu fr nf a2 g sp w (8 - k) (by omega)) gX5_isSame_X4_wearOf rfl 1 rfl ⟨rfl, rfl⟩ ⟨rfl, by decide +kernel, by decide +kernel, by decide +kernel⟩ ⟨Nat.le_of_ble_eq_true rfl, Nat.le_of_ble_eq_true rfl⟩ [5, 6, 7] rfl (by decide) 5 3 rfl rfl hl.1 rfl (Nat.le_of_ble_eq_true rfl) dX5_isSame_35 ⟨by show _ ≤ 200; omega, by show _ ≤ 600; omega⟩ (fun H locs hW => ?_)
            refine lv_aload_n C.x C.b dX5_isSame_38 rfl (lv_at hl 4 rfl) ?_
            refine x_get C hW 0 4 1 (Cn := RX5) (T := TX5) (N := 9) rfl rfl (by decide) hinX5 hf13 rfl dX5_isSame_39 ?_
            refine lv_iload C.x C.b dX5_isSame_42 (lv_at hl 0 rfl) ?_
            refine x_ald C hW 2 (8 - k) rfl rfl (by omega) (by decide) dX5_isSame_44 ?_
            refine x_icmp_ne C (by have := hw (8 - k); omega) (by have := hw (8 - k); omega) (tgt := 74) dX5_isSame_45 (by decide) (fun c_4 => ?_) (fun c_4 => ?_)
            · exact absurd rfl c_4
            · refine lv_aload_n C.x C.b dX5_isSame_48 rfl (lv_at hl 5 rfl) ?_
              refine lv_iload C.x C.b dX5_isSame_49 (lv_at hl 0 rfl) ?_
              refine x_rVI C hW (As := [.int (nI (8 - k))]) (rest := []) (Cn := RX4) (met_X4_isBroken_ok l E c0 a1 a3 a5 pl tu fr nf a2 g sp w (8 - k) (by omega) hw) gX5_isSame_X4_isBroken rfl 1 rfl ⟨rfl, rfl⟩ ⟨rfl, by decide +kernel, by decide +kernel, by decide +kernel⟩ ⟨Nat.le_of_ble_eq_true rfl, Nat.le_of_ble_eq_true rfl⟩ [5, 6, 7] rfl (by decide) 5 3 rfl rfl hl.1 rfl (Nat.le_of_ble_eq_true rfl) dX5_isSame_51 ⟨by show _ ≤ 200; omega, by show _ ≤ 600; omega⟩ (fun H locs hW => ?_)
              have jn_5 : ∀ (H : Heap) (locs : List Loc) (ls : Array Slot), WD E (va_A (([(h0, .inr (4, [.ref k1, .ref k2, .ref k3, .int (nI sp), .int (nI pl), .int (nI tu), .int (nI fr), .int (nI nf), .ref k4])), (k1, bI E 9 (mB g)), (k2, aI E 9 w), (k3, aI E 5 aw), (k4, qI E n (fun k => some (ra k)))] ++ CW E c0 a1 a2 a3 a4 a5 qs qa qb qc qd pl tu fr nf g sp w aw pt ft ti bt th) ++ plR E n ra rv) s.heap.size) s (([(h0, .inr (4, [.ref k1, .ref k2, .ref k3, .int (nI sp), .int (nI pl), .int (nI tu), .int (nI fr), .int (nI nf), .ref k4])), (k1, bI E 9 (mB g)), (k2, aI E 9 w), (k3, aI E 5 aw), (k4, qI E n (fun k => some (ra k)))] ++ CW E c0 a1 a2 a3 a4 a5 qs qa qb qc qd pl tu fr nf g sp w aw pt ft ti bt th) ++ plR E n ra rv) H locs → lv_has ls 14 [(5, .int (nI (8 - k))), (4, .int (nI (smD (b11 g w) k))), (3, .int (pinV (woD w k))), (2, .int (nI (smD (b12 w) k))), (0, .ref h0), (1, .ref c0)] → W p l e ({ frames := 4, cells := 200, slots := 600, locals := 91 } : Room) s m ([.ref h0, .ref c0] : List Value).toArray below meth c H locs 0 0 (QIa E (([(h0, .inr (4, [.ref k1, .ref k2, .ref k3, .int (nI sp), .int (nI pl), .int (nI tu), .int (nI fr), .int (nI nf), .ref k4])), (k1, bI E 9 (mB g)), (k2, aI E 9 w), (k3, aI E 5 aw), (k4, qI E n (fun k => some (ra k)))] ++ CW E c0 a1 a2 a3 a4 a5 qs qa qb qc qd pl tu fr nf g sp w aw pt ft ti bt th) ++ plR E n ra rv) 200 600 (nI 1) (([(h0, .inr (4, [.ref k1, .ref k2, .ref k3, .int (nI sp), .int (nI pl), .int (nI tu), .int (nI fr), .int (nI nf), .ref k4])), (k1, bI E 9 (mB g)), (k2, aI E 9 w), (k3, aI E 5 aw), (k4, qI E n (fun k => some (ra k)))] ++ CW E c0 a1 a2 a3 a4 a5 qs qa qb qc qd pl tu fr nf g sp w aw pt ft ti bt th) ++ plR E n ra rv) below ([.ref h0, .ref c0] : List Value).toArray s) (F0 m 71 ls [.int (nI (b12 w (8 - k))), .int (nI (if 12 ≤ w (8 - k) then 1 else 0))]) := by
                intro  H locs ls hW hl
                refine x_icmp_eq C (z_ite_lt _) (by have := b12_le w (8 - k); omega) (tgt := 76) dX5_isSame_71 (by decide) (fun c_6 => ?_) (fun c_6 => ?_)
                · refine lv_iload_n C.x C.b dX5_isSame_76 rfl (lv_at hl 3 rfl) ?_
                  have jn_7 : ∀ (H : Heap) (locs : List Loc) (ls : Array Slot), WD E (va_A (([(h0, .inr (4, [.ref k1, .ref k2, .ref k3, .int (nI sp), .int (nI pl), .int (nI tu), .int (nI fr), .int (nI nf), .ref k4])), (k1, bI E 9 (mB g)), (k2, aI E 9 w), (k3, aI E 5 aw), (k4, qI E n (fun k => some (ra k)))] ++ CW E c0 a1 a2 a3 a4 a5 qs qa qb qc qd pl tu fr nf g sp w aw pt ft ti bt th) ++ plR E n ra rv) s.heap.size) s (([(h0, .inr (4, [.ref k1, .ref k2, .ref k3, .int (nI sp), .int (nI pl), .int (nI tu), .int (nI fr), .int (nI nf), .ref k4])), (k1, bI E 9 (mB g)), (k2, aI E 9 w), (k3, aI E 5 aw), (k4, qI E n (fun k => some (ra k)))] ++ CW E c0 a1 a2 a3 a4 a5 qs qa qb qc qd pl tu fr nf g sp w aw pt ft ti bt th) ++ plR E n ra rv) H locs → lv_has ls 14 [(5, .int (nI (8 - k))), (4, .int (nI (smD (b11 g w) k))), (3, .int (pinV (woD w k))), (2, .int (nI (smD (b12 w) k))), (0, .ref h0), (1, .ref c0)] → W p l e ({ frames := 4, cells := 200, slots := 600, locals := 91 } : Room) s m ([.ref h0, .ref c0] : List Value).toArray below meth c H locs 0 0 (QIa E (([(h0, .inr (4, [.ref k1, .ref k2, .ref k3, .int (nI sp), .int (nI pl), .int (nI tu), .int (nI fr), .int (nI nf), .ref k4])), (k1, bI E 9 (mB g)), (k2, aI E 9 w), (k3, aI E 5 aw), (k4, qI E n (fun k => some (ra k)))] ++ CW E c0 a1 a2 a3 a4 a5 qs qa qb qc qd pl tu fr nf g sp w aw pt ft ti bt th) ++ plR E n ra rv) 200 600 (nI 1) (([(h0, .inr (4, [.ref k1, .ref k2, .ref k3, .int (nI sp), .int (nI pl), .int (nI tu), .int (nI fr), .int (nI nf), .ref k4])), (k1, bI E 9 (mB g)), (k2, aI E 9 w), (k3, aI E 5 aw), (k4, qI E n (fun k => some (ra k)))] ++ CW E c0 a1 a2 a3 a4 a5 qs qa qb qc qd pl tu fr nf g sp w aw pt ft ti bt th) ++ plR E n ra rv) below ([.ref h0, .ref c0] : List Value).toArray s) (F0 m 94 ls [.int (nI (b12 w (8 - k))), .int (nI (smD (b12 w) k))]) := by
                    intro  H locs ls hW hl
                    refine x_iadd C dX5_isSame_94 ?_
                    refine lv_istore_n (lv' := [(2, .int (nI ((smD (b12 w) k) + (b12 w (8 - k))))), (5, .int (nI (8 - k))), (4, .int (nI (smD (b11 g w) k))), (3, .int (pinV (woD w k))), (0, .ref h0), (1, .ref c0)]) C.x C.b dX5_isSame_95 rfl hl (by decide) rfl (fun ls hl => ?_)
                    refine lv_iload C.x C.b dX5_isSame_96 (lv_at hl 2 rfl) ?_
                    have jn_8 : ∀ (H : Heap) (locs : List Loc) (ls : Array Slot), WD E (va_A (([(h0, .inr (4, [.ref k1, .ref k2, .ref k3, .int (nI sp), .int (nI pl), .int (nI tu), .int (nI fr), .int (nI nf), .ref k4])), (k1, bI E 9 (mB g)), (k2, aI E 9 w), (k3, aI E 5 aw), (k4, qI E n (fun k => some (ra k)))] ++ CW E c0 a1 a2 a3 a4 a5 qs qa qb qc qd pl tu fr nf g sp w aw pt ft ti bt th) ++ plR E n ra rv) s.heap.size) s (([(h0, .inr (4, [.ref k1, .ref k2, .ref k3, .int (nI sp), .int (nI pl), .int (nI tu), .int (nI fr), .int (nI nf), .ref k4])), (k1, bI E 9 (mB g)), (k2, aI E 9 w), (k3, aI E 5 aw), (k4, qI E n (fun k => some (ra k)))] ++ CW E c0 a1 a2 a3 a4 a5 qs qa qb qc qd pl tu fr nf g sp w aw pt ft ti bt th) ++ plR E n ra rv) H locs → lv_has ls 14 [(2, .int (nI ((smD (b12 w) k) + (b12 w (8 - k))))), (5, .int (nI (8 - k))), (4, .int (nI (smD (b11 g w) k))), (3, .int (pinV (woD w k))), (0, .ref h0), (1, .ref c0)] → W p l e ({ frames := 4, cells := 200, slots := 600, locals := 91 } : Room) s m ([.ref h0, .ref c0] : List Value).toArray below meth c H locs 0 0 (QIa E (([(h0, .inr (4, [.ref k1, .ref k2, .ref k3, .int (nI sp), .int (nI pl), .int (nI tu), .int (nI fr), .int (nI nf), .ref k4])), (k1, bI E 9 (mB g)), (k2, aI E 9 w), (k3, aI E 5 aw), (k4, qI E n (fun k => some (ra k)))] ++ CW E c0 a1 a2 a3 a4 a5 qs qa qb qc qd pl tu fr nf g sp w aw pt ft ti bt th) ++ plR E n ra rv) 200 600 (nI 1) (([(h0, .inr (4, [.ref k1, .ref k2, .ref k3, .int (nI sp), .int (nI pl), .int (nI tu), .int (nI fr), .int (nI nf), .ref k4])), (k1, bI E 9 (mB g)), (k2, aI E 9 w), (k3, aI E 5 aw), (k4, qI E n (fun k => some (ra k)))] ++ CW E c0 a1 a2 a3 a4 a5 qs qa qb qc qd pl tu fr nf g sp w aw pt ft ti bt th) ++ plR E n ra rv) below ([.ref h0, .ref c0] : List Value).toArray s) (F0 m 137 ls [.int (nI (b11 g w (8 - k))), .int (nI (smD (b11 g w) k))]) := by
                      intro  H locs ls hW hl
                      refine x_iadd C dX5_isSame_137 ?_
                      refine lv_istore (lv' := [(4, .int (nI ((smD (b11 g w) k) + (b11 g w (8 - k))))), (2, .int (nI ((smD (b12 w) k) + (b12 w (8 - k))))), (5, .int (nI (8 - k))), (3, .int (pinV (woD w k))), (0, .ref h0), (1, .ref c0)]) C.x C.b dX5_isSame_138 hl (by decide) rfl (fun ls hl => ?_)
                      have jn_9 : ∀ (H : Heap) (locs : List Loc) (ls : Array Slot), WD E (va_A (([(h0, .inr (4, [.ref k1, .ref k2, .ref k3, .int (nI sp), .int (nI pl), .int (nI tu), .int (nI fr), .int (nI nf), .ref k4])), (k1, bI E 9 (mB g)), (k2, aI E 9 w), (k3, aI E 5 aw), (k4, qI E n (fun k => some (ra k)))] ++ CW E c0 a1 a2 a3 a4 a5 qs qa qb qc qd pl tu fr nf g sp w aw pt ft ti bt th) ++ plR E n ra rv) s.heap.size) s (([(h0, .inr (4, [.ref k1, .ref k2, .ref k3, .int (nI sp), .int (nI pl), .int (nI tu), .int (nI fr), .int (nI nf), .ref k4])), (k1, bI E 9 (mB g)), (k2, aI E 9 w), (k3, aI E 5 aw), (k4, qI E n (fun k => some (ra k)))] ++ CW E c0 a1 a2 a3 a4 a5 qs qa qb qc qd pl tu fr nf g sp w aw pt ft ti bt th) ++ plR E n ra rv) H locs → lv_has ls 14 [(3, .int (pinV (woD w (k + 1)))), (4, .int (nI ((smD (b11 g w) k) + (b11 g w (8 - k))))), (2, .int (nI ((smD (b12 w) k) + (b12 w (8 - k))))), (5, .int (nI (8 - k))), (0, .ref h0), (1, .ref c0)] → W p l e ({ frames := 4, cells := 200, slots := 600, locals := 91 } : Room) s m ([.ref h0, .ref c0] : List Value).toArray below meth c H locs 0 0 (QIa E (([(h0, .inr (4, [.ref k1, .ref k2, .ref k3, .int (nI sp), .int (nI pl), .int (nI tu), .int (nI fr), .int (nI nf), .ref k4])), (k1, bI E 9 (mB g)), (k2, aI E 9 w), (k3, aI E 5 aw), (k4, qI E n (fun k => some (ra k)))] ++ CW E c0 a1 a2 a3 a4 a5 qs qa qb qc qd pl tu fr nf g sp w aw pt ft ti bt th) ++ plR E n ra rv) 200 600 (nI 1) (([(h0, .inr (4, [.ref k1, .ref k2, .ref k3, .int (nI sp), .int (nI pl), .int (nI tu), .int (nI fr), .int (nI nf), .ref k4])), (k1, bI E 9 (mB g)), (k2, aI E 9 w), (k3, aI E 5 aw), (k4, qI E n (fun k => some (ra k)))] ++ CW E c0 a1 a2 a3 a4 a5 qs qa qb qc qd pl tu fr nf g sp w aw pt ft ti bt th) ++ plR E n ra rv) below ([.ref h0, .ref c0] : List Value).toArray s) (F0 m 175 ls []) := by
                        intro  H locs ls hW hl
                        refine lv_iinc (k := 3) (v := dnI 9 (k + 1)) (lv' := [(5, .int (dnI 9 (k + 1))), (3, .int (pinV (woD w (k + 1)))), (4, .int (nI ((smD (b11 g w) k) + (b11 g w (8 - k))))), (2, .int (nI ((smD (b12 w) k) + (b12 w (8 - k))))), (0, .ref h0), (1, .ref c0)]) C.x C.b dX5_isSame_175 hl rfl (dn9 hk) (by decide) rfl (fun ls hl => ?_)
                        refine lv_goto (tgt := 11) C.x C.b dX5_isSame_178 (by decide) ?_
                        exact ih1 (k + 1) (by omega) (by omega)  _ _ _ (hW.to rfl) (lv_to (lv_sub (l' := [(5, .int (dnI 9 (k + 1))), (4, .int (nI ((smD (b11 g w) k) + (b11 g w (8 - k))))), (3, .int (pinV (woD w (k + 1)))), (2, .int (nI ((smD (b12 w) k) + (b12 w (8 - k))))), (0, .ref h0), (1, .ref c0)]) hl [0, 2, 1, 3, 4, 5] rfl) (by rw [smD_s, smD_s]))
                      refine lv_aload_n C.x C.b dX5_isSame_140 rfl (lv_at hl 4 rfl) ?_
                      refine x_get C hW 0 4 1 (Cn := RX5) (T := TX5) (N := 9) rfl rfl (by decide) hinX5 hf13 rfl dX5_isSame_141 ?_
                      refine lv_iload C.x C.b dX5_isSame_144 (lv_at hl 2 rfl) ?_
                      refine x_ald C hW 2 (8 - k) rfl rfl (by omega) (by decide) dX5_isSame_146 ?_
                      refine lv_bipush (v := nI 12) C.x C.b dX5_isSame_147 (by decide) ?_
                      refine x_icmp_ge C (by omega) (by omega) (tgt := 175) dX5_isSame_149 (by decide) (fun c_10 => ?_) (fun c_10 => ?_)
                      · exact jn_9  _ _ _ (hW.to rfl) (lv_to (lv_sub (l' := [(3, .int (pinV (woD w k))), (4, .int (nI ((smD (b11 g w) k) + (b11 g w (8 - k))))), (2, .int (nI ((smD (b12 w) k) + (b12 w (8 - k))))), (5, .int (nI (8 - k))), (0, .ref h0), (1, .ref c0)]) hl [3, 0, 1, 2, 4, 5] rfl) (by first | (rw [woD_n (fun q => by omega)]; done) | (rw [woD_y (by omega) (Or.inl (pinV_neg (by assumption))), pinV_nI (by omega)]; done) | (rw [woD_y (by omega) (Or.inr (by omega)), pinV_nI (by omega)]; done) | (rw [woD_n (fun q => by rcases q.2 with z | z; exact z hp9; omega)]; done)))
                      · refine lv_iload_n C.x C.b dX5_isSame_152 rfl (lv_at hl 3 rfl) ?_
                        refine lv_if_lt C.x C.b (tgt := 172) dX5_isSame_153 (by decide) (fun c_11 => ?_) (fun c_11 => ?_)
                        · refine lv_iload C.x C.b dX5_isSame_172 (lv_at hl 2 rfl) ?_
                          refine lv_istore_n (lv' := [(3, .int (nI (8 - k))), (4, .int (nI ((smD (b11 g w) k) + (b11 g w (8 - k))))), (2, .int (nI ((smD (b12 w) k) + (b12 w (8 - k))))), (5, .int (nI (8 - k))), (0, .ref h0), (1, .ref c0)]) C.x C.b dX5_isSame_174 rfl hl (by decide) rfl (fun ls hl => ?_)
                          exact jn_9  _ _ _ (hW.to rfl) (lv_to (lv_sub (l' := [(3, .int (nI (8 - k))), (4, .int (nI ((smD (b11 g w) k) + (b11 g w (8 - k))))), (2, .int (nI ((smD (b12 w) k) + (b12 w (8 - k))))), (5, .int (nI (8 - k))), (0, .ref h0), (1, .ref c0)]) hl [0, 1, 2, 3, 4, 5] rfl) (by first | (rw [woD_n (fun q => by omega)]; done) | (rw [woD_y (by omega) (Or.inl (pinV_neg (by assumption))), pinV_nI (by omega)]; done) | (rw [woD_y (by omega) (Or.inr (by omega)), pinV_nI (by omega)]; done) | (rw [woD_n (fun q => by rcases q.2 with z | z; exact z hp9; omega)]; done)))
                        · have hp9 := pinV_nn (by assumption)
                          refine lv_aload_n C.x C.b dX5_isSame_156 rfl (lv_at hl 4 rfl) ?_
                          refine x_get C hW 0 4 1 (Cn := RX5) (T := TX5) (N := 9) rfl rfl (by decide) hinX5 hf13 rfl dX5_isSame_157 ?_
                          refine lv_iload C.x C.b dX5_isSame_160 (lv_at hl 2 rfl) ?_
                          refine x_ald C hW 2 (8 - k) rfl rfl (by omega) (by decide) dX5_isSame_162 ?_
                          refine lv_aload_n C.x C.b dX5_isSame_163 rfl (lv_at hl 4 rfl) ?_
                          refine x_get C hW 0 4 1 (Cn := RX5) (T := TX5) (N := 9) rfl rfl (by decide) hinX5 hf13 rfl dX5_isSame_164 ?_
                          refine lv_iload_n C.x C.b dX5_isSame_167 rfl (lv_at hl 3 rfl) ?_
                          refine x_ald C hW 2 (woD w k) rfl (pinV_nI hp9) hp9 (by decide) dX5_isSame_168 ?_
                          refine x_icmp_lt C (by omega) (by have := hw (woD w k); omega) (tgt := 175) dX5_isSame_169 (by decide) (fun c_12 => ?_) (fun c_12 => ?_)
                          · exact jn_9  _ _ _ (hW.to rfl) (lv_to (lv_sub (l' := [(3, .int (pinV (woD w k))), (4, .int (nI ((smD (b11 g w) k) + (b11 g w (8 - k))))), (2, .int (nI ((smD (b12 w) k) + (b12 w (8 - k))))), (5, .int (nI (8 - k))), (0, .ref h0), (1, .ref c0)]) hl [3, 0, 1, 2, 4, 5] rfl) (by first | (rw [woD_n (fun q => by omega)]; done) | (rw [woD_y (by omega) (Or.inl (pinV_neg (by assumption))), pinV_nI (by omega)]; done) | (rw [woD_y (by omega) (Or.inr (by omega)), pinV_nI (by omega)]; done) | (rw [woD_n (fun q => by rcases q.2 with z | z; exact z hp9; omega)]; done)))
                          · refine lv_iload C.x C.b dX5_isSame_172 (lv_at hl 2 rfl) ?_
                            refine lv_istore_n (lv' := [(3, .int (nI (8 - k))), (4, .int (nI ((smD (b11 g w) k) + (b11 g w (8 - k))))), (2, .int (nI ((smD (b12 w) k) + (b12 w (8 - k))))), (5, .int (nI (8 - k))), (0, .ref h0), (1, .ref c0)]) C.x C.b dX5_isSame_174 rfl hl (by decide) rfl (fun ls hl => ?_)
                            exact jn_9  _ _ _ (hW.to rfl) (lv_to (lv_sub (l' := [(3, .int (nI (8 - k))), (4, .int (nI ((smD (b11 g w) k) + (b11 g w (8 - k))))), (2, .int (nI ((smD (b12 w) k) + (b12 w (8 - k))))), (5, .int (nI (8 - k))), (0, .ref h0), (1, .ref c0)]) hl [0, 1, 2, 3, 4, 5] rfl) (by first | (rw [woD_n (fun q => by omega)]; done) | (rw [woD_y (by omega) (Or.inl (pinV_neg (by assumption))), pinV_nI (by omega)]; done) | (rw [woD_y (by omega) (Or.inr (by omega)), pinV_nI (by omega)]; done) | (rw [woD_n (fun q => by rcases q.2 with z | z; exact z hp9; omega)]; done)))
                    refine lv_aload_n C.x C.b dX5_isSame_98 rfl (lv_at hl 4 rfl) ?_
                    refine x_get C hW 0 4 1 (Cn := RX5) (T := TX5) (N := 9) rfl rfl (by decide) hinX5 hf13 rfl dX5_isSame_99 ?_
                    refine lv_iload C.x C.b dX5_isSame_102 (lv_at hl 1 rfl) ?_
                    refine x_ald C hW 2 (8 - k) rfl rfl (by omega) (by decide) dX5_isSame_104 ?_
                    refine lv_bipush (v := nI 12) C.x C.b dX5_isSame_105 (by decide) ?_
                    refine x_icmp_eq C (by omega) (by omega) (tgt := 132) dX5_isSame_107 (by decide) (fun c_13 => ?_) (fun c_13 => ?_)
                    · refine lv_iconst (v := nI 1) C.x C.b dX5_isSame_132 (by decide) ?_
                      refine lv_goto (tgt := 137) C.x C.b dX5_isSame_133 (by decide) ?_
                      refine x_toi (y := (nI (b11 g w (8 - k)))) (by show _ = nI (if w (8 - k) = 12 ∨ (w (8 - k) = 11 ∧ mB g (8 - k) = 1) then 1 else 0); first | (rw [if_pos (by omega)]; done) | (rw [if_neg (by omega)]; done)) ?_
                      exact jn_8  _ _ _ (hW.to rfl) (lv_to (lv_sub (l' := [(2, .int (nI ((smD (b12 w) k) + (b12 w (8 - k))))), (5, .int (nI (8 - k))), (4, .int (nI (smD (b11 g w) k))), (3, .int (pinV (woD w k))), (0, .ref h0), (1, .ref c0)]) hl [0, 1, 2, 3, 4, 5] rfl) rfl)
                    · refine lv_aload_n C.x C.b dX5_isSame_110 rfl (lv_at hl 4 rfl) ?_
                      refine x_get C hW 0 4 1 (Cn := RX5) (T := TX5) (N := 9) rfl rfl (by decide) hinX5 hf13 rfl dX5_isSame_111 ?_
                      refine lv_iload C.x C.b dX5_isSame_114 (lv_at hl 1 rfl) ?_
                      refine x_ald C hW 2 (8 - k) rfl rfl (by omega) (by decide) dX5_isSame_116 ?_
                      refine lv_bipush (v := nI 11) C.x C.b dX5_isSame_117 (by decide) ?_
                      refine x_icmp_ne C (by omega) (by omega) (tgt := 136) dX5_isSame_119 (by decide) (fun c_14 => ?_) (fun c_14 => ?_)
                      · refine lv_iconst (v := nI 0) C.x C.b dX5_isSame_136 (by decide) ?_
                        refine x_toi (y := (nI (b11 g w (8 - k)))) (by show _ = nI (if w (8 - k) = 12 ∨ (w (8 - k) = 11 ∧ mB g (8 - k) = 1) then 1 else 0); first | (rw [if_pos (by omega)]; done) | (rw [if_neg (by omega)]; done)) ?_
                        exact jn_8  _ _ _ (hW.to rfl) (lv_to (lv_sub (l' := [(2, .int (nI ((smD (b12 w) k) + (b12 w (8 - k))))), (5, .int (nI (8 - k))), (4, .int (nI (smD (b11 g w) k))), (3, .int (pinV (woD w k))), (0, .ref h0), (1, .ref c0)]) hl [0, 1, 2, 3, 4, 5] rfl) rfl)
                      · refine lv_aload_n C.x C.b dX5_isSame_122 rfl (lv_at hl 4 rfl) ?_
                        refine x_get C hW 0 4 0 (Cn := RX5) (T := TX5) (N := 9) rfl rfl (by decide) hinX5 hf7 rfl dX5_isSame_123 ?_
                        refine lv_iload C.x C.b dX5_isSame_126 (lv_at hl 1 rfl) ?_
                        refine x_zld C hW 1 (8 - k) rfl rfl (by omega) (by decide) dX5_isSame_128 ?_
                        refine x_if_eq C (by omega) (tgt := 136) dX5_isSame_129 (by decide) (fun c_15 => ?_) (fun c_15 => ?_)
                        · refine lv_iconst (v := nI 0) C.x C.b dX5_isSame_136 (by decide) ?_
                          refine x_toi (y := (nI (b11 g w (8 - k)))) (by show _ = nI (if w (8 - k) = 12 ∨ (w (8 - k) = 11 ∧ mB g (8 - k) = 1) then 1 else 0); first | (rw [if_pos (by omega)]; done) | (rw [if_neg (by omega)]; done)) ?_
                          exact jn_8  _ _ _ (hW.to rfl) (lv_to (lv_sub (l' := [(2, .int (nI ((smD (b12 w) k) + (b12 w (8 - k))))), (5, .int (nI (8 - k))), (4, .int (nI (smD (b11 g w) k))), (3, .int (pinV (woD w k))), (0, .ref h0), (1, .ref c0)]) hl [0, 1, 2, 3, 4, 5] rfl) rfl)
                        · refine lv_iconst (v := nI 1) C.x C.b dX5_isSame_132 (by decide) ?_
                          refine lv_goto (tgt := 137) C.x C.b dX5_isSame_133 (by decide) ?_
                          refine x_toi (y := (nI (b11 g w (8 - k)))) (by show _ = nI (if w (8 - k) = 12 ∨ (w (8 - k) = 11 ∧ mB g (8 - k) = 1) then 1 else 0); first | (rw [if_pos (by omega)]; done) | (rw [if_neg (by omega)]; done)) ?_
                          exact jn_8  _ _ _ (hW.to rfl) (lv_to (lv_sub (l' := [(2, .int (nI ((smD (b12 w) k) + (b12 w (8 - k))))), (5, .int (nI (8 - k))), (4, .int (nI (smD (b11 g w) k))), (3, .int (pinV (woD w k))), (0, .ref h0), (1, .ref c0)]) hl [0, 1, 2, 3, 4, 5] rfl) rfl)
                  refine lv_aload_n C.x C.b dX5_isSame_77 rfl (lv_at hl 4 rfl) ?_
                  refine x_get C hW 0 4 1 (Cn := RX5) (T := TX5) (N := 9) rfl rfl (by decide) hinX5 hf13 rfl dX5_isSame_78 ?_
                  refine lv_iload C.x C.b dX5_isSame_81 (lv_at hl 0 rfl) ?_
                  refine x_ald C hW 2 (8 - k) rfl rfl (by omega) (by decide) dX5_isSame_83 ?_
                  refine lv_bipush (v := nI 12) C.x C.b dX5_isSame_84 (by decide) ?_
                  refine x_icmp_ne C (by omega) (by omega) (tgt := 93) dX5_isSame_86 (by decide) (fun c_16 => ?_) (fun c_16 => ?_)
                  · refine lv_iconst (v := nI 0) C.x C.b dX5_isSame_93 (by decide) ?_
                    refine x_toi (y := (nI (b12 w (8 - k)))) (by show _ = nI (if w (8 - k) = 12 then 1 else 0); first | (rw [if_pos (by omega)]; done) | (rw [if_neg (by omega)]; done)) ?_
                    exact jn_7  _ _ _ (hW.to rfl) (lv_to (lv_sub (l' := [(5, .int (nI (8 - k))), (4, .int (nI (smD (b11 g w) k))), (3, .int (pinV (woD w k))), (2, .int (nI (smD (b12 w) k))), (0, .ref h0), (1, .ref c0)]) hl [0, 1, 2, 3, 4, 5] rfl) rfl)
                  · refine lv_iconst (v := nI 1) C.x C.b dX5_isSame_89 (by decide) ?_
                    refine lv_goto (tgt := 94) C.x C.b dX5_isSame_90 (by decide) ?_
                    refine x_toi (y := (nI (b12 w (8 - k)))) (by show _ = nI (if w (8 - k) = 12 then 1 else 0); first | (rw [if_pos (by omega)]; done) | (rw [if_neg (by omega)]; done)) ?_
                    exact jn_7  _ _ _ (hW.to rfl) (lv_to (lv_sub (l' := [(5, .int (nI (8 - k))), (4, .int (nI (smD (b11 g w) k))), (3, .int (pinV (woD w k))), (2, .int (nI (smD (b12 w) k))), (0, .ref h0), (1, .ref c0)]) hl [0, 1, 2, 3, 4, 5] rfl) rfl)
                · exact absurd (show (if 12 ≤ w (8 - k) then 1 else 0) = if w (8 - k) = 12 then 1 else 0 from z_if (by omega)) c_6
              refine lv_aload_n C.x C.b dX5_isSame_54 rfl (lv_at hl 4 rfl) ?_
              refine x_get C hW 0 4 1 (Cn := RX5) (T := TX5) (N := 9) rfl rfl (by decide) hinX5 hf13 rfl dX5_isSame_55 ?_
              refine lv_iload C.x C.b dX5_isSame_58 (lv_at hl 0 rfl) ?_
              refine x_ald C hW 2 (8 - k) rfl rfl (by omega) (by decide) dX5_isSame_60 ?_
              refine lv_bipush (v := nI 12) C.x C.b dX5_isSame_61 (by decide) ?_
              refine x_icmp_ne C (by omega) (by omega) (tgt := 70) dX5_isSame_63 (by decide) (fun c_17 => ?_) (fun c_17 => ?_)
              · refine lv_iconst (v := nI 0) C.x C.b dX5_isSame_70 (by decide) ?_
                refine x_toi (y := (nI (b12 w (8 - k)))) (by show _ = nI (if w (8 - k) = 12 then 1 else 0); first | (rw [if_pos (by omega)]; done) | (rw [if_neg (by omega)]; done)) ?_
                exact jn_5  _ _ _ (hW.to rfl) (lv_to (lv_sub (l' := [(5, .int (nI (8 - k))), (4, .int (nI (smD (b11 g w) k))), (3, .int (pinV (woD w k))), (2, .int (nI (smD (b12 w) k))), (0, .ref h0), (1, .ref c0)]) hl [0, 1, 2, 3, 4, 5] rfl) rfl)
              · refine lv_iconst (v := nI 1) C.x C.b dX5_isSame_66 (by decide) ?_
                refine lv_goto (tgt := 71) C.x C.b dX5_isSame_67 (by decide) ?_
                refine x_toi (y := (nI (b12 w (8 - k)))) (by show _ = nI (if w (8 - k) = 12 then 1 else 0); first | (rw [if_pos (by omega)]; done) | (rw [if_neg (by omega)]; done)) ?_
                exact jn_5  _ _ _ (hW.to rfl) (lv_to (lv_sub (l' := [(5, .int (nI (8 - k))), (4, .int (nI (smD (b11 g w) k))), (3, .int (pinV (woD w k))), (2, .int (nI (smD (b12 w) k))), (0, .ref h0), (1, .ref c0)]) hl [0, 1, 2, 3, 4, 5] rfl) rfl)
      · rw [show dnI 9 k = -1 from if_neg hk] at hl ⊢
        refine lv_if_lt C.x C.b (tgt := 181) dX5_isSame_13 (by decide) (fun c_18 => ?_) (fun c_18 => ?_)
        · obtain rfl : k = 9 := by omega
          refine lv_iconst (v := nI 0) C.x C.b dX5_isSame_181 (by decide) ?_
          refine lv_istore (lv' := [(5, .int (nI 0)), (4, .int (nI (smD (b11 g w) 9))), (3, .int (pinV (woD w 9))), (2, .int (nI (smD (b12 w) 9))), (0, .ref h0), (1, .ref c0)]) C.x C.b dX5_isSame_182 hl (by decide) rfl (fun ls hl => ?_)
          have lp_19 : ∀ (n19 i : Nat), i ≤ 5 → 5 + 1 ≤ i + n19 → ∀ (H : Heap) (locs : List Loc) (ls : Array Slot), WD E (va_A (([(h0, .inr (4, [.ref k1, .ref k2, .ref k3, .int (nI sp), .int (nI pl), .int (nI tu), .int (nI fr), .int (nI nf), .ref k4])), (k1, bI E 9 (mB g)), (k2, aI E 9 w), (k3, aI E 5 aw), (k4, qI E n (fun k => some (ra k)))] ++ CW E c0 a1 a2 a3 a4 a5 qs qa qb qc qd pl tu fr nf g sp w aw pt ft ti bt th) ++ plR E n ra rv) s.heap.size) s (([(h0, .inr (4, [.ref k1, .ref k2, .ref k3, .int (nI sp), .int (nI pl), .int (nI tu), .int (nI fr), .int (nI nf), .ref k4])), (k1, bI E 9 (mB g)), (k2, aI E 9 w), (k3, aI E 5 aw), (k4, qI E n (fun k => some (ra k)))] ++ CW E c0 a1 a2 a3 a4 a5 qs qa qb qc qd pl tu fr nf g sp w aw pt ft ti bt th) ++ plR E n ra rv) H locs → lv_has ls 14 [(5, .int (nI i)), (4, .int (nI (smD (b11 g w) 9))), (3, .int (pinV (woD w 9))), (2, .int (nI (smD (b12 w) 9))), (0, .ref h0), (1, .ref c0)] → W p l e ({ frames := 4, cells := 200, slots := 600, locals := 91 } : Room) s m ([.ref h0, .ref c0] : List Value).toArray below meth c H locs 0 0 (QIa E (([(h0, .inr (4, [.ref k1, .ref k2, .ref k3, .int (nI sp), .int (nI pl), .int (nI tu), .int (nI fr), .int (nI nf), .ref k4])), (k1, bI E 9 (mB g)), (k2, aI E 9 w), (k3, aI E 5 aw), (k4, qI E n (fun k => some (ra k)))] ++ CW E c0 a1 a2 a3 a4 a5 qs qa qb qc qd pl tu fr nf g sp w aw pt ft ti bt th) ++ plR E n ra rv) 200 600 (nI 1) (([(h0, .inr (4, [.ref k1, .ref k2, .ref k3, .int (nI sp), .int (nI pl), .int (nI tu), .int (nI fr), .int (nI nf), .ref k4])), (k1, bI E 9 (mB g)), (k2, aI E 9 w), (k3, aI E 5 aw), (k4, qI E n (fun k => some (ra k)))] ++ CW E c0 a1 a2 a3 a4 a5 qs qa qb qc qd pl tu fr nf g sp w aw pt ft ti bt th) ++ plR E n ra rv) below ([.ref h0, .ref c0] : List Value).toArray s) (F0 m 184 ls []) := by
            intro n19
            induction n19 with
            | zero => intro i hi hn; exact absurd hn (by omega)
            | succ n19 ih19 =>
              intro i hi hn  H locs ls hW hl
              have h9 := ha i
              refine lv_iload C.x C.b dX5_isSame_184 (lv_at hl 0 rfl) ?_
              refine lv_iconst (v := nI 5) C.x C.b dX5_isSame_186 (by decide) ?_
              refine x_icmp_ge C (by omega) (by omega) (tgt := 214) dX5_isSame_187 (by decide) (fun c_20 => ?_) (fun c_20 => ?_)
              · obtain rfl : i = 5 := by omega
                refine lv_iconst (v := nI 0) C.x C.b dX5_isSame_214 (by decide) ?_
                refine lv_istore (lv' := [(5, .int (nI 0)), (4, .int (nI (smD (b11 g w) 9))), (3, .int (pinV (woD w 9))), (2, .int (nI (smD (b12 w) 9))), (0, .ref h0), (1, .ref c0)]) C.x C.b dX5_isSame_215 hl (by decide) rfl (fun ls hl => ?_)
                refine lv_iconst (v := nI 0) C.x C.b dX5_isSame_217 (by decide) ?_
                refine lv_istore (lv' := [(6, .int (nI 0)), (5, .int (nI 0)), (4, .int (nI (smD (b11 g w) 9))), (3, .int (pinV (woD w 9))), (2, .int (nI (smD (b12 w) 9))), (0, .ref h0), (1, .ref c0)]) C.x C.b dX5_isSame_218 hl (by decide) rfl (fun ls hl => ?_)
                have lp_21 : ∀ (n21 q : Nat), q ≤ pl → pl + 1 ≤ q + n21 → ∀ (H : Heap) (locs : List Loc) (ls : Array Slot), WD E (va_A (([(h0, .inr (4, [.ref k1, .ref k2, .ref k3, .int (nI sp), .int (nI pl), .int (nI tu), .int (nI fr), .int (nI nf), .ref k4])), (k1, bI E 9 (mB g)), (k2, aI E 9 w), (k3, aI E 5 aw), (k4, qI E n (fun k => some (ra k)))] ++ CW E c0 a1 a2 a3 a4 a5 qs qa qb qc qd pl tu fr nf g sp w aw pt ft ti bt th) ++ plR E n ra rv) s.heap.size) s (([(h0, .inr (4, [.ref k1, .ref k2, .ref k3, .int (nI sp), .int (nI pl), .int (nI tu), .int (nI fr), .int (nI nf), .ref k4])), (k1, bI E 9 (mB g)), (k2, aI E 9 w), (k3, aI E 5 aw), (k4, qI E n (fun k => some (ra k)))] ++ CW E c0 a1 a2 a3 a4 a5 qs qa qb qc qd pl tu fr nf g sp w aw pt ft ti bt th) ++ plR E n ra rv) H locs → lv_has ls 14 [(6, .int (nI q)), (5, .int (nI (suC (scC pt ft ti bt th) q))), (4, .int (nI (smD (b11 g w) 9))), (3, .int (pinV (woD w 9))), (2, .int (nI (smD (b12 w) 9))), (0, .ref h0), (1, .ref c0)] → W p l e ({ frames := 4, cells := 200, slots := 600, locals := 91 } : Room) s m ([.ref h0, .ref c0] : List Value).toArray below meth c H locs (30 * q) (90 * q) (QIa E (([(h0, .inr (4, [.ref k1, .ref k2, .ref k3, .int (nI sp), .int (nI pl), .int (nI tu), .int (nI fr), .int (nI nf), .ref k4])), (k1, bI E 9 (mB g)), (k2, aI E 9 w), (k3, aI E 5 aw), (k4, qI E n (fun k => some (ra k)))] ++ CW E c0 a1 a2 a3 a4 a5 qs qa qb qc qd pl tu fr nf g sp w aw pt ft ti bt th) ++ plR E n ra rv) 200 600 (nI 1) (([(h0, .inr (4, [.ref k1, .ref k2, .ref k3, .int (nI sp), .int (nI pl), .int (nI tu), .int (nI fr), .int (nI nf), .ref k4])), (k1, bI E 9 (mB g)), (k2, aI E 9 w), (k3, aI E 5 aw), (k4, qI E n (fun k => some (ra k)))] ++ CW E c0 a1 a2 a3 a4 a5 qs qa qb qc qd pl tu fr nf g sp w aw pt ft ti bt th) ++ plR E n ra rv) below ([.ref h0, .ref c0] : List Value).toArray s) (F0 m 220 ls []) := by
                  intro n21
                  induction n21 with
                  | zero => intro q hq hn; exact absurd hn (by omega)
                  | succ n21 ih21 =>
                    intro q hq hn  H locs ls hW hl
                    refine lv_iload C.x C.b dX5_isSame_220 (lv_at hl 0 rfl) ?_
                    refine lv_aload_n C.x C.b dX5_isSame_222 rfl (lv_at hl 5 rfl) ?_
                    refine x_get C hW 0 4 4 (Cn := RX5) (T := TX5) (N := 9) rfl rfl (by decide) hinX5 hf53 rfl dX5_isSame_223 ?_
                    refine x_icmp_ge C (by omega) (by omega) (tgt := 419) dX5_isSame_226 (by decide) (fun c_22 => ?_) (fun c_22 => ?_)
                    · have e9 : pl = q := by omega
                      subst e9
                      refine lv_aload_n C.x C.b dX5_isSame_419 rfl (lv_at hl 6 rfl) ?_
                      refine x_rVI C hW (As := []) (rest := []) (Cn := RX4) (met_X4_standing l E c0 a1 a3 a5 pl tu fr nf a2 g sp w hg) gX5_isSame_X4_standing rfl 0 rfl ⟨rfl, rfl⟩ ⟨rfl, by decide +kernel, by decide +kernel, by decide +kernel⟩ ⟨Nat.le_of_ble_eq_true rfl, Nat.le_of_ble_eq_true rfl⟩ [5, 6, 7] rfl (by decide) 5 3 rfl rfl hl.1 rfl (Nat.le_of_ble_eq_true rfl) dX5_isSame_420 ⟨by show _ ≤ 200; omega, by show _ ≤ 600; omega⟩ (fun H locs hW => ?_)
                      refine lv_aload_n C.x C.b dX5_isSame_423 rfl (lv_at hl 5 rfl) ?_
                      refine x_get C hW 0 4 0 (Cn := RX5) (T := TX5) (N := 9) rfl rfl (by decide) hinX5 hf7 rfl dX5_isSame_424 ?_
                      refine x_rSI C hW (As := [.ref k1]) (rest := [.int (nI (pcN g))]) (met_X5_many l E k1 g) gX5_isSame_X5_many rfl 1 rfl ⟨rfl, rfl⟩ ⟨by decide +kernel, by decide +kernel, by decide +kernel⟩ ⟨Nat.le_of_ble_eq_true rfl, Nat.le_of_ble_eq_true rfl⟩ [1] rfl (by decide) hl.1 rfl (Nat.le_of_ble_eq_true rfl) dX5_isSame_427 ⟨by show _ ≤ 200; omega, by show _ ≤ 600; omega⟩ (fun H locs hW => ?_)
                      refine x_icmp_ne C (by have := pcN_le g; omega) (by have := pcN_le g; omega) (tgt := 585) dX5_isSame_430 (by decide) (fun c_23 => ?_) (fun c_23 => ?_)
                      · exact absurd rfl c_23
                      · refine lv_aload_n C.x C.b dX5_isSame_433 rfl (lv_at hl 6 rfl) ?_
                        refine x_rVI C hW (As := []) (rest := []) (Cn := RX4) (met_X4_brokenStrings l E c0 a1 a3 a5 pl tu fr nf a2 g sp w hw) gX5_isSame_X4_brokenStrings rfl 0 rfl ⟨rfl, rfl⟩ ⟨rfl, by decide +kernel, by decide +kernel, by decide +kernel⟩ ⟨Nat.le_of_ble_eq_true rfl, Nat.le_of_ble_eq_true rfl⟩ [5, 6, 7] rfl (by decide) 5 3 rfl rfl hl.1 rfl (Nat.le_of_ble_eq_true rfl) dX5_isSame_434 ⟨by show _ ≤ 200; omega, by show _ ≤ 600; omega⟩ (fun H locs hW => ?_)
                        refine lv_iload_n C.x C.b dX5_isSame_437 rfl (lv_at hl 4 rfl) ?_
                        refine x_icmp_ne C (by rw [bk_sum hw]; have := smD_le (b12_le w) 9; omega) (by have := smD_le (b12_le w) 9; omega) (tgt := 585) dX5_isSame_438 (by decide) (fun c_24 => ?_) (fun c_24 => ?_)
                        · exact absurd (bk_sum hw) c_24
                        · refine lv_aload_n C.x C.b dX5_isSame_441 rfl (lv_at hl 6 rfl) ?_
                          refine x_rVI C hW (As := []) (rest := []) (Cn := RX4) (met_X4_wouldBreak l E c0 a1 a3 a5 pl tu fr nf a2 g sp w hw hg) gX5_isSame_X4_wouldBreak rfl 0 rfl ⟨rfl, rfl⟩ ⟨rfl, by decide +kernel, by decide +kernel, by decide +kernel⟩ ⟨Nat.le_of_ble_eq_true rfl, Nat.le_of_ble_eq_true rfl⟩ [5, 6, 7] rfl (by decide) 5 3 rfl rfl hl.1 rfl (Nat.le_of_ble_eq_true rfl) dX5_isSame_442 ⟨by show _ ≤ 200; omega, by show _ ≤ 600; omega⟩ (fun H locs hW => ?_)
                          refine lv_iload C.x C.b dX5_isSame_445 (lv_at hl 2 rfl) ?_
                          refine x_icmp_ne C (by rw [bi_sum hw]; have := smD_le (b11_le g w) 9; omega) (by have := smD_le (b11_le g w) 9; omega) (tgt := 585) dX5_isSame_447 (by decide) (fun c_25 => ?_) (fun c_25 => ?_)
                          · exact absurd (bi_sum hw) c_25
                          · refine lv_aload_n C.x C.b dX5_isSame_450 rfl (lv_at hl 6 rfl) ?_
                            refine x_rVI C hW (As := []) (rest := []) (Cn := RX4) (met_X4_mostWorn l E c0 a1 a3 a5 pl tu fr nf a2 g sp w hw) gX5_isSame_X4_mostWorn rfl 0 rfl ⟨rfl, rfl⟩ ⟨rfl, by decide +kernel, by decide +kernel, by decide +kernel⟩ ⟨Nat.le_of_ble_eq_true rfl, Nat.le_of_ble_eq_true rfl⟩ [5, 6, 7] rfl (by decide) 5 3 rfl rfl hl.1 rfl (Nat.le_of_ble_eq_true rfl) dX5_isSame_451 ⟨by show _ ≤ 200; omega, by show _ ≤ 600; omega⟩ (fun H locs hW => ?_)
                            refine lv_iload_n C.x C.b dX5_isSame_454 rfl (lv_at hl 3 rfl) ?_
                            refine lv_icmp_ne C.x C.b (tgt := 585) dX5_isSame_455 (by decide) (fun c_26 => ?_) (fun c_26 => ?_)
                            · exact absurd (wo_mw hw) c_26
                            · have c_26 : mwF w 9 = pinV (woD w 9) := c_26
                              refine lv_aload_n C.x C.b dX5_isSame_458 rfl (lv_at hl 6 rfl) ?_
                              refine x_rVI C hW (As := []) (rest := []) (Cn := RX4) (met_X4_spareStrings l E c0 a1 a3 a5 pl tu fr nf a2 g sp w) gX5_isSame_X4_spareStrings rfl 0 rfl ⟨rfl, rfl⟩ ⟨rfl, by decide +kernel, by decide +kernel, by decide +kernel⟩ ⟨Nat.le_of_ble_eq_true rfl, Nat.le_of_ble_eq_true rfl⟩ [5, 6, 7] rfl (by decide) 5 3 rfl rfl hl.1 rfl (Nat.le_of_ble_eq_true rfl) dX5_isSame_459 ⟨by show _ ≤ 200; omega, by show _ ≤ 600; omega⟩ (fun H locs hW => ?_)
                              refine lv_aload_n C.x C.b dX5_isSame_462 rfl (lv_at hl 5 rfl) ?_
                              refine x_get C hW 0 4 3 (Cn := RX5) (T := TX5) (N := 9) rfl rfl (by decide) hinX5 hf20 rfl dX5_isSame_463 ?_
                              refine x_icmp_ne C (by omega) (by omega) (tgt := 585) dX5_isSame_466 (by decide) (fun c_27 => ?_) (fun c_27 => ?_)
                              · exact absurd rfl c_27
                              · refine lv_aload_n C.x C.b dX5_isSame_469 rfl (lv_at hl 6 rfl) ?_
                                refine x_rVI C hW (As := []) (rest := []) (Cn := RX4) (met_X4_players l E c0 a1 a3 a5 pl tu fr nf) gX5_isSame_X4_players rfl 0 rfl ⟨rfl, rfl⟩ ⟨rfl, by decide +kernel, by decide +kernel, by decide +kernel⟩ ⟨Nat.le_of_ble_eq_true rfl, Nat.le_of_ble_eq_true rfl⟩ [5] rfl (by decide) 5 3 rfl rfl hl.1 rfl (Nat.le_of_ble_eq_true rfl) dX5_isSame_470 ⟨by show _ ≤ 200; omega, by show _ ≤ 600; omega⟩ (fun H locs hW => ?_)
                                refine lv_aload_n C.x C.b dX5_isSame_473 rfl (lv_at hl 5 rfl) ?_
                                refine x_get C hW 0 4 4 (Cn := RX5) (T := TX5) (N := 9) rfl rfl (by decide) hinX5 hf53 rfl dX5_isSame_474 ?_
                                refine x_icmp_ne C (by omega) (by omega) (tgt := 585) dX5_isSame_477 (by decide) (fun c_28 => ?_) (fun c_28 => ?_)
                                · exact absurd rfl c_28
                                · refine lv_aload_n C.x C.b dX5_isSame_480 rfl (lv_at hl 6 rfl) ?_
                                  refine x_rVI C hW (As := []) (rest := []) (Cn := RX4) (met_X4_playerInTurn_gen l E c0 a1 a3 a5 pl tu fr nf hpl hfr) gX5_isSame_X4_playerInTurn rfl 0 rfl ⟨rfl, rfl⟩ ⟨rfl, by decide +kernel, by decide +kernel, by decide +kernel⟩ ⟨Nat.le_of_ble_eq_true rfl, Nat.le_of_ble_eq_true rfl⟩ [5] rfl (by decide) 5 3 rfl rfl hl.1 rfl (Nat.le_of_ble_eq_true rfl) dX5_isSame_481 ⟨by show _ ≤ 200; omega, by show _ ≤ 600; omega⟩ (fun H locs hW => ?_)
                                  have jn_29 : ∀ (H : Heap) (locs : List Loc) (ls : Array Slot), WD E (va_A (([(h0, .inr (4, [.ref k1, .ref k2, .ref k3, .int (nI sp), .int (nI pl), .int (nI tu), .int (nI fr), .int (nI nf), .ref k4])), (k1, bI E 9 (mB g)), (k2, aI E 9 w), (k3, aI E 5 aw), (k4, qI E n (fun k => some (ra k)))] ++ CW E c0 a1 a2 a3 a4 a5 qs qa qb qc qd pl tu fr nf g sp w aw pt ft ti bt th) ++ plR E n ra rv) s.heap.size) s (([(h0, .inr (4, [.ref k1, .ref k2, .ref k3, .int (nI sp), .int (nI pl), .int (nI tu), .int (nI fr), .int (nI nf), .ref k4])), (k1, bI E 9 (mB g)), (k2, aI E 9 w), (k3, aI E 5 aw), (k4, qI E n (fun k => some (ra k)))] ++ CW E c0 a1 a2 a3 a4 a5 qs qa qb qc qd pl tu fr nf g sp w aw pt ft ti bt th) ++ plR E n ra rv) H locs → lv_has ls 14 [(6, .int (nI pl)), (5, .int (nI (suC (scC pt ft ti bt th) pl))), (4, .int (nI (smD (b11 g w) 9))), (3, .int (pinV (woD w 9))), (2, .int (nI (smD (b12 w) 9))), (0, .ref h0), (1, .ref c0)] → W p l e ({ frames := 4, cells := 200, slots := 600, locals := 91 } : Room) s m ([.ref h0, .ref c0] : List Value).toArray below meth c H locs (30 * pl) (90 * pl) (QIa E (([(h0, .inr (4, [.ref k1, .ref k2, .ref k3, .int (nI sp), .int (nI pl), .int (nI tu), .int (nI fr), .int (nI nf), .ref k4])), (k1, bI E 9 (mB g)), (k2, aI E 9 w), (k3, aI E 5 aw), (k4, qI E n (fun k => some (ra k)))] ++ CW E c0 a1 a2 a3 a4 a5 qs qa qb qc qd pl tu fr nf g sp w aw pt ft ti bt th) ++ plR E n ra rv) 200 600 (nI 1) (([(h0, .inr (4, [.ref k1, .ref k2, .ref k3, .int (nI sp), .int (nI pl), .int (nI tu), .int (nI fr), .int (nI nf), .ref k4])), (k1, bI E 9 (mB g)), (k2, aI E 9 w), (k3, aI E 5 aw), (k4, qI E n (fun k => some (ra k)))] ++ CW E c0 a1 a2 a3 a4 a5 qs qa qb qc qd pl tu fr nf g sp w aw pt ft ti bt th) ++ plR E n ra rv) below ([.ref h0, .ref c0] : List Value).toArray s) (F0 m 506 ls [.int (tnI pl fr tu), .int (tnI pl fr tu)]) := by
                                    intro  H locs ls hW hl
                                    refine lv_icmp_ne C.x C.b (tgt := 585) dX5_isSame_506 (by decide) (fun c_30 => ?_) (fun c_30 => ?_)
                                    · exact absurd rfl c_30
                                    · have c_30 : tnI pl fr tu = tnI pl fr tu := c_30
                                      refine lv_aload_n C.x C.b dX5_isSame_509 rfl (lv_at hl 6 rfl) ?_
                                      refine x_rVI C hW (As := []) (rest := []) (Cn := RX4) (met_X4_frame l E c0 a1 a3 a5 pl tu fr nf) gX5_isSame_X4_frame rfl 0 rfl ⟨rfl, rfl⟩ ⟨rfl, by decide +kernel, by decide +kernel, by decide +kernel⟩ ⟨Nat.le_of_ble_eq_true rfl, Nat.le_of_ble_eq_true rfl⟩ [5] rfl (by decide) 5 3 rfl rfl hl.1 rfl (Nat.le_of_ble_eq_true rfl) dX5_isSame_510 ⟨by show _ ≤ 200; omega, by show _ ≤ 600; omega⟩ (fun H locs hW => ?_)
                                      refine lv_aload_n C.x C.b dX5_isSame_513 rfl (lv_at hl 5 rfl) ?_
                                      refine x_get C hW 0 4 6 (Cn := RX5) (T := TX5) (N := 9) rfl rfl (by decide) hinX5 hf50 rfl dX5_isSame_514 ?_
                                      refine x_icmp_ne C (by omega) (by omega) (tgt := 585) dX5_isSame_517 (by decide) (fun c_31 => ?_) (fun c_31 => ?_)
                                      · exact absurd rfl c_31
                                      · refine lv_aload_n C.x C.b dX5_isSame_520 rfl (lv_at hl 6 rfl) ?_
                                        refine x_rVI C hW (As := []) (rest := []) (Cn := RX4) (met_X4_throwsInFrame l E c0 a1 a3 a5 pl tu fr nf) gX5_isSame_X4_throwsInFrame rfl 0 rfl ⟨rfl, rfl⟩ ⟨rfl, by decide +kernel, by decide +kernel, by decide +kernel⟩ ⟨Nat.le_of_ble_eq_true rfl, Nat.le_of_ble_eq_true rfl⟩ [5] rfl (by decide) 5 3 rfl rfl hl.1 rfl (Nat.le_of_ble_eq_true rfl) dX5_isSame_521 ⟨by show _ ≤ 200; omega, by show _ ≤ 600; omega⟩ (fun H locs hW => ?_)
                                        refine lv_aload_n C.x C.b dX5_isSame_524 rfl (lv_at hl 5 rfl) ?_
                                        refine x_get C hW 0 4 7 (Cn := RX5) (T := TX5) (N := 9) rfl rfl (by decide) hinX5 hf68 rfl dX5_isSame_525 ?_
                                        refine x_icmp_ne C (by omega) (by omega) (tgt := 585) dX5_isSame_528 (by decide) (fun c_32 => ?_) (fun c_32 => ?_)
                                        · exact absurd rfl c_32
                                        · refine lv_aload_n C.x C.b dX5_isSame_531 rfl (lv_at hl 6 rfl) ?_
                                          refine x_rVI C hW (As := []) (rest := []) (Cn := RX4) (met_X4_isOver l E c0 a1 a3 a5 pl tu fr nf hfr) gX5_isSame_X4_isOver rfl 0 rfl ⟨rfl, rfl⟩ ⟨rfl, by decide +kernel, by decide +kernel, by decide +kernel⟩ ⟨Nat.le_of_ble_eq_true rfl, Nat.le_of_ble_eq_true rfl⟩ [5] rfl (by decide) 5 3 rfl rfl hl.1 rfl (Nat.le_of_ble_eq_true rfl) dX5_isSame_532 ⟨by show _ ≤ 200; omega, by show _ ≤ 600; omega⟩ (fun H locs hW => ?_)
                                          refine lv_aload_n C.x C.b dX5_isSame_535 rfl (lv_at hl 5 rfl) ?_
                                          refine x_rVI C hW (As := []) (rest := [.int (nI (if 10 ≤ fr then 1 else 0))]) (Cn := RX5) (met_X5_isOver l E h0 k1 k2 k3 k4 sp pl tu fr nf hfr) gX5_isSame_X5_isOver rfl 0 rfl ⟨rfl, rfl⟩ ⟨rfl, by decide +kernel, by decide +kernel, by decide +kernel⟩ ⟨Nat.le_of_ble_eq_true rfl, Nat.le_of_ble_eq_true rfl⟩ [0] rfl (by decide) 0 4 rfl rfl hl.1 rfl (Nat.le_of_ble_eq_true rfl) dX5_isSame_536 ⟨by show _ ≤ 200; omega, by show _ ≤ 600; omega⟩ (fun H locs hW => ?_)
                                          refine x_toi (y := nI (if 10 ≤ fr then 1 else 0)) (congrArg nI (z_if (by omega))) ?_
                                          refine x_icmp_ne C (z_ite_lt _) (z_ite_lt _) (tgt := 585) dX5_isSame_539 (by decide) (fun c_33 => ?_) (fun c_33 => ?_)
                                          · exact absurd rfl c_33
                                          · refine lv_aload_n C.x C.b dX5_isSame_542 rfl (lv_at hl 6 rfl) ?_
                                            refine x_rVI C hW (As := []) (rest := []) (Cn := RX4) (met_X4_leader l E c0 a1 a3 a5 pl tu fr nf qs qa qb qc qd pt ft ti bt th hpl hpt hth hft hti hbt) gX5_isSame_X4_leader rfl 0 rfl ⟨rfl, rfl⟩ ⟨rfl, by decide +kernel, by decide +kernel, by decide +kernel⟩ ⟨Nat.le_of_ble_eq_true rfl, Nat.le_of_ble_eq_true rfl⟩ [5, 10, 11, 12, 13, 14, 15, 16, 17, 18, 19, 20, 21, 22, 23, 24, 25, 26, 27, 28, 29, 30] rfl (by decide) 5 3 rfl rfl hl.1 rfl (Nat.le_of_ble_eq_true rfl) dX5_isSame_543 ⟨by show _ ≤ 200; omega, by show _ ≤ 600; omega⟩ (fun H locs hW => ?_)
                                            refine lv_aload_n C.x C.b dX5_isSame_546 rfl (lv_at hl 5 rfl) ?_
                                            refine x_rVIaT C hW (As := []) (rest := [.int (pinV (fiB (scC pt ft ti bt th) pl))]) (Cn := RX5) (met_X5_leader l E h0 k1 k2 k3 k4 sp pl tu fr nf n ra rv hnn hrv hp1 hpl) gX5_isSame_X5_leader rfl 0 rfl ⟨rfl, rfl⟩ ⟨rfl, by decide +kernel, by decide +kernel, by decide +kernel⟩ ⟨Nat.le_of_ble_eq_true rfl, Nat.le_of_ble_eq_true rfl⟩ [0, 4] rfl (by decide) 0 4 rfl rfl hl.1 rfl (Nat.le_of_ble_eq_true rfl) dX5_isSame_547 ⟨by show _ ≤ 200; omega, by show _ ≤ 600; omega⟩ (fun H locs hW => ?_)
                                            refine x_toi (y := pinV (fiB (scC pt ft ti bt th) pl)) (congrArg pinV hI.ld) ?_
                                            refine lv_icmp_ne C.x C.b (tgt := 585) dX5_isSame_550 (by decide) (fun c_34 => ?_) (fun c_34 => ?_)
                                            · exact absurd rfl c_34
                                            · have c_34 : pinV (fiB (scC pt ft ti bt th) pl) = pinV (fiB (scC pt ft ti bt th) pl) := c_34
                                              refine lv_aload_n C.x C.b dX5_isSame_553 rfl (lv_at hl 6 rfl) ?_
                                              refine x_rVD C hW (As := []) (rest := []) (Cn := RX4) (met_X4_meanScore l E c0 a1 a3 a5 pl tu fr nf qs qa qb qc qd pt ft ti bt th hpl hpt hth hft hti hbt) gX5_isSame_X4_meanScore rfl 0 rfl ⟨rfl, rfl⟩ ⟨rfl, by decide +kernel, by decide +kernel, by decide +kernel⟩ ⟨Nat.le_of_ble_eq_true rfl, Nat.le_of_ble_eq_true rfl⟩ [5, 10, 11, 12, 13, 14, 15, 16, 17, 18, 19, 20, 21, 22, 23, 24, 25, 26, 27, 28, 29, 30] rfl (by decide) 5 3 rfl rfl hl.1 rfl (Nat.le_of_ble_eq_true rfl) dX5_isSame_554 ⟨by show _ ≤ 200; omega, by show _ ≤ 600; omega⟩ (fun H locs hW => ?_)
                                              refine lv_aload_n C.x C.b dX5_isSame_557 rfl (lv_at hl 5 rfl) ?_
                                              refine x_get C hW 0 4 4 (Cn := RX5) (T := TX5) (N := 9) rfl rfl (by decide) hinX5 hf53 rfl dX5_isSame_558 ?_
                                              refine x_if_ne C (by omega) (tgt := 568) dX5_isSame_561 (by decide) (fun c_35 => ?_) (fun c_35 => ?_)
                                              · refine lv_iload C.x C.b dX5_isSame_568 (lv_at hl 1 rfl) ?_
                                                refine lv_i2d C.x C.b dX5_isSame_570 ?_
                                                refine lv_aload_n C.x C.b dX5_isSame_571 rfl (lv_at hl 5 rfl) ?_
                                                refine x_get C hW 0 4 4 (Cn := RX5) (T := TX5) (N := 9) rfl rfl (by decide) hinX5 hf53 rfl dX5_isSame_572 ?_
                                                refine lv_i2d C.x C.b dX5_isSame_575 ?_
                                                refine lv_ddiv C.x C.b dX5_isSame_576 (z_ddiv (z_ne0 (by omega) (by omega))) ?_
                                                refine lv_dcmp C.x C.b dX5_isSame_577 ?_
                                                refine x_toi (y := nI 0) (by rw [mnD, if_neg (by omega)]; exact z_dcmp (z_ne0 (by omega) (by omega))) ?_
                                                refine x_if_ne C (by omega) (tgt := 585) dX5_isSame_578 (by decide) (fun c_36 => ?_) (fun c_36 => ?_)
                                                · exact absurd c_36 (by decide)
                                                · refine lv_iconst (v := nI 1) C.x C.b dX5_isSame_581 (by decide) ?_
                                                  refine lv_goto (tgt := 586) C.x C.b dX5_isSame_582 (by decide) ?_
                                                  refine W.widen (k := 200) (n := 600) (by omega) (by omega) ?_
                                                  exact x_iretIa C hW (by first | rfl | exact z_narb _) rfl rfl rfl rfl dX5_isSame_586
                                              · exact absurd c_35 (by omega)
                                  refine lv_aload_n C.x C.b dX5_isSame_484 rfl (lv_at hl 5 rfl) ?_
                                  refine x_get C hW 0 4 4 (Cn := RX5) (T := TX5) (N := 9) rfl rfl (by decide) hinX5 hf53 rfl dX5_isSame_485 ?_
                                  refine x_if_eq C (by omega) (tgt := 498) dX5_isSame_488 (by decide) (fun c_37 => ?_) (fun c_37 => ?_)
                                  · exact absurd c_37 (by omega)
                                  · refine lv_aload_n C.x C.b dX5_isSame_491 rfl (lv_at hl 5 rfl) ?_
                                    refine x_rVI C hW (As := []) (rest := [.int (tnI pl fr tu)]) (Cn := RX5) (met_X5_isOver l E h0 k1 k2 k3 k4 sp pl tu fr nf hfr) gX5_isSame_X5_isOver rfl 0 rfl ⟨rfl, rfl⟩ ⟨rfl, by decide +kernel, by decide +kernel, by decide +kernel⟩ ⟨Nat.le_of_ble_eq_true rfl, Nat.le_of_ble_eq_true rfl⟩ [0] rfl (by decide) 0 4 rfl rfl hl.1 rfl (Nat.le_of_ble_eq_true rfl) dX5_isSame_492 ⟨by show _ ≤ 200; omega, by show _ ≤ 600; omega⟩ (fun H locs hW => ?_)
                                    refine x_ifb_eq C (tgt := 502) dX5_isSame_495 (by decide) (fun c_38 => ?_) (fun c_38 => ?_)
                                    · refine lv_aload_n C.x C.b dX5_isSame_502 rfl (lv_at hl 5 rfl) ?_
                                      refine x_get C hW 0 4 5 (Cn := RX5) (T := TX5) (N := 9) rfl rfl (by decide) hinX5 hf71 rfl dX5_isSame_503 ?_
                                      refine x_toi (y := (tnI pl fr tu)) (by first | (rw [tnI, if_neg (by omega), if_pos (by assumption)]; done) | (rw [tnI, if_neg (by omega), if_neg (by assumption)]; done)) ?_
                                      exact jn_29  _ _ _ (hW.to rfl) (lv_to (lv_sub (l' := [(6, .int (nI pl)), (5, .int (nI (suC (scC pt ft ti bt th) pl))), (4, .int (nI (smD (b11 g w) 9))), (3, .int (pinV (woD w 9))), (2, .int (nI (smD (b12 w) 9))), (0, .ref h0), (1, .ref c0)]) hl [0, 1, 2, 3, 4, 5, 6] rfl) rfl)
                                    · refine lv_iconst (v := (-1)) C.x C.b dX5_isSame_498 (by decide) ?_
                                      refine lv_goto (tgt := 506) C.x C.b dX5_isSame_499 (by decide) ?_
                                      refine x_toi (y := (tnI pl fr tu)) (by first | (rw [tnI, if_neg (by omega), if_pos (by assumption)]; done) | (rw [tnI, if_neg (by omega), if_neg (by assumption)]; done)) ?_
                                      exact jn_29  _ _ _ (hW.to rfl) (lv_to (lv_sub (l' := [(6, .int (nI pl)), (5, .int (nI (suC (scC pt ft ti bt th) pl))), (4, .int (nI (smD (b11 g w) 9))), (3, .int (pinV (woD w 9))), (2, .int (nI (smD (b12 w) 9))), (0, .ref h0), (1, .ref c0)]) hl [0, 1, 2, 3, 4, 5, 6] rfl) rfl)
                    · have hq4 : q < 4 := by omega
                      refine lv_iconst (v := nI 0) C.x C.b dX5_isSame_229 (by decide) ?_
                      refine lv_istore (lv' := [(7, .int (nI 0)), (6, .int (nI q)), (5, .int (nI (suC (scC pt ft ti bt th) q))), (4, .int (nI (smD (b11 g w) 9))), (3, .int (pinV (woD w 9))), (2, .int (nI (smD (b12 w) 9))), (0, .ref h0), (1, .ref c0)]) C.x C.b dX5_isSame_230 hl (by decide) rfl (fun ls hl => ?_)
                      refine lv_iconst (v := nI 0) C.x C.b dX5_isSame_232 (by decide) ?_
                      refine lv_istore (lv' := [(8, .int (nI 0)), (7, .int (nI 0)), (6, .int (nI q)), (5, .int (nI (suC (scC pt ft ti bt th) q))), (4, .int (nI (smD (b11 g w) 9))), (3, .int (pinV (woD w 9))), (2, .int (nI (smD (b12 w) 9))), (0, .ref h0), (1, .ref c0)]) C.x C.b dX5_isSame_233 hl (by decide) rfl (fun ls hl => ?_)
                      refine lv_iconst (v := nI 0) C.x C.b dX5_isSame_235 (by decide) ?_
                      refine lv_istore (lv' := [(9, .int (nI 0)), (8, .int (nI 0)), (7, .int (nI 0)), (6, .int (nI q)), (5, .int (nI (suC (scC pt ft ti bt th) q))), (4, .int (nI (smD (b11 g w) 9))), (3, .int (pinV (woD w 9))), (2, .int (nI (smD (b12 w) 9))), (0, .ref h0), (1, .ref c0)]) C.x C.b dX5_isSame_236 hl (by decide) rfl (fun ls hl => ?_)
                      refine lv_aload_n C.x C.b dX5_isSame_238 rfl (lv_at hl 8 rfl) ?_
                      refine x_get C hW 0 4 8 (Cn := RX5) (T := TX5) (N := 9) rfl rfl (by decide) hinX5 hf25 rfl dX5_isSame_239 ?_
                      refine lv_astore (lv' := [(10, .ref k4), (9, .int (nI 0)), (8, .int (nI 0)), (7, .int (nI 0)), (6, .int (nI q)), (5, .int (nI (suC (scC pt ft ti bt th) q))), (4, .int (nI (smD (b11 g w) 9))), (3, .int (pinV (woD w 9))), (2, .int (nI (smD (b12 w) 9))), (0, .ref h0), (1, .ref c0)]) C.x C.b dX5_isSame_242 hl (by decide) rfl (fun ls hl => ?_)
                      refine lv_aload C.x C.b dX5_isSame_244 (lv_at hl 0 rfl) ?_
                      refine x_alen C hW 4 3 rfl rfl dX5_isSame_246 ?_
                      refine x_toi (y := nI n) rfl ?_
                      refine lv_istore (lv' := [(11, .int (nI n)), (10, .ref k4), (9, .int (nI 0)), (8, .int (nI 0)), (7, .int (nI 0)), (6, .int (nI q)), (5, .int (nI (suC (scC pt ft ti bt th) q))), (4, .int (nI (smD (b11 g w) 9))), (3, .int (pinV (woD w 9))), (2, .int (nI (smD (b12 w) 9))), (0, .ref h0), (1, .ref c0)]) C.x C.b dX5_isSame_247 hl (by decide) rfl (fun ls hl => ?_)
                      refine lv_iconst (v := nI 0) C.x C.b dX5_isSame_249 (by decide) ?_
                      refine lv_istore (lv' := [(12, .int (nI 0)), (11, .int (nI n)), (10, .ref k4), (9, .int (nI 0)), (8, .int (nI 0)), (7, .int (nI 0)), (6, .int (nI q)), (5, .int (nI (suC (scC pt ft ti bt th) q))), (4, .int (nI (smD (b11 g w) 9))), (3, .int (pinV (woD w 9))), (2, .int (nI (smD (b12 w) 9))), (0, .ref h0), (1, .ref c0)]) C.x C.b dX5_isSame_250 hl (by decide) rfl (fun ls hl => ?_)
                      have lp_39 : ∀ (n39 k : Nat), k ≤ n → n + 1 ≤ k + n39 → ∀ (H : Heap) (locs : List Loc) (ls : Array Slot), WD E (va_A (([(h0, .inr (4, [.ref k1, .ref k2, .ref k3, .int (nI sp), .int (nI pl), .int (nI tu), .int (nI fr), .int (nI nf), .ref k4])), (k1, bI E 9 (mB g)), (k2, aI E 9 w), (k3, aI E 5 aw), (k4, qI E n (fun k => some (ra k)))] ++ CW E c0 a1 a2 a3 a4 a5 qs qa qb qc qd pl tu fr nf g sp w aw pt ft ti bt th) ++ plR E n ra rv) s.heap.size) s (([(h0, .inr (4, [.ref k1, .ref k2, .ref k3, .int (nI sp), .int (nI pl), .int (nI tu), .int (nI fr), .int (nI nf), .ref k4])), (k1, bI E 9 (mB g)), (k2, aI E 9 w), (k3, aI E 5 aw), (k4, qI E n (fun k => some (ra k)))] ++ CW E c0 a1 a2 a3 a4 a5 qs qa qb qc qd pl tu fr nf g sp w aw pt ft ti bt th) ++ plR E n ra rv) H locs → lv_has ls 14 [(12, .int (nI k)), (11, .int (nI n)), (10, .ref k4), (9, .int (nI 0)), (8, .int (nI 0)), (7, .int (nI (cnt rv q k))), (6, .int (nI q)), (5, .int (nI (suC (scC pt ft ti bt th) q))), (4, .int (nI (smD (b11 g w) 9))), (3, .int (pinV (woD w 9))), (2, .int (nI (smD (b12 w) 9))), (0, .ref h0), (1, .ref c0)] → W p l e ({ frames := 4, cells := 200, slots := 600, locals := 91 } : Room) s m ([.ref h0, .ref c0] : List Value).toArray below meth c H locs (30 * q) (90 * q) (QIa E (([(h0, .inr (4, [.ref k1, .ref k2, .ref k3, .int (nI sp), .int (nI pl), .int (nI tu), .int (nI fr), .int (nI nf), .ref k4])), (k1, bI E 9 (mB g)), (k2, aI E 9 w), (k3, aI E 5 aw), (k4, qI E n (fun k => some (ra k)))] ++ CW E c0 a1 a2 a3 a4 a5 qs qa qb qc qd pl tu fr nf g sp w aw pt ft ti bt th) ++ plR E n ra rv) 200 600 (nI 1) (([(h0, .inr (4, [.ref k1, .ref k2, .ref k3, .int (nI sp), .int (nI pl), .int (nI tu), .int (nI fr), .int (nI nf), .ref k4])), (k1, bI E 9 (mB g)), (k2, aI E 9 w), (k3, aI E 5 aw), (k4, qI E n (fun k => some (ra k)))] ++ CW E c0 a1 a2 a3 a4 a5 qs qa qb qc qd pl tu fr nf g sp w aw pt ft ti bt th) ++ plR E n ra rv) below ([.ref h0, .ref c0] : List Value).toArray s) (F0 m 252 ls []) := by
                        intro n39
                        induction n39 with
                        | zero => intro k hk hn; exact absurd hn (by omega)
                        | succ n39 ih39 =>
                          intro k hk hn  H locs ls hW hl
                          refine lv_iload C.x C.b dX5_isSame_252 (lv_at hl 0 rfl) ?_
                          refine lv_iload C.x C.b dX5_isSame_254 (lv_at hl 1 rfl) ?_
                          refine x_icmp_ge C (by omega) (by omega) (tgt := 291) dX5_isSame_256 (by decide) (fun c_40 => ?_) (fun c_40 => ?_)
                          · have e9 : n = k := by omega
                            subst e9
                            refine lv_iconst (v := nI 0) C.x C.b dX5_isSame_291 (by decide) ?_
                            refine lv_istore (lv' := [(10, .int (nI 0)), (12, .int (nI n)), (11, .int (nI n)), (9, .int (nI 0)), (8, .int (nI 0)), (7, .int (nI (cnt rv q n))), (6, .int (nI q)), (5, .int (nI (suC (scC pt ft ti bt th) q))), (4, .int (nI (smD (b11 g w) 9))), (3, .int (pinV (woD w 9))), (2, .int (nI (smD (b12 w) 9))), (0, .ref h0), (1, .ref c0)]) C.x C.b dX5_isSame_292 hl (by decide) rfl (fun ls hl => ?_)
                            have lp_41 : ∀ (n41 f : Nat), f ≤ 10 → 10 + 1 ≤ f + n41 → ∀ (H : Heap) (locs : List Loc) (ls : Array Slot), WD E (va_A (([(h0, .inr (4, [.ref k1, .ref k2, .ref k3, .int (nI sp), .int (nI pl), .int (nI tu), .int (nI fr), .int (nI nf), .ref k4])), (k1, bI E 9 (mB g)), (k2, aI E 9 w), (k3, aI E 5 aw), (k4, qI E n (fun k => some (ra k)))] ++ CW E c0 a1 a2 a3 a4 a5 qs qa qb qc qd pl tu fr nf g sp w aw pt ft ti bt th) ++ plR E n ra rv) s.heap.size) s (([(h0, .inr (4, [.ref k1, .ref k2, .ref k3, .int (nI sp), .int (nI pl), .int (nI tu), .int (nI fr), .int (nI nf), .ref k4])), (k1, bI E 9 (mB g)), (k2, aI E 9 w), (k3, aI E 5 aw), (k4, qI E n (fun k => some (ra k)))] ++ CW E c0 a1 a2 a3 a4 a5 qs qa qb qc qd pl tu fr nf g sp w aw pt ft ti bt th) ++ plR E n ra rv) H locs → lv_has ls 14 [(10, .int (nI f)), (12, .int (nI n)), (9, .int (nI (fbN (bt q) 1 f))), (8, .int (nI (fbN (bt q) 2 f))), (7, .int (nI (cnt rv q n))), (6, .int (nI q)), (5, .int (nI (suC (scC pt ft ti bt th) q))), (4, .int (nI (smD (b11 g w) 9))), (3, .int (pinV (woD w 9))), (2, .int (nI (smD (b12 w) 9))), (0, .ref h0), (1, .ref c0)] → W p l e ({ frames := 4, cells := 200, slots := 600, locals := 91 } : Room) s m ([.ref h0, .ref c0] : List Value).toArray below meth c H locs (30 * q + f) (90 * q + 3 * f) (QIa E (([(h0, .inr (4, [.ref k1, .ref k2, .ref k3, .int (nI sp), .int (nI pl), .int (nI tu), .int (nI fr), .int (nI nf), .ref k4])), (k1, bI E 9 (mB g)), (k2, aI E 9 w), (k3, aI E 5 aw), (k4, qI E n (fun k => some (ra k)))] ++ CW E c0 a1 a2 a3 a4 a5 qs qa qb qc qd pl tu fr nf g sp w aw pt ft ti bt th) ++ plR E n ra rv) 200 600 (nI 1) (([(h0, .inr (4, [.ref k1, .ref k2, .ref k3, .int (nI sp), .int (nI pl), .int (nI tu), .int (nI fr), .int (nI nf), .ref k4])), (k1, bI E 9 (mB g)), (k2, aI E 9 w), (k3, aI E 5 aw), (k4, qI E n (fun k => some (ra k)))] ++ CW E c0 a1 a2 a3 a4 a5 qs qa qb qc qd pl tu fr nf g sp w aw pt ft ti bt th) ++ plR E n ra rv) below ([.ref h0, .ref c0] : List Value).toArray s) (F0 m 294 ls []) := by
                              intro n41
                              induction n41 with
                              | zero => intro f hf hn; exact absurd hn (by omega)
                              | succ n41 ih41 =>
                                intro f hf hn  H locs ls hW hl
                                refine lv_iload C.x C.b dX5_isSame_294 (lv_at hl 0 rfl) ?_
                                refine lv_bipush (v := nI 10) C.x C.b dX5_isSame_296 (by decide) ?_
                                refine x_icmp_ge C (by omega) (by omega) (tgt := 352) dX5_isSame_298 (by decide) (fun c_42 => ?_) (fun c_42 => ?_)
                                · obtain rfl : f = 10 := by omega
                                  refine lv_iload C.x C.b dX5_isSame_352 (lv_at hl 6 rfl) ?_
                                  refine lv_aload_n C.x C.b dX5_isSame_354 rfl (lv_at hl 10 rfl) ?_
                                  refine lv_iload C.x C.b dX5_isSame_355 (lv_at hl 5 rfl) ?_
                                  refine x_rVIaT C hW (As := [.int (nI q)]) (rest := [.int (nI (suC (scC pt ft ti bt th) q))]) (Cn := RX5) (met_X5_score l E h0 k1 k2 k3 k4 sp pl tu fr nf n ra rv q hnn hrv (by omega)) gX5_isSame_X5_score rfl 1 rfl ⟨rfl, rfl⟩ ⟨rfl, by decide +kernel, by decide +kernel, by decide +kernel⟩ ⟨Nat.le_of_ble_eq_true rfl, Nat.le_of_ble_eq_true rfl⟩ [0, 4] rfl (by decide) 0 4 rfl rfl hl.1 rfl (Nat.le_of_ble_eq_true rfl) dX5_isSame_357 ⟨by show _ ≤ 200; omega, by show _ ≤ 600; omega⟩ (fun H locs hW => ?_)
                                  refine x_toi (y := nI (scC pt ft ti bt th q)) (congrArg nI (hI.scl hq4)) ?_
                                  refine x_iadd C dX5_isSame_360 ?_
                                  refine lv_istore (lv' := [(5, .int (nI ((suC (scC pt ft ti bt th) q) + (scC pt ft ti bt th q)))), (10, .int (nI 10)), (12, .int (nI n)), (9, .int (nI (fbN (bt q) 1 10))), (8, .int (nI (fbN (bt q) 2 10))), (7, .int (nI (cnt rv q n))), (6, .int (nI q)), (4, .int (nI (smD (b11 g w) 9))), (3, .int (pinV (woD w 9))), (2, .int (nI (smD (b12 w) 9))), (0, .ref h0), (1, .ref c0)]) C.x C.b dX5_isSame_361 hl (by decide) rfl (fun ls hl => ?_)
                                  refine lv_aload_n C.x C.b dX5_isSame_363 rfl (lv_at hl 11 rfl) ?_
                                  refine lv_iload C.x C.b dX5_isSame_364 (lv_at hl 6 rfl) ?_
                                  refine x_rVI C hW (As := [.int (nI q)]) (rest := []) (Cn := RX4) (met_X4_throwsOf_ok l E c0 a1 a3 a5 pl tu fr nf qs qa qb qc qd pt ft ti bt th q (by omega) hpl) gX5_isSame_X4_throwsOf rfl 1 rfl ⟨rfl, rfl⟩ ⟨rfl, by decide +kernel, by decide +kernel, by decide +kernel⟩ ⟨Nat.le_of_ble_eq_true rfl, Nat.le_of_ble_eq_true rfl⟩ [5, 10, 11 + 5 * q, 12 + 5 * q, 13 + 5 * q, 14 + 5 * q, 15 + 5 * q] (by rcases z4 (by omega : q < 4) with rfl | rfl | rfl | rfl <;> rfl) (by rcases z4 (by omega : q < 4) with rfl | rfl | rfl | rfl <;> decide) 5 3 rfl rfl hl.1 rfl (Nat.le_of_ble_eq_true rfl) dX5_isSame_366 ⟨by show _ ≤ 200; omega, by show _ ≤ 600; omega⟩ (fun H locs hW => ?_)
                                  refine lv_iload C.x C.b dX5_isSame_369 (lv_at hl 5 rfl) ?_
                                  refine x_icmp_ne C (by have := hth q; omega) (by have := (hI.hP hq4).1; have := hth q; omega) (tgt := 411) dX5_isSame_371 (by decide) (fun c_43 => ?_) (fun c_43 => ?_)
                                  · exact absurd (hI.hP hq4).1 c_43
                                  · refine lv_aload_n C.x C.b dX5_isSame_374 rfl (lv_at hl 11 rfl) ?_
                                    refine lv_iload C.x C.b dX5_isSame_375 (lv_at hl 6 rfl) ?_
                                    refine x_rVI C hW (As := [.int (nI q)]) (rest := []) (Cn := RX4) (met_X4_scoreOf_ok l E c0 a1 a3 a5 pl tu fr nf qs qa qb qc qd pt ft ti bt th q (by omega) hpl hth hft hti hbt) gX5_isSame_X4_scoreOf rfl 1 rfl ⟨rfl, rfl⟩ ⟨rfl, by decide +kernel, by decide +kernel, by decide +kernel⟩ ⟨Nat.le_of_ble_eq_true rfl, Nat.le_of_ble_eq_true rfl⟩ [5, 10, 11 + 5 * q, 12 + 5 * q, 13 + 5 * q, 14 + 5 * q, 15 + 5 * q] (by rcases z4 (by omega : q < 4) with rfl | rfl | rfl | rfl <;> rfl) (by rcases z4 (by omega : q < 4) with rfl | rfl | rfl | rfl <;> decide) 5 3 rfl rfl hl.1 rfl (Nat.le_of_ble_eq_true rfl) dX5_isSame_377 ⟨by show _ ≤ 200; omega, by show _ ≤ 600; omega⟩ (fun H locs hW => ?_)
                                    refine lv_aload_n C.x C.b dX5_isSame_380 rfl (lv_at hl 10 rfl) ?_
                                    refine lv_iload C.x C.b dX5_isSame_381 (lv_at hl 6 rfl) ?_
                                    refine x_rVIaT C hW (As := [.int (nI q)]) (rest := [.int (nI (scC pt ft ti bt th q))]) (Cn := RX5) (met_X5_score l E h0 k1 k2 k3 k4 sp pl tu fr nf n ra rv q hnn hrv (by omega)) gX5_isSame_X5_score rfl 1 rfl ⟨rfl, rfl⟩ ⟨rfl, by decide +kernel, by decide +kernel, by decide +kernel⟩ ⟨Nat.le_of_ble_eq_true rfl, Nat.le_of_ble_eq_true rfl⟩ [0, 4] rfl (by decide) 0 4 rfl rfl hl.1 rfl (Nat.le_of_ble_eq_true rfl) dX5_isSame_383 ⟨by show _ ≤ 200; omega, by show _ ≤ 600; omega⟩ (fun H locs hW => ?_)
                                    refine x_toi (y := nI (scC pt ft ti bt th q)) (congrArg nI (hI.scl hq4)) ?_
                                    refine x_icmp_ne C (by have := scC_le (ft := ft) (ti := ti) (bt := bt) hpt hth q; omega) (by have := scC_le (ft := ft) (ti := ti) (bt := bt) hpt hth q; omega) (tgt := 411) dX5_isSame_386 (by decide) (fun c_44 => ?_) (fun c_44 => ?_)
                                    · exact absurd rfl c_44
                                    · refine lv_aload_n C.x C.b dX5_isSame_389 rfl (lv_at hl 11 rfl) ?_
                                      refine lv_iload C.x C.b dX5_isSame_390 (lv_at hl 6 rfl) ?_
                                      refine x_rVI C hW (As := [.int (nI q)]) (rest := []) (Cn := RX4) (met_X4_strikesOf_ok l E c0 a1 a3 a5 pl tu fr nf qs qa qb qc qd pt ft ti bt th q (by omega) hpl hbt) gX5_isSame_X4_strikesOf rfl 1 rfl ⟨rfl, rfl⟩ ⟨rfl, by decide +kernel, by decide +kernel, by decide +kernel⟩ ⟨Nat.le_of_ble_eq_true rfl, Nat.le_of_ble_eq_true rfl⟩ [5, 10, 11 + 5 * q, 12 + 5 * q, 13 + 5 * q, 14 + 5 * q, 15 + 5 * q] (by rcases z4 (by omega : q < 4) with rfl | rfl | rfl | rfl <;> rfl) (by rcases z4 (by omega : q < 4) with rfl | rfl | rfl | rfl <;> decide) 5 3 rfl rfl hl.1 rfl (Nat.le_of_ble_eq_true rfl) dX5_isSame_392 ⟨by show _ ≤ 200; omega, by show _ ≤ 600; omega⟩ (fun H locs hW => ?_)
                                      refine lv_iload C.x C.b dX5_isSame_395 (lv_at hl 4 rfl) ?_
                                      refine x_icmp_ne C (by have := fbN_le (bt q) 2 10; omega) (by have := fbN_le (bt q) 2 10; omega) (tgt := 411) dX5_isSame_397 (by decide) (fun c_45 => ?_) (fun c_45 => ?_)
                                      · exact absurd rfl c_45
                                      · refine lv_aload_n C.x C.b dX5_isSame_400 rfl (lv_at hl 11 rfl) ?_
                                        refine lv_iload C.x C.b dX5_isSame_401 (lv_at hl 6 rfl) ?_
                                        refine x_rVI C hW (As := [.int (nI q)]) (rest := []) (Cn := RX4) (met_X4_sparesOf_ok l E c0 a1 a3 a5 pl tu fr nf qs qa qb qc qd pt ft ti bt th q (by omega) hpl hbt) gX5_isSame_X4_sparesOf rfl 1 rfl ⟨rfl, rfl⟩ ⟨rfl, by decide +kernel, by decide +kernel, by decide +kernel⟩ ⟨Nat.le_of_ble_eq_true rfl, Nat.le_of_ble_eq_true rfl⟩ [5, 10, 11 + 5 * q, 12 + 5 * q, 13 + 5 * q, 14 + 5 * q, 15 + 5 * q] (by rcases z4 (by omega : q < 4) with rfl | rfl | rfl | rfl <;> rfl) (by rcases z4 (by omega : q < 4) with rfl | rfl | rfl | rfl <;> decide) 5 3 rfl rfl hl.1 rfl (Nat.le_of_ble_eq_true rfl) dX5_isSame_403 ⟨by show _ ≤ 200; omega, by show _ ≤ 600; omega⟩ (fun H locs hW => ?_)
                                        refine lv_iload C.x C.b dX5_isSame_406 (lv_at hl 3 rfl) ?_
                                        refine x_icmp_eq C (by have := fbN_le (bt q) 1 10; omega) (by have := fbN_le (bt q) 1 10; omega) (tgt := 413) dX5_isSame_408 (by decide) (fun c_46 => ?_) (fun c_46 => ?_)
                                        · refine lv_iinc (k := 6) (v := nI (q + 1)) (lv' := [(6, .int (nI (q + 1))), (5, .int (nI ((suC (scC pt ft ti bt th) q) + (scC pt ft ti bt th q)))), (10, .int (nI 10)), (12, .int (nI n)), (9, .int (nI (fbN (bt q) 1 10))), (8, .int (nI (fbN (bt q) 2 10))), (7, .int (nI (cnt rv q n))), (4, .int (nI (smD (b11 g w) 9))), (3, .int (pinV (woD w 9))), (2, .int (nI (smD (b12 w) 9))), (0, .ref h0), (1, .ref c0)]) C.x C.b dX5_isSame_413 hl rfl (z_inc q 1) (by decide) rfl (fun ls hl => ?_)
                                          refine lv_goto (tgt := 220) C.x C.b dX5_isSame_416 (by decide) ?_
                                          refine W.widen (k := 30 * ((q + 1))) (n := 90 * ((q + 1))) (by omega) (by omega) ?_
                                          exact ih21 (q + 1) (by omega) (by omega)  _ _ _ (hW.to rfl) (lv_to (lv_sub (l' := [(6, .int (nI (q + 1))), (5, .int (nI ((suC (scC pt ft ti bt th) q) + (scC pt ft ti bt th q)))), (4, .int (nI (smD (b11 g w) 9))), (3, .int (pinV (woD w 9))), (2, .int (nI (smD (b12 w) 9))), (0, .ref h0), (1, .ref c0)]) hl [0, 1, 7, 8, 9, 10, 11] rfl) (by first | rfl | (simp [c_18, c_20, c_22, c_40, c_42, c_43, c_44, c_45, c_46]; done) | (rw [if_pos (by omega)]; done) | (rw [if_neg (by omega)]; done) | (exfalso; omega) | ((repeat' split) <;> first | rfl | contradiction | (exfalso; omega))))
                                        · exact absurd rfl c_46
                                · refine lv_aload_n C.x C.b dX5_isSame_301 rfl (lv_at hl 10 rfl) ?_
                                  refine lv_iload C.x C.b dX5_isSame_302 (lv_at hl 5 rfl) ?_
                                  refine lv_iload C.x C.b dX5_isSame_304 (lv_at hl 0 rfl) ?_
                                  refine x_rVNT C hW (As := [.int (nI q), .int (nI f)]) (rest := []) (Cn := RX5) (met_X5_of l E h0 k1 k2 k3 k4 sp pl tu fr nf n ra rv q f hnn hrv (by omega) (by omega)) gX5_isSame_X5_of rfl 2 rfl ⟨rfl, rfl⟩ ⟨rfl, by decide +kernel, by decide +kernel, by decide +kernel⟩ ⟨Nat.le_of_ble_eq_true rfl, Nat.le_of_ble_eq_true rfl⟩ [0, 4] rfl (by decide) 0 4 rfl rfl hl.1 rfl (Nat.le_of_ble_eq_true rfl) dX5_isSame_306 ⟨by show _ ≤ 200; omega, by show _ ≤ 600; omega⟩ (fun o_47 H locs hW => ?_)
                                  have hW := hW.front
                                  have hW : WD E _ s (([(o_47, aI E 3 (o3 n rv q f)), (h0, .inr (4, [.ref k1, .ref k2, .ref k3, .int (nI sp), .int (nI pl), .int (nI tu), .int (nI fr), .int (nI nf), .ref k4])), (k1, bI E 9 (mB g)), (k2, aI E 9 w), (k3, aI E 5 aw), (k4, qI E n (fun k => some (ra k)))] ++ CW E c0 a1 a2 a3 a4 a5 qs qa qb qc qd pl tu fr nf g sp w aw pt ft ti bt th) ++ plR E n ra rv) H _ := hW
                                  refine lv_astore (lv' := [(11, .ref o_47), (10, .int (nI f)), (12, .int (nI n)), (9, .int (nI (fbN (bt q) 1 f))), (8, .int (nI (fbN (bt q) 2 f))), (7, .int (nI (cnt rv q n))), (6, .int (nI q)), (5, .int (nI (suC (scC pt ft ti bt th) q))), (4, .int (nI (smD (b11 g w) 9))), (3, .int (pinV (woD w 9))), (2, .int (nI (smD (b12 w) 9))), (0, .ref h0), (1, .ref c0)]) C.x C.b dX5_isSame_309 hl (by decide) rfl (fun ls hl => ?_)
                                  refine lv_aload_n C.x C.b dX5_isSame_311 rfl (lv_at hl 12 rfl) ?_
                                  refine lv_iload C.x C.b dX5_isSame_312 (lv_at hl 6 rfl) ?_
                                  refine lv_iload C.x C.b dX5_isSame_314 (lv_at hl 1 rfl) ?_
                                  refine x_rVI C hW (As := [.int (nI q), .int (nI f)]) (rest := []) (Cn := RX4) (met_X4_pointsOf_ok l E c0 a1 a3 a5 pl tu fr nf qs qa qb qc qd pt ft ti bt th q f (by omega) hpl (by omega) hth hft hti hbt) gX5_isSame_X4_pointsOf rfl 2 rfl ⟨rfl, rfl⟩ ⟨rfl, by decide +kernel, by decide +kernel, by decide +kernel⟩ ⟨Nat.le_of_ble_eq_true rfl, Nat.le_of_ble_eq_true rfl⟩ [6, 11, 12 + 5 * q, 13 + 5 * q, 14 + 5 * q, 15 + 5 * q, 16 + 5 * q] (by rcases z4 (by omega : q < 4) with rfl | rfl | rfl | rfl <;> rfl) (by rcases z4 (by omega : q < 4) with rfl | rfl | rfl | rfl <;> decide) 6 3 rfl rfl hl.1 rfl (Nat.le_of_ble_eq_true rfl) dX5_isSame_316 ⟨by show _ ≤ 200; omega, by show _ ≤ 600; omega⟩ (fun H locs hW => ?_)
                                  refine lv_aload C.x C.b dX5_isSame_319 (lv_at hl 0 rfl) ?_
                                  refine lv_iconst (v := nI 0) C.x C.b dX5_isSame_321 (by decide) ?_
                                  refine x_ald C hW 0 0 rfl rfl (by omega) (by decide) dX5_isSame_322 ?_
                                  refine x_toi (y := nI (poN (pt q) (ft q) (ti q) (bt q) (th q) f)) (congrArg nI ((o3_0 _ _ _ _).trans (hI.os hq4 (by omega)))) ?_
                                  refine x_icmp_eq C (by have := poN_le (ft := ft q) (ti := ti q) (bt := bt q) (hpt q) (hth q) f; omega) (by have := poN_le (ft := ft q) (ti := ti q) (bt := bt q) (hpt q) (hth q) f; omega) (tgt := 328) dX5_isSame_323 (by decide) (fun c_48 => ?_) (fun c_48 => ?_)
                                  · refine lv_iload C.x C.b dX5_isSame_328 (lv_at hl 4 rfl) ?_
                                    refine lv_aload C.x C.b dX5_isSame_330 (lv_at hl 0 rfl) ?_
                                    refine lv_iconst (v := nI 1) C.x C.b dX5_isSame_332 (by decide) ?_
                                    refine x_ald C hW 0 1 rfl rfl (by omega) (by decide) dX5_isSame_333 ?_
                                    refine x_toi (y := nI (if bt q f = 2 then 1 else 0)) (congrArg nI ((o3_1 _ _ _ _).trans ((hI.hP hq4).kp hI.h4 (by omega)).1)) ?_
                                    refine x_iadd C dX5_isSame_334 ?_
                                    refine lv_istore (lv' := [(8, .int (nI ((fbN (bt q) 2 f) + (if bt q f = 2 then 1 else 0)))), (11, .ref o_47), (10, .int (nI f)), (12, .int (nI n)), (9, .int (nI (fbN (bt q) 1 f))), (7, .int (nI (cnt rv q n))), (6, .int (nI q)), (5, .int (nI (suC (scC pt ft ti bt th) q))), (4, .int (nI (smD (b11 g w) 9))), (3, .int (pinV (woD w 9))), (2, .int (nI (smD (b12 w) 9))), (0, .ref h0), (1, .ref c0)]) C.x C.b dX5_isSame_335 hl (by decide) rfl (fun ls hl => ?_)
                                    refine lv_iload C.x C.b dX5_isSame_337 (lv_at hl 4 rfl) ?_
                                    refine lv_aload C.x C.b dX5_isSame_339 (lv_at hl 1 rfl) ?_
                                    refine lv_iconst (v := nI 2) C.x C.b dX5_isSame_341 (by decide) ?_
                                    refine x_ald C hW 0 2 rfl rfl (by omega) (by decide) dX5_isSame_342 ?_
                                    refine x_toi (y := nI (if bt q f = 1 then 1 else 0)) (congrArg nI ((o3_2 _ _ _ _).trans ((hI.hP hq4).kp hI.h4 (by omega)).2)) ?_
                                    refine x_iadd C dX5_isSame_343 ?_
                                    refine lv_istore (lv' := [(9, .int (nI ((fbN (bt q) 1 f) + (if bt q f = 1 then 1 else 0)))), (8, .int (nI ((fbN (bt q) 2 f) + (if bt q f = 2 then 1 else 0)))), (11, .ref o_47), (10, .int (nI f)), (12, .int (nI n)), (7, .int (nI (cnt rv q n))), (6, .int (nI q)), (5, .int (nI (suC (scC pt ft ti bt th) q))), (4, .int (nI (smD (b11 g w) 9))), (3, .int (pinV (woD w 9))), (2, .int (nI (smD (b12 w) 9))), (0, .ref h0), (1, .ref c0)]) C.x C.b dX5_isSame_344 hl (by decide) rfl (fun ls hl => ?_)
                                    refine lv_iinc (k := 3) (v := nI (f + 1)) (lv' := [(10, .int (nI (f + 1))), (9, .int (nI ((fbN (bt q) 1 f) + (if bt q f = 1 then 1 else 0)))), (8, .int (nI ((fbN (bt q) 2 f) + (if bt q f = 2 then 1 else 0)))), (11, .ref o_47), (12, .int (nI n)), (7, .int (nI (cnt rv q n))), (6, .int (nI q)), (5, .int (nI (suC (scC pt ft ti bt th) q))), (4, .int (nI (smD (b11 g w) 9))), (3, .int (pinV (woD w 9))), (2, .int (nI (smD (b12 w) 9))), (0, .ref h0), (1, .ref c0)]) C.x C.b dX5_isSame_346 hl rfl (z_inc f 1) (by decide) rfl (fun ls hl => ?_)
                                    refine lv_goto (tgt := 294) C.x C.b dX5_isSame_349 (by decide) ?_
                                    refine W.widen (k := 30 * q + ((f + 1))) (n := 90 * q + 3 * ((f + 1))) (by omega) (by omega) ?_
                                    have hW := WD.part hW (w' := ([(h0, .inr (4, [.ref k1, .ref k2, .ref k3, .int (nI sp), .int (nI pl), .int (nI tu), .int (nI fr), .int (nI nf), .ref k4])), (k1, bI E 9 (mB g)), (k2, aI E 9 w), (k3, aI E 5 aw), (k4, qI E n (fun k => some (ra k)))] ++ CW E c0 a1 a2 a3 a4 a5 qs qa qb qc qd pl tu fr nf g sp w aw pt ft ti bt th)) [1, 2, 3, 4, 5, 6, 7, 8, 9, 10, 11, 12, 13, 14, 15, 16, 17, 18, 19, 20, 21, 22, 23, 24, 25, 26, 27, 28, 29, 30, 31] rfl (by decide)
                                    exact ih41 (f + 1) (by omega) (by omega)  _ _ _ (hW.to rfl) (lv_to (lv_sub (l' := [(10, .int (nI (f + 1))), (12, .int (nI n)), (9, .int (nI ((fbN (bt q) 1 f) + (if bt q f = 1 then 1 else 0)))), (8, .int (nI ((fbN (bt q) 2 f) + (if bt q f = 2 then 1 else 0)))), (7, .int (nI (cnt rv q n))), (6, .int (nI q)), (5, .int (nI (suC (scC pt ft ti bt th) q))), (4, .int (nI (smD (b11 g w) 9))), (3, .int (pinV (woD w 9))), (2, .int (nI (smD (b12 w) 9))), (0, .ref h0), (1, .ref c0)]) hl [0, 4, 1, 2, 5, 6, 7, 8, 9, 10, 11, 12] rfl) (by rw [fbN_s, fbN_s]))
                                  · exact absurd rfl c_48
                            refine W.widen (k := 30 * q + 0) (n := 90 * q + 3 * 0) (by omega) (by omega) ?_
                            exact lp_41 (10 + 1) 0 (by omega) (by omega)  _ _ _ (hW.to rfl) (lv_to (lv_sub (l' := [(10, .int (nI 0)), (12, .int (nI n)), (9, .int (nI 0)), (8, .int (nI 0)), (7, .int (nI (cnt rv q n))), (6, .int (nI q)), (5, .int (nI (suC (scC pt ft ti bt th) q))), (4, .int (nI (smD (b11 g w) 9))), (3, .int (pinV (woD w 9))), (2, .int (nI (smD (b12 w) 9))), (0, .ref h0), (1, .ref c0)]) hl [0, 1, 3, 4, 5, 6, 7, 8, 9, 10, 11, 12] rfl) rfl)
                          · refine lv_aload C.x C.b dX5_isSame_259 (lv_at hl 2 rfl) ?_
                            refine lv_iload C.x C.b dX5_isSame_261 (lv_at hl 0 rfl) ?_
                            refine x_aldqI C hW 4 k rfl rfl (by omega) (by omega) rfl dX5_isSame_263 ?_
                            refine lv_astore (lv' := [(13, .ref (ra k)), (12, .int (nI k)), (11, .int (nI n)), (10, .ref k4), (9, .int (nI 0)), (8, .int (nI 0)), (7, .int (nI (cnt rv q k))), (6, .int (nI q)), (5, .int (nI (suC (scC pt ft ti bt th) q))), (4, .int (nI (smD (b11 g w) 9))), (3, .int (pinV (woD w 9))), (2, .int (nI (smD (b12 w) 9))), (0, .ref h0), (1, .ref c0)]) C.x C.b dX5_isSame_264 hl (by decide) rfl (fun ls hl => ?_)
                            refine lv_iload C.x C.b dX5_isSame_266 (lv_at hl 6 rfl) ?_
                            refine lv_aload C.x C.b dX5_isSame_268 (lv_at hl 0 rfl) ?_
                            refine lv_iconst (v := nI 0) C.x C.b dX5_isSame_270 (by decide) ?_
                            refine x_ald C hW (31 + k) 0 (plR_at rfl (by omega)) rfl (by decide) (by decide) dX5_isSame_271 ?_
                            refine lv_iload C.x C.b dX5_isSame_272 (lv_at hl 7 rfl) ?_
                            refine x_icmp_ne C (by have := hrv k 0; omega) (by have := hrv k 0; omega) (tgt := 281) dX5_isSame_274 (by decide) (fun c_49 => ?_) (fun c_49 => ?_)
                            · refine lv_iconst (v := nI 0) C.x C.b dX5_isSame_281 (by decide) ?_
                              refine x_iadd C dX5_isSame_282 ?_
                              refine lv_istore (lv' := [(7, .int (nI ((cnt rv q k) + 0))), (13, .ref (ra k)), (12, .int (nI k)), (11, .int (nI n)), (10, .ref k4), (9, .int (nI 0)), (8, .int (nI 0)), (6, .int (nI q)), (5, .int (nI (suC (scC pt ft ti bt th) q))), (4, .int (nI (smD (b11 g w) 9))), (3, .int (pinV (woD w 9))), (2, .int (nI (smD (b12 w) 9))), (0, .ref h0), (1, .ref c0)]) C.x C.b dX5_isSame_283 hl (by decide) rfl (fun ls hl => ?_)
                              refine lv_iinc (k := 2) (v := nI (k + 1)) (lv' := [(12, .int (nI (k + 1))), (7, .int (nI ((cnt rv q k) + 0))), (13, .ref (ra k)), (11, .int (nI n)), (10, .ref k4), (9, .int (nI 0)), (8, .int (nI 0)), (6, .int (nI q)), (5, .int (nI (suC (scC pt ft ti bt th) q))), (4, .int (nI (smD (b11 g w) 9))), (3, .int (pinV (woD w 9))), (2, .int (nI (smD (b12 w) 9))), (0, .ref h0), (1, .ref c0)]) C.x C.b dX5_isSame_285 hl rfl (z_inc k 1) (by decide) rfl (fun ls hl => ?_)
                              refine lv_goto (tgt := 252) C.x C.b dX5_isSame_288 (by decide) ?_
                              exact ih39 (k + 1) (by omega) (by omega)  _ _ _ (hW.to rfl) (lv_to (lv_sub (l' := [(12, .int (nI (k + 1))), (11, .int (nI n)), (10, .ref k4), (9, .int (nI 0)), (8, .int (nI 0)), (7, .int (nI ((cnt rv q k) + 0))), (6, .int (nI q)), (5, .int (nI (suC (scC pt ft ti bt th) q))), (4, .int (nI (smD (b11 g w) 9))), (3, .int (pinV (woD w 9))), (2, .int (nI (smD (b12 w) 9))), (0, .ref h0), (1, .ref c0)]) hl [0, 3, 4, 5, 6, 1, 7, 8, 9, 10, 11, 12, 13] rfl) (by first | (rw [cnt_y (by assumption)]; done) | (rw [cnt_n (by assumption)] <;> rfl)))
                            · refine lv_iconst (v := nI 1) C.x C.b dX5_isSame_277 (by decide) ?_
                              refine lv_goto (tgt := 282) C.x C.b dX5_isSame_278 (by decide) ?_
                              refine x_iadd C dX5_isSame_282 ?_
                              refine lv_istore (lv' := [(7, .int (nI ((cnt rv q k) + 1))), (13, .ref (ra k)), (12, .int (nI k)), (11, .int (nI n)), (10, .ref k4), (9, .int (nI 0)), (8, .int (nI 0)), (6, .int (nI q)), (5, .int (nI (suC (scC pt ft ti bt th) q))), (4, .int (nI (smD (b11 g w) 9))), (3, .int (pinV (woD w 9))), (2, .int (nI (smD (b12 w) 9))), (0, .ref h0), (1, .ref c0)]) C.x C.b dX5_isSame_283 hl (by decide) rfl (fun ls hl => ?_)
                              refine lv_iinc (k := 2) (v := nI (k + 1)) (lv' := [(12, .int (nI (k + 1))), (7, .int (nI ((cnt rv q k) + 1))), (13, .ref (ra k)), (11, .int (nI n)), (10, .ref k4), (9, .int (nI 0)), (8, .int (nI 0)), (6, .int (nI q)), (5, .int (nI (suC (scC pt ft ti bt th) q))), (4, .int (nI (smD (b11 g w) 9))), (3, .int (pinV (woD w 9))), (2, .int (nI (smD (b12 w) 9))), (0, .ref h0), (1, .ref c0)]) C.x C.b dX5_isSame_285 hl rfl (z_inc k 1) (by decide) rfl (fun ls hl => ?_)
                              refine lv_goto (tgt := 252) C.x C.b dX5_isSame_288 (by decide) ?_
                              exact ih39 (k + 1) (by omega) (by omega)  _ _ _ (hW.to rfl) (lv_to (lv_sub (l' := [(12, .int (nI (k + 1))), (11, .int (nI n)), (10, .ref k4), (9, .int (nI 0)), (8, .int (nI 0)), (7, .int (nI ((cnt rv q k) + 1))), (6, .int (nI q)), (5, .int (nI (suC (scC pt ft ti bt th) q))), (4, .int (nI (smD (b11 g w) 9))), (3, .int (pinV (woD w 9))), (2, .int (nI (smD (b12 w) 9))), (0, .ref h0), (1, .ref c0)]) hl [0, 3, 4, 5, 6, 1, 7, 8, 9, 10, 11, 12, 13] rfl) (by first | (rw [cnt_y (by assumption)]; done) | (rw [cnt_n (by assumption)] <;> rfl)))
                      exact lp_39 (n + 1) 0 (by omega) (by omega)  _ _ _ (hW.to rfl) (lv_to (lv_sub (l' := [(12, .int (nI 0)), (11, .int (nI n)), (10, .ref k4), (9, .int (nI 0)), (8, .int (nI 0)), (7, .int (nI 0)), (6, .int (nI q)), (5, .int (nI (suC (scC pt ft ti bt th) q))), (4, .int (nI (smD (b11 g w) 9))), (3, .int (pinV (woD w 9))), (2, .int (nI (smD (b12 w) 9))), (0, .ref h0), (1, .ref c0)]) hl [0, 1, 2, 3, 4, 5, 6, 7, 8, 9, 10, 11, 12] rfl) rfl)
                refine W.widen (k := 30 * 0) (n := 90 * 0) (by omega) (by omega) ?_
                exact lp_21 (pl + 1) 0 (by omega) (by omega)  _ _ _ (hW.to rfl) (lv_to (lv_sub (l' := [(6, .int (nI 0)), (5, .int (nI 0)), (4, .int (nI (smD (b11 g w) 9))), (3, .int (pinV (woD w 9))), (2, .int (nI (smD (b12 w) 9))), (0, .ref h0), (1, .ref c0)]) hl [0, 1, 2, 3, 4, 5, 6] rfl) rfl)
              · refine lv_aload_n C.x C.b dX5_isSame_190 rfl (lv_at hl 5 rfl) ?_
                refine lv_iload C.x C.b dX5_isSame_191 (lv_at hl 0 rfl) ?_
                refine x_rVI C hW (As := [.int (nI i)]) (rest := []) (Cn := RX4) (met_X4_awayFor_ok l E c0 a1 a3 a5 pl tu fr nf a4 aw i (by omega)) gX5_isSame_X4_awayFor rfl 1 rfl ⟨rfl, rfl⟩ ⟨rfl, by decide +kernel, by decide +kernel, by decide +kernel⟩ ⟨Nat.le_of_ble_eq_true rfl, Nat.le_of_ble_eq_true rfl⟩ [5, 8, 9] rfl (by decide) 5 3 rfl rfl hl.1 rfl (Nat.le_of_ble_eq_true rfl) dX5_isSame_193 ⟨by show _ ≤ 200; omega, by show _ ≤ 600; omega⟩ (fun H locs hW => ?_)
                refine lv_aload_n C.x C.b dX5_isSame_196 rfl (lv_at hl 4 rfl) ?_
                refine x_get C hW 0 4 2 (Cn := RX5) (T := TX5) (N := 9) rfl rfl (by decide) hinX5 hf17 rfl dX5_isSame_197 ?_
                refine lv_iload C.x C.b dX5_isSame_200 (lv_at hl 0 rfl) ?_
                refine x_ald C hW 3 i rfl rfl (by omega) (by decide) dX5_isSame_202 ?_
                refine x_icmp_eq C (by omega) (by omega) (tgt := 208) dX5_isSame_203 (by decide) (fun c_50 => ?_) (fun c_50 => ?_)
                · refine lv_iinc (k := 0) (v := nI (i + 1)) (lv' := [(5, .int (nI (i + 1))), (4, .int (nI (smD (b11 g w) 9))), (3, .int (pinV (woD w 9))), (2, .int (nI (smD (b12 w) 9))), (0, .ref h0), (1, .ref c0)]) C.x C.b dX5_isSame_208 hl rfl (z_inc i 1) (by decide) rfl (fun ls hl => ?_)
                  refine lv_goto (tgt := 184) C.x C.b dX5_isSame_211 (by decide) ?_
                  exact ih19 (i + 1) (by omega) (by omega)  _ _ _ (hW.to rfl) (lv_to (lv_sub (l' := [(5, .int (nI (i + 1))), (4, .int (nI (smD (b11 g w) 9))), (3, .int (pinV (woD w 9))), (2, .int (nI (smD (b12 w) 9))), (0, .ref h0), (1, .ref c0)]) hl [0, 1, 2, 3, 4, 5] rfl) (by first | rfl | (simp [c_18, c_20, c_50]; done) | (rw [if_pos (by omega)]; done) | (rw [if_neg (by omega)]; done) | (exfalso; omega) | ((repeat' split) <;> first | rfl | contradiction | (exfalso; omega))))
                · exact absurd rfl c_50
          exact lp_19 (5 + 1) 0 (by omega) (by omega)  _ _ _ (hW.to rfl) (lv_to (lv_sub (l' := [(5, .int (nI 0)), (4, .int (nI (smD (b11 g w) 9))), (3, .int (pinV (woD w 9))), (2, .int (nI (smD (b12 w) 9))), (0, .ref h0), (1, .ref c0)]) hl [0, 1, 2, 3, 4, 5] rfl) rfl)
        · exact absurd (by decide) c_18
  exact lp_1 (9 + 1) 0 (by omega) (by omega)  _ _ _ (hW.to rfl) (lv_to (lv_sub (l' := [(5, .int (nI 8)), (4, .int (nI 0)), (3, .int ((-1 : Int32))), (2, .int (nI 0)), (0, .ref h0), (1, .ref c0)]) hl [0, 1, 2, 3, 4, 5] rfl) rfl)
