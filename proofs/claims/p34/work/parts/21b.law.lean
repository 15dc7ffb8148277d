/-! THE LAW, 2: what would fall, the best throw, how few clear -/
set_option maxHeartbeats 8000000 in
set_option maxRecDepth 100000 in
theorem law_b2 {p : Program} {l : Launch} {e : Env} {s : State} {m : MethodId} {below : List Frame} {meth : Method} {c : Code} {E : EV} (hst : l.stackTraces = false) (C : CX p s m #[Value.ref E.2.2.2.2.2.1] meth c cL_law 28 RL wsL_law (some .boolean) E (fun q => s.heap.size ≤ q)) {h0 k2 k3 c0 a1 a2 a3 a4 a5 : Nat} {qs qa qb qc qd : Nat → Nat} {k1 k4 pl tu fr nf g sp n : Nat} {w aw ra : Nat → Nat} {rv pt ft ti bt : Nat → Nat → Nat} {th : Nat → Nat} (hI : Iv pl tu fr nf g n rv w aw pt ft ti bt th) (hn1 : n ≤ 119) (hs1 : sp < 20000) {t o1 o2 : Nat} {v : Int32} {d5 : Int64} (hd5 : dgT (dgR (dgA (dgH pl fr nf sp (tnI pl fr tu) (beS g aw 5).1 (tcF g)) g w 9) aw 5) pt ft ti bt th pl = d5) {cells slots : Nat} (hcs : cells + 300 ≤ 1145513) (hsl : slots + 1200 ≤ 5664643) {H : Heap} {locs : List Loc} {ls : Array Slot} (hW : WD E (fun q => s.heap.size ≤ q) s (([(o2, bI E 9 (cpW (mB g) 9)), (o1, aI E 9 (cpW w 9)), (h0, .inr (4, [.ref k1, .ref k2, .ref k3, .int (nI sp), .int (nI pl), .int (nI tu), .int (nI fr), .int (nI nf), .ref k4])), (k1, bI E 9 (mB g)), (k2, aI E 9 w), (k3, aI E 5 aw), (k4, qI E n (fun k => some (ra k)))] ++ CW E c0 a1 a2 a3 a4 a5 qs qa qb qc qd pl tu fr nf g sp w aw pt ft ti bt th) ++ plR E n ra rv) H locs) (hl : lv_has ls 28 [(10, .ref o1), (11, .ref o2), (7, .int (nI (pcS g 9))), (5, .long d5), (4, .int v), (3, .int (nI t)), (0, .ref E.2.2.2.2.2.1), (1, .ref c0), (2, .ref h0)]) (kk : ∀ (H : Heap) (locs : List Loc) (ls : Array Slot), WD E (fun q => s.heap.size ≤ q) s (([(o2, bI E 9 (cpW (mB g) 9)), (o1, aI E 9 (cpW w 9)), (h0, .inr (4, [.ref k1, .ref k2, .ref k3, .int (nI sp), .int (nI pl), .int (nI tu), .int (nI fr), .int (nI nf), .ref k4])), (k1, bI E 9 (mB g)), (k2, aI E 9 w), (k3, aI E 5 aw), (k4, qI E n (fun k => some (ra k)))] ++ CW E c0 a1 a2 a3 a4 a5 qs qa qb qc qd pl tu fr nf g sp w aw pt ft ti bt th) ++ plR E n ra rv) H locs → lv_has ls 28 [(10, .ref o1), (11, .ref o2), (7, .int (nI (pcS g 9))), (4, .int v), (3, .int (nI t)), (0, .ref E.2.2.2.2.2.1), (1, .ref c0), (2, .ref h0)] → W p l e room_1 s m #[Value.ref E.2.2.2.2.2.1] below meth c H locs cells slots (lw_Z below #[Value.ref E.2.2.2.2.2.1] s) (F0 m 902 ls [])) : W p l e room_1 s m #[Value.ref E.2.2.2.2.2.1] below meth c H locs cells slots (lw_Z below #[Value.ref E.2.2.2.2.2.1] s) (F0 m 616 ls []) := by
  have hp1 := hI.hp1
  have hpl := hI.hpl
  have hfr := hI.hfr
  have htp := hI.htp
  have htu : tu < 4 := by omega
  have hnf := hI.hnf
  have hg := hI.hg
  have hw := hI.hw
  have ha := hI.ha
  have hpt := hI.hpt
  have hft := hI.hft
  have hti := hI.hti
  have hbt := hI.hbt
  have hth := hI.hth
  have hrv := hI.hrv
  have hnn : n ≤ 120 := by omega
  have hsp : sp ≤ 20000 := by omega
  have hps : pcS g 9 = 0 ↔ g = 0 := by rw [pcS_9]; exact pcN_0 hg
  have hp9 := pcS_9 g
  have g9 := pcN_le g
  refine lv_aload_n C.x C.b dL_law_616 rfl (lv_at hl 7 rfl) ?_
  refine x_rVI C hW (As := []) (rest := []) (Cn := RX4) (met_X4_bestThrow l E c0 a1 a3 a5 pl tu fr nf a2 g sp w a4 aw hg ha) gL_law_X4_bestThrow rfl 0 rfl ⟨rfl, rfl⟩ ⟨rfl, by decide +kernel, by decide +kernel, by decide +kernel⟩ ⟨Nat.le_of_ble_eq_true rfl, Nat.le_of_ble_eq_true rfl⟩ [7, 8, 9, 10, 11] rfl (by decide) 7 3 rfl rfl hl.1 rfl (Nat.le_of_ble_eq_true rfl) dL_law_617 ⟨by show _ ≤ 1145513; omega, by show _ ≤ 5664643; omega⟩ (fun H locs hW => ?_)
  refine lv_istore (lv' := [(14, .int ((beS g aw 5).1)), (10, .ref o1), (11, .ref o2), (7, .int (nI (pcS g 9))), (5, .long d5), (4, .int v), (3, .int (nI t)), (0, .ref E.2.2.2.2.2.1), (1, .ref c0), (2, .ref h0)]) C.x C.b dL_law_620 hl (by decide) rfl (fun ls hl => ?_)
  refine lv_aload_n C.x C.b dL_law_622 rfl (lv_at hl 8 rfl) ?_
  refine x_rVI C hW (As := []) (rest := []) (Cn := RX4) (met_X4_throwsToClear l E c0 a1 a3 a5 pl tu fr nf a2 g sp w hg) gL_law_X4_throwsToClear rfl 0 rfl ⟨rfl, rfl⟩ ⟨rfl, by decide +kernel, by decide +kernel, by decide +kernel⟩ ⟨Nat.le_of_ble_eq_true rfl, Nat.le_of_ble_eq_true rfl⟩ [7, 8, 9] rfl (by decide) 7 3 rfl rfl hl.1 rfl (Nat.le_of_ble_eq_true rfl) dL_law_623 ⟨by show _ ≤ 1145513; omega, by show _ ≤ 5664643; omega⟩ (fun H locs hW => ?_)
  refine lv_istore (lv' := [(15, .int (tcF g)), (14, .int ((beS g aw 5).1)), (10, .ref o1), (11, .ref o2), (7, .int (nI (pcS g 9))), (5, .long d5), (4, .int v), (3, .int (nI t)), (0, .ref E.2.2.2.2.2.1), (1, .ref c0), (2, .ref h0)]) C.x C.b dL_law_626 hl (by decide) rfl (fun ls hl => ?_)
  refine lv_iload C.x C.b dL_law_628 (lv_at hl 0 rfl) ?_
  refine lv_iconst (v := (-1)) C.x C.b dL_law_630 (by decide) ?_
  refine lv_icmp_lt C.x C.b (tgt := 663) dL_law_631 (by decide) (fun c_1 => ?_) (fun c_1 => ?_)
  · exact absurd c_1 (tc_lo g)
  · have c_1 : ¬ (tcF g < (-1 : Int32)) := c_1
    refine lv_iload C.x C.b dL_law_634 (lv_at hl 0 rfl) ?_
    refine lv_iconst (v := nI 3) C.x C.b dL_law_636 (by decide) ?_
    refine lv_icmp_gt C.x C.b (tgt := 663) dL_law_637 (by decide) (fun c_2 => ?_) (fun c_2 => ?_)
    · exact absurd c_2 (tc_hi g)
    · have c_2 : ¬ (3 < tcF g) := c_2
      have jn_3 : ∀ (H : Heap) (locs : List Loc) (ls : Array Slot), WD E (fun q => s.heap.size ≤ q) s (([(o2, bI E 9 (cpW (mB g) 9)), (o1, aI E 9 (cpW w 9)), (h0, .inr (4, [.ref k1, .ref k2, .ref k3, .int (nI sp), .int (nI pl), .int (nI tu), .int (nI fr), .int (nI nf), .ref k4])), (k1, bI E 9 (mB g)), (k2, aI E 9 w), (k3, aI E 5 aw), (k4, qI E n (fun k => some (ra k)))] ++ CW E c0 a1 a2 a3 a4 a5 qs qa qb qc qd pl tu fr nf g sp w aw pt ft ti bt th) ++ plR E n ra rv) H locs → lv_has ls 28 [(15, .int (tcF g)), (14, .int ((beS g aw 5).1)), (10, .ref o1), (11, .ref o2), (7, .int (nI (pcS g 9))), (5, .long d5), (4, .int v), (3, .int (nI t)), (0, .ref E.2.2.2.2.2.1), (1, .ref c0), (2, .ref h0)] → W p l e room_1 s m #[Value.ref E.2.2.2.2.2.1] below meth c H locs cells slots (lw_Z below #[Value.ref E.2.2.2.2.2.1] s) (F0 m 650 ls [.int (nI (if g = 0 then 1 else 0))]) := by
        intro  H locs ls hW hl
        have jn_4 : ∀ (H : Heap) (locs : List Loc) (ls : Array Slot), WD E (fun q => s.heap.size ≤ q) s (([(o2, bI E 9 (cpW (mB g) 9)), (o1, aI E 9 (cpW w 9)), (h0, .inr (4, [.ref k1, .ref k2, .ref k3, .int (nI sp), .int (nI pl), .int (nI tu), .int (nI fr), .int (nI nf), .ref k4])), (k1, bI E 9 (mB g)), (k2, aI E 9 w), (k3, aI E 5 aw), (k4, qI E n (fun k => some (ra k)))] ++ CW E c0 a1 a2 a3 a4 a5 qs qa qb qc qd pl tu fr nf g sp w aw pt ft ti bt th) ++ plR E n ra rv) H locs → lv_has ls 28 [(15, .int (tcF g)), (14, .int ((beS g aw 5).1)), (10, .ref o1), (11, .ref o2), (7, .int (nI (pcS g 9))), (5, .long d5), (4, .int v), (3, .int (nI t)), (0, .ref E.2.2.2.2.2.1), (1, .ref c0), (2, .ref h0)] → W p l e room_1 s m #[Value.ref E.2.2.2.2.2.1] below meth c H locs cells slots (lw_Z below #[Value.ref E.2.2.2.2.2.1] s) (F0 m 660 ls [.int (nI (if g = 0 then 1 else 0)), .int (nI (if g = 0 then 1 else 0))]) := by
          intro  H locs ls hW hl
          refine x_icmp_eq C (z_ite_lt _) (z_ite_lt _) (tgt := 665) dL_law_660 (by decide) (fun c_5 => ?_) (fun c_5 => ?_)
          · refine lv_iconst (v := nI 0) C.x C.b dL_law_665 (by decide) ?_
            refine lv_istore (lv' := [(16, .int (nI 0)), (15, .int (tcF g)), (14, .int ((beS g aw 5).1)), (10, .ref o1), (11, .ref o2), (7, .int (nI (pcS g 9))), (5, .long d5), (4, .int v), (3, .int (nI t)), (0, .ref E.2.2.2.2.2.1), (1, .ref c0), (2, .ref h0)]) C.x C.b dL_law_666 hl (by decide) rfl (fun ls hl => ?_)
            refine lv_iconst (v := nI 0) C.x C.b dL_law_668 (by decide) ?_
            refine lv_istore (lv' := [(17, .int (nI 0)), (16, .int (nI 0)), (15, .int (tcF g)), (14, .int ((beS g aw 5).1)), (10, .ref o1), (11, .ref o2), (7, .int (nI (pcS g 9))), (5, .long d5), (4, .int v), (3, .int (nI t)), (0, .ref E.2.2.2.2.2.1), (1, .ref c0), (2, .ref h0)]) C.x C.b dL_law_669 hl (by decide) rfl (fun ls hl => ?_)
            have lp_6 : ∀ (n6 b : Nat), b ≤ 5 → 5 + 1 ≤ b + n6 → ∀ (H : Heap) (locs : List Loc) (ls : Array Slot), WD E (fun q => s.heap.size ≤ q) s (([(o2, bI E 9 (cpW (mB g) 9)), (o1, aI E 9 (cpW w 9)), (h0, .inr (4, [.ref k1, .ref k2, .ref k3, .int (nI sp), .int (nI pl), .int (nI tu), .int (nI fr), .int (nI nf), .ref k4])), (k1, bI E 9 (mB g)), (k2, aI E 9 w), (k3, aI E 5 aw), (k4, qI E n (fun k => some (ra k)))] ++ CW E c0 a1 a2 a3 a4 a5 qs qa qb qc qd pl tu fr nf g sp w aw pt ft ti bt th) ++ plR E n ra rv) H locs → lv_has ls 28 [(17, .int (nI b)), (16, .int (nI (onB g b))), (15, .int (tcF g)), (14, .int ((beS g aw 5).1)), (10, .ref o1), (11, .ref o2), (7, .int (nI (pcS g 9))), (5, .long d5), (4, .int v), (3, .int (nI t)), (0, .ref E.2.2.2.2.2.1), (1, .ref c0), (2, .ref h0)] → W p l e room_1 s m #[Value.ref E.2.2.2.2.2.1] below meth c H locs cells slots (lw_Z below #[Value.ref E.2.2.2.2.2.1] s) (F0 m 671 ls []) := by
              intro n6
              induction n6 with
              | zero => intro b hb hn; exact absurd hn (by omega)
              | succ n6 ih6 =>
                intro b hb hn  H locs ls hW hl
                refine lv_iload C.x C.b dL_law_671 (lv_at hl 0 rfl) ?_
                refine lv_iconst (v := nI 5) C.x C.b dL_law_673 (by decide) ?_
                refine x_icmp_ge C (by omega) (by omega) (tgt := 852) dL_law_674 (by decide) (fun c_7 => ?_) (fun c_7 => ?_)
                · have jn_8 : ∀ (H : Heap) (locs : List Loc) (ls : Array Slot), WD E (fun q => s.heap.size ≤ q) s (([(o2, bI E 9 (cpW (mB g) 9)), (o1, aI E 9 (cpW w 9)), (h0, .inr (4, [.ref k1, .ref k2, .ref k3, .int (nI sp), .int (nI pl), .int (nI tu), .int (nI fr), .int (nI nf), .ref k4])), (k1, bI E 9 (mB g)), (k2, aI E 9 w), (k3, aI E 5 aw), (k4, qI E n (fun k => some (ra k)))] ++ CW E c0 a1 a2 a3 a4 a5 qs qa qb qc qd pl tu fr nf g sp w aw pt ft ti bt th) ++ plR E n ra rv) H locs → lv_has ls 28 [(17, .int (nI b)), (16, .int (nI (onB g b))), (15, .int (tcF g)), (14, .int ((beS g aw 5).1)), (10, .ref o1), (11, .ref o2), (7, .int (nI (pcS g 9))), (5, .long d5), (4, .int v), (3, .int (nI t)), (0, .ref E.2.2.2.2.2.1), (1, .ref c0), (2, .ref h0)] → W p l e room_1 s m #[Value.ref E.2.2.2.2.2.1] below meth c H locs cells slots (lw_Z below #[Value.ref E.2.2.2.2.2.1] s) (F0 m 873 ls []) := by
                    intro  H locs ls hW hl
                    have jn_9 : ∀ (H : Heap) (locs : List Loc) (ls : Array Slot), WD E (fun q => s.heap.size ≤ q) s (([(o2, bI E 9 (cpW (mB g) 9)), (o1, aI E 9 (cpW w 9)), (h0, .inr (4, [.ref k1, .ref k2, .ref k3, .int (nI sp), .int (nI pl), .int (nI tu), .int (nI fr), .int (nI nf), .ref k4])), (k1, bI E 9 (mB g)), (k2, aI E 9 w), (k3, aI E 5 aw), (k4, qI E n (fun k => some (ra k)))] ++ CW E c0 a1 a2 a3 a4 a5 qs qa qb qc qd pl tu fr nf g sp w aw pt ft ti bt th) ++ plR E n ra rv) H locs → lv_has ls 28 [(17, .int (nI b)), (16, .int (nI (onB g b))), (15, .int (tcF g)), (14, .int ((beS g aw 5).1)), (10, .ref o1), (11, .ref o2), (7, .int (nI (pcS g 9))), (5, .long d5), (4, .int v), (3, .int (nI t)), (0, .ref E.2.2.2.2.2.1), (1, .ref c0), (2, .ref h0)] → W p l e room_1 s m #[Value.ref E.2.2.2.2.2.1] below meth c H locs cells slots (lw_Z below #[Value.ref E.2.2.2.2.2.1] s) (F0 m 890 ls []) := by
                      intro  H locs ls hW hl
                      refine lv_aload_n C.x C.b dL_law_890 rfl (lv_at hl 11 rfl) ?_
                      refine x_rVL C hW (As := []) (rest := []) (Cn := RX4) (met_X4_digest l E c0 a1 a3 a5 pl tu fr nf a2 g sp w a4 aw qs qa qb qc qd pt ft ti bt th hpl hfr (by omega) hsp hg hw ha hpt hth hft hti hbt) gL_law_X4_digest rfl 0 rfl ⟨rfl, rfl⟩ ⟨rfl, by decide +kernel, by decide +kernel, by decide +kernel⟩ ⟨Nat.le_of_ble_eq_true rfl, Nat.le_of_ble_eq_true rfl⟩ [7, 8, 9, 10, 11, 12, 13, 14, 15, 16, 17, 18, 19, 20, 21, 22, 23, 24, 25, 26, 27, 28, 29, 30, 31, 32] rfl (by decide) 7 3 rfl rfl hl.1 rfl (Nat.le_of_ble_eq_true rfl) dL_law_891 ⟨by show _ ≤ 1145513; omega, by show _ ≤ 5664643; omega⟩ (fun H locs hW => ?_)
                      refine lv_lload C.x C.b dL_law_894 (lv_at hl 7 rfl) ?_
                      refine x_lcmp C (hd5) dL_law_896 ?_
                      refine x_if_eq C (by omega) (tgt := 902) dL_law_897 (by decide) (fun c_10 => ?_) (fun c_10 => ?_)
                      · exact kk _ _ _ hW (lv_sub (l' := [(10, .ref o1), (11, .ref o2), (7, .int (nI (pcS g 9))), (4, .int v), (3, .int (nI t)), (0, .ref E.2.2.2.2.2.1), (1, .ref c0), (2, .ref h0)]) hl [4, 5, 6, 8, 9, 10, 11, 12] rfl)
                      · exact absurd (by decide) c_10
                    refine lv_iload C.x C.b dL_law_873 (lv_at hl 3 rfl) ?_
                    refine lv_if_lt C.x C.b (tgt := 890) dL_law_875 (by decide) (fun c_11 => ?_) (fun c_11 => ?_)
                    · exact jn_9  _ _ _ (hW.to rfl) (lv_to (lv_sub (l' := [(17, .int (nI b)), (16, .int (nI (onB g b))), (15, .int (tcF g)), (14, .int ((beS g aw 5).1)), (10, .ref o1), (11, .ref o2), (7, .int (nI (pcS g 9))), (5, .long d5), (4, .int v), (3, .int (nI t)), (0, .ref E.2.2.2.2.2.1), (1, .ref c0), (2, .ref h0)]) hl [0, 1, 2, 3, 4, 5, 6, 7, 8, 9, 10, 11, 12] rfl) rfl)
                    · obtain ⟨B, Z, hB5, hZ5, hB0, hBe⟩ := bes_ge (g := g) (aw := aw) (by assumption)
                      rw [hBe] at hl
                      refine lv_aload_n C.x C.b dL_law_878 rfl (lv_at hl 11 rfl) ?_
                      refine lv_iload C.x C.b dL_law_879 (lv_at hl 3 rfl) ?_
                      refine lv_bipush (v := nI 10) C.x C.b dL_law_881 (by decide) ?_
                      refine x_idiv C (by omega) (by omega) (by omega) dL_law_883 ?_
                      refine x_toi (y := nI B) (congrArg nI (by omega)) ?_
                      refine x_rVI C hW (As := [.int (nI B)]) (rest := []) (Cn := RX4) (met_X4_awayFor_ok l E c0 a1 a3 a5 pl tu fr nf a4 aw B (by omega)) gL_law_X4_awayFor rfl 1 rfl ⟨rfl, rfl⟩ ⟨rfl, by decide +kernel, by decide +kernel, by decide +kernel⟩ ⟨Nat.le_of_ble_eq_true rfl, Nat.le_of_ble_eq_true rfl⟩ [7, 10, 11] rfl (by decide) 7 3 rfl rfl hl.1 rfl (Nat.le_of_ble_eq_true rfl) dL_law_884 ⟨by show _ ≤ 1145513; omega, by show _ ≤ 5664643; omega⟩ (fun H locs hW => ?_)
                      refine x_if_gt C (by omega) (tgt := 900) dL_law_887 (by decide) (fun c_12 => ?_) (fun c_12 => ?_)
                      · exact absurd c_12 (by omega)
                      · exact jn_9  _ _ _ (hW.to rfl) (lv_to (lv_sub (l' := [(17, .int (nI b)), (16, .int (nI (onB g b))), (15, .int (tcF g)), (14, .int (nI (10 * B + Z))), (10, .ref o1), (11, .ref o2), (7, .int (nI (pcS g 9))), (5, .long d5), (4, .int v), (3, .int (nI t)), (0, .ref E.2.2.2.2.2.1), (1, .ref c0), (2, .ref h0)]) hl [0, 1, 2, 3, 4, 5, 6, 7, 8, 9, 10, 11, 12] rfl) (by rw [hBe]))
                  obtain rfl : b = 5 := by omega
                  refine lv_iload C.x C.b dL_law_852 (lv_at hl 6 rfl) ?_
                  refine x_if_le C (by omega) (tgt := 873) dL_law_854 (by decide) (fun c_13 => ?_) (fun c_13 => ?_)
                  · exact jn_8  _ _ _ (hW.to rfl) (lv_to (lv_sub (l' := [(17, .int (nI 5)), (16, .int (nI (onB g 5))), (15, .int (tcF g)), (14, .int ((beS g aw 5).1)), (10, .ref o1), (11, .ref o2), (7, .int (nI (pcS g 9))), (5, .long d5), (4, .int v), (3, .int (nI t)), (0, .ref E.2.2.2.2.2.1), (1, .ref c0), (2, .ref h0)]) hl [0, 1, 2, 3, 4, 5, 6, 7, 8, 9, 10, 11, 12] rfl) (by first | rfl | (simp [c_1, c_2, c_5, c_7, c_13]; done) | (rw [if_pos (by omega)]; done) | (rw [if_neg (by omega)]; done) | (exfalso; omega) | ((repeat' split) <;> first | rfl | contradiction | (exfalso; omega))))
                  · have jn_14 : ∀ (H : Heap) (locs : List Loc) (ls : Array Slot), WD E (fun q => s.heap.size ≤ q) s (([(o2, bI E 9 (cpW (mB g) 9)), (o1, aI E 9 (cpW w 9)), (h0, .inr (4, [.ref k1, .ref k2, .ref k3, .int (nI sp), .int (nI pl), .int (nI tu), .int (nI fr), .int (nI nf), .ref k4])), (k1, bI E 9 (mB g)), (k2, aI E 9 w), (k3, aI E 5 aw), (k4, qI E n (fun k => some (ra k)))] ++ CW E c0 a1 a2 a3 a4 a5 qs qa qb qc qd pl tu fr nf g sp w aw pt ft ti bt th) ++ plR E n ra rv) H locs → lv_has ls 28 [(17, .int (nI 5)), (16, .int (nI (onB g 5))), (15, .int (tcF g)), (14, .int ((beS g aw 5).1)), (10, .ref o1), (11, .ref o2), (7, .int (nI (pcS g 9))), (5, .long d5), (4, .int v), (3, .int (nI t)), (0, .ref E.2.2.2.2.2.1), (1, .ref c0), (2, .ref h0)] → W p l e room_1 s m #[Value.ref E.2.2.2.2.2.1] below meth c H locs cells slots (lw_Z below #[Value.ref E.2.2.2.2.2.1] s) (F0 m 868 ls [.int (nI (onB g 5))]) := by
                      intro  H locs ls hW hl
                      refine lv_iload C.x C.b dL_law_868 (lv_at hl 1 rfl) ?_
                      refine x_icmp_ne C (by have := (onB_in g 5).1; omega) (by have := (onB_in g 5).1; omega) (tgt := 900) dL_law_870 (by decide) (fun c_15 => ?_) (fun c_15 => ?_)
                      · exact absurd rfl c_15
                      · exact jn_8  _ _ _ (hW.to rfl) (lv_to (lv_sub (l' := [(17, .int (nI 5)), (16, .int (nI (onB g 5))), (15, .int (tcF g)), (14, .int ((beS g aw 5).1)), (10, .ref o1), (11, .ref o2), (7, .int (nI (pcS g 9))), (5, .long d5), (4, .int v), (3, .int (nI t)), (0, .ref E.2.2.2.2.2.1), (1, .ref c0), (2, .ref h0)]) hl [0, 1, 2, 3, 4, 5, 6, 7, 8, 9, 10, 11, 12] rfl) (by first | rfl | (simp [c_1, c_2, c_5, c_7, c_13, c_15]; done) | (rw [if_pos (by omega)]; done) | (rw [if_neg (by omega)]; done) | (exfalso; omega) | ((repeat' split) <;> first | rfl | contradiction | (exfalso; omega))))
                    have hg0 : g ≠ 0 := fun q => absurd (hps.mpr q) (by omega)
                    have t1 := tc_1 hg hg0
                    have o1n := (onB_in g 5).1
                    refine lv_iload C.x C.b dL_law_857 (lv_at hl 2 rfl) ?_
                    refine lv_iconst (v := nI 1) C.x C.b dL_law_859 (by decide) ?_
                    refine lv_icmp_ne C.x C.b (tgt := 867) dL_law_860 (by decide) (fun c_16 => ?_) (fun c_16 => ?_)
                    · have c_16 : ¬ tcF g = 1 := c_16
                      refine lv_iconst (v := nI 0) C.x C.b dL_law_867 (by decide) ?_
                      refine x_toi (y := (nI (onB g 5))) (by first | (rw [t1.mp (by assumption)]; done) | (rw [show onB g 5 = 0 from o1n.elim id (fun q => absurd (t1.mpr q) (by assumption))]; done)) ?_
                      exact jn_14  _ _ _ (hW.to rfl) (lv_to (lv_sub (l' := [(17, .int (nI 5)), (16, .int (nI (onB g 5))), (15, .int (tcF g)), (14, .int ((beS g aw 5).1)), (10, .ref o1), (11, .ref o2), (7, .int (nI (pcS g 9))), (5, .long d5), (4, .int v), (3, .int (nI t)), (0, .ref E.2.2.2.2.2.1), (1, .ref c0), (2, .ref h0)]) hl [0, 1, 2, 3, 4, 5, 6, 7, 8, 9, 10, 11, 12] rfl) rfl)
                    · have c_16 : tcF g = 1 := c_16
                      refine lv_iconst (v := nI 1) C.x C.b dL_law_863 (by decide) ?_
                      refine lv_goto (tgt := 868) C.x C.b dL_law_864 (by decide) ?_
                      refine x_toi (y := (nI (onB g 5))) (by first | (rw [t1.mp (by assumption)]; done) | (rw [show onB g 5 = 0 from o1n.elim id (fun q => absurd (t1.mpr q) (by assumption))]; done)) ?_
                      exact jn_14  _ _ _ (hW.to rfl) (lv_to (lv_sub (l' := [(17, .int (nI 5)), (16, .int (nI (onB g 5))), (15, .int (tcF g)), (14, .int ((beS g aw 5).1)), (10, .ref o1), (11, .ref o2), (7, .int (nI (pcS g 9))), (5, .long d5), (4, .int v), (3, .int (nI t)), (0, .ref E.2.2.2.2.2.1), (1, .ref c0), (2, .ref h0)]) hl [0, 1, 2, 3, 4, 5, 6, 7, 8, 9, 10, 11, 12] rfl) rfl)
                · refine lv_iconst (v := nI 0) C.x C.b dL_law_677 (by decide) ?_
                  refine lv_istore (lv' := [(18, .int (nI 0)), (17, .int (nI b)), (16, .int (nI (onB g b))), (15, .int (tcF g)), (14, .int ((beS g aw 5).1)), (10, .ref o1), (11, .ref o2), (7, .int (nI (pcS g 9))), (5, .long d5), (4, .int v), (3, .int (nI t)), (0, .ref E.2.2.2.2.2.1), (1, .ref c0), (2, .ref h0)]) C.x C.b dL_law_678 hl (by decide) rfl (fun ls hl => ?_)
                  have lp_17 : ∀ (n17 z : Nat), z ≤ 5 → 5 + 1 ≤ z + n17 → ∀ (H : Heap) (locs : List Loc) (ls : Array Slot), WD E (fun q => s.heap.size ≤ q) s (([(o2, bI E 9 (cpW (mB g) 9)), (o1, aI E 9 (cpW w 9)), (h0, .inr (4, [.ref k1, .ref k2, .ref k3, .int (nI sp), .int (nI pl), .int (nI tu), .int (nI fr), .int (nI nf), .ref k4])), (k1, bI E 9 (mB g)), (k2, aI E 9 w), (k3, aI E 5 aw), (k4, qI E n (fun k => some (ra k)))] ++ CW E c0 a1 a2 a3 a4 a5 qs qa qb qc qd pl tu fr nf g sp w aw pt ft ti bt th) ++ plR E n ra rv) H locs → lv_has ls 28 [(18, .int (nI z)), (17, .int (nI b)), (16, .int (nI (onZ g b (onB g b) z))), (15, .int (tcF g)), (14, .int ((beS g aw 5).1)), (10, .ref o1), (11, .ref o2), (7, .int (nI (pcS g 9))), (5, .long d5), (4, .int v), (3, .int (nI t)), (0, .ref E.2.2.2.2.2.1), (1, .ref c0), (2, .ref h0)] → W p l e room_1 s m #[Value.ref E.2.2.2.2.2.1] below meth c H locs cells slots (lw_Z below #[Value.ref E.2.2.2.2.2.1] s) (F0 m 680 ls []) := by
                    intro n17
                    induction n17 with
                    | zero => intro z hz hn; exact absurd hn (by omega)
                    | succ n17 ih17 =>
                      intro z hz hn  H locs ls hW hl
                      refine lv_iload C.x C.b dL_law_680 (lv_at hl 0 rfl) ?_
                      refine lv_iconst (v := nI 5) C.x C.b dL_law_682 (by decide) ?_
                      refine x_icmp_ge C (by omega) (by omega) (tgt := 846) dL_law_683 (by decide) (fun c_18 => ?_) (fun c_18 => ?_)
                      · obtain rfl : z = 5 := by omega
                        refine lv_iinc (k := 1) (v := nI (b + 1)) (lv' := [(17, .int (nI (b + 1))), (18, .int (nI 5)), (16, .int (nI (onZ g b (onB g b) 5))), (15, .int (tcF g)), (14, .int ((beS g aw 5).1)), (10, .ref o1), (11, .ref o2), (7, .int (nI (pcS g 9))), (5, .long d5), (4, .int v), (3, .int (nI t)), (0, .ref E.2.2.2.2.2.1), (1, .ref c0), (2, .ref h0)]) C.x C.b dL_law_846 hl rfl (z_inc b 1) (by decide) rfl (fun ls hl => ?_)
                        refine lv_goto (tgt := 671) C.x C.b dL_law_849 (by decide) ?_
                        exact ih6 (b + 1) (by omega) (by omega)  _ _ _ (hW.to rfl) (lv_to (lv_sub (l' := [(17, .int (nI (b + 1))), (16, .int (nI (onZ g b (onB g b) 5))), (15, .int (tcF g)), (14, .int ((beS g aw 5).1)), (10, .ref o1), (11, .ref o2), (7, .int (nI (pcS g 9))), (5, .long d5), (4, .int v), (3, .int (nI t)), (0, .ref E.2.2.2.2.2.1), (1, .ref c0), (2, .ref h0)]) hl [0, 2, 3, 4, 5, 6, 7, 8, 9, 10, 11, 12, 13] rfl) (by first | rfl | (simp [c_1, c_2, c_5, c_7, c_18]; done) | (rw [if_pos (by omega)]; done) | (rw [if_neg (by omega)]; done) | (exfalso; omega) | ((repeat' split) <;> first | rfl | contradiction | (exfalso; omega))))
                      · have f2 := pcN_fr (b := b) (z := z) hg
                        have f9 := pcN_le (feN g b z)
                        have fl := fe_lt (b := b) (z := z) hg
                        have fz := pcN_0 fl
                        refine lv_aload_n C.x C.b dL_law_686 rfl (lv_at hl 12 rfl) ?_
                        refine lv_iload C.x C.b dL_law_687 (lv_at hl 1 rfl) ?_
                        refine lv_iload C.x C.b dL_law_689 (lv_at hl 0 rfl) ?_
                        refine x_rVI C hW (As := [.int (nI b), .int (nI z)]) (rest := []) (Cn := RX4) (met_X4_wouldFall_ok l E c0 a1 a3 a5 pl tu fr nf a2 g sp w b z (by omega) (by omega) hg) gL_law_X4_wouldFall rfl 2 rfl ⟨rfl, rfl⟩ ⟨rfl, by decide +kernel, by decide +kernel, by decide +kernel⟩ ⟨Nat.le_of_ble_eq_true rfl, Nat.le_of_ble_eq_true rfl⟩ [7, 8, 9] rfl (by decide) 7 3 rfl rfl hl.1 rfl (Nat.le_of_ble_eq_true rfl) dL_law_691 ⟨by show _ ≤ 1145513; omega, by show _ ≤ 5664643; omega⟩ (fun H locs hW => ?_)
                        refine lv_istore (lv' := [(19, .int (nI (pcN (feN g b z)))), (18, .int (nI z)), (17, .int (nI b)), (16, .int (nI (onZ g b (onB g b) z))), (15, .int (tcF g)), (14, .int ((beS g aw 5).1)), (10, .ref o1), (11, .ref o2), (7, .int (nI (pcS g 9))), (5, .long d5), (4, .int v), (3, .int (nI t)), (0, .ref E.2.2.2.2.2.1), (1, .ref c0), (2, .ref h0)]) C.x C.b dL_law_694 hl (by decide) rfl (fun ls hl => ?_)
                        refine lv_aload_n C.x C.b dL_law_696 rfl (lv_at hl 13 rfl) ?_
                        refine lv_iload C.x C.b dL_law_697 (lv_at hl 2 rfl) ?_
                        refine lv_iload C.x C.b dL_law_699 (lv_at hl 1 rfl) ?_
                        refine x_rVI C hW (As := [.int (nI b), .int (nI z)]) (rest := []) (Cn := RX4) (met_X4_lastToFall_ok l E c0 a1 a3 a5 pl tu fr nf a2 g sp w b z (by omega) (by omega) hg) gL_law_X4_lastToFall rfl 2 rfl ⟨rfl, rfl⟩ ⟨rfl, by decide +kernel, by decide +kernel, by decide +kernel⟩ ⟨Nat.le_of_ble_eq_true rfl, Nat.le_of_ble_eq_true rfl⟩ [7, 8, 9] rfl (by decide) 7 3 rfl rfl hl.1 rfl (Nat.le_of_ble_eq_true rfl) dL_law_701 ⟨by show _ ≤ 1145513; omega, by show _ ≤ 5664643; omega⟩ (fun H locs hW => ?_)
                        refine lv_istore (lv' := [(20, .int (laF (feN g b z) 9)), (19, .int (nI (pcN (feN g b z)))), (18, .int (nI z)), (17, .int (nI b)), (16, .int (nI (onZ g b (onB g b) z))), (15, .int (tcF g)), (14, .int ((beS g aw 5).1)), (10, .ref o1), (11, .ref o2), (7, .int (nI (pcS g 9))), (5, .long d5), (4, .int v), (3, .int (nI t)), (0, .ref E.2.2.2.2.2.1), (1, .ref c0), (2, .ref h0)]) C.x C.b dL_law_704 hl (by decide) rfl (fun ls hl => ?_)
                        refine lv_iload C.x C.b dL_law_706 (lv_at hl 4 rfl) ?_
                        have jn_19 : ∀ (H : Heap) (locs : List Loc) (ls : Array Slot), WD E (fun q => s.heap.size ≤ q) s (([(o2, bI E 9 (cpW (mB g) 9)), (o1, aI E 9 (cpW w 9)), (h0, .inr (4, [.ref k1, .ref k2, .ref k3, .int (nI sp), .int (nI pl), .int (nI tu), .int (nI fr), .int (nI nf), .ref k4])), (k1, bI E 9 (mB g)), (k2, aI E 9 w), (k3, aI E 5 aw), (k4, qI E n (fun k => some (ra k)))] ++ CW E c0 a1 a2 a3 a4 a5 qs qa qb qc qd pl tu fr nf g sp w aw pt ft ti bt th) ++ plR E n ra rv) H locs → lv_has ls 28 [(20, .int (laF (feN g b z) 9)), (19, .int (nI (pcN (feN g b z)))), (18, .int (nI z)), (17, .int (nI b)), (16, .int (nI (onZ g b (onB g b) z))), (15, .int (tcF g)), (14, .int ((beS g aw 5).1)), (10, .ref o1), (11, .ref o2), (7, .int (nI (pcS g 9))), (5, .long d5), (4, .int v), (3, .int (nI t)), (0, .ref E.2.2.2.2.2.1), (1, .ref c0), (2, .ref h0)] → W p l e room_1 s m #[Value.ref E.2.2.2.2.2.1] below meth c H locs cells slots (lw_Z below #[Value.ref E.2.2.2.2.2.1] s) (F0 m 720 ls [.int (nI (if pcN (feN g b z) = pcN g then 1 else 0)), .int (nI (onZ g b (onB g b) z))]) := by
                          intro  H locs ls hW hl
                          refine x_ior C dL_law_720 ?_
                          refine lv_istore (lv' := [(16, .int (nI ((onZ g b (onB g b) z) ||| (if pcN (feN g b z) = pcN g then 1 else 0)))), (20, .int (laF (feN g b z) 9)), (19, .int (nI (pcN (feN g b z)))), (18, .int (nI z)), (17, .int (nI b)), (15, .int (tcF g)), (14, .int ((beS g aw 5).1)), (10, .ref o1), (11, .ref o2), (7, .int (nI (pcS g 9))), (5, .long d5), (4, .int v), (3, .int (nI t)), (0, .ref E.2.2.2.2.2.1), (1, .ref c0), (2, .ref h0)]) C.x C.b dL_law_721 hl (by decide) rfl (fun ls hl => ?_)
                          refine lv_iload C.x C.b dL_law_723 (lv_at hl 2 rfl) ?_
                          refine x_if_lt C (by omega) (tgt := 771) dL_law_725 (by decide) (fun c_20 => ?_) (fun c_20 => ?_)
                          · exact absurd c_20 (by omega)
                          · refine lv_iload C.x C.b dL_law_728 (lv_at hl 2 rfl) ?_
                            refine lv_iload C.x C.b dL_law_730 (lv_at hl 9 rfl) ?_
                            refine x_icmp_gt C (by omega) (by omega) (tgt := 771) dL_law_732 (by decide) (fun c_21 => ?_) (fun c_21 => ?_)
                            · exact absurd c_21 (by omega)
                            · have jn_22 : ∀ (H : Heap) (locs : List Loc) (ls : Array Slot), WD E (fun q => s.heap.size ≤ q) s (([(o2, bI E 9 (cpW (mB g) 9)), (o1, aI E 9 (cpW w 9)), (h0, .inr (4, [.ref k1, .ref k2, .ref k3, .int (nI sp), .int (nI pl), .int (nI tu), .int (nI fr), .int (nI nf), .ref k4])), (k1, bI E 9 (mB g)), (k2, aI E 9 w), (k3, aI E 5 aw), (k4, qI E n (fun k => some (ra k)))] ++ CW E c0 a1 a2 a3 a4 a5 qs qa qb qc qd pl tu fr nf g sp w aw pt ft ti bt th) ++ plR E n ra rv) H locs → lv_has ls 28 [(16, .int (nI ((onZ g b (onB g b) z) ||| (if pcN (feN g b z) = pcN g then 1 else 0)))), (20, .int (laF (feN g b z) 9)), (19, .int (nI (pcN (feN g b z)))), (18, .int (nI z)), (17, .int (nI b)), (15, .int (tcF g)), (14, .int ((beS g aw 5).1)), (10, .ref o1), (11, .ref o2), (7, .int (nI (pcS g 9))), (5, .long d5), (4, .int v), (3, .int (nI t)), (0, .ref E.2.2.2.2.2.1), (1, .ref c0), (2, .ref h0)] → W p l e room_1 s m #[Value.ref E.2.2.2.2.2.1] below meth c H locs cells slots (lw_Z below #[Value.ref E.2.2.2.2.2.1] s) (F0 m 745 ls [.int (nI (if feN g b z = 0 then 1 else 0))]) := by
                                intro  H locs ls hW hl
                                have jn_23 : ∀ (H : Heap) (locs : List Loc) (ls : Array Slot), WD E (fun q => s.heap.size ≤ q) s (([(o2, bI E 9 (cpW (mB g) 9)), (o1, aI E 9 (cpW w 9)), (h0, .inr (4, [.ref k1, .ref k2, .ref k3, .int (nI sp), .int (nI pl), .int (nI tu), .int (nI fr), .int (nI nf), .ref k4])), (k1, bI E 9 (mB g)), (k2, aI E 9 w), (k3, aI E 5 aw), (k4, qI E n (fun k => some (ra k)))] ++ CW E c0 a1 a2 a3 a4 a5 qs qa qb qc qd pl tu fr nf g sp w aw pt ft ti bt th) ++ plR E n ra rv) H locs → lv_has ls 28 [(16, .int (nI ((onZ g b (onB g b) z) ||| (if pcN (feN g b z) = pcN g then 1 else 0)))), (20, .int (laF (feN g b z) 9)), (19, .int (nI (pcN (feN g b z)))), (18, .int (nI z)), (17, .int (nI b)), (15, .int (tcF g)), (14, .int ((beS g aw 5).1)), (10, .ref o1), (11, .ref o2), (7, .int (nI (pcS g 9))), (5, .long d5), (4, .int v), (3, .int (nI t)), (0, .ref E.2.2.2.2.2.1), (1, .ref c0), (2, .ref h0)] → W p l e room_1 s m #[Value.ref E.2.2.2.2.2.1] below meth c H locs cells slots (lw_Z below #[Value.ref E.2.2.2.2.2.1] s) (F0 m 755 ls [.int (nI (if feN g b z = 0 then 1 else 0)), .int (nI (if feN g b z = 0 then 1 else 0))]) := by
                                  intro  H locs ls hW hl
                                  refine x_icmp_ne C (z_ite_lt _) (z_ite_lt _) (tgt := 771) dL_law_755 (by decide) (fun c_24 => ?_) (fun c_24 => ?_)
                                  · exact absurd rfl c_24
                                  · have jn_25 : ∀ (H : Heap) (locs : List Loc) (ls : Array Slot), WD E (fun q => s.heap.size ≤ q) s (([(o2, bI E 9 (cpW (mB g) 9)), (o1, aI E 9 (cpW w 9)), (h0, .inr (4, [.ref k1, .ref k2, .ref k3, .int (nI sp), .int (nI pl), .int (nI tu), .int (nI fr), .int (nI nf), .ref k4])), (k1, bI E 9 (mB g)), (k2, aI E 9 w), (k3, aI E 5 aw), (k4, qI E n (fun k => some (ra k)))] ++ CW E c0 a1 a2 a3 a4 a5 qs qa qb qc qd pl tu fr nf g sp w aw pt ft ti bt th) ++ plR E n ra rv) H locs → lv_has ls 28 [(16, .int (nI ((onZ g b (onB g b) z) ||| (if pcN (feN g b z) = pcN g then 1 else 0)))), (20, .int (laF (feN g b z) 9)), (19, .int (nI (pcN (feN g b z)))), (18, .int (nI z)), (17, .int (nI b)), (15, .int (tcF g)), (14, .int ((beS g aw 5).1)), (10, .ref o1), (11, .ref o2), (7, .int (nI (pcS g 9))), (5, .long d5), (4, .int v), (3, .int (nI t)), (0, .ref E.2.2.2.2.2.1), (1, .ref c0), (2, .ref h0)] → W p l e room_1 s m #[Value.ref E.2.2.2.2.2.1] below meth c H locs cells slots (lw_Z below #[Value.ref E.2.2.2.2.2.1] s) (F0 m 773 ls []) := by
                                      intro  H locs ls hW hl
                                      have jn_26 : ∀ (H : Heap) (locs : List Loc) (ls : Array Slot), WD E (fun q => s.heap.size ≤ q) s (([(o2, bI E 9 (cpW (mB g) 9)), (o1, aI E 9 (cpW w 9)), (h0, .inr (4, [.ref k1, .ref k2, .ref k3, .int (nI sp), .int (nI pl), .int (nI tu), .int (nI fr), .int (nI nf), .ref k4])), (k1, bI E 9 (mB g)), (k2, aI E 9 w), (k3, aI E 5 aw), (k4, qI E n (fun k => some (ra k)))] ++ CW E c0 a1 a2 a3 a4 a5 qs qa qb qc qd pl tu fr nf g sp w aw pt ft ti bt th) ++ plR E n ra rv) H locs → lv_has ls 28 [(16, .int (nI ((onZ g b (onB g b) z) ||| (if pcN (feN g b z) = pcN g then 1 else 0)))), (20, .int (laF (feN g b z) 9)), (19, .int (nI (pcN (feN g b z)))), (18, .int (nI z)), (17, .int (nI b)), (15, .int (tcF g)), (14, .int ((beS g aw 5).1)), (10, .ref o1), (11, .ref o2), (7, .int (nI (pcS g 9))), (5, .long d5), (4, .int v), (3, .int (nI t)), (0, .ref E.2.2.2.2.2.1), (1, .ref c0), (2, .ref h0)] → W p l e room_1 s m #[Value.ref E.2.2.2.2.2.1] below meth c H locs cells slots (lw_Z below #[Value.ref E.2.2.2.2.2.1] s) (F0 m 840 ls []) := by
                                        intro  H locs ls hW hl
                                        refine lv_iinc (k := 3) (v := nI (z + 1)) (lv' := [(18, .int (nI (z + 1))), (16, .int (nI ((onZ g b (onB g b) z) ||| (if pcN (feN g b z) = pcN g then 1 else 0)))), (20, .int (laF (feN g b z) 9)), (19, .int (nI (pcN (feN g b z)))), (17, .int (nI b)), (15, .int (tcF g)), (14, .int ((beS g aw 5).1)), (10, .ref o1), (11, .ref o2), (7, .int (nI (pcS g 9))), (5, .long d5), (4, .int v), (3, .int (nI t)), (0, .ref E.2.2.2.2.2.1), (1, .ref c0), (2, .ref h0)]) C.x C.b dL_law_840 hl rfl (z_inc z 1) (by decide) rfl (fun ls hl => ?_)
                                        refine lv_goto (tgt := 680) C.x C.b dL_law_843 (by decide) ?_
                                        exact ih17 (z + 1) (by omega) (by omega)  _ _ _ (hW.to rfl) (lv_to (lv_sub (l' := [(18, .int (nI (z + 1))), (17, .int (nI b)), (16, .int (nI ((onZ g b (onB g b) z) ||| (if pcN (feN g b z) = pcN g then 1 else 0)))), (15, .int (tcF g)), (14, .int ((beS g aw 5).1)), (10, .ref o1), (11, .ref o2), (7, .int (nI (pcS g 9))), (5, .long d5), (4, .int v), (3, .int (nI t)), (0, .ref E.2.2.2.2.2.1), (1, .ref c0), (2, .ref h0)]) hl [0, 4, 1, 5, 6, 7, 8, 9, 10, 11, 12, 13, 14, 15] rfl) (by first | rfl | (simp [c_1, c_2, c_5, c_7, c_18, c_20, c_21, c_24]; done) | (rw [if_pos (by omega)]; done) | (rw [if_neg (by omega)]; done) | (exfalso; omega) | ((repeat' split) <;> first | rfl | contradiction | (exfalso; omega))))
                                      refine lv_aload_n C.x C.b dL_law_773 rfl (lv_at hl 14 rfl) ?_
                                      refine lv_iload C.x C.b dL_law_774 (lv_at hl 4 rfl) ?_
                                      refine x_rVI C hW (As := [.int (nI b)]) (rest := []) (Cn := RX4) (met_X4_awayFor_ok l E c0 a1 a3 a5 pl tu fr nf a4 aw b (by omega)) gL_law_X4_awayFor rfl 1 rfl ⟨rfl, rfl⟩ ⟨rfl, by decide +kernel, by decide +kernel, by decide +kernel⟩ ⟨Nat.le_of_ble_eq_true rfl, Nat.le_of_ble_eq_true rfl⟩ [7, 10, 11] rfl (by decide) 7 3 rfl rfl hl.1 rfl (Nat.le_of_ble_eq_true rfl) dL_law_776 ⟨by show _ ≤ 1145513; omega, by show _ ≤ 5664643; omega⟩ (fun H locs hW => ?_)
                                      refine x_if_ne C (by have := ha b; omega) (tgt := 840) dL_law_779 (by decide) (fun c_27 => ?_) (fun c_27 => ?_)
                                      · exact jn_26  _ _ _ (hW.to rfl) (lv_to (lv_sub (l' := [(16, .int (nI ((onZ g b (onB g b) z) ||| (if pcN (feN g b z) = pcN g then 1 else 0)))), (20, .int (laF (feN g b z) 9)), (19, .int (nI (pcN (feN g b z)))), (18, .int (nI z)), (17, .int (nI b)), (15, .int (tcF g)), (14, .int ((beS g aw 5).1)), (10, .ref o1), (11, .ref o2), (7, .int (nI (pcS g 9))), (5, .long d5), (4, .int v), (3, .int (nI t)), (0, .ref E.2.2.2.2.2.1), (1, .ref c0), (2, .ref h0)]) hl [0, 1, 2, 3, 4, 5, 6, 7, 8, 9, 10, 11, 12, 13, 14, 15] rfl) rfl)
                                      · obtain ⟨B, Z, hB5, hZ5, hB0, hBe, hBm⟩ := bes_some (g := g) (aw := aw) (b := b) (z := z) (by omega) (by omega) (by omega)
                                        rw [hBe] at hl
                                        refine lv_iload C.x C.b dL_law_782 (lv_at hl 6 rfl) ?_
                                        refine x_if_lt C (by omega) (tgt := 838) dL_law_784 (by decide) (fun c_28 => ?_) (fun c_28 => ?_)
                                        · exact absurd c_28 (by omega)
                                        · refine lv_iload C.x C.b dL_law_787 (lv_at hl 2 rfl) ?_
                                          refine lv_aload_n C.x C.b dL_law_789 rfl (lv_at hl 14 rfl) ?_
                                          refine lv_iload C.x C.b dL_law_790 (lv_at hl 6 rfl) ?_
                                          refine lv_bipush (v := nI 10) C.x C.b dL_law_792 (by decide) ?_
                                          refine x_idiv C (by omega) (by omega) (by omega) dL_law_794 ?_
                                          refine x_toi (y := nI B) (congrArg nI (by omega)) ?_
                                          refine lv_iload C.x C.b dL_law_795 (lv_at hl 6 rfl) ?_
                                          refine lv_bipush (v := nI 10) C.x C.b dL_law_797 (by decide) ?_
                                          refine x_irem C (by omega) (by omega) (by omega) dL_law_799 ?_
                                          refine x_toi (y := nI Z) (congrArg nI (by omega)) ?_
                                          refine x_rVI C hW (As := [.int (nI B), .int (nI Z)]) (rest := [.int (nI (pcN (feN g b z)))]) (Cn := RX4) (met_X4_wouldFall_ok l E c0 a1 a3 a5 pl tu fr nf a2 g sp w B Z (by omega) (by omega) hg) gL_law_X4_wouldFall rfl 2 rfl ⟨rfl, rfl⟩ ⟨rfl, by decide +kernel, by decide +kernel, by decide +kernel⟩ ⟨Nat.le_of_ble_eq_true rfl, Nat.le_of_ble_eq_true rfl⟩ [7, 8, 9] rfl (by decide) 7 3 rfl rfl hl.1 rfl (Nat.le_of_ble_eq_true rfl) dL_law_800 ⟨by show _ ≤ 1145513; omega, by show _ ≤ 5664643; omega⟩ (fun H locs hW => ?_)
                                          refine x_icmp_gt C (by omega) (by have := pcN_le (feN g B Z); omega) (tgt := 838) dL_law_803 (by decide) (fun c_29 => ?_) (fun c_29 => ?_)
                                          · exact absurd c_29 (by omega)
                                          · refine lv_iload C.x C.b dL_law_806 (lv_at hl 2 rfl) ?_
                                            refine lv_aload_n C.x C.b dL_law_808 rfl (lv_at hl 14 rfl) ?_
                                            refine lv_iload C.x C.b dL_law_809 (lv_at hl 6 rfl) ?_
                                            refine lv_bipush (v := nI 10) C.x C.b dL_law_811 (by decide) ?_
                                            refine x_idiv C (by omega) (by omega) (by omega) dL_law_813 ?_
                                            refine x_toi (y := nI B) (congrArg nI (by omega)) ?_
                                            refine lv_iload C.x C.b dL_law_814 (lv_at hl 6 rfl) ?_
                                            refine lv_bipush (v := nI 10) C.x C.b dL_law_816 (by decide) ?_
                                            refine x_irem C (by omega) (by omega) (by omega) dL_law_818 ?_
                                            refine x_toi (y := nI Z) (congrArg nI (by omega)) ?_
                                            refine x_rVI C hW (As := [.int (nI B), .int (nI Z)]) (rest := [.int (nI (pcN (feN g b z)))]) (Cn := RX4) (met_X4_wouldFall_ok l E c0 a1 a3 a5 pl tu fr nf a2 g sp w B Z (by omega) (by omega) hg) gL_law_X4_wouldFall rfl 2 rfl ⟨rfl, rfl⟩ ⟨rfl, by decide +kernel, by decide +kernel, by decide +kernel⟩ ⟨Nat.le_of_ble_eq_true rfl, Nat.le_of_ble_eq_true rfl⟩ [7, 8, 9] rfl (by decide) 7 3 rfl rfl hl.1 rfl (Nat.le_of_ble_eq_true rfl) dL_law_819 ⟨by show _ ≤ 1145513; omega, by show _ ≤ 5664643; omega⟩ (fun H locs hW => ?_)
                                            refine x_icmp_ne C (by omega) (by have := pcN_le (feN g B Z); omega) (tgt := 840) dL_law_822 (by decide) (fun c_30 => ?_) (fun c_30 => ?_)
                                            · exact jn_26  _ _ _ (hW.to rfl) (lv_to (lv_sub (l' := [(16, .int (nI ((onZ g b (onB g b) z) ||| (if pcN (feN g b z) = pcN g then 1 else 0)))), (20, .int (laF (feN g b z) 9)), (19, .int (nI (pcN (feN g b z)))), (18, .int (nI z)), (17, .int (nI b)), (15, .int (tcF g)), (14, .int (nI (10 * B + Z))), (10, .ref o1), (11, .ref o2), (7, .int (nI (pcS g 9))), (5, .long d5), (4, .int v), (3, .int (nI t)), (0, .ref E.2.2.2.2.2.1), (1, .ref c0), (2, .ref h0)]) hl [0, 1, 2, 3, 4, 5, 6, 7, 8, 9, 10, 11, 12, 13, 14, 15] rfl) (by rw [hBe]))
                                            · refine lv_bipush (v := nI 10) C.x C.b dL_law_825 (by decide) ?_
                                              refine lv_iload C.x C.b dL_law_827 (lv_at hl 4 rfl) ?_
                                              refine x_imul C dL_law_829 ?_
                                              refine lv_iload C.x C.b dL_law_830 (lv_at hl 3 rfl) ?_
                                              refine x_iadd C dL_law_832 ?_
                                              refine lv_iload C.x C.b dL_law_833 (lv_at hl 6 rfl) ?_
                                              refine x_icmp_ge C (by omega) (by omega) (tgt := 840) dL_law_835 (by decide) (fun c_31 => ?_) (fun c_31 => ?_)
                                              · exact jn_26  _ _ _ (hW.to rfl) (lv_to (lv_sub (l' := [(16, .int (nI ((onZ g b (onB g b) z) ||| (if pcN (feN g b z) = pcN g then 1 else 0)))), (20, .int (laF (feN g b z) 9)), (19, .int (nI (pcN (feN g b z)))), (18, .int (nI z)), (17, .int (nI b)), (15, .int (tcF g)), (14, .int (nI (10 * B + Z))), (10, .ref o1), (11, .ref o2), (7, .int (nI (pcS g 9))), (5, .long d5), (4, .int v), (3, .int (nI t)), (0, .ref E.2.2.2.2.2.1), (1, .ref c0), (2, .ref h0)]) hl [0, 1, 2, 3, 4, 5, 6, 7, 8, 9, 10, 11, 12, 13, 14, 15] rfl) (by rw [hBe]))
                                              · exact absurd (by omega) c_31
                                    refine lv_iload C.x C.b dL_law_758 (lv_at hl 1 rfl) ?_
                                    refine lv_if_lt C.x C.b (tgt := 773) dL_law_760 (by decide) (fun c_32 => ?_) (fun c_32 => ?_)
                                    · exact jn_25  _ _ _ (hW.to rfl) (lv_to (lv_sub (l' := [(16, .int (nI ((onZ g b (onB g b) z) ||| (if pcN (feN g b z) = pcN g then 1 else 0)))), (20, .int (laF (feN g b z) 9)), (19, .int (nI (pcN (feN g b z)))), (18, .int (nI z)), (17, .int (nI b)), (15, .int (tcF g)), (14, .int ((beS g aw 5).1)), (10, .ref o1), (11, .ref o2), (7, .int (nI (pcS g 9))), (5, .long d5), (4, .int v), (3, .int (nI t)), (0, .ref E.2.2.2.2.2.1), (1, .ref c0), (2, .ref h0)]) hl [0, 1, 2, 3, 4, 5, 6, 7, 8, 9, 10, 11, 12, 13, 14, 15] rfl) rfl)
                                    · obtain ⟨la1, la2, la3⟩ := la_bit (by assumption)
                                      have la4 := cpW_9 (mB g) la2
                                      have la5 := mB_fr (b := b) (z := z) hg (laN (feN g b z) 9)
                                      have la6 : mB (feN g b z) (laN (feN g b z) 9) = 1 := la3
                                      have la7 := mB_lt g (laN (feN g b z) 9)
                                      refine lv_aload C.x C.b dL_law_763 (lv_at hl 8 rfl) ?_
                                      refine lv_iload C.x C.b dL_law_765 (lv_at hl 1 rfl) ?_
                                      refine x_zld C hW 0 (laN (feN g b z) 9) rfl la1 la2 (by decide) dL_law_767 ?_
                                      refine x_if_ne C (by omega) (tgt := 773) dL_law_768 (by decide) (fun c_33 => ?_) (fun c_33 => ?_)
                                      · exact jn_25  _ _ _ (hW.to rfl) (lv_to (lv_sub (l' := [(16, .int (nI ((onZ g b (onB g b) z) ||| (if pcN (feN g b z) = pcN g then 1 else 0)))), (20, .int (laF (feN g b z) 9)), (19, .int (nI (pcN (feN g b z)))), (18, .int (nI z)), (17, .int (nI b)), (15, .int (tcF g)), (14, .int ((beS g aw 5).1)), (10, .ref o1), (11, .ref o2), (7, .int (nI (pcS g 9))), (5, .long d5), (4, .int v), (3, .int (nI t)), (0, .ref E.2.2.2.2.2.1), (1, .ref c0), (2, .ref h0)]) hl [0, 1, 2, 3, 4, 5, 6, 7, 8, 9, 10, 11, 12, 13, 14, 15] rfl) rfl)
                                      · exact absurd c_33 (by omega)
                                refine lv_iload C.x C.b dL_law_745 (lv_at hl 2 rfl) ?_
                                refine x_if_ne C (by omega) (tgt := 754) dL_law_747 (by decide) (fun c_34 => ?_) (fun c_34 => ?_)
                                · refine lv_iconst (v := nI 0) C.x C.b dL_law_754 (by decide) ?_
                                  refine x_toi (y := (nI (if feN g b z = 0 then 1 else 0))) (by first | (rw [if_pos (fz.mp (by assumption))]; done) | (rw [if_neg (fun q => absurd (fz.mpr q) (by assumption))]; done)) ?_
                                  exact jn_23  _ _ _ (hW.to rfl) (lv_to (lv_sub (l' := [(16, .int (nI ((onZ g b (onB g b) z) ||| (if pcN (feN g b z) = pcN g then 1 else 0)))), (20, .int (laF (feN g b z) 9)), (19, .int (nI (pcN (feN g b z)))), (18, .int (nI z)), (17, .int (nI b)), (15, .int (tcF g)), (14, .int ((beS g aw 5).1)), (10, .ref o1), (11, .ref o2), (7, .int (nI (pcS g 9))), (5, .long d5), (4, .int v), (3, .int (nI t)), (0, .ref E.2.2.2.2.2.1), (1, .ref c0), (2, .ref h0)]) hl [0, 1, 2, 3, 4, 5, 6, 7, 8, 9, 10, 11, 12, 13, 14, 15] rfl) rfl)
                                · refine lv_iconst (v := nI 1) C.x C.b dL_law_750 (by decide) ?_
                                  refine lv_goto (tgt := 755) C.x C.b dL_law_751 (by decide) ?_
                                  refine x_toi (y := (nI (if feN g b z = 0 then 1 else 0))) (by first | (rw [if_pos (fz.mp (by assumption))]; done) | (rw [if_neg (fun q => absurd (fz.mpr q) (by assumption))]; done)) ?_
                                  exact jn_23  _ _ _ (hW.to rfl) (lv_to (lv_sub (l' := [(16, .int (nI ((onZ g b (onB g b) z) ||| (if pcN (feN g b z) = pcN g then 1 else 0)))), (20, .int (laF (feN g b z) 9)), (19, .int (nI (pcN (feN g b z)))), (18, .int (nI z)), (17, .int (nI b)), (15, .int (tcF g)), (14, .int ((beS g aw 5).1)), (10, .ref o1), (11, .ref o2), (7, .int (nI (pcS g 9))), (5, .long d5), (4, .int v), (3, .int (nI t)), (0, .ref E.2.2.2.2.2.1), (1, .ref c0), (2, .ref h0)]) hl [0, 1, 2, 3, 4, 5, 6, 7, 8, 9, 10, 11, 12, 13, 14, 15] rfl) rfl)
                              refine lv_iload C.x C.b dL_law_735 (lv_at hl 1 rfl) ?_
                              refine lv_if_ge C.x C.b (tgt := 744) dL_law_737 (by decide) (fun c_35 => ?_) (fun c_35 => ?_)
                              · refine lv_iconst (v := nI 0) C.x C.b dL_law_744 (by decide) ?_
                                refine x_toi (y := (nI (if feN g b z = 0 then 1 else 0))) (by first | (rw [if_neg (fun q => absurd ((la_neg fl).mpr q) (Int32.not_lt.mpr (by assumption)))]; done) | (rw [if_pos ((la_neg fl).mp (Int32.not_le.mp (by assumption)))]; done)) ?_
                                exact jn_22  _ _ _ (hW.to rfl) (lv_to (lv_sub (l' := [(16, .int (nI ((onZ g b (onB g b) z) ||| (if pcN (feN g b z) = pcN g then 1 else 0)))), (20, .int (laF (feN g b z) 9)), (19, .int (nI (pcN (feN g b z)))), (18, .int (nI z)), (17, .int (nI b)), (15, .int (tcF g)), (14, .int ((beS g aw 5).1)), (10, .ref o1), (11, .ref o2), (7, .int (nI (pcS g 9))), (5, .long d5), (4, .int v), (3, .int (nI t)), (0, .ref E.2.2.2.2.2.1), (1, .ref c0), (2, .ref h0)]) hl [0, 1, 2, 3, 4, 5, 6, 7, 8, 9, 10, 11, 12, 13, 14, 15] rfl) rfl)
                              · refine lv_iconst (v := nI 1) C.x C.b dL_law_740 (by decide) ?_
                                refine lv_goto (tgt := 745) C.x C.b dL_law_741 (by decide) ?_
                                refine x_toi (y := (nI (if feN g b z = 0 then 1 else 0))) (by first | (rw [if_neg (fun q => absurd ((la_neg fl).mpr q) (Int32.not_lt.mpr (by assumption)))]; done) | (rw [if_pos ((la_neg fl).mp (Int32.not_le.mp (by assumption)))]; done)) ?_
                                exact jn_22  _ _ _ (hW.to rfl) (lv_to (lv_sub (l' := [(16, .int (nI ((onZ g b (onB g b) z) ||| (if pcN (feN g b z) = pcN g then 1 else 0)))), (20, .int (laF (feN g b z) 9)), (19, .int (nI (pcN (feN g b z)))), (18, .int (nI z)), (17, .int (nI b)), (15, .int (tcF g)), (14, .int ((beS g aw 5).1)), (10, .ref o1), (11, .ref o2), (7, .int (nI (pcS g 9))), (5, .long d5), (4, .int v), (3, .int (nI t)), (0, .ref E.2.2.2.2.2.1), (1, .ref c0), (2, .ref h0)]) hl [0, 1, 2, 3, 4, 5, 6, 7, 8, 9, 10, 11, 12, 13, 14, 15] rfl) rfl)
                        refine lv_iload C.x C.b dL_law_708 (lv_at hl 1 rfl) ?_
                        refine lv_iload C.x C.b dL_law_710 (lv_at hl 9 rfl) ?_
                        refine x_icmp_ne C (by omega) (by omega) (tgt := 719) dL_law_712 (by decide) (fun c_36 => ?_) (fun c_36 => ?_)
                        · refine lv_iconst (v := nI 0) C.x C.b dL_law_719 (by decide) ?_
                          refine x_toi (y := (nI (if pcN (feN g b z) = pcN g then 1 else 0))) (by first | (rw [if_pos (by omega)]; done) | (rw [if_neg (by omega)]; done)) ?_
                          exact jn_19  _ _ _ (hW.to rfl) (lv_to (lv_sub (l' := [(20, .int (laF (feN g b z) 9)), (19, .int (nI (pcN (feN g b z)))), (18, .int (nI z)), (17, .int (nI b)), (16, .int (nI (onZ g b (onB g b) z))), (15, .int (tcF g)), (14, .int ((beS g aw 5).1)), (10, .ref o1), (11, .ref o2), (7, .int (nI (pcS g 9))), (5, .long d5), (4, .int v), (3, .int (nI t)), (0, .ref E.2.2.2.2.2.1), (1, .ref c0), (2, .ref h0)]) hl [0, 1, 2, 3, 4, 5, 6, 7, 8, 9, 10, 11, 12, 13, 14, 15] rfl) rfl)
                        · refine lv_iconst (v := nI 1) C.x C.b dL_law_715 (by decide) ?_
                          refine lv_goto (tgt := 720) C.x C.b dL_law_716 (by decide) ?_
                          refine x_toi (y := (nI (if pcN (feN g b z) = pcN g then 1 else 0))) (by first | (rw [if_pos (by omega)]; done) | (rw [if_neg (by omega)]; done)) ?_
                          exact jn_19  _ _ _ (hW.to rfl) (lv_to (lv_sub (l' := [(20, .int (laF (feN g b z) 9)), (19, .int (nI (pcN (feN g b z)))), (18, .int (nI z)), (17, .int (nI b)), (16, .int (nI (onZ g b (onB g b) z))), (15, .int (tcF g)), (14, .int ((beS g aw 5).1)), (10, .ref o1), (11, .ref o2), (7, .int (nI (pcS g 9))), (5, .long d5), (4, .int v), (3, .int (nI t)), (0, .ref E.2.2.2.2.2.1), (1, .ref c0), (2, .ref h0)]) hl [0, 1, 2, 3, 4, 5, 6, 7, 8, 9, 10, 11, 12, 13, 14, 15] rfl) rfl)
                  exact lp_17 (5 + 1) 0 (by omega) (by omega)  _ _ _ (hW.to rfl) (lv_to (lv_sub (l' := [(18, .int (nI 0)), (17, .int (nI b)), (16, .int (nI (onB g b))), (15, .int (tcF g)), (14, .int ((beS g aw 5).1)), (10, .ref o1), (11, .ref o2), (7, .int (nI (pcS g 9))), (5, .long d5), (4, .int v), (3, .int (nI t)), (0, .ref E.2.2.2.2.2.1), (1, .ref c0), (2, .ref h0)]) hl [0, 1, 2, 3, 4, 5, 6, 7, 8, 9, 10, 11, 12, 13] rfl) rfl)
            exact lp_6 (5 + 1) 0 (by omega) (by omega)  _ _ _ (hW.to rfl) (lv_to (lv_sub (l' := [(17, .int (nI 0)), (16, .int (nI 0)), (15, .int (tcF g)), (14, .int ((beS g aw 5).1)), (10, .ref o1), (11, .ref o2), (7, .int (nI (pcS g 9))), (5, .long d5), (4, .int v), (3, .int (nI t)), (0, .ref E.2.2.2.2.2.1), (1, .ref c0), (2, .ref h0)]) hl [0, 1, 2, 3, 4, 5, 6, 7, 8, 9, 10, 11, 12] rfl) rfl)
          · exact absurd rfl c_5
        refine lv_iload C.x C.b dL_law_650 (lv_at hl 4 rfl) ?_
        refine x_if_ne C (by omega) (tgt := 659) dL_law_652 (by decide) (fun c_37 => ?_) (fun c_37 => ?_)
        · refine lv_iconst (v := nI 0) C.x C.b dL_law_659 (by decide) ?_
          refine x_toi (y := (nI (if g = 0 then 1 else 0))) (by first | (rw [if_pos (hps.mp (by assumption))]; done) | (rw [if_neg (fun q => absurd (hps.mpr q) (by assumption))]; done)) ?_
          exact jn_4  _ _ _ (hW.to rfl) (lv_to (lv_sub (l' := [(15, .int (tcF g)), (14, .int ((beS g aw 5).1)), (10, .ref o1), (11, .ref o2), (7, .int (nI (pcS g 9))), (5, .long d5), (4, .int v), (3, .int (nI t)), (0, .ref E.2.2.2.2.2.1), (1, .ref c0), (2, .ref h0)]) hl [0, 1, 2, 3, 4, 5, 6, 7, 8, 9, 10] rfl) rfl)
        · refine lv_iconst (v := nI 1) C.x C.b dL_law_655 (by decide) ?_
          refine lv_goto (tgt := 660) C.x C.b dL_law_656 (by decide) ?_
          refine x_toi (y := (nI (if g = 0 then 1 else 0))) (by first | (rw [if_pos (hps.mp (by assumption))]; done) | (rw [if_neg (fun q => absurd (hps.mpr q) (by assumption))]; done)) ?_
          exact jn_4  _ _ _ (hW.to rfl) (lv_to (lv_sub (l' := [(15, .int (tcF g)), (14, .int ((beS g aw 5).1)), (10, .ref o1), (11, .ref o2), (7, .int (nI (pcS g 9))), (5, .long d5), (4, .int v), (3, .int (nI t)), (0, .ref E.2.2.2.2.2.1), (1, .ref c0), (2, .ref h0)]) hl [0, 1, 2, 3, 4, 5, 6, 7, 8, 9, 10] rfl) rfl)
      refine lv_iload C.x C.b dL_law_640 (lv_at hl 0 rfl) ?_
      refine lv_if_ne C.x C.b (tgt := 649) dL_law_642 (by decide) (fun c_38 => ?_) (fun c_38 => ?_)
      · refine lv_iconst (v := nI 0) C.x C.b dL_law_649 (by decide) ?_
        refine x_toi (y := (nI (if g = 0 then 1 else 0))) (by first | (rw [if_pos ((tc_0 g).mp (by assumption))]; done) | (rw [if_neg (fun q => absurd ((tc_0 g).mpr q) (by assumption))]; done)) ?_
        exact jn_3  _ _ _ (hW.to rfl) (lv_to (lv_sub (l' := [(15, .int (tcF g)), (14, .int ((beS g aw 5).1)), (10, .ref o1), (11, .ref o2), (7, .int (nI (pcS g 9))), (5, .long d5), (4, .int v), (3, .int (nI t)), (0, .ref E.2.2.2.2.2.1), (1, .ref c0), (2, .ref h0)]) hl [0, 1, 2, 3, 4, 5, 6, 7, 8, 9, 10] rfl) rfl)
      · refine lv_iconst (v := nI 1) C.x C.b dL_law_645 (by decide) ?_
        refine lv_goto (tgt := 650) C.x C.b dL_law_646 (by decide) ?_
        refine x_toi (y := (nI (if g = 0 then 1 else 0))) (by first | (rw [if_pos ((tc_0 g).mp (by assumption))]; done) | (rw [if_neg (fun q => absurd ((tc_0 g).mpr q) (by assumption))]; done)) ?_
        exact jn_3  _ _ _ (hW.to rfl) (lv_to (lv_sub (l' := [(15, .int (tcF g)), (14, .int ((beS g aw 5).1)), (10, .ref o1), (11, .ref o2), (7, .int (nI (pcS g 9))), (5, .long d5), (4, .int v), (3, .int (nI t)), (0, .ref E.2.2.2.2.2.1), (1, .ref c0), (2, .ref h0)]) hl [0, 1, 2, 3, 4, 5, 6, 7, 8, 9, 10] rfl) rfl)
