/-! THE LAW: one turn, its loop, its end -/
set_option maxHeartbeats 8000000 in
set_option maxRecDepth 100000 in
theorem law_t {p : Program} {l : Launch} {e : Env} {s : State} {m : MethodId} {below : List Frame} {meth : Method} {c : Code} {E : EV} (hst : l.stackTraces = false) (C : CX p s m #[Value.ref E.2.2.2.2.2.1] meth c cL_law 28 RL wsL_law (some .boolean) E (fun q => s.heap.size ≤ q)) {h0 k2 k3 c0 a1 a2 a3 a4 a5 : Nat} {qs qa qb qc qd : Nat → Nat} {k1 k4 pl tu fr nf g sp n : Nat} {w aw ra : Nat → Nat} {rv pt ft ti bt : Nat → Nat → Nat} {th : Nat → Nat} (hI : Iv pl tu fr nf g n rv w aw pt ft ti bt th) {t : Nat} (ht : t < 10) (hn : n ≤ 60 + 4 * t) (hs : sp ≤ 3 + 60 * t) {cells slots : Nat} (hcs : cells + 600 ≤ 1145513) (hsl : slots + 3000 ≤ 5664643) {H : Heap} {locs : List Loc} {ls : Array Slot} (hW : WD E (fun q => s.heap.size ≤ q) s (([(h0, .inr (4, [.ref k1, .ref k2, .ref k3, .int (nI sp), .int (nI pl), .int (nI tu), .int (nI fr), .int (nI nf), .ref k4])), (k1, bI E 9 (mB g)), (k2, aI E 9 w), (k3, aI E 5 aw), (k4, qI E n (fun k => some (ra k)))] ++ CW E c0 a1 a2 a3 a4 a5 qs qa qb qc qd pl tu fr nf g sp w aw pt ft ti bt th) ++ plR E n ra rv) H locs) (hl : lv_has ls 28 [(3, .int (nI t)), (0, .ref E.2.2.2.2.2.1), (1, .ref c0), (2, .ref h0)]) (kk : ∀ (k1 k4 pl tu fr nf g sp n : Nat) (w aw ra : Nat → Nat) (rv pt ft ti bt : Nat → Nat → Nat) (th : Nat → Nat), Iv pl tu fr nf g n rv w aw pt ft ti bt th → n ≤ 60 + 4 * (t + 1) → sp ≤ 3 + 60 * (t + 1) → ∀ (H : Heap) (locs : List Loc) (ls : Array Slot), WD E (fun q => s.heap.size ≤ q) s (([(h0, .inr (4, [.ref k1, .ref k2, .ref k3, .int (nI sp), .int (nI pl), .int (nI tu), .int (nI fr), .int (nI nf), .ref k4])), (k1, bI E 9 (mB g)), (k2, aI E 9 w), (k3, aI E 5 aw), (k4, qI E n (fun k => some (ra k)))] ++ CW E c0 a1 a2 a3 a4 a5 qs qa qb qc qd pl tu fr nf g sp w aw pt ft ti bt th) ++ plR E n ra rv) H locs → lv_has ls 28 [(3, .int (nI t)), (0, .ref E.2.2.2.2.2.1), (1, .ref c0), (2, .ref h0)] → W p l e room_1 s m #[Value.ref E.2.2.2.2.2.1] below meth c H locs (cells + 280) (slots + 1100) (lw_Z below #[Value.ref E.2.2.2.2.2.1] s) (F0 m 1273 ls [])) : W p l e room_1 s m #[Value.ref E.2.2.2.2.2.1] below meth c H locs cells slots (lw_Z below #[Value.ref E.2.2.2.2.2.1] s) (F0 m 28 ls []) := by
  refine lv_aload_n C.x C.b dL_law_28 rfl (lv_at hl 1 rfl) ?_
  refine lv_iload_n C.x C.b dL_law_29 rfl (lv_at hl 0 rfl) ?_
  refine lv_iconst (v := nI 1) C.x C.b dL_law_30 (by decide) ?_
  refine x_iadd C dL_law_31 ?_
  refine x_rSI C hW (As := [.ref E.2.2.2.2.2.1, .int (nI (t + 1))]) (rest := []) (met_L_cell l E (t + 1) (by omega)) gL_law_L_cell rfl 2 rfl ⟨rfl, rfl⟩ ⟨by decide +kernel, by decide +kernel, by decide +kernel⟩ ⟨Nat.le_of_ble_eq_true rfl, Nat.le_of_ble_eq_true rfl⟩ [] rfl (by decide) hl.1 rfl (Nat.le_of_ble_eq_true rfl) dL_law_32 ⟨by show _ ≤ 1145513; omega, by show _ ≤ 5664643; omega⟩ (fun H locs hW => ?_)
  refine lv_iconst (v := nI 2) C.x C.b dL_law_35 (by decide) ?_
  refine lv_ishr C.x C.b dL_law_36 ?_
  refine lv_bipush (v := nI 53) C.x C.b dL_law_37 (by decide) ?_
  refine lv_iload_n C.x C.b dL_law_39 rfl (lv_at hl 0 rfl) ?_
  refine x_imul C dL_law_40 ?_
  refine lv_iadd C.x C.b dL_law_41 ?_
  refine lv_istore (lv' := [(4, .int (((clF E (t + 1)) >>> ((nI 2) &&& 31)) + (nI (53 * t)))), (3, .int (nI t)), (0, .ref E.2.2.2.2.2.1), (1, .ref c0), (2, .ref h0)]) C.x C.b dL_law_42 hl (by decide) rfl (fun ls hl => ?_)
  obtain ⟨v, hve⟩ : ∃ v, (((clF E (t + 1)) >>> ((nI 2) &&& 31)) + (nI (53 * t))) = v := ⟨_, rfl⟩
  rw [hve] at hl
  refine lv_iconst (v := nI 0) C.x C.b dL_law_44 (by decide) ?_
  refine lv_istore (lv' := [(5, .int (nI 0)), (4, .int v), (3, .int (nI t)), (0, .ref E.2.2.2.2.2.1), (1, .ref c0), (2, .ref h0)]) C.x C.b dL_law_45 hl (by decide) rfl (fun ls hl => ?_)
  refine lv_iload C.x C.b dL_law_47 (lv_at hl 0 rfl) ?_
  refine lv_iconst (v := nI 3) C.x C.b dL_law_49 (by decide) ?_
  refine x_icmp_ge C (by omega) (by omega) (tgt := 82) dL_law_50 (by decide) (fun c_1 => ?_) (fun c_1 => ?_)
  · exact absurd c_1 (by decide)
  · refine lv_aload_n C.x C.b dL_law_53 rfl (lv_at hl 4 rfl) ?_
    refine lv_aload_n C.x C.b dL_law_54 rfl (lv_at hl 5 rfl) ?_
    refine lv_iload C.x C.b dL_law_55 (lv_at hl 1 rfl) ?_
    refine lv_iconst (v := nI 3) C.x C.b dL_law_57 (by decide) ?_
    refine lv_iload C.x C.b dL_law_58 (lv_at hl 0 rfl) ?_
    refine lv_imul C.x C.b dL_law_60 ?_
    refine x_toi (y := nI 0) (by decide) ?_
    refine lv_ishr C.x C.b dL_law_61 ?_
    refine lv_bipush (v := nI 29) C.x C.b dL_law_62 (by decide) ?_
    refine lv_iload C.x C.b dL_law_64 (lv_at hl 0 rfl) ?_
    refine lv_imul C.x C.b dL_law_66 ?_
    refine x_toi (y := nI 0) (by decide) ?_
    refine lv_iadd C.x C.b dL_law_67 ?_
    refine x_gSG C hW (As := [.ref c0, .ref h0, .int ((v >>> ((nI 0) &&& 31)) + (nI 0))]) (rest := []) (wr := []) (met_L_act l hst E h0 k1 k2 k3 k4 sp pl tu fr nf g w aw n ra rv c0 a1 a2 a3 a4 a5 qs qa qb qc qd pt ft ti bt th ((v >>> ((nI 0) &&& 31)) + (nI 0)) (by omega) (by omega) hI) gL_law_L_act rfl 3 rfl ⟨rfl, rfl⟩ ⟨by decide +kernel, by decide +kernel, by decide +kernel⟩ ⟨Nat.le_of_ble_eq_true rfl, Nat.le_of_ble_eq_true rfl⟩ [0, 1, 2, 3, 4, 5, 6, 7, 8, 9, 10, 11, 12, 13, 14, 15, 16, 17, 18, 19, 20, 21, 22, 23, 24, 25, 26, 27, 28, 29, 30] [] rfl (by decide) rfl rfl (fun _ q => absurd q (by simp)) hl.1 rfl (Nat.le_of_ble_eq_true rfl) dL_law_68 ⟨by show _ ≤ 1145513; omega, by show _ ≤ 5664643; omega⟩ (fun r_2 w_3 H locs hp_4 hW => ?_)
    clear hI
    obtain ⟨rfl, k1, k4, pl, tu, fr, nf, g, sp, n, w, aw, ra, rv, pt, ft, ti, bt, th, hI, hn0, hs0, rfl⟩ := hp_4
    have hW : WD E _ s (([(h0, .inr (4, [.ref k1, .ref k2, .ref k3, .int (nI sp), .int (nI pl), .int (nI tu), .int (nI fr), .int (nI nf), .ref k4])), (k1, bI E 9 (mB g)), (k2, aI E 9 w), (k3, aI E 5 aw), (k4, qI E n (fun k => some (ra k)))] ++ CW E c0 a1 a2 a3 a4 a5 qs qa qb qc qd pl tu fr nf g sp w aw pt ft ti bt th) ++ plR E n ra rv) H _ := hW
    refine x_if_ne C (by omega) (tgt := 76) dL_law_71 (by decide) (fun c_5 => ?_) (fun c_5 => ?_)
    · refine lv_iinc (k := 0) (v := nI 1) (lv' := [(5, .int (nI 1)), (4, .int v), (3, .int (nI t)), (0, .ref E.2.2.2.2.2.1), (1, .ref c0), (2, .ref h0)]) C.x C.b dL_law_76 hl rfl (by decide) (by decide) rfl (fun ls hl => ?_)
      refine lv_goto (tgt := 47) C.x C.b dL_law_79 (by decide) ?_
      refine lv_iload C.x C.b dL_law_47 (lv_at hl 0 rfl) ?_
      refine lv_iconst (v := nI 3) C.x C.b dL_law_49 (by decide) ?_
      refine x_icmp_ge C (by omega) (by omega) (tgt := 82) dL_law_50 (by decide) (fun c_6 => ?_) (fun c_6 => ?_)
      · exact absurd c_6 (by decide)
      · refine lv_aload_n C.x C.b dL_law_53 rfl (lv_at hl 4 rfl) ?_
        refine lv_aload_n C.x C.b dL_law_54 rfl (lv_at hl 5 rfl) ?_
        refine lv_iload C.x C.b dL_law_55 (lv_at hl 1 rfl) ?_
        refine lv_iconst (v := nI 3) C.x C.b dL_law_57 (by decide) ?_
        refine lv_iload C.x C.b dL_law_58 (lv_at hl 0 rfl) ?_
        refine lv_imul C.x C.b dL_law_60 ?_
        refine x_toi (y := nI 3) (by decide) ?_
        refine lv_ishr C.x C.b dL_law_61 ?_
        refine lv_bipush (v := nI 29) C.x C.b dL_law_62 (by decide) ?_
        refine lv_iload C.x C.b dL_law_64 (lv_at hl 0 rfl) ?_
        refine lv_imul C.x C.b dL_law_66 ?_
        refine x_toi (y := nI 29) (by decide) ?_
        refine lv_iadd C.x C.b dL_law_67 ?_
        refine x_gSG C hW (As := [.ref c0, .ref h0, .int ((v >>> ((nI 3) &&& 31)) + (nI 29))]) (rest := []) (wr := []) (met_L_act l hst E h0 k1 k2 k3 k4 sp pl tu fr nf g w aw n ra rv c0 a1 a2 a3 a4 a5 qs qa qb qc qd pt ft ti bt th ((v >>> ((nI 3) &&& 31)) + (nI 29)) (by omega) (by omega) hI) gL_law_L_act rfl 3 rfl ⟨rfl, rfl⟩ ⟨by decide +kernel, by decide +kernel, by decide +kernel⟩ ⟨Nat.le_of_ble_eq_true rfl, Nat.le_of_ble_eq_true rfl⟩ [0, 1, 2, 3, 4, 5, 6, 7, 8, 9, 10, 11, 12, 13, 14, 15, 16, 17, 18, 19, 20, 21, 22, 23, 24, 25, 26, 27, 28, 29, 30] [] rfl (by decide) rfl rfl (fun _ q => absurd q (by simp)) hl.1 rfl (Nat.le_of_ble_eq_true rfl) dL_law_68 ⟨by show _ ≤ 1145513; omega, by show _ ≤ 5664643; omega⟩ (fun r_7 w_8 H locs hp_9 hW => ?_)
        clear hI
        obtain ⟨rfl, k1, k4, pl, tu, fr, nf, g, sp, n, w, aw, ra, rv, pt, ft, ti, bt, th, hI, hn1, hs1, rfl⟩ := hp_9
        have hW : WD E _ s (([(h0, .inr (4, [.ref k1, .ref k2, .ref k3, .int (nI sp), .int (nI pl), .int (nI tu), .int (nI fr), .int (nI nf), .ref k4])), (k1, bI E 9 (mB g)), (k2, aI E 9 w), (k3, aI E 5 aw), (k4, qI E n (fun k => some (ra k)))] ++ CW E c0 a1 a2 a3 a4 a5 qs qa qb qc qd pl tu fr nf g sp w aw pt ft ti bt th) ++ plR E n ra rv) H _ := hW
        refine x_if_ne C (by omega) (tgt := 76) dL_law_71 (by decide) (fun c_10 => ?_) (fun c_10 => ?_)
        · refine lv_iinc (k := 0) (v := nI 2) (lv' := [(5, .int (nI 2)), (4, .int v), (3, .int (nI t)), (0, .ref E.2.2.2.2.2.1), (1, .ref c0), (2, .ref h0)]) C.x C.b dL_law_76 hl rfl (by decide) (by decide) rfl (fun ls hl => ?_)
          refine lv_goto (tgt := 47) C.x C.b dL_law_79 (by decide) ?_
          refine lv_iload C.x C.b dL_law_47 (lv_at hl 0 rfl) ?_
          refine lv_iconst (v := nI 3) C.x C.b dL_law_49 (by decide) ?_
          refine x_icmp_ge C (by omega) (by omega) (tgt := 82) dL_law_50 (by decide) (fun c_11 => ?_) (fun c_11 => ?_)
          · exact absurd c_11 (by decide)
          · refine lv_aload_n C.x C.b dL_law_53 rfl (lv_at hl 4 rfl) ?_
            refine lv_aload_n C.x C.b dL_law_54 rfl (lv_at hl 5 rfl) ?_
            refine lv_iload C.x C.b dL_law_55 (lv_at hl 1 rfl) ?_
            refine lv_iconst (v := nI 3) C.x C.b dL_law_57 (by decide) ?_
            refine lv_iload C.x C.b dL_law_58 (lv_at hl 0 rfl) ?_
            refine lv_imul C.x C.b dL_law_60 ?_
            refine x_toi (y := nI 6) (by decide) ?_
            refine lv_ishr C.x C.b dL_law_61 ?_
            refine lv_bipush (v := nI 29) C.x C.b dL_law_62 (by decide) ?_
            refine lv_iload C.x C.b dL_law_64 (lv_at hl 0 rfl) ?_
            refine lv_imul C.x C.b dL_law_66 ?_
            refine x_toi (y := nI 58) (by decide) ?_
            refine lv_iadd C.x C.b dL_law_67 ?_
            refine x_gSG C hW (As := [.ref c0, .ref h0, .int ((v >>> ((nI 6) &&& 31)) + (nI 58))]) (rest := []) (wr := []) (met_L_act l hst E h0 k1 k2 k3 k4 sp pl tu fr nf g w aw n ra rv c0 a1 a2 a3 a4 a5 qs qa qb qc qd pt ft ti bt th ((v >>> ((nI 6) &&& 31)) + (nI 58)) (by omega) (by omega) hI) gL_law_L_act rfl 3 rfl ⟨rfl, rfl⟩ ⟨by decide +kernel, by decide +kernel, by decide +kernel⟩ ⟨Nat.le_of_ble_eq_true rfl, Nat.le_of_ble_eq_true rfl⟩ [0, 1, 2, 3, 4, 5, 6, 7, 8, 9, 10, 11, 12, 13, 14, 15, 16, 17, 18, 19, 20, 21, 22, 23, 24, 25, 26, 27, 28, 29, 30] [] rfl (by decide) rfl rfl (fun _ q => absurd q (by simp)) hl.1 rfl (Nat.le_of_ble_eq_true rfl) dL_law_68 ⟨by show _ ≤ 1145513; omega, by show _ ≤ 5664643; omega⟩ (fun r_12 w_13 H locs hp_14 hW => ?_)
            clear hI
            obtain ⟨rfl, k1, k4, pl, tu, fr, nf, g, sp, n, w, aw, ra, rv, pt, ft, ti, bt, th, hI, hn2, hs2, rfl⟩ := hp_14
            have hW : WD E _ s (([(h0, .inr (4, [.ref k1, .ref k2, .ref k3, .int (nI sp), .int (nI pl), .int (nI tu), .int (nI fr), .int (nI nf), .ref k4])), (k1, bI E 9 (mB g)), (k2, aI E 9 w), (k3, aI E 5 aw), (k4, qI E n (fun k => some (ra k)))] ++ CW E c0 a1 a2 a3 a4 a5 qs qa qb qc qd pl tu fr nf g sp w aw pt ft ti bt th) ++ plR E n ra rv) H _ := hW
            refine x_if_ne C (by omega) (tgt := 76) dL_law_71 (by decide) (fun c_15 => ?_) (fun c_15 => ?_)
            · refine lv_iinc (k := 0) (v := nI 3) (lv' := [(5, .int (nI 3)), (4, .int v), (3, .int (nI t)), (0, .ref E.2.2.2.2.2.1), (1, .ref c0), (2, .ref h0)]) C.x C.b dL_law_76 hl rfl (by decide) (by decide) rfl (fun ls hl => ?_)
              refine lv_goto (tgt := 47) C.x C.b dL_law_79 (by decide) ?_
              refine lv_iload C.x C.b dL_law_47 (lv_at hl 0 rfl) ?_
              refine lv_iconst (v := nI 3) C.x C.b dL_law_49 (by decide) ?_
              refine x_icmp_ge C (by omega) (by omega) (tgt := 82) dL_law_50 (by decide) (fun c_16 => ?_) (fun c_16 => ?_)
              · refine law_b1 (E := E) hst C hI (by omega) (by omega) (t := t) (v := v) (by omega) (by omega) hW (lv_sub (l' := [(4, .int v), (3, .int (nI t)), (0, .ref E.2.2.2.2.2.1), (1, .ref c0), (2, .ref h0)]) hl [1, 2, 3, 4, 5] rfl) ?_
                intro o1 o2 d5 H locs ls hd5 hW hl
                refine law_b2 (E := E) hst C hI (by omega) (by omega) (t := t) (v := v) hd5 (by omega) (by omega) hW hl ?_
                intro H locs ls hW hl
                refine law_b3 (E := E) hst C hI (by omega) (by omega) (t := t) (v := v) (by omega) (by omega) hW hl ?_ ?_
                · intro H locs ls hW hl
                  have hW := WD.part hW (w' := ([(h0, .inr (4, [.ref k1, .ref k2, .ref k3, .int (nI sp), .int (nI pl), .int (nI tu), .int (nI fr), .int (nI nf), .ref k4])), (k1, bI E 9 (mB g)), (k2, aI E 9 w), (k3, aI E 5 aw), (k4, qI E n (fun k => some (ra k)))] ++ CW E c0 a1 a2 a3 a4 a5 qs qa qb qc qd pl tu fr nf g sp w aw pt ft ti bt th)) [2, 3, 4, 5, 6, 7, 8, 9, 10, 11, 12, 13, 14, 15, 16, 17, 18, 19, 20, 21, 22, 23, 24, 25, 26, 27, 28, 29, 30, 31, 32] rfl (by decide)
                  refine W.widen (k := cells + 280) (n := slots + 1100) (by omega) (by omega) ?_
                  exact kk k1 k4 pl tu fr nf g sp n w aw ra rv pt ft ti bt th hI (by omega) (by omega) _ _ _ hW hl
                · intro b z hb hz k12 k42 tu2 fr2 nf2 g2 n2 w2 aw2 ra2 rv2 pt2 ft2 ti2 bt2 th2 f1 f2 f3 f4 f5 f6 f7 f8 H locs ls hW hl
                  refine law_b4 (E := E) (k1 := k1) (k4 := k4) (ra := ra) hst C hI (by omega) (by omega) (t := t) hb hz f1 f2 f3 f4 f5 f6 f7 f8 (by omega) (by omega) hW hl ?_
                  intro H locs ls hW hl
                  refine W.widen (k := cells + 280) (n := slots + 1100) (by omega) (by omega) ?_
                  exact kk k12 k42 pl tu2 fr2 nf2 g2 sp n2 w2 aw2 ra2 rv2 pt2 ft2 ti2 bt2 th2 f1 (by omega) (by omega) _ _ _ hW hl
              · exact absurd (by decide) c_16
            · exact absurd c_15 (by decide)
        · exact absurd c_10 (by decide)
    · exact absurd c_5 (by decide)

set_option maxHeartbeats 8000000 in
set_option maxRecDepth 100000 in
theorem law_exit {p : Program} {l : Launch} {e : Env} {s : State} {m : MethodId} {below : List Frame} {meth : Method} {c : Code} {E : EV} (hst : l.stackTraces = false) (C : CX p s m #[Value.ref E.2.2.2.2.2.1] meth c cL_law 28 RL wsL_law (some .boolean) E (fun q => s.heap.size ≤ q)) {h0 k2 k3 c0 a1 a2 a3 a4 a5 : Nat} {qs qa qb qc qd : Nat → Nat} {k1 k4 pl tu fr nf g sp n : Nat} {w aw ra : Nat → Nat} {rv pt ft ti bt : Nat → Nat → Nat} {th : Nat → Nat} (hI : Iv pl tu fr nf g n rv w aw pt ft ti bt th) (hn : n ≤ 120) (hs : sp ≤ 20000) {cells slots : Nat} (hcs : cells + 600 ≤ 1145513) (hsl : slots + 3000 ≤ 5664643) {H : Heap} {locs : List Loc} {ls : Array Slot} (hW : WD E (fun q => s.heap.size ≤ q) s (([(h0, .inr (4, [.ref k1, .ref k2, .ref k3, .int (nI sp), .int (nI pl), .int (nI tu), .int (nI fr), .int (nI nf), .ref k4])), (k1, bI E 9 (mB g)), (k2, aI E 9 w), (k3, aI E 5 aw), (k4, qI E n (fun k => some (ra k)))] ++ CW E c0 a1 a2 a3 a4 a5 qs qa qb qc qd pl tu fr nf g sp w aw pt ft ti bt th) ++ plR E n ra rv) H locs) (hl : lv_has ls 28 [(3, .int (nI 10)), (0, .ref E.2.2.2.2.2.1), (1, .ref c0), (2, .ref h0)]) : W p l e room_1 s m #[Value.ref E.2.2.2.2.2.1] below meth c H locs cells slots (lw_Z below #[Value.ref E.2.2.2.2.2.1] s) (F0 m 1279 ls []) := by
  refine lv_aload_n C.x C.b dL_law_1279 rfl (lv_at hl 3 rfl) ?_
  refine lv_aload_n C.x C.b dL_law_1280 rfl (lv_at hl 2 rfl) ?_
  refine x_rVIaT C hW (As := [.ref c0]) (rest := []) (Cn := RX5) (met_X5_isSame l E h0 k1 k2 k3 k4 sp pl tu fr nf g w aw n ra rv c0 a1 a2 a3 a4 a5 qs qa qb qc qd pt ft ti bt th hn hs hI) gL_law_X5_isSame rfl 1 rfl ⟨rfl, rfl⟩ ⟨rfl, by decide +kernel, by decide +kernel, by decide +kernel⟩ ⟨Nat.le_of_ble_eq_true rfl, Nat.le_of_ble_eq_true rfl⟩ [0, 1, 2, 3, 4, 5, 6, 7, 8, 9, 10, 11, 12, 13, 14, 15, 16, 17, 18, 19, 20, 21, 22, 23, 24, 25, 26, 27, 28, 29, 30] rfl (by decide) 0 4 rfl rfl hl.1 rfl (Nat.le_of_ble_eq_true rfl) dL_law_1281 ⟨by show _ ≤ 1145513; omega, by show _ ≤ 5664643; omega⟩ (fun H locs hW => ?_)
  refine W.widen (k := 1145513) (n := 5664643) (by omega) (by omega) ?_
  refine va_forget (fun q hq => hW.2.2.2.2 q hq) ?_
  have h9 := lw_ret (p := p) (l := l) (e := e) (s := s) (m := m) (below := below) (meth := meth) (c := c) (b := E.2.2.2.2.2.1) (d0 := s.drawn) (Drawn.sameBut.refl s.drawn lw_cs) C.x C.b C.r C.lk (H := H) (ls := ls) dL_law_1284
  exact h9

set_option maxHeartbeats 8000000 in
set_option maxRecDepth 100000 in
theorem law_loop {p : Program} {l : Launch} {e : Env} {s : State} {m : MethodId} {below : List Frame} {meth : Method} {c : Code} {E : EV} (hst : l.stackTraces = false) (C : CX p s m #[Value.ref E.2.2.2.2.2.1] meth c cL_law 28 RL wsL_law (some .boolean) E (fun q => s.heap.size ≤ q)) {h0 k2 k3 c0 a1 a2 a3 a4 a5 : Nat} {qs qa qb qc qd : Nat → Nat} : ∀ (m9 t : Nat), t ≤ 10 → 11 ≤ t + m9 → ∀ (k1 k4 pl tu fr nf g sp n : Nat) (w aw ra : Nat → Nat) (rv pt ft ti bt : Nat → Nat → Nat) (th : Nat → Nat), Iv pl tu fr nf g n rv w aw pt ft ti bt th → n ≤ 60 + 4 * t → sp ≤ 3 + 60 * t → ∀ (H : Heap) (locs : List Loc) (ls : Array Slot), WD E (fun q => s.heap.size ≤ q) s (([(h0, .inr (4, [.ref k1, .ref k2, .ref k3, .int (nI sp), .int (nI pl), .int (nI tu), .int (nI fr), .int (nI nf), .ref k4])), (k1, bI E 9 (mB g)), (k2, aI E 9 w), (k3, aI E 5 aw), (k4, qI E n (fun k => some (ra k)))] ++ CW E c0 a1 a2 a3 a4 a5 qs qa qb qc qd pl tu fr nf g sp w aw pt ft ti bt th) ++ plR E n ra rv) H locs → lv_has ls 28 [(3, .int (nI t)), (0, .ref E.2.2.2.2.2.1), (1, .ref c0), (2, .ref h0)] → W p l e room_1 s m #[Value.ref E.2.2.2.2.2.1] below meth c H locs (300 + 280 * t) (9000 + 1100 * t) (lw_Z below #[Value.ref E.2.2.2.2.2.1] s) (F0 m 22 ls []) := by
  intro m9
  induction m9 with
  | zero => intro t h1 h2; exact absurd h2 (by omega)
  | succ m9 ih =>
    intro t h1 h2 k1 k4 pl tu fr nf g sp n w aw ra rv pt ft ti bt th hI hn hs H locs ls hW hl
    refine lv_iload_n C.x C.b dL_law_22 rfl (lv_at hl 0 rfl) ?_
    refine lv_bipush (v := nI 10) C.x C.b dL_law_23 (by decide) ?_
    refine x_icmp_ge C (by omega) (by omega) (tgt := 1279) dL_law_25 (by decide) (fun c9 => ?_) (fun c9 => ?_)
    · obtain rfl : t = 10 := by omega
      exact law_exit hst C hI (by omega) (by omega) (by omega) (by omega) hW hl
    refine law_t (E := E) hst C hI (t := t) (by omega) hn hs (by omega) (by omega) hW hl ?_
    intro k1 k4 pl tu fr nf g sp n w aw ra rv pt ft ti bt th hI hn hs H locs ls hW hl
    refine lv_iinc (k := 0) (v := nI (t + 1)) (lv' := [(3, .int (nI (t + 1))), (0, .ref E.2.2.2.2.2.1), (1, .ref c0), (2, .ref h0)]) C.x C.b dL_law_1273 hl rfl (z_inc t 1) (by decide) rfl (fun ls hl => ?_)
    refine lv_goto (tgt := 22) C.x C.b dL_law_1276 (by decide) ?_
    refine W.widen (k := 300 + 280 * (t + 1)) (n := 9000 + 1100 * (t + 1)) (by omega) (by omega) ?_
    exact ih (t + 1) (by omega) (by omega) k1 k4 pl tu fr nf g sp n w aw ra rv pt ft ti bt th hI hn hs H locs ls hW hl
