/-! BAD CALLS, 1 -/
set_option maxHeartbeats 4000000 in
set_option maxRecDepth 100000 in
theorem bad_X4_checkIndex (l : Launch) (hst : l.stackTraces = false) (E : EV) (q : Int32) (k : Nat) (hb : q < 0 ∨ nI k ≤ q) : MXv l yX4_checkIndex wsX4_checkIndex { frames := 8, cells := 1, slots := 6, locals := 200 } E [.int q, .int (nI k)] [] "java/lang/IndexOutOfBoundsException" := by
  refine x_startX (Pq := fun sz => va_Qv (fun (_ : Unit) => False) (fun _ _ => True) (va_A [] sz)) (own := RX4) (cc := cX4_checkIndex) (maxL := 2) (ret := none) rfl (by decide) rfl (Nat.le_of_ble_eq_true rfl) ?_
  intro p e s m below meth c C hgc htab ls hl hW
  have hl : lv_has ls 2 [(0, .int q), (1, .int (nI k))] := hl
  have thr : ∀ ls : Array Slot, lv_has ls 2 [(0, .int q), (1, .int (nI k))] → W p l e ({ frames := 8, cells := 1, slots := 6, locals := 200 } : Room) s m ([.int q, .int (nI k)] : List Value).toArray below meth c s.heap [] 0 0 (vx_MQ below (va_Qv (fun (_ : Unit) => False) (fun _ _ => True) (va_A [] s.heap.size)) (vx_X (fun (_ : Unit) => True) (fun Ex _ t => Ex = "java/lang/IndexOutOfBoundsException" ∧ XQ E [] s.heap.size [] t) (va_A [] s.heap.size)) ([.int q, .int (nI k)] : List Value).toArray s 1 6 (va_A [] s.heap.size)) (F0 m 9 ls []) := by
    intro ls hl
    obtain ⟨sa, hsa⟩ := C.G.2.2.2.2.2.2.2.2.2.2.2
    refine vx_throwS C.x C.b hst (own := RX4) (cls := "java/lang/IndexOutOfBoundsException") (names := xNames) (A := va_A [] s.heap.size) C.ow (by decide +kernel) (by decide +kernel) (C.ts _ (by decide +kernel)) (C.ts _ (by decide +kernel)) hsa (vx_hat (B := [.castable xIO xIO, .declares (Bundle.initS "java/lang/RuntimeException"), .declares (Bundle.initS "java/lang/Exception"), .declares (Bundle.initS Bundle.tN)]) (fun w h => C.ts w (List.mem_cons_of_mem _ (List.mem_append_right _ h))) (by decide +kernel) (vx_c (va_Nw.use rfl hgc.io) (vx_c (va_Nw.use rfl hgc.dr) (vx_c (va_Nw.use rfl hgc.de) (vx_c (va_Nw.use rfl hgc.dt) vx_n))))) (by decide +kernel) C.G.2.2.2.2.1 C.G.2.2.2.2.2.1 hW.2.2 (hl.1.trans C.2.2.1.symm) dX4_checkIndex_9 dX4_checkIndex_12 dX4_checkIndex_13 dX4_checkIndex_15 dX4_checkIndex_18 (fun x hx => (htab x hx).elim) (Nat.le_of_ble_eq_true rfl) (Nat.le_of_ble_eq_true rfl) (Nat.le_of_ble_eq_true rfl) (Nat.le_of_ble_eq_true rfl) C.lk (fun t hal hsz hq => ⟨(), trivial, ⟨rfl, fun k x h => by simp at h, va_K.moved hal C.K, ⟨fun i j p q h => by simp at h, fun k q h => by simp at h⟩⟩, hsz, fun q h1 h2 => hq q h1⟩) (fun z hz => absurd hz List.not_mem_nil) (Nat.le_of_ble_eq_true rfl) (Nat.le_of_ble_eq_true rfl)
  refine lv_iload_n C.x C.b dX4_checkIndex_0 rfl (lv_at hl 0 rfl) ?_
  refine lv_if_lt C.x C.b (tgt := 9) dX4_checkIndex_1 (by decide) (fun c_1 => ?_) (fun c_1 => ?_)
  · exact thr ls hl
  · refine lv_iload_n C.x C.b dX4_checkIndex_4 rfl (lv_at hl 0 rfl) ?_
    refine lv_iload_n C.x C.b dX4_checkIndex_5 rfl (lv_at hl 1 rfl) ?_
    refine lv_icmp_lt C.x C.b (tgt := 19) dX4_checkIndex_6 (by decide) (fun c_2 => ?_) (fun c_2 => ?_)
    · exact absurd (hb.resolve_left c_1) (Int32.not_le.mpr c_2)
    · exact thr ls hl
set_option maxHeartbeats 4000000 in
set_option maxRecDepth 100000 in
theorem bad_X4_checkPin (l : Launch) (hst : l.stackTraces = false) (E : EV) (q : Int32) (hb : q < 0 ∨ nI 9 ≤ q) : MXv l yX4_checkPin wsX4_checkPin { frames := 9, cells := 1, slots := 6, locals := 230 } E [.int q] [] "java/lang/IndexOutOfBoundsException" := by
  refine x_startX (Pq := fun sz => va_Qv (fun (_ : Unit) => False) (fun _ _ => True) (va_A [] sz)) (own := RX4) (cc := cX4_checkPin) (maxL := 1) (ret := none) rfl (by decide) rfl (Nat.le_of_ble_eq_true rfl) ?_
  intro p e s m below meth c C hgc htab ls hl hW
  have hl : lv_has ls 1 [(0, .int q)] := hl
  refine lv_iload_n C.x C.b dX4_checkPin_0 rfl (lv_at hl 0 rfl) ?_
  refine lv_bipush (v := nI 9) C.x C.b dX4_checkPin_1 (by decide) ?_
  exact x_xSV C hgc htab hW (As := [.int q, .int (nI 9)]) (rest := []) (wr := []) (bad_X4_checkIndex l hst E q 9 hb) gX4_checkPin_X4_checkIndex rfl 2 rfl ⟨rfl, rfl⟩ ⟨by decide +kernel, by decide +kernel, by decide +kernel⟩ ⟨Nat.le_of_ble_eq_true rfl, Nat.le_of_ble_eq_true rfl⟩ [] [] [] rfl (by decide) rfl (by decide) (by decide) rfl (by decide) hl.1 rfl (Nat.le_of_ble_eq_true rfl) dX4_checkPin_3 ⟨Nat.le_of_ble_eq_true rfl, Nat.le_of_ble_eq_true rfl⟩
set_option maxHeartbeats 4000000 in
set_option maxRecDepth 100000 in
theorem bad_X4_checkBall (l : Launch) (hst : l.stackTraces = false) (E : EV) (q : Int32) (hb : q < 0 ∨ nI 5 ≤ q) : MXv l yX4_checkBall wsX4_checkBall { frames := 9, cells := 1, slots := 6, locals := 230 } E [.int q] [] "java/lang/IndexOutOfBoundsException" := by
  refine x_startX (Pq := fun sz => va_Qv (fun (_ : Unit) => False) (fun _ _ => True) (va_A [] sz)) (own := RX4) (cc := cX4_checkBall) (maxL := 1) (ret := none) rfl (by decide) rfl (Nat.le_of_ble_eq_true rfl) ?_
  intro p e s m below meth c C hgc htab ls hl hW
  have hl : lv_has ls 1 [(0, .int q)] := hl
  refine lv_iload_n C.x C.b dX4_checkBall_0 rfl (lv_at hl 0 rfl) ?_
  refine lv_iconst (v := nI 5) C.x C.b dX4_checkBall_1 (by decide) ?_
  exact x_xSV C hgc htab hW (As := [.int q, .int (nI 5)]) (rest := []) (wr := []) (bad_X4_checkIndex l hst E q 5 hb) gX4_checkBall_X4_checkIndex rfl 2 rfl ⟨rfl, rfl⟩ ⟨by decide +kernel, by decide +kernel, by decide +kernel⟩ ⟨Nat.le_of_ble_eq_true rfl, Nat.le_of_ble_eq_true rfl⟩ [] [] [] rfl (by decide) rfl (by decide) (by decide) rfl (by decide) hl.1 rfl (Nat.le_of_ble_eq_true rfl) dX4_checkBall_2 ⟨Nat.le_of_ble_eq_true rfl, Nat.le_of_ble_eq_true rfl⟩
set_option maxHeartbeats 4000000 in
set_option maxRecDepth 100000 in
theorem bad_X4_checkThrow_b (l : Launch) (hst : l.stackTraces = false) (E : EV) (b z : Int32) (hb : b < 0 ∨ nI 5 ≤ b) : MXv l yX4_checkThrow wsX4_checkThrow { frames := 10, cells := 1, slots := 6, locals := 260 } E [.int b, .int z] [] "java/lang/IndexOutOfBoundsException" := by
  refine x_startX (Pq := fun sz => va_Qv (fun (_ : Unit) => False) (fun _ _ => True) (va_A [] sz)) (own := RX4) (cc := cX4_checkThrow) (maxL := 2) (ret := none) rfl (by decide) rfl (Nat.le_of_ble_eq_true rfl) ?_
  intro p e s m below meth c C hgc htab ls hl hW
  have hl : lv_has ls 2 [(0, .int b), (1, .int z)] := hl
  refine lv_iload_n C.x C.b dX4_checkThrow_0 rfl (lv_at hl 0 rfl) ?_
  exact x_xSV C hgc htab hW (As := [.int b]) (rest := []) (wr := []) (bad_X4_checkBall l hst E b hb) gX4_checkThrow_X4_checkBall rfl 1 rfl ⟨rfl, rfl⟩ ⟨by decide +kernel, by decide +kernel, by decide +kernel⟩ ⟨Nat.le_of_ble_eq_true rfl, Nat.le_of_ble_eq_true rfl⟩ [] [] [] rfl (by decide) rfl (by decide) (by decide) rfl (by decide) hl.1 rfl (Nat.le_of_ble_eq_true rfl) dX4_checkThrow_1 ⟨Nat.le_of_ble_eq_true rfl, Nat.le_of_ble_eq_true rfl⟩
set_option maxHeartbeats 4000000 in
set_option maxRecDepth 100000 in
theorem bad_X4_checkThrow_z (l : Launch) (hst : l.stackTraces = false) (E : EV) (b : Nat) (z : Int32) (hb : b < 5) (hz : z < 0 ∨ nI 5 ≤ z) : MXv l yX4_checkThrow wsX4_checkThrow { frames := 10, cells := 1, slots := 6, locals := 260 } E [.int (nI b), .int z] [] "java/lang/IndexOutOfBoundsException" := by
  refine x_startX (Pq := fun sz => va_Qv (fun (_ : Unit) => False) (fun _ _ => True) (va_A [] sz)) (own := RX4) (cc := cX4_checkThrow) (maxL := 2) (ret := none) rfl (by decide) rfl (Nat.le_of_ble_eq_true rfl) ?_
  intro p e s m below meth c C hgc htab ls hl hW
  have hl : lv_has ls 2 [(0, .int (nI b)), (1, .int z)] := hl
  have hW : WD E _ s [] s.heap [] := hW
  refine lv_iload_n C.x C.b dX4_checkThrow_0 rfl (lv_at hl 0 rfl) ?_
  refine x_cSV C hW (As := [.int (nI b)]) (rest := []) (wr := []) (wn := []) (met_X4_checkBall l E b (by omega)) gX4_checkThrow_X4_checkBall rfl 1 rfl ⟨rfl, rfl⟩ ⟨by decide +kernel, by decide +kernel, by decide +kernel⟩ ⟨Nat.le_of_ble_eq_true rfl, Nat.le_of_ble_eq_true rfl⟩ [] [] [] rfl (by decide) rfl (by decide) (by decide) rfl (by decide) hl.1 rfl (Nat.le_of_ble_eq_true rfl) dX4_checkThrow_1 ⟨Nat.zero_le _, Nat.zero_le _⟩ (fun H locs hW => ?_)
  refine lv_iload_n C.x C.b dX4_checkThrow_4 rfl (lv_at hl 1 rfl) ?_
  refine lv_iconst (v := nI 5) C.x C.b dX4_checkThrow_5 (by decide) ?_
  exact x_xSV C hgc htab hW (As := [.int z, .int (nI 5)]) (rest := []) (wr := []) (bad_X4_checkIndex l hst E z 5 hz) gX4_checkThrow_X4_checkIndex rfl 2 rfl ⟨rfl, rfl⟩ ⟨by decide +kernel, by decide +kernel, by decide +kernel⟩ ⟨Nat.le_of_ble_eq_true rfl, Nat.le_of_ble_eq_true rfl⟩ [] [] [] rfl (by decide) rfl (by decide) (by decide) rfl (by decide) hl.1 rfl (Nat.le_of_ble_eq_true rfl) dX4_checkThrow_6 ⟨Nat.le_of_ble_eq_true rfl, Nat.le_of_ble_eq_true rfl⟩
set_option maxHeartbeats 4000000 in
set_option maxRecDepth 100000 in
theorem bad_X4_checkPlayer (l : Launch) (hst : l.stackTraces = false) (E : EV) (h0 a1 a3 a5 : Nat) (pl tu fr nf : Nat) (q : Int32) (hq : q < 0 ∨ nI pl ≤ q) : MXv l yX4_checkPlayer wsX4_checkPlayer { frames := 9, cells := 1, slots := 6, locals := 230 } E [.ref h0, .int q] [(h0, .inr (3, [.ref a1, .ref a3, .ref a5, .int (nI pl), .int (nI tu), .int (nI fr), .int (nI nf)]))] "java/lang/IndexOutOfBoundsException" := by
  refine x_startX (Pq := fun sz => va_Qv (fun (_ : Unit) => False) (fun _ _ => True) (va_A [(h0, .inr (3, [.ref a1, .ref a3, .ref a5, .int (nI pl), .int (nI tu), .int (nI fr), .int (nI nf)]))] sz)) (own := RX4) (cc := cX4_checkPlayer) (maxL := 2) (ret := none) rfl (by decide) rfl (Nat.le_of_ble_eq_true rfl) ?_
  intro p e s m below meth c C hgc htab ls hl hW
  have hl : lv_has ls 2 [(0, .ref h0), (1, .int q)] := hl
  have hW : WD E _ s [(h0, .inr (3, [.ref a1, .ref a3, .ref a5, .int (nI pl), .int (nI tu), .int (nI fr), .int (nI nf)]))] s.heap [] := hW
  have hinX4 : ∀ w ∈ u_ws RX4 TX4 7, w ∈ wsX4_checkPlayer := by decide +kernel
  have hf30 : Cond.fieldLink RX4 30 (TX4 3).1 (TX4 3).2.1 (TX4 3).2.2.1 ∈ wsX4_checkPlayer := by decide +kernel
  refine lv_iload_n C.x C.b dX4_checkPlayer_0 rfl (lv_at hl 1 rfl) ?_
  refine lv_aload_n C.x C.b dX4_checkPlayer_1 rfl (lv_at hl 0 rfl) ?_
  refine x_get C hW 0 3 3 (Cn := RX4) (T := TX4) (N := 7) rfl rfl (by decide) hinX4 hf30 rfl dX4_checkPlayer_2 ?_
  exact x_xSV C hgc htab hW (As := [.int q, .int (nI pl)]) (rest := []) (wr := [(h0, .inr (3, [.ref a1, .ref a3, .ref a5, .int (nI pl), .int (nI tu), .int (nI fr), .int (nI nf)]))]) (bad_X4_checkIndex l hst E q pl hq) gX4_checkPlayer_X4_checkIndex rfl 2 rfl ⟨rfl, rfl⟩ ⟨by decide +kernel, by decide +kernel, by decide +kernel⟩ ⟨Nat.le_of_ble_eq_true rfl, Nat.le_of_ble_eq_true rfl⟩ [] [0] [0] rfl (by decide) rfl (by decide) (by decide) rfl (by decide) hl.1 rfl (Nat.le_of_ble_eq_true rfl) dX4_checkPlayer_5 ⟨Nat.le_of_ble_eq_true rfl, Nat.le_of_ble_eq_true rfl⟩
set_option maxHeartbeats 4000000 in
set_option maxRecDepth 100000 in
theorem bad_X4_isBroken (l : Launch) (hst : l.stackTraces = false) (E : EV) (h0 : Nat) (q : Int32) (hb : q < 0 ∨ nI 9 ≤ q) : MXi l yX4_isBroken wsX4_isBroken { frames := 10, cells := 1, slots := 6, locals := 260 } E [.ref h0, .int q] [] "java/lang/IndexOutOfBoundsException" := by
  refine x_startX (Pq := fun sz => va_Qi (fun (_ : Int32) (_ : Unit) => False) (fun _ _ => True) (va_A [] sz)) (own := RX4) (cc := cX4_isBroken) (maxL := 2) (ret := (some .boolean)) rfl (by decide) rfl (Nat.le_of_ble_eq_true rfl) ?_
  intro p e s m below meth c C hgc htab ls hl hW
  have hl : lv_has ls 2 [(0, .ref h0), (1, .int q)] := hl
  refine lv_iload_n C.x C.b dX4_isBroken_0 rfl (lv_at hl 1 rfl) ?_
  exact x_xSV C hgc htab hW (As := [.int q]) (rest := []) (wr := []) (bad_X4_checkPin l hst E q hb) gX4_isBroken_X4_checkPin rfl 1 rfl ⟨rfl, rfl⟩ ⟨by decide +kernel, by decide +kernel, by decide +kernel⟩ ⟨Nat.le_of_ble_eq_true rfl, Nat.le_of_ble_eq_true rfl⟩ [] [] [] rfl (by decide) rfl (by decide) (by decide) rfl (by decide) hl.1 rfl (Nat.le_of_ble_eq_true rfl) dX4_isBroken_1 ⟨Nat.le_of_ble_eq_true rfl, Nat.le_of_ble_eq_true rfl⟩
set_option maxHeartbeats 4000000 in
set_option maxRecDepth 100000 in
theorem bad_X4_isStanding (l : Launch) (hst : l.stackTraces = false) (E : EV) (h0 : Nat) (q : Int32) (hb : q < 0 ∨ nI 9 ≤ q) : MXi l yX4_isStanding wsX4_isStanding { frames := 10, cells := 1, slots := 6, locals := 260 } E [.ref h0, .int q] [] "java/lang/IndexOutOfBoundsException" := by
  refine x_startX (Pq := fun sz => va_Qi (fun (_ : Int32) (_ : Unit) => False) (fun _ _ => True) (va_A [] sz)) (own := RX4) (cc := cX4_isStanding) (maxL := 2) (ret := (some .boolean)) rfl (by decide) rfl (Nat.le_of_ble_eq_true rfl) ?_
  intro p e s m below meth c C hgc htab ls hl hW
  have hl : lv_has ls 2 [(0, .ref h0), (1, .int q)] := hl
  refine lv_iload_n C.x C.b dX4_isStanding_0 rfl (lv_at hl 1 rfl) ?_
  exact x_xSV C hgc htab hW (As := [.int q]) (rest := []) (wr := []) (bad_X4_checkPin l hst E q hb) gX4_isStanding_X4_checkPin rfl 1 rfl ⟨rfl, rfl⟩ ⟨by decide +kernel, by decide +kernel, by decide +kernel⟩ ⟨Nat.le_of_ble_eq_true rfl, Nat.le_of_ble_eq_true rfl⟩ [] [] [] rfl (by decide) rfl (by decide) (by decide) rfl (by decide) hl.1 rfl (Nat.le_of_ble_eq_true rfl) dX4_isStanding_1 ⟨Nat.le_of_ble_eq_true rfl, Nat.le_of_ble_eq_true rfl⟩
set_option maxHeartbeats 4000000 in
set_option maxRecDepth 100000 in
theorem bad_X4_wearOf (l : Launch) (hst : l.stackTraces = false) (E : EV) (h0 : Nat) (q : Int32) (hb : q < 0 ∨ nI 9 ≤ q) : MXi l yX4_wearOf wsX4_wearOf { frames := 10, cells := 1, slots := 6, locals := 260 } E [.ref h0, .int q] [] "java/lang/IndexOutOfBoundsException" := by
  refine x_startX (Pq := fun sz => va_Qi (fun (_ : Int32) (_ : Unit) => False) (fun _ _ => True) (va_A [] sz)) (own := RX4) (cc := cX4_wearOf) (maxL := 2) (ret := (some .int)) rfl (by decide) rfl (Nat.le_of_ble_eq_true rfl) ?_
  intro p e s m below meth c C hgc htab ls hl hW
  have hl : lv_has ls 2 [(0, .ref h0), (1, .int q)] := hl
  refine lv_iload_n C.x C.b dX4_wearOf_0 rfl (lv_at hl 1 rfl) ?_
  exact x_xSV C hgc htab hW (As := [.int q]) (rest := []) (wr := []) (bad_X4_checkPin l hst E q hb) gX4_wearOf_X4_checkPin rfl 1 rfl ⟨rfl, rfl⟩ ⟨by decide +kernel, by decide +kernel, by decide +kernel⟩ ⟨Nat.le_of_ble_eq_true rfl, Nat.le_of_ble_eq_true rfl⟩ [] [] [] rfl (by decide) rfl (by decide) (by decide) rfl (by decide) hl.1 rfl (Nat.le_of_ble_eq_true rfl) dX4_wearOf_1 ⟨Nat.le_of_ble_eq_true rfl, Nat.le_of_ble_eq_true rfl⟩
set_option maxHeartbeats 4000000 in
set_option maxRecDepth 100000 in
theorem bad_X4_replaceString (l : Launch) (hst : l.stackTraces = false) (E : EV) (h0 : Nat) (q : Int32) (hb : q < 0 ∨ nI 9 ≤ q) : MXi l yX4_replaceString wsX4_replaceString { frames := 10, cells := 1, slots := 6, locals := 260 } E [.ref h0, .int q] [] "java/lang/IndexOutOfBoundsException" := by
  refine x_startX (Pq := fun sz => va_Qi (fun (_ : Int32) (_ : Unit) => False) (fun _ _ => True) (va_A [] sz)) (own := RX4) (cc := cX4_replaceString) (maxL := 2) (ret := (some .int)) rfl (by decide) rfl (Nat.le_of_ble_eq_true rfl) ?_
  intro p e s m below meth c C hgc htab ls hl hW
  have hl : lv_has ls 2 [(0, .ref h0), (1, .int q)] := hl
  refine lv_iload_n C.x C.b dX4_replaceString_0 rfl (lv_at hl 1 rfl) ?_
  exact x_xSV C hgc htab hW (As := [.int q]) (rest := []) (wr := []) (bad_X4_checkPin l hst E q hb) gX4_replaceString_X4_checkPin rfl 1 rfl ⟨rfl, rfl⟩ ⟨by decide +kernel, by decide +kernel, by decide +kernel⟩ ⟨Nat.le_of_ble_eq_true rfl, Nat.le_of_ble_eq_true rfl⟩ [] [] [] rfl (by decide) rfl (by decide) (by decide) rfl (by decide) hl.1 rfl (Nat.le_of_ble_eq_true rfl) dX4_replaceString_1 ⟨Nat.le_of_ble_eq_true rfl, Nat.le_of_ble_eq_true rfl⟩
set_option maxHeartbeats 4000000 in
set_option maxRecDepth 100000 in
theorem bad_X4_awayFor (l : Launch) (hst : l.stackTraces = false) (E : EV) (h0 : Nat) (q : Int32) (hb : q < 0 ∨ nI 5 ≤ q) : MXi l yX4_awayFor wsX4_awayFor { frames := 10, cells := 1, slots := 6, locals := 260 } E [.ref h0, .int q] [] "java/lang/IndexOutOfBoundsException" := by
  refine x_startX (Pq := fun sz => va_Qi (fun (_ : Int32) (_ : Unit) => False) (fun _ _ => True) (va_A [] sz)) (own := RX4) (cc := cX4_awayFor) (maxL := 2) (ret := (some .int)) rfl (by decide) rfl (Nat.le_of_ble_eq_true rfl) ?_
  intro p e s m below meth c C hgc htab ls hl hW
  have hl : lv_has ls 2 [(0, .ref h0), (1, .int q)] := hl
  refine lv_iload_n C.x C.b dX4_awayFor_0 rfl (lv_at hl 1 rfl) ?_
  exact x_xSV C hgc htab hW (As := [.int q]) (rest := []) (wr := []) (bad_X4_checkBall l hst E q hb) gX4_awayFor_X4_checkBall rfl 1 rfl ⟨rfl, rfl⟩ ⟨by decide +kernel, by decide +kernel, by decide +kernel⟩ ⟨Nat.le_of_ble_eq_true rfl, Nat.le_of_ble_eq_true rfl⟩ [] [] [] rfl (by decide) rfl (by decide) (by decide) rfl (by decide) hl.1 rfl (Nat.le_of_ble_eq_true rfl) dX4_awayFor_1 ⟨Nat.le_of_ble_eq_true rfl, Nat.le_of_ble_eq_true rfl⟩
set_option maxHeartbeats 4000000 in
set_option maxRecDepth 100000 in
theorem bad_X4_wouldFall_b (l : Launch) (hst : l.stackTraces = false) (E : EV) (h0 : Nat) (b z : Int32) (hb : b < 0 ∨ nI 5 ≤ b) : MXi l yX4_wouldFall wsX4_wouldFall { frames := 11, cells := 1, slots := 6, locals := 290 } E [.ref h0, .int b, .int z] [] "java/lang/IndexOutOfBoundsException" := by
  refine x_startX (Pq := fun sz => va_Qi (fun (_ : Int32) (_ : Unit) => False) (fun _ _ => True) (va_A [] sz)) (own := RX4) (cc := cX4_wouldFall) (maxL := 3) (ret := (some .int)) rfl (by decide) rfl (Nat.le_of_ble_eq_true rfl) ?_
  intro p e s m below meth c C hgc htab ls hl hW
  have hl : lv_has ls 3 [(0, .ref h0), (1, .int b), (2, .int z)] := hl
  refine lv_iload_n C.x C.b dX4_wouldFall_0 rfl (lv_at hl 1 rfl) ?_
  refine lv_iload_n C.x C.b dX4_wouldFall_1 rfl (lv_at hl 2 rfl) ?_
  exact x_xSV C hgc htab hW (As := [.int b, .int z]) (rest := []) (wr := []) (bad_X4_checkThrow_b l hst E b z hb) gX4_wouldFall_X4_checkThrow rfl 2 rfl ⟨rfl, rfl⟩ ⟨by decide +kernel, by decide +kernel, by decide +kernel⟩ ⟨Nat.le_of_ble_eq_true rfl, Nat.le_of_ble_eq_true rfl⟩ [] [] [] rfl (by decide) rfl (by decide) (by decide) rfl (by decide) hl.1 rfl (Nat.le_of_ble_eq_true rfl) dX4_wouldFall_2 ⟨Nat.le_of_ble_eq_true rfl, Nat.le_of_ble_eq_true rfl⟩
set_option maxHeartbeats 4000000 in
set_option maxRecDepth 100000 in
theorem bad_X4_wouldFall_z (l : Launch) (hst : l.stackTraces = false) (E : EV) (h0 : Nat) (b : Nat) (z : Int32) (hb : b < 5) (hz : z < 0 ∨ nI 5 ≤ z) : MXi l yX4_wouldFall wsX4_wouldFall { frames := 11, cells := 1, slots := 6, locals := 290 } E [.ref h0, .int (nI b), .int z] [] "java/lang/IndexOutOfBoundsException" := by
  refine x_startX (Pq := fun sz => va_Qi (fun (_ : Int32) (_ : Unit) => False) (fun _ _ => True) (va_A [] sz)) (own := RX4) (cc := cX4_wouldFall) (maxL := 3) (ret := (some .int)) rfl (by decide) rfl (Nat.le_of_ble_eq_true rfl) ?_
  intro p e s m below meth c C hgc htab ls hl hW
  have hl : lv_has ls 3 [(0, .ref h0), (1, .int (nI b)), (2, .int z)] := hl
  refine lv_iload_n C.x C.b dX4_wouldFall_0 rfl (lv_at hl 1 rfl) ?_
  refine lv_iload_n C.x C.b dX4_wouldFall_1 rfl (lv_at hl 2 rfl) ?_
  exact x_xSV C hgc htab hW (As := [.int (nI b), .int z]) (rest := []) (wr := []) (bad_X4_checkThrow_z l hst E b z hb hz) gX4_wouldFall_X4_checkThrow rfl 2 rfl ⟨rfl, rfl⟩ ⟨by decide +kernel, by decide +kernel, by decide +kernel⟩ ⟨Nat.le_of_ble_eq_true rfl, Nat.le_of_ble_eq_true rfl⟩ [] [] [] rfl (by decide) rfl (by decide) (by decide) rfl (by decide) hl.1 rfl (Nat.le_of_ble_eq_true rfl) dX4_wouldFall_2 ⟨Nat.le_of_ble_eq_true rfl, Nat.le_of_ble_eq_true rfl⟩
set_option maxHeartbeats 4000000 in
set_option maxRecDepth 100000 in
theorem bad_X4_lastToFall_b (l : Launch) (hst : l.stackTraces = false) (E : EV) (h0 : Nat) (b z : Int32) (hb : b < 0 ∨ nI 5 ≤ b) : MXi l yX4_lastToFall wsX4_lastToFall { frames := 11, cells := 1, slots := 6, locals := 290 } E [.ref h0, .int b, .int z] [] "java/lang/IndexOutOfBoundsException" := by
  refine x_startX (Pq := fun sz => va_Qi (fun (_ : Int32) (_ : Unit) => False) (fun _ _ => True) (va_A [] sz)) (own := RX4) (cc := cX4_lastToFall) (maxL := 3) (ret := (some .int)) rfl (by decide) rfl (Nat.le_of_ble_eq_true rfl) ?_
  intro p e s m below meth c C hgc htab ls hl hW
  have hl : lv_has ls 3 [(0, .ref h0), (1, .int b), (2, .int z)] := hl
  refine lv_iload_n C.x C.b dX4_lastToFall_0 rfl (lv_at hl 1 rfl) ?_
  refine lv_iload_n C.x C.b dX4_lastToFall_1 rfl (lv_at hl 2 rfl) ?_
  exact x_xSV C hgc htab hW (As := [.int b, .int z]) (rest := []) (wr := []) (bad_X4_checkThrow_b l hst E b z hb) gX4_lastToFall_X4_checkThrow rfl 2 rfl ⟨rfl, rfl⟩ ⟨by decide +kernel, by decide +kernel, by decide +kernel⟩ ⟨Nat.le_of_ble_eq_true rfl, Nat.le_of_ble_eq_true rfl⟩ [] [] [] rfl (by decide) rfl (by decide) (by decide) rfl (by decide) hl.1 rfl (Nat.le_of_ble_eq_true rfl) dX4_lastToFall_2 ⟨Nat.le_of_ble_eq_true rfl, Nat.le_of_ble_eq_true rfl⟩
set_option maxHeartbeats 4000000 in
set_option maxRecDepth 100000 in
theorem bad_X4_lastToFall_z (l : Launch) (hst : l.stackTraces = false) (E : EV) (h0 : Nat) (b : Nat) (z : Int32) (hb : b < 5) (hz : z < 0 ∨ nI 5 ≤ z) : MXi l yX4_lastToFall wsX4_lastToFall { frames := 11, cells := 1, slots := 6, locals := 290 } E [.ref h0, .int (nI b), .int z] [] "java/lang/IndexOutOfBoundsException" := by
  refine x_startX (Pq := fun sz => va_Qi (fun (_ : Int32) (_ : Unit) => False) (fun _ _ => True) (va_A [] sz)) (own := RX4) (cc := cX4_lastToFall) (maxL := 3) (ret := (some .int)) rfl (by decide) rfl (Nat.le_of_ble_eq_true rfl) ?_
  intro p e s m below meth c C hgc htab ls hl hW
  have hl : lv_has ls 3 [(0, .ref h0), (1, .int (nI b)), (2, .int z)] := hl
  refine lv_iload_n C.x C.b dX4_lastToFall_0 rfl (lv_at hl 1 rfl) ?_
  refine lv_iload_n C.x C.b dX4_lastToFall_1 rfl (lv_at hl 2 rfl) ?_
  exact x_xSV C hgc htab hW (As := [.int (nI b), .int z]) (rest := []) (wr := []) (bad_X4_checkThrow_z l hst E b z hb hz) gX4_lastToFall_X4_checkThrow rfl 2 rfl ⟨rfl, rfl⟩ ⟨by decide +kernel, by decide +kernel, by decide +kernel⟩ ⟨Nat.le_of_ble_eq_true rfl, Nat.le_of_ble_eq_true rfl⟩ [] [] [] rfl (by decide) rfl (by decide) (by decide) rfl (by decide) hl.1 rfl (Nat.le_of_ble_eq_true rfl) dX4_lastToFall_2 ⟨Nat.le_of_ble_eq_true rfl, Nat.le_of_ble_eq_true rfl⟩
set_option maxHeartbeats 4000000 in
set_option maxRecDepth 100000 in
theorem bad_X4_scoreOf (l : Launch) (hst : l.stackTraces = false) (E : EV) (h0 a1 a3 a5 : Nat) (pl tu fr nf : Nat) (q : Int32) (hq : q < 0 ∨ nI pl ≤ q) : MXi l yX4_scoreOf wsX4_scoreOf { frames := 10, cells := 1, slots := 6, locals := 260 } E [.ref h0, .int q] [(h0, .inr (3, [.ref a1, .ref a3, .ref a5, .int (nI pl), .int (nI tu), .int (nI fr), .int (nI nf)]))] "java/lang/IndexOutOfBoundsException" := by
  refine x_startX (Pq := fun sz => va_Qi (fun (_ : Int32) (_ : Unit) => False) (fun _ _ => True) (va_A [(h0, .inr (3, [.ref a1, .ref a3, .ref a5, .int (nI pl), .int (nI tu), .int (nI fr), .int (nI nf)]))] sz)) (own := RX4) (cc := cX4_scoreOf) (maxL := 2) (ret := (some .int)) rfl (by decide) rfl (Nat.le_of_ble_eq_true rfl) ?_
  intro p e s m below meth c C hgc htab ls hl hW
  have hl : lv_has ls 2 [(0, .ref h0), (1, .int q)] := hl
  refine lv_aload_n C.x C.b dX4_scoreOf_0 rfl (lv_at hl 0 rfl) ?_
  refine lv_iload_n C.x C.b dX4_scoreOf_1 rfl (lv_at hl 1 rfl) ?_
  exact x_xVV C hgc htab hW (As := [.int q]) (rest := []) (wr := []) (bad_X4_checkPlayer l hst E h0 a1 a3 a5 pl tu fr nf q hq) gX4_scoreOf_X4_checkPlayer rfl 1 rfl ⟨rfl, rfl⟩ ⟨rfl, by decide +kernel, by decide +kernel, by decide +kernel⟩ ⟨Nat.le_of_ble_eq_true rfl, Nat.le_of_ble_eq_true rfl⟩ [0] [] [0] rfl (by decide) rfl (by decide) (by decide) rfl (by decide) 0 3 rfl rfl hl.1 rfl (Nat.le_of_ble_eq_true rfl) dX4_scoreOf_2 ⟨Nat.le_of_ble_eq_true rfl, Nat.le_of_ble_eq_true rfl⟩
set_option maxHeartbeats 4000000 in
set_option maxRecDepth 100000 in
theorem bad_X4_throwsOf (l : Launch) (hst : l.stackTraces = false) (E : EV) (h0 a1 a3 a5 : Nat) (pl tu fr nf : Nat) (q : Int32) (hq : q < 0 ∨ nI pl ≤ q) : MXi l yX4_throwsOf wsX4_throwsOf { frames := 10, cells := 1, slots := 6, locals := 260 } E [.ref h0, .int q] [(h0, .inr (3, [.ref a1, .ref a3, .ref a5, .int (nI pl), .int (nI tu), .int (nI fr), .int (nI nf)]))] "java/lang/IndexOutOfBoundsException" := by
  refine x_startX (Pq := fun sz => va_Qi (fun (_ : Int32) (_ : Unit) => False) (fun _ _ => True) (va_A [(h0, .inr (3, [.ref a1, .ref a3, .ref a5, .int (nI pl), .int (nI tu), .int (nI fr), .int (nI nf)]))] sz)) (own := RX4) (cc := cX4_throwsOf) (maxL := 2) (ret := (some .int)) rfl (by decide) rfl (Nat.le_of_ble_eq_true rfl) ?_
  intro p e s m below meth c C hgc htab ls hl hW
  have hl : lv_has ls 2 [(0, .ref h0), (1, .int q)] := hl
  refine lv_aload_n C.x C.b dX4_throwsOf_0 rfl (lv_at hl 0 rfl) ?_
  refine lv_iload_n C.x C.b dX4_throwsOf_1 rfl (lv_at hl 1 rfl) ?_
  exact x_xVV C hgc htab hW (As := [.int q]) (rest := []) (wr := []) (bad_X4_checkPlayer l hst E h0 a1 a3 a5 pl tu fr nf q hq) gX4_throwsOf_X4_checkPlayer rfl 1 rfl ⟨rfl, rfl⟩ ⟨rfl, by decide +kernel, by decide +kernel, by decide +kernel⟩ ⟨Nat.le_of_ble_eq_true rfl, Nat.le_of_ble_eq_true rfl⟩ [0] [] [0] rfl (by decide) rfl (by decide) (by decide) rfl (by decide) 0 3 rfl rfl hl.1 rfl (Nat.le_of_ble_eq_true rfl) dX4_throwsOf_2 ⟨Nat.le_of_ble_eq_true rfl, Nat.le_of_ble_eq_true rfl⟩
set_option maxHeartbeats 4000000 in
set_option maxRecDepth 100000 in
theorem bad_X4_strikesOf (l : Launch) (hst : l.stackTraces = false) (E : EV) (h0 a1 a3 a5 : Nat) (pl tu fr nf : Nat) (q : Int32) (hq : q < 0 ∨ nI pl ≤ q) : MXi l yX4_strikesOf wsX4_strikesOf { frames := 10, cells := 1, slots := 6, locals := 260 } E [.ref h0, .int q] [(h0, .inr (3, [.ref a1, .ref a3, .ref a5, .int (nI pl), .int (nI tu), .int (nI fr), .int (nI nf)]))] "java/lang/IndexOutOfBoundsException" := by
  refine x_startX (Pq := fun sz => va_Qi (fun (_ : Int32) (_ : Unit) => False) (fun _ _ => True) (va_A [(h0, .inr (3, [.ref a1, .ref a3, .ref a5, .int (nI pl), .int (nI tu), .int (nI fr), .int (nI nf)]))] sz)) (own := RX4) (cc := cX4_strikesOf) (maxL := 2) (ret := (some .int)) rfl (by decide) rfl (Nat.le_of_ble_eq_true rfl) ?_
  intro p e s m below meth c C hgc htab ls hl hW
  have hl : lv_has ls 2 [(0, .ref h0), (1, .int q)] := hl
  refine lv_aload_n C.x C.b dX4_strikesOf_0 rfl (lv_at hl 0 rfl) ?_
  refine lv_iload_n C.x C.b dX4_strikesOf_1 rfl (lv_at hl 1 rfl) ?_
  exact x_xVV C hgc htab hW (As := [.int q]) (rest := []) (wr := []) (bad_X4_checkPlayer l hst E h0 a1 a3 a5 pl tu fr nf q hq) gX4_strikesOf_X4_checkPlayer rfl 1 rfl ⟨rfl, rfl⟩ ⟨rfl, by decide +kernel, by decide +kernel, by decide +kernel⟩ ⟨Nat.le_of_ble_eq_true rfl, Nat.le_of_ble_eq_true rfl⟩ [0] [] [0] rfl (by decide) rfl (by decide) (by decide) rfl (by decide) 0 3 rfl rfl hl.1 rfl (Nat.le_of_ble_eq_true rfl) dX4_strikesOf_2 ⟨Nat.le_of_ble_eq_true rfl, Nat.le_of_ble_eq_true rfl⟩
set_option maxHeartbeats 4000000 in
set_option maxRecDepth 100000 in
theorem bad_X4_sparesOf (l : Launch) (hst : l.stackTraces = false) (E : EV) (h0 a1 a3 a5 : Nat) (pl tu fr nf : Nat) (q : Int32) (hq : q < 0 ∨ nI pl ≤ q) : MXi l yX4_sparesOf wsX4_sparesOf { frames := 10, cells := 1, slots := 6, locals := 260 } E [.ref h0, .int q] [(h0, .inr (3, [.ref a1, .ref a3, .ref a5, .int (nI pl), .int (nI tu), .int (nI fr), .int (nI nf)]))] "java/lang/IndexOutOfBoundsException" := by
  refine x_startX (Pq := fun sz => va_Qi (fun (_ : Int32) (_ : Unit) => False) (fun _ _ => True) (va_A [(h0, .inr (3, [.ref a1, .ref a3, .ref a5, .int (nI pl), .int (nI tu), .int (nI fr), .int (nI nf)]))] sz)) (own := RX4) (cc := cX4_sparesOf) (maxL := 2) (ret := (some .int)) rfl (by decide) rfl (Nat.le_of_ble_eq_true rfl) ?_
  intro p e s m below meth c C hgc htab ls hl hW
  have hl : lv_has ls 2 [(0, .ref h0), (1, .int q)] := hl
  refine lv_aload_n C.x C.b dX4_sparesOf_0 rfl (lv_at hl 0 rfl) ?_
  refine lv_iload_n C.x C.b dX4_sparesOf_1 rfl (lv_at hl 1 rfl) ?_
  exact x_xVV C hgc htab hW (As := [.int q]) (rest := []) (wr := []) (bad_X4_checkPlayer l hst E h0 a1 a3 a5 pl tu fr nf q hq) gX4_sparesOf_X4_checkPlayer rfl 1 rfl ⟨rfl, rfl⟩ ⟨rfl, by decide +kernel, by decide +kernel, by decide +kernel⟩ ⟨Nat.le_of_ble_eq_true rfl, Nat.le_of_ble_eq_true rfl⟩ [0] [] [0] rfl (by decide) rfl (by decide) (by decide) rfl (by decide) 0 3 rfl rfl hl.1 rfl (Nat.le_of_ble_eq_true rfl) dX4_sparesOf_2 ⟨Nat.le_of_ble_eq_true rfl, Nat.le_of_ble_eq_true rfl⟩
set_option maxHeartbeats 4000000 in
set_option maxRecDepth 100000 in
theorem bad_X4_throwBall_b (l : Launch) (hst : l.stackTraces = false) (E : EV) (h0 : Nat) (b z : Int32) (hb : b < 0 ∨ nI 5 ≤ b) : MXi l yX4_throwBall wsX4_throwBall { frames := 11, cells := 1, slots := 6, locals := 290 } E [.ref h0, .int b, .int z] [] "java/lang/IndexOutOfBoundsException" := by
  refine x_startX (Pq := fun sz => va_Qi (fun (_ : Int32) (_ : Unit) => False) (fun _ _ => True) (va_A [] sz)) (own := RX4) (cc := cX4_throwBall) (maxL := 6) (ret := (some .int)) rfl (by decide) rfl (Nat.le_of_ble_eq_true rfl) ?_
  intro p e s m below meth c C hgc htab ls hl hW
  have hl : lv_has ls 6 [(0, .ref h0), (1, .int b), (2, .int z)] := hl
  refine lv_iload_n C.x C.b dX4_throwBall_0 rfl (lv_at hl 1 rfl) ?_
  refine lv_iload_n C.x C.b dX4_throwBall_1 rfl (lv_at hl 2 rfl) ?_
  exact x_xSV C hgc htab hW (As := [.int b, .int z]) (rest := []) (wr := []) (bad_X4_checkThrow_b l hst E b z hb) gX4_throwBall_X4_checkThrow rfl 2 rfl ⟨rfl, rfl⟩ ⟨by decide +kernel, by decide +kernel, by decide +kernel⟩ ⟨Nat.le_of_ble_eq_true rfl, Nat.le_of_ble_eq_true rfl⟩ [] [] [] rfl (by decide) rfl (by decide) (by decide) rfl (by decide) hl.1 rfl (Nat.le_of_ble_eq_true rfl) dX4_throwBall_2 ⟨Nat.le_of_ble_eq_true rfl, Nat.le_of_ble_eq_true rfl⟩
set_option maxHeartbeats 4000000 in
set_option maxRecDepth 100000 in
theorem bad_X4_throwBall_z (l : Launch) (hst : l.stackTraces = false) (E : EV) (h0 : Nat) (b : Nat) (z : Int32) (hb : b < 5) (hz : z < 0 ∨ nI 5 ≤ z) : MXi l yX4_throwBall wsX4_throwBall { frames := 11, cells := 1, slots := 6, locals := 290 } E [.ref h0, .int (nI b), .int z] [] "java/lang/IndexOutOfBoundsException" := by
  refine x_startX (Pq := fun sz => va_Qi (fun (_ : Int32) (_ : Unit) => False) (fun _ _ => True) (va_A [] sz)) (own := RX4) (cc := cX4_throwBall) (maxL := 6) (ret := (some .int)) rfl (by decide) rfl (Nat.le_of_ble_eq_true rfl) ?_
  intro p e s m below meth c C hgc htab ls hl hW
  have hl : lv_has ls 6 [(0, .ref h0), (1, .int (nI b)), (2, .int z)] := hl
  refine lv_iload_n C.x C.b dX4_throwBall_0 rfl (lv_at hl 1 rfl) ?_
  refine lv_iload_n C.x C.b dX4_throwBall_1 rfl (lv_at hl 2 rfl) ?_
  exact x_xSV C hgc htab hW (As := [.int (nI b), .int z]) (rest := []) (wr := []) (bad_X4_checkThrow_z l hst E b z hb hz) gX4_throwBall_X4_checkThrow rfl 2 rfl ⟨rfl, rfl⟩ ⟨by decide +kernel, by decide +kernel, by decide +kernel⟩ ⟨Nat.le_of_ble_eq_true rfl, Nat.le_of_ble_eq_true rfl⟩ [] [] [] rfl (by decide) rfl (by decide) (by decide) rfl (by decide) hl.1 rfl (Nat.le_of_ble_eq_true rfl) dX4_throwBall_2 ⟨Nat.le_of_ble_eq_true rfl, Nat.le_of_ble_eq_true rfl⟩
set_option maxHeartbeats 4000000 in
set_option maxRecDepth 100000 in
theorem bad_X4_pointsOf_p (l : Launch) (hst : l.stackTraces = false) (E : EV) (h0 a1 a3 a5 : Nat) (pl tu fr nf : Nat) (q f : Int32) (hq : q < 0 ∨ nI pl ≤ q) : MXi l yX4_pointsOf wsX4_pointsOf { frames := 10, cells := 1, slots := 6, locals := 260 } E [.ref h0, .int q, .int f] [(h0, .inr (3, [.ref a1, .ref a3, .ref a5, .int (nI pl), .int (nI tu), .int (nI fr), .int (nI nf)]))] "java/lang/IndexOutOfBoundsException" := by
  refine x_startX (Pq := fun sz => va_Qi (fun (_ : Int32) (_ : Unit) => False) (fun _ _ => True) (va_A [(h0, .inr (3, [.ref a1, .ref a3, .ref a5, .int (nI pl), .int (nI tu), .int (nI fr), .int (nI nf)]))] sz)) (own := RX4) (cc := cX4_pointsOf) (maxL := 3) (ret := (some .int)) rfl (by decide) rfl (Nat.le_of_ble_eq_true rfl) ?_
  intro p e s m below meth c C hgc htab ls hl hW
  have hl : lv_has ls 3 [(0, .ref h0), (1, .int q), (2, .int f)] := hl
  refine lv_aload_n C.x C.b dX4_pointsOf_0 rfl (lv_at hl 0 rfl) ?_
  refine lv_iload_n C.x C.b dX4_pointsOf_1 rfl (lv_at hl 1 rfl) ?_
  exact x_xVV C hgc htab hW (As := [.int q]) (rest := []) (wr := []) (bad_X4_checkPlayer l hst E h0 a1 a3 a5 pl tu fr nf q hq) gX4_pointsOf_X4_checkPlayer rfl 1 rfl ⟨rfl, rfl⟩ ⟨rfl, by decide +kernel, by decide +kernel, by decide +kernel⟩ ⟨Nat.le_of_ble_eq_true rfl, Nat.le_of_ble_eq_true rfl⟩ [0] [] [0] rfl (by decide) rfl (by decide) (by decide) rfl (by decide) 0 3 rfl rfl hl.1 rfl (Nat.le_of_ble_eq_true rfl) dX4_pointsOf_2 ⟨Nat.le_of_ble_eq_true rfl, Nat.le_of_ble_eq_true rfl⟩
set_option maxHeartbeats 4000000 in
set_option maxRecDepth 100000 in
theorem bad_X4_pointsOf_f (l : Launch) (hst : l.stackTraces = false) (E : EV) (h0 a1 a3 a5 : Nat) (pl tu fr nf : Nat) (q : Nat) (f : Int32) (hq : q < pl) (hpl : pl ≤ 4) (hf : f < 0 ∨ nI 10 ≤ f) : MXi l yX4_pointsOf wsX4_pointsOf { frames := 10, cells := 1, slots := 6, locals := 260 } E [.ref h0, .int (nI q), .int f] [(h0, .inr (3, [.ref a1, .ref a3, .ref a5, .int (nI pl), .int (nI tu), .int (nI fr), .int (nI nf)]))] "java/lang/IndexOutOfBoundsException" := by
  refine x_startX (Pq := fun sz => va_Qi (fun (_ : Int32) (_ : Unit) => False) (fun _ _ => True) (va_A [(h0, .inr (3, [.ref a1, .ref a3, .ref a5, .int (nI pl), .int (nI tu), .int (nI fr), .int (nI nf)]))] sz)) (own := RX4) (cc := cX4_pointsOf) (maxL := 3) (ret := (some .int)) rfl (by decide) rfl (Nat.le_of_ble_eq_true rfl) ?_
  intro p e s m below meth c C hgc htab ls hl hW
  have hl : lv_has ls 3 [(0, .ref h0), (1, .int (nI q)), (2, .int f)] := hl
  have hW : WD E _ s [(h0, .inr (3, [.ref a1, .ref a3, .ref a5, .int (nI pl), .int (nI tu), .int (nI fr), .int (nI nf)]))] s.heap [] := hW
  refine lv_aload_n C.x C.b dX4_pointsOf_0 rfl (lv_at hl 0 rfl) ?_
  refine lv_iload_n C.x C.b dX4_pointsOf_1 rfl (lv_at hl 1 rfl) ?_
  refine x_cVV C hW (As := [.int (nI q)]) (rest := []) (wr := []) (wn := [(h0, .inr (3, [.ref a1, .ref a3, .ref a5, .int (nI pl), .int (nI tu), .int (nI fr), .int (nI nf)]))]) (Cn := RX4) (met_X4_checkPlayer l E h0 a1 a3 a5 pl tu fr nf q (by omega) (by omega)) gX4_pointsOf_X4_checkPlayer rfl 1 rfl ⟨rfl, rfl⟩ ⟨rfl, by decide +kernel, by decide +kernel, by decide +kernel⟩ ⟨Nat.le_of_ble_eq_true rfl, Nat.le_of_ble_eq_true rfl⟩ [0] [] [0] rfl (by decide) rfl (by decide) (by decide) rfl (by decide) 0 3 rfl rfl hl.1 rfl (Nat.le_of_ble_eq_true rfl) dX4_pointsOf_2 ⟨Nat.zero_le _, Nat.zero_le _⟩ (fun H locs hW => ?_)
  refine lv_iload_n C.x C.b dX4_pointsOf_5 rfl (lv_at hl 2 rfl) ?_
  refine lv_bipush (v := nI 10) C.x C.b dX4_pointsOf_6 (by decide) ?_
  exact x_xSV C hgc htab hW (As := [.int f, .int (nI 10)]) (rest := []) (wr := [(h0, .inr (3, [.ref a1, .ref a3, .ref a5, .int (nI pl), .int (nI tu), .int (nI fr), .int (nI nf)]))]) (bad_X4_checkIndex l hst E f 10 hf) gX4_pointsOf_X4_checkIndex rfl 2 rfl ⟨rfl, rfl⟩ ⟨by decide +kernel, by decide +kernel, by decide +kernel⟩ ⟨Nat.le_of_ble_eq_true rfl, Nat.le_of_ble_eq_true rfl⟩ [] [0] [0] rfl (by decide) rfl (by decide) (by decide) rfl (by decide) hl.1 rfl (Nat.le_of_ble_eq_true rfl) dX4_pointsOf_8 ⟨Nat.le_of_ble_eq_true rfl, Nat.le_of_ble_eq_true rfl⟩
