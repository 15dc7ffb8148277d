/-! THE LAW'S OWN ALLEY: small ones, hits -/
set_option maxHeartbeats 4000000 in
set_option maxRecDepth 100000 in
theorem met_L_below (l : Launch) (E : EV) (v : Int32) (k : Nat) (hk0 : 0 < k) (hk : k < 1000) : MI l yL_below wsL_below { frames := 0, cells := 0, slots := 0, locals := 0 } E [.int v, .int (nI k)] [] (nI (bwN v k)) [] := by
  refine sI (own := RL) (cc := cL_below) (maxL := 2) (ret := (some .int)) rfl (by decide) rfl (Nat.le_of_ble_eq_true rfl) ?_
  intro p e s m below meth c C hnm ls hl hW
  have hl : lv_has ls 2 [(0, .int v), (1, .int (nI k))] := hl
  have hW : WD E _ s [] s.heap [] := hW
  refine lv_iload_n C.x C.b dL_below_0 rfl (lv_at hl 0 rfl) ?_
  refine lv_ldc (v := nI 2147483647) C.x C.b C.ow (C.ts (.constant RL 7 (2147483647)) (by decide +kernel)) dL_below_1 ?_
  refine lv_iand C.x C.b dL_below_3 ?_
  refine x_toi (y := nI (v.toBitVec.toNat % 2 ^ 31)) (pk_and v 31 (by decide +kernel)) ?_
  refine lv_iload_n C.x C.b dL_below_4 rfl (lv_at hl 1 rfl) ?_
  refine x_irem C (by omega) (by omega) (by omega) dL_below_5 ?_
  exact x_iret C hW rfl rfl rfl dL_below_6

set_option maxHeartbeats 4000000 in
set_option maxRecDepth 100000 in
theorem met_L_cell (l : Launch) (E : EV) (k : Nat) (hk : k < 1000) : MI l yL_cell wsL_cell { frames := 0, cells := 0, slots := 0, locals := 0 } E [.ref E.2.2.2.2.2.1, .int (nI k)] [] (clF E k) [] := by
  refine sI (own := RL) (cc := cL_cell) (maxL := 2) (ret := (some .int)) rfl (by decide) rfl (Nat.le_of_ble_eq_true rfl) ?_
  intro p e s m below meth c C hnm ls hl hW
  have hl : lv_has ls 2 [(0, .ref E.2.2.2.2.2.1), (1, .int (nI k))] := hl
  have hW : WD E _ s [] s.heap [] := hW
  refine lv_iload_n C.x C.b dL_cell_0 rfl (lv_at hl 1 rfl) ?_
  refine lv_aload_n C.x C.b dL_cell_1 rfl (lv_at hl 0 rfl) ?_
  refine x_slT C hW dL_cell_2 ?_
  refine x_icmp_ge C (by omega) (by have := C.G.2.1.2; omega) (tgt := 12) dL_cell_3 (by decide) (fun c_1 => ?_) (fun c_1 => ?_)
  · refine lv_ldc (v := nI 790386105) C.x C.b C.ow (C.ts (.constant RL 8 (790386105)) (by decide +kernel)) dL_cell_12 ?_
    refine lv_iload_n C.x C.b dL_cell_14 rfl (lv_at hl 1 rfl) ?_
    refine lv_iconst (v := nI 3) C.x C.b dL_cell_15 (by decide) ?_
    refine x_iadd C dL_cell_16 ?_
    refine x_imul C dL_cell_17 ?_
    exact x_iret C hW rfl (by first | (rw [clF, if_pos (by omega)]; done) | (rw [clF, if_neg (by omega)]; done)) rfl dL_cell_18
  · refine lv_aload_n C.x C.b dL_cell_6 rfl (lv_at hl 0 rfl) ?_
    refine lv_iload_n C.x C.b dL_cell_7 rfl (lv_at hl 1 rfl) ?_
    refine x_sldT C hW k rfl (by omega) dL_cell_8 ?_
    refine lv_goto (tgt := 18) C.x C.b dL_cell_9 (by decide) ?_
    exact x_iret C hW rfl (by first | (rw [clF, if_pos (by omega)]; done) | (rw [clF, if_neg (by omega)]; done)) rfl dL_cell_18

set_option maxHeartbeats 4000000 in
set_option maxRecDepth 100000 in
theorem met_X5_find (l : Launch) (E : EV) (r z : Int32)  : MI l yX5_find wsX5_find { frames := 0, cells := 0, slots := 0, locals := 0 } E [.int r, .int z] [] (pinV (pinQ r z)) [] := by
  refine sI (own := RX5) (cc := cX5_find) (maxL := 3) (ret := (some .int)) rfl (by decide) rfl (Nat.le_of_ble_eq_true rfl) ?_
  intro p e s m below meth c C hnm ls hl hW
  have hl : lv_has ls 3 [(0, .int r), (1, .int z)] := hl
  have hW : WD E _ s [] s.heap [] := hW
  refine lv_iconst (v := nI 0) C.x C.b dX5_find_0 (by decide) ?_
  refine lv_istore_n (lv' := [(2, .int (nI 0)), (0, .int r), (1, .int z)]) C.x C.b dX5_find_1 rfl hl (by decide) rfl (fun ls hl => ?_)
  have lp_1 : ∀ (n1 i : Nat), i ≤ 9 → 9 + 1 ≤ i + n1 → (∀ j, j < i → ¬ (tRO j = r ∧ tLA j = z)) → ∀ (H : Heap) (locs : List Loc) (ls : Array Slot), WD E (va_A [] s.heap.size) s [] H locs → lv_has ls 3 [(2, .int (nI i)), (0, .int r), (1, .int z)] → W p l e ({ frames := 0, cells := 0, slots := 0, locals := 0 } : Room) s m ([.int r, .int z] : List Value).toArray below meth c H locs 0 0 (QI E [] (pinV (pinQ r z)) [] below ([.int r, .int z] : List Value).toArray s) (F0 m 2 ls []) := by
    intro n1
    induction n1 with
    | zero => intro i hi hn; exact absurd hn (by omega)
    | succ n1 ih1 =>
      intro i hi hn hno H locs ls hW hl
      refine lv_iload_n C.x C.b dX5_find_2 rfl (lv_at hl 0 rfl) ?_
      refine lv_bipush (v := nI 9) C.x C.b dX5_find_3 (by decide) ?_
      refine x_icmp_ge C (by omega) (by omega) (tgt := 34) dX5_find_5 (by decide) (fun c_2 => ?_) (fun c_2 => ?_)
      · refine lv_iconst (v := (-1)) C.x C.b dX5_find_34 (by decide) ?_
        exact x_iret C hW rfl (find_no (fun j hj => hno j (by omega))).symm rfl dX5_find_35
      · refine x_getsN C hW C.G.2.2.1 C.M.1.2.1 dX5_find_8 (fun t_4 hT_3 => ?_)
        refine lv_iload_n C.x C.b dX5_find_11 rfl (lv_at hl 0 rfl) ?_
        refine x_tab C hW hT_3 i rfl (by omega) (by decide) dX5_find_12 ?_
        refine lv_iload_n C.x C.b dX5_find_13 rfl (lv_at hl 1 rfl) ?_
        refine lv_icmp_ne C.x C.b (tgt := 28) dX5_find_14 (by decide) (fun c_5 => ?_) (fun c_5 => ?_)
        · have c_5 : ¬ tRO i = r := c_5
          refine lv_iinc (k := 0) (v := nI (i + 1)) (lv' := [(2, .int (nI (i + 1))), (0, .int r), (1, .int z)]) C.x C.b dX5_find_28 hl rfl (z_inc i 1) (by decide) rfl (fun ls hl => ?_)
          refine lv_goto (tgt := 2) C.x C.b dX5_find_31 (by decide) ?_
          exact ih1 (i + 1) (by omega) (by omega) (lt_s1 hno (fun q => by first | exact absurd q.1 (by assumption) | exact absurd q.2 (by assumption))) _ _ _ (hW.to rfl) (lv_to (lv_sub (l' := [(2, .int (nI (i + 1))), (0, .int r), (1, .int z)]) hl [0, 1, 2] rfl) (by first | rfl | (simp [c_2, c_5]; done) | (rw [if_pos (by omega)]; done) | (rw [if_neg (by omega)]; done) | (exfalso; omega) | ((repeat' split) <;> first | rfl | contradiction | (exfalso; omega))))
        · have c_5 : tRO i = r := c_5
          refine x_getsN C hW C.G.2.2.2.1 C.M.1.2.2.1 dX5_find_17 (fun t_7 hT_6 => ?_)
          refine lv_iload_n C.x C.b dX5_find_20 rfl (lv_at hl 0 rfl) ?_
          refine x_tab C hW hT_6 i rfl (by omega) (by decide) dX5_find_21 ?_
          refine lv_iload_n C.x C.b dX5_find_22 rfl (lv_at hl 2 rfl) ?_
          refine lv_icmp_ne C.x C.b (tgt := 28) dX5_find_23 (by decide) (fun c_8 => ?_) (fun c_8 => ?_)
          · have c_8 : ¬ tLA i = z := c_8
            refine lv_iinc (k := 0) (v := nI (i + 1)) (lv' := [(2, .int (nI (i + 1))), (0, .int r), (1, .int z)]) C.x C.b dX5_find_28 hl rfl (z_inc i 1) (by decide) rfl (fun ls hl => ?_)
            refine lv_goto (tgt := 2) C.x C.b dX5_find_31 (by decide) ?_
            exact ih1 (i + 1) (by omega) (by omega) (lt_s1 hno (fun q => by first | exact absurd q.1 (by assumption) | exact absurd q.2 (by assumption))) _ _ _ (hW.to rfl) (lv_to (lv_sub (l' := [(2, .int (nI (i + 1))), (0, .int r), (1, .int z)]) hl [0, 1, 2] rfl) (by first | rfl | (simp [c_2, c_5, c_8]; done) | (rw [if_pos (by omega)]; done) | (rw [if_neg (by omega)]; done) | (exfalso; omega) | ((repeat' split) <;> first | rfl | contradiction | (exfalso; omega))))
          · have c_8 : tLA i = z := c_8
            refine lv_iload_n C.x C.b dX5_find_26 rfl (lv_at hl 0 rfl) ?_
            exact x_iret C hW rfl (by have h1 : tRO i = r := (by assumption); have h2 : tLA i = z := (by assumption); rw [← h1, ← h2]; exact (find_yes i (by omega)).symm) rfl dX5_find_27
  exact lp_1 (9 + 1) 0 (by omega) (by omega) (fun _ h => absurd h (Nat.not_lt_zero _)) _ _ _ (hW.to rfl) (lv_to (lv_sub (l' := [(2, .int (nI 0)), (0, .int r), (1, .int z)]) hl [0, 1, 2] rfl) rfl)

set_option maxHeartbeats 4000000 in
set_option maxRecDepth 100000 in
theorem met_X5_many (l : Launch) (E : EV) (h0 g : Nat)  : MI l yX5_many wsX5_many { frames := 0, cells := 0, slots := 0, locals := 0 } E [.ref h0] [(h0, bI E 9 (mB g))] (nI (pcN g)) [(h0, bI E 9 (mB g))] := by
  refine sI (own := RX5) (cc := cX5_many) (maxL := 6) (ret := (some .int)) rfl (by decide) rfl (Nat.le_of_ble_eq_true rfl) ?_
  intro p e s m below meth c C hnm ls hl hW
  have hl : lv_has ls 6 [(0, .ref h0)] := hl
  have hW : WD E _ s [(h0, bI E 9 (mB g))] s.heap [] := hW
  refine lv_iconst (v := nI 0) C.x C.b dX5_many_0 (by decide) ?_
  refine lv_istore_n (lv' := [(1, .int (nI 0)), (0, .ref h0)]) C.x C.b dX5_many_1 rfl hl (by decide) rfl (fun ls hl => ?_)
  refine lv_aload_n C.x C.b dX5_many_2 rfl (lv_at hl 1 rfl) ?_
  refine lv_astore_n (lv' := [(2, .ref h0), (1, .int (nI 0)), (0, .ref h0)]) C.x C.b dX5_many_3 rfl hl (by decide) rfl (fun ls hl => ?_)
  refine lv_aload_n C.x C.b dX5_many_4 rfl (lv_at hl 0 rfl) ?_
  refine x_alen C hW 0 1 rfl rfl dX5_many_5 ?_
  refine x_toi (y := nI 9) rfl ?_
  refine lv_istore_n (lv' := [(3, .int (nI 9)), (2, .ref h0), (1, .int (nI 0)), (0, .ref h0)]) C.x C.b dX5_many_6 rfl hl (by decide) rfl (fun ls hl => ?_)
  refine lv_iconst (v := nI 0) C.x C.b dX5_many_7 (by decide) ?_
  refine lv_istore (lv' := [(4, .int (nI 0)), (3, .int (nI 9)), (2, .ref h0), (1, .int (nI 0)), (0, .ref h0)]) C.x C.b dX5_many_8 hl (by decide) rfl (fun ls hl => ?_)
  have lp_1 : ∀ (n1 i : Nat), i ≤ 9 → 9 + 1 ≤ i + n1 → ∀ (H : Heap) (locs : List Loc) (ls : Array Slot), WD E (va_A [(h0, bI E 9 (mB g))] s.heap.size) s [(h0, bI E 9 (mB g))] H locs → lv_has ls 6 [(4, .int (nI i)), (3, .int (nI 9)), (2, .ref h0), (1, .int (nI (pcS g i))), (0, .ref h0)] → W p l e ({ frames := 0, cells := 0, slots := 0, locals := 0 } : Room) s m ([.ref h0] : List Value).toArray below meth c H locs 0 0 (QI E [(h0, bI E 9 (mB g))] (nI (pcN g)) [(h0, bI E 9 (mB g))] below ([.ref h0] : List Value).toArray s) (F0 m 10 ls []) := by
    intro n1
    induction n1 with
    | zero => intro i hi hn; exact absurd hn (by omega)
    | succ n1 ih1 =>
      intro i hi hn  H locs ls hW hl
      refine lv_iload C.x C.b dX5_many_10 (lv_at hl 0 rfl) ?_
      refine lv_iload_n C.x C.b dX5_many_12 rfl (lv_at hl 1 rfl) ?_
      refine x_icmp_ge C (by omega) (by omega) (tgt := 41) dX5_many_13 (by decide) (fun c_2 => ?_) (fun c_2 => ?_)
      · refine lv_iload_n C.x C.b dX5_many_41 rfl (lv_at hl 3 rfl) ?_
        exact x_iret C hW rfl (by rw [show i = 9 by omega, pcS_9]) rfl dX5_many_42
      · refine lv_aload_n C.x C.b dX5_many_16 rfl (lv_at hl 2 rfl) ?_
        refine lv_iload C.x C.b dX5_many_17 (lv_at hl 0 rfl) ?_
        refine x_zld C hW 0 i rfl rfl (by omega) (by decide) dX5_many_19 ?_
        refine lv_istore (lv' := [(5, .int (nI ((mB g) i))), (4, .int (nI i)), (3, .int (nI 9)), (2, .ref h0), (1, .int (nI (pcS g i))), (0, .ref h0)]) C.x C.b dX5_many_20 hl (by decide) rfl (fun ls hl => ?_)
        refine lv_iload_n C.x C.b dX5_many_22 rfl (lv_at hl 4 rfl) ?_
        refine lv_iload C.x C.b dX5_many_23 (lv_at hl 0 rfl) ?_
        refine x_if_eq C (by have := mB_lt g i; omega) (tgt := 32) dX5_many_25 (by decide) (fun c_3 => ?_) (fun c_3 => ?_)
        · refine lv_iconst (v := nI 0) C.x C.b dX5_many_32 (by decide) ?_
          refine x_iadd C dX5_many_33 ?_
          refine lv_istore_n (lv' := [(1, .int (nI ((pcS g i) + 0))), (5, .int (nI ((mB g) i))), (4, .int (nI i)), (3, .int (nI 9)), (2, .ref h0), (0, .ref h0)]) C.x C.b dX5_many_34 rfl hl (by decide) rfl (fun ls hl => ?_)
          refine lv_iinc (k := 2) (v := nI (i + 1)) (lv' := [(4, .int (nI (i + 1))), (1, .int (nI ((pcS g i) + 0))), (5, .int (nI ((mB g) i))), (3, .int (nI 9)), (2, .ref h0), (0, .ref h0)]) C.x C.b dX5_many_35 hl rfl (z_inc i 1) (by decide) rfl (fun ls hl => ?_)
          refine lv_goto (tgt := 10) C.x C.b dX5_many_38 (by decide) ?_
          exact ih1 (i + 1) (by omega) (by omega)  _ _ _ (hW.to rfl) (lv_to (lv_sub (l' := [(4, .int (nI (i + 1))), (3, .int (nI 9)), (2, .ref h0), (1, .int (nI ((pcS g i) + 0))), (0, .ref h0)]) hl [0, 3, 4, 1, 5] rfl) (by first | (rw [show pcS g (i + 1) = pcS g i + 1 from by have := mB_01 g i; simp only [pcS]; omega]; done) | (rw [show pcS g (i + 1) = pcS g i + 0 from by have := mB_01 g i; simp only [pcS]; omega]; done)))
        · refine lv_iconst (v := nI 1) C.x C.b dX5_many_28 (by decide) ?_
          refine lv_goto (tgt := 33) C.x C.b dX5_many_29 (by decide) ?_
          refine x_iadd C dX5_many_33 ?_
          refine lv_istore_n (lv' := [(1, .int (nI ((pcS g i) + 1))), (5, .int (nI ((mB g) i))), (4, .int (nI i)), (3, .int (nI 9)), (2, .ref h0), (0, .ref h0)]) C.x C.b dX5_many_34 rfl hl (by decide) rfl (fun ls hl => ?_)
          refine lv_iinc (k := 2) (v := nI (i + 1)) (lv' := [(4, .int (nI (i + 1))), (1, .int (nI ((pcS g i) + 1))), (5, .int (nI ((mB g) i))), (3, .int (nI 9)), (2, .ref h0), (0, .ref h0)]) C.x C.b dX5_many_35 hl rfl (z_inc i 1) (by decide) rfl (fun ls hl => ?_)
          refine lv_goto (tgt := 10) C.x C.b dX5_many_38 (by decide) ?_
          exact ih1 (i + 1) (by omega) (by omega)  _ _ _ (hW.to rfl) (lv_to (lv_sub (l' := [(4, .int (nI (i + 1))), (3, .int (nI 9)), (2, .ref h0), (1, .int (nI ((pcS g i) + 1))), (0, .ref h0)]) hl [0, 3, 4, 1, 5] rfl) (by first | (rw [show pcS g (i + 1) = pcS g i + 1 from by have := mB_01 g i; simp only [pcS]; omega]; done) | (rw [show pcS g (i + 1) = pcS g i + 0 from by have := mB_01 g i; simp only [pcS]; omega]; done)))
  exact lp_1 (9 + 1) 0 (by omega) (by omega)  _ _ _ (hW.to rfl) (lv_to (lv_sub (l' := [(4, .int (nI 0)), (3, .int (nI 9)), (2, .ref h0), (1, .int (nI 0)), (0, .ref h0)]) hl [0, 1, 2, 3, 4] rfl) rfl)

set_option maxHeartbeats 4000000 in
set_option maxRecDepth 100000 in
theorem met_X5_hit_0 (l : Launch) (E : EV) (h0 g k : Nat) (f : Int32) (hk : k ≤ 9) (hs : g < 512) (hf : f.toInt ≤ 0) : MV l yX5_hit wsX5_hit { frames := 0, cells := 0, slots := 0, locals := 0 } E [.ref h0, .int (pinV k), .int f] [(h0, bI E 9 (mB g))] [(h0, bI E 9 (mB (hiF 0 g k f)))] := by
  refine sV (own := RX5) (cc := cX5_hit) (maxL := 4) rfl (by decide) rfl (Nat.le_of_ble_eq_true rfl) ?_
  intro p e s m below meth c C hnm ls hl hW
  have hl : lv_has ls 4 [(0, .ref h0), (1, .int (pinV k)), (2, .int f)] := hl
  have hW : WD E _ s [(h0, bI E 9 (mB g))] s.heap [] := hW
  refine lv_iload_n C.x C.b dX5_hit_0 rfl (lv_at hl 1 rfl) ?_
  refine lv_if_lt C.x C.b (tgt := 14) dX5_hit_1 (by decide) (fun c_1 => ?_) (fun c_1 => ?_)
  · exact x_vret C hW (by rw [hiF_no (fun q => by first | exact absurd q.1 (pinV_neg (by assumption)) | exact q.2.2 (z_l01 (by assumption)) | exact absurd q.2.1 (mB_n1 (by assumption)))]) dX5_hit_14
  · refine lv_iload_n C.x C.b dX5_hit_4 rfl (lv_at hl 2 rfl) ?_
    refine lv_if_le C.x C.b (tgt := 14) dX5_hit_5 (by decide) (fun c_2 => ?_) (fun c_2 => ?_)
    · exact x_vret C hW (by rw [hiF_no (fun q => by first | exact absurd q.1 (pinV_neg (by assumption)) | exact q.2.2 (z_l01 (by assumption)) | exact absurd q.2.1 (mB_n1 (by assumption)))]) dX5_hit_14
    · exact absurd (z_lei hf) c_2

set_option maxHeartbeats 4000000 in
set_option maxRecDepth 100000 in
theorem met_X5_hit_1 (l : Launch) (E : EV) (h0 g k : Nat) (f : Int32) (hk : k ≤ 9) (hs : g < 512) (hf : f.toInt ≤ 2) : MV l yX5_hit wsX5_hit { frames := 1, cells := 0, slots := 0, locals := 23 } E [.ref h0, .int (pinV k), .int f] [(h0, bI E 9 (mB g))] [(h0, bI E 9 (mB (hiF 1 g k f)))] := by
  refine sV (own := RX5) (cc := cX5_hit) (maxL := 4) rfl (by decide) rfl (Nat.le_of_ble_eq_true rfl) ?_
  intro p e s m below meth c C hnm ls hl hW
  have hl : lv_has ls 4 [(0, .ref h0), (1, .int (pinV k)), (2, .int f)] := hl
  have hW : WD E _ s [(h0, bI E 9 (mB g))] s.heap [] := hW
  refine lv_iload_n C.x C.b dX5_hit_0 rfl (lv_at hl 1 rfl) ?_
  refine lv_if_lt C.x C.b (tgt := 14) dX5_hit_1 (by decide) (fun c_1 => ?_) (fun c_1 => ?_)
  · exact x_vret C hW (by rw [hiF_no (fun q => by first | exact absurd q.1 (pinV_neg (by assumption)) | exact q.2.2 (z_l01 (by assumption)) | exact absurd q.2.1 (mB_n1 (by assumption)))]) dX5_hit_14
  · refine lv_iload_n C.x C.b dX5_hit_4 rfl (lv_at hl 2 rfl) ?_
    refine lv_if_le C.x C.b (tgt := 14) dX5_hit_5 (by decide) (fun c_2 => ?_) (fun c_2 => ?_)
    · exact x_vret C hW (by rw [hiF_no (fun q => by first | exact absurd q.1 (pinV_neg (by assumption)) | exact q.2.2 (z_l01 (by assumption)) | exact absurd q.2.1 (mB_n1 (by assumption)))]) dX5_hit_14
    · have hp : k < 9 := pinV_nn c_1
      refine lv_aload_n C.x C.b dX5_hit_8 rfl (lv_at hl 0 rfl) ?_
      refine lv_iload_n C.x C.b dX5_hit_9 rfl (lv_at hl 1 rfl) ?_
      refine x_zld C hW 0 k rfl (pinV_nI (pinV_nn c_1)) hp (by decide) dX5_hit_10 ?_
      refine x_if_ne C (by have := mB_lt g k; omega) (tgt := 15) dX5_hit_11 (by decide) (fun c_3 => ?_) (fun c_3 => ?_)
      · have hf1 : ¬ f < 1 := z_n01 c_2
        have hf2 : (f - 2).toInt ≤ 0 := z_sub2 hf1 (by omega)
        have hb1 : g / 2 ^ k % 2 = 1 := mB_n0 c_3
        refine lv_aload_n C.x C.b dX5_hit_15 rfl (lv_at hl 0 rfl) ?_
        refine lv_iload_n C.x C.b dX5_hit_16 rfl (lv_at hl 1 rfl) ?_
        refine lv_iconst (v := nI 0) C.x C.b dX5_hit_17 (by decide) ?_
        refine x_zst C hW 0 k 0 rfl (pinV_nI (pinV_nn c_1)) rfl (by decide) hp (by decide) dX5_hit_18 (w' := [(h0, bI E 9 (upN (mB g) k 0))]) rfl (fun H locs hW => ?_)
        have hW := hW.to (w' := [(h0, bI E 9 (mB (dropK g k)))]) (by rw [mB_drop hs hp])
        refine lv_iconst (v := (-1)) C.x C.b dX5_hit_19 (by decide) ?_
        refine lv_istore_n (lv' := [(3, .int ((-1 : Int32))), (0, .ref h0), (1, .int (pinV k)), (2, .int f)]) C.x C.b dX5_hit_20 rfl hl (by decide) rfl (fun ls hl => ?_)
        refine lv_iload_n C.x C.b dX5_hit_21 rfl (lv_at hl 0 rfl) ?_
        refine lv_iconst (v := nI 2) C.x C.b dX5_hit_22 (by decide) ?_
        refine lv_icmp_ge C.x C.b (tgt := 56) dX5_hit_23 (by decide) (fun c_4 => ?_) (fun c_4 => ?_)
        · exact absurd c_4 (by decide)
        · have c_4 : ¬ (2 ≤ (-1 : Int32)) := c_4
          refine lv_aload_n C.x C.b dX5_hit_26 rfl (lv_at hl 1 rfl) ?_
          refine x_getsN C hW C.G.2.2.1 C.M.1.2.1 dX5_hit_27 (fun t_6 hT_5 => ?_)
          refine lv_iload_n C.x C.b dX5_hit_30 rfl (lv_at hl 2 rfl) ?_
          refine x_tab C hW hT_5 k (pinV_nI (pinV_nn c_1)) hp (by decide) dX5_hit_31 ?_
          refine lv_iconst (v := nI 1) C.x C.b dX5_hit_32 (by decide) ?_
          refine lv_iadd C.x C.b dX5_hit_33 ?_
          refine x_getsN C hW C.G.2.2.2.1 C.M.1.2.2.1 dX5_hit_34 (fun t_8 hT_7 => ?_)
          refine lv_iload_n C.x C.b dX5_hit_37 rfl (lv_at hl 2 rfl) ?_
          refine x_tab C hW hT_7 k (pinV_nI (pinV_nn c_1)) hp (by decide) dX5_hit_38 ?_
          refine lv_iload_n C.x C.b dX5_hit_39 rfl (lv_at hl 0 rfl) ?_
          refine lv_iadd C.x C.b dX5_hit_40 ?_
          refine x_toi (y := tLA k - 1) (z_am1 _) ?_
          refine x_cSI C hW (As := [.int (tRO k + 1), .int (tLA k - 1)]) (rest := [.ref h0]) (wr := [(h0, bI E 9 (mB (dropK g k)))]) (wn := [(h0, bI E 9 (mB (dropK g k)))]) (met_X5_find l E (tRO k + 1) (tLA k - 1)) gX5_hit_X5_find rfl 2 rfl ⟨rfl, rfl⟩ ⟨by decide +kernel, by decide +kernel, by decide +kernel⟩ ⟨Nat.le_of_ble_eq_true rfl, Nat.le_of_ble_eq_true rfl⟩ [] [0] [0] rfl (by decide) rfl (by decide) (by decide) rfl (by decide) hl.1 rfl (Nat.le_of_ble_eq_true rfl) dX5_hit_41 ⟨Nat.zero_le _, Nat.zero_le _⟩ (fun H locs hW => ?_)
          refine lv_iload_n C.x C.b dX5_hit_44 rfl (lv_at hl 3 rfl) ?_
          refine lv_iconst (v := nI 2) C.x C.b dX5_hit_45 (by decide) ?_
          refine lv_isub C.x C.b dX5_hit_46 ?_
          refine x_cSV C hW (As := [.ref h0, .int (pinV (pinQ (tRO k + 1) (tLA k - 1))), .int (f - 2)]) (rest := []) (wr := []) (wn := [(h0, bI E 9 (mB (hiF 0 (dropK g k) (pinQ (tRO k + 1) (tLA k - 1)) (f - 2))))]) (met_X5_hit_0 l E h0 (dropK g k) (pinQ (tRO k + 1) (tLA k - 1)) (f - 2) (pinQ_le _ _) (Nat.lt_of_le_of_lt (dropK_le _ _) hs) hf2) gX5_hit_X5_hit rfl 3 rfl ⟨rfl, rfl⟩ ⟨by decide +kernel, by decide +kernel, by decide +kernel⟩ ⟨Nat.le_of_ble_eq_true rfl, Nat.le_of_ble_eq_true rfl⟩ [0] [] [0] rfl (by decide) rfl (by decide) (by decide) rfl (by decide) hl.1 rfl (Nat.le_of_ble_eq_true rfl) dX5_hit_47 ⟨Nat.zero_le _, Nat.zero_le _⟩ (fun H locs hW => ?_)
          refine lv_iinc (k := 0) (v := nI 1) (lv' := [(3, .int (nI 1)), (0, .ref h0), (1, .int (pinV k)), (2, .int f)]) C.x C.b dX5_hit_50 hl rfl (by decide) (by decide) rfl (fun ls hl => ?_)
          refine lv_goto (tgt := 21) C.x C.b dX5_hit_53 (by decide) ?_
          refine lv_iload_n C.x C.b dX5_hit_21 rfl (lv_at hl 0 rfl) ?_
          refine lv_iconst (v := nI 2) C.x C.b dX5_hit_22 (by decide) ?_
          refine x_icmp_ge C (by omega) (by omega) (tgt := 56) dX5_hit_23 (by decide) (fun c_9 => ?_) (fun c_9 => ?_)
          · exact absurd c_9 (by decide)
          · refine lv_aload_n C.x C.b dX5_hit_26 rfl (lv_at hl 1 rfl) ?_
            refine x_getsN C hW C.G.2.2.1 C.M.1.2.1 dX5_hit_27 (fun t_11 hT_10 => ?_)
            refine lv_iload_n C.x C.b dX5_hit_30 rfl (lv_at hl 2 rfl) ?_
            refine x_tab C hW hT_10 k (pinV_nI (pinV_nn c_1)) hp (by decide) dX5_hit_31 ?_
            refine lv_iconst (v := nI 1) C.x C.b dX5_hit_32 (by decide) ?_
            refine lv_iadd C.x C.b dX5_hit_33 ?_
            refine x_getsN C hW C.G.2.2.2.1 C.M.1.2.2.1 dX5_hit_34 (fun t_13 hT_12 => ?_)
            refine lv_iload_n C.x C.b dX5_hit_37 rfl (lv_at hl 2 rfl) ?_
            refine x_tab C hW hT_12 k (pinV_nI (pinV_nn c_1)) hp (by decide) dX5_hit_38 ?_
            refine lv_iload_n C.x C.b dX5_hit_39 rfl (lv_at hl 0 rfl) ?_
            refine lv_iadd C.x C.b dX5_hit_40 ?_
            refine x_cSI C hW (As := [.int (tRO k + 1), .int (tLA k + 1)]) (rest := [.ref h0]) (wr := [(h0, bI E 9 (mB (hiF 0 (dropK g k) (pinQ (tRO k + 1) (tLA k - 1)) (f - 2))))]) (wn := [(h0, bI E 9 (mB (hiF 0 (dropK g k) (pinQ (tRO k + 1) (tLA k - 1)) (f - 2))))]) (met_X5_find l E (tRO k + 1) (tLA k + 1)) gX5_hit_X5_find rfl 2 rfl ⟨rfl, rfl⟩ ⟨by decide +kernel, by decide +kernel, by decide +kernel⟩ ⟨Nat.le_of_ble_eq_true rfl, Nat.le_of_ble_eq_true rfl⟩ [] [0] [0] rfl (by decide) rfl (by decide) (by decide) rfl (by decide) hl.1 rfl (Nat.le_of_ble_eq_true rfl) dX5_hit_41 ⟨Nat.zero_le _, Nat.zero_le _⟩ (fun H locs hW => ?_)
            refine lv_iload_n C.x C.b dX5_hit_44 rfl (lv_at hl 3 rfl) ?_
            refine lv_iconst (v := nI 2) C.x C.b dX5_hit_45 (by decide) ?_
            refine lv_isub C.x C.b dX5_hit_46 ?_
            refine x_cSV C hW (As := [.ref h0, .int (pinV (pinQ (tRO k + 1) (tLA k + 1))), .int (f - 2)]) (rest := []) (wr := []) (wn := [(h0, bI E 9 (mB (hiF 0 (hiF 0 (dropK g k) (pinQ (tRO k + 1) (tLA k - 1)) (f - 2)) (pinQ (tRO k + 1) (tLA k + 1)) (f - 2))))]) (met_X5_hit_0 l E h0 (hiF 0 (dropK g k) (pinQ (tRO k + 1) (tLA k - 1)) (f - 2)) (pinQ (tRO k + 1) (tLA k + 1)) (f - 2) (pinQ_le _ _) (Nat.lt_of_le_of_lt (hiF_le _ _ _ _) (Nat.lt_of_le_of_lt (dropK_le _ _) hs)) hf2) gX5_hit_X5_hit rfl 3 rfl ⟨rfl, rfl⟩ ⟨by decide +kernel, by decide +kernel, by decide +kernel⟩ ⟨Nat.le_of_ble_eq_true rfl, Nat.le_of_ble_eq_true rfl⟩ [0] [] [0] rfl (by decide) rfl (by decide) (by decide) rfl (by decide) hl.1 rfl (Nat.le_of_ble_eq_true rfl) dX5_hit_47 ⟨Nat.zero_le _, Nat.zero_le _⟩ (fun H locs hW => ?_)
            refine lv_iinc (k := 0) (v := nI 3) (lv' := [(3, .int (nI 3)), (0, .ref h0), (1, .int (pinV k)), (2, .int f)]) C.x C.b dX5_hit_50 hl rfl (by decide) (by decide) rfl (fun ls hl => ?_)
            refine lv_goto (tgt := 21) C.x C.b dX5_hit_53 (by decide) ?_
            refine lv_iload_n C.x C.b dX5_hit_21 rfl (lv_at hl 0 rfl) ?_
            refine lv_iconst (v := nI 2) C.x C.b dX5_hit_22 (by decide) ?_
            refine x_icmp_ge C (by omega) (by omega) (tgt := 56) dX5_hit_23 (by decide) (fun c_14 => ?_) (fun c_14 => ?_)
            · exact x_vret C hW (by rw [hiF_go hp hb1 hf1]) dX5_hit_56
            · exact absurd (by decide) c_14
      · exact x_vret C hW (by rw [hiF_no (fun q => by first | exact absurd q.1 (pinV_neg (by assumption)) | exact q.2.2 (z_l01 (by assumption)) | exact absurd q.2.1 (mB_n1 (by assumption)))]) dX5_hit_14

set_option maxHeartbeats 4000000 in
set_option maxRecDepth 100000 in
theorem met_X5_hit_2 (l : Launch) (E : EV) (h0 g k : Nat) (f : Int32) (hk : k ≤ 9) (hs : g < 512) (hf : f.toInt ≤ 4) : MV l yX5_hit wsX5_hit { frames := 2, cells := 0, slots := 0, locals := 46 } E [.ref h0, .int (pinV k), .int f] [(h0, bI E 9 (mB g))] [(h0, bI E 9 (mB (hiF 2 g k f)))] := by
  refine sV (own := RX5) (cc := cX5_hit) (maxL := 4) rfl (by decide) rfl (Nat.le_of_ble_eq_true rfl) ?_
  intro p e s m below meth c C hnm ls hl hW
  have hl : lv_has ls 4 [(0, .ref h0), (1, .int (pinV k)), (2, .int f)] := hl
  have hW : WD E _ s [(h0, bI E 9 (mB g))] s.heap [] := hW
  refine lv_iload_n C.x C.b dX5_hit_0 rfl (lv_at hl 1 rfl) ?_
  refine lv_if_lt C.x C.b (tgt := 14) dX5_hit_1 (by decide) (fun c_1 => ?_) (fun c_1 => ?_)
  · exact x_vret C hW (by rw [hiF_no (fun q => by first | exact absurd q.1 (pinV_neg (by assumption)) | exact q.2.2 (z_l01 (by assumption)) | exact absurd q.2.1 (mB_n1 (by assumption)))]) dX5_hit_14
  · refine lv_iload_n C.x C.b dX5_hit_4 rfl (lv_at hl 2 rfl) ?_
    refine lv_if_le C.x C.b (tgt := 14) dX5_hit_5 (by decide) (fun c_2 => ?_) (fun c_2 => ?_)
    · exact x_vret C hW (by rw [hiF_no (fun q => by first | exact absurd q.1 (pinV_neg (by assumption)) | exact q.2.2 (z_l01 (by assumption)) | exact absurd q.2.1 (mB_n1 (by assumption)))]) dX5_hit_14
    · have hp : k < 9 := pinV_nn c_1
      refine lv_aload_n C.x C.b dX5_hit_8 rfl (lv_at hl 0 rfl) ?_
      refine lv_iload_n C.x C.b dX5_hit_9 rfl (lv_at hl 1 rfl) ?_
      refine x_zld C hW 0 k rfl (pinV_nI (pinV_nn c_1)) hp (by decide) dX5_hit_10 ?_
      refine x_if_ne C (by have := mB_lt g k; omega) (tgt := 15) dX5_hit_11 (by decide) (fun c_3 => ?_) (fun c_3 => ?_)
      · have hf1 : ¬ f < 1 := z_n01 c_2
        have hf2 : (f - 2).toInt ≤ 2 := z_sub2 hf1 (by omega)
        have hb1 : g / 2 ^ k % 2 = 1 := mB_n0 c_3
        refine lv_aload_n C.x C.b dX5_hit_15 rfl (lv_at hl 0 rfl) ?_
        refine lv_iload_n C.x C.b dX5_hit_16 rfl (lv_at hl 1 rfl) ?_
        refine lv_iconst (v := nI 0) C.x C.b dX5_hit_17 (by decide) ?_
        refine x_zst C hW 0 k 0 rfl (pinV_nI (pinV_nn c_1)) rfl (by decide) hp (by decide) dX5_hit_18 (w' := [(h0, bI E 9 (upN (mB g) k 0))]) rfl (fun H locs hW => ?_)
        have hW := hW.to (w' := [(h0, bI E 9 (mB (dropK g k)))]) (by rw [mB_drop hs hp])
        refine lv_iconst (v := (-1)) C.x C.b dX5_hit_19 (by decide) ?_
        refine lv_istore_n (lv' := [(3, .int ((-1 : Int32))), (0, .ref h0), (1, .int (pinV k)), (2, .int f)]) C.x C.b dX5_hit_20 rfl hl (by decide) rfl (fun ls hl => ?_)
        refine lv_iload_n C.x C.b dX5_hit_21 rfl (lv_at hl 0 rfl) ?_
        refine lv_iconst (v := nI 2) C.x C.b dX5_hit_22 (by decide) ?_
        refine lv_icmp_ge C.x C.b (tgt := 56) dX5_hit_23 (by decide) (fun c_4 => ?_) (fun c_4 => ?_)
        · exact absurd c_4 (by decide)
        · have c_4 : ¬ (2 ≤ (-1 : Int32)) := c_4
          refine lv_aload_n C.x C.b dX5_hit_26 rfl (lv_at hl 1 rfl) ?_
          refine x_getsN C hW C.G.2.2.1 C.M.1.2.1 dX5_hit_27 (fun t_6 hT_5 => ?_)
          refine lv_iload_n C.x C.b dX5_hit_30 rfl (lv_at hl 2 rfl) ?_
          refine x_tab C hW hT_5 k (pinV_nI (pinV_nn c_1)) hp (by decide) dX5_hit_31 ?_
          refine lv_iconst (v := nI 1) C.x C.b dX5_hit_32 (by decide) ?_
          refine lv_iadd C.x C.b dX5_hit_33 ?_
          refine x_getsN C hW C.G.2.2.2.1 C.M.1.2.2.1 dX5_hit_34 (fun t_8 hT_7 => ?_)
          refine lv_iload_n C.x C.b dX5_hit_37 rfl (lv_at hl 2 rfl) ?_
          refine x_tab C hW hT_7 k (pinV_nI (pinV_nn c_1)) hp (by decide) dX5_hit_38 ?_
          refine lv_iload_n C.x C.b dX5_hit_39 rfl (lv_at hl 0 rfl) ?_
          refine lv_iadd C.x C.b dX5_hit_40 ?_
          refine x_toi (y := tLA k - 1) (z_am1 _) ?_
          refine x_cSI C hW (As := [.int (tRO k + 1), .int (tLA k - 1)]) (rest := [.ref h0]) (wr := [(h0, bI E 9 (mB (dropK g k)))]) (wn := [(h0, bI E 9 (mB (dropK g k)))]) (met_X5_find l E (tRO k + 1) (tLA k - 1)) gX5_hit_X5_find rfl 2 rfl ⟨rfl, rfl⟩ ⟨by decide +kernel, by decide +kernel, by decide +kernel⟩ ⟨Nat.le_of_ble_eq_true rfl, Nat.le_of_ble_eq_true rfl⟩ [] [0] [0] rfl (by decide) rfl (by decide) (by decide) rfl (by decide) hl.1 rfl (Nat.le_of_ble_eq_true rfl) dX5_hit_41 ⟨Nat.zero_le _, Nat.zero_le _⟩ (fun H locs hW => ?_)
          refine lv_iload_n C.x C.b dX5_hit_44 rfl (lv_at hl 3 rfl) ?_
          refine lv_iconst (v := nI 2) C.x C.b dX5_hit_45 (by decide) ?_
          refine lv_isub C.x C.b dX5_hit_46 ?_
          refine x_cSV C hW (As := [.ref h0, .int (pinV (pinQ (tRO k + 1) (tLA k - 1))), .int (f - 2)]) (rest := []) (wr := []) (wn := [(h0, bI E 9 (mB (hiF 1 (dropK g k) (pinQ (tRO k + 1) (tLA k - 1)) (f - 2))))]) (met_X5_hit_1 l E h0 (dropK g k) (pinQ (tRO k + 1) (tLA k - 1)) (f - 2) (pinQ_le _ _) (Nat.lt_of_le_of_lt (dropK_le _ _) hs) hf2) gX5_hit_X5_hit rfl 3 rfl ⟨rfl, rfl⟩ ⟨by decide +kernel, by decide +kernel, by decide +kernel⟩ ⟨Nat.le_of_ble_eq_true rfl, Nat.le_of_ble_eq_true rfl⟩ [0] [] [0] rfl (by decide) rfl (by decide) (by decide) rfl (by decide) hl.1 rfl (Nat.le_of_ble_eq_true rfl) dX5_hit_47 ⟨Nat.zero_le _, Nat.zero_le _⟩ (fun H locs hW => ?_)
          refine lv_iinc (k := 0) (v := nI 1) (lv' := [(3, .int (nI 1)), (0, .ref h0), (1, .int (pinV k)), (2, .int f)]) C.x C.b dX5_hit_50 hl rfl (by decide) (by decide) rfl (fun ls hl => ?_)
          refine lv_goto (tgt := 21) C.x C.b dX5_hit_53 (by decide) ?_
          refine lv_iload_n C.x C.b dX5_hit_21 rfl (lv_at hl 0 rfl) ?_
          refine lv_iconst (v := nI 2) C.x C.b dX5_hit_22 (by decide) ?_
          refine x_icmp_ge C (by omega) (by omega) (tgt := 56) dX5_hit_23 (by decide) (fun c_9 => ?_) (fun c_9 => ?_)
          · exact absurd c_9 (by decide)
          · refine lv_aload_n C.x C.b dX5_hit_26 rfl (lv_at hl 1 rfl) ?_
            refine x_getsN C hW C.G.2.2.1 C.M.1.2.1 dX5_hit_27 (fun t_11 hT_10 => ?_)
            refine lv_iload_n C.x C.b dX5_hit_30 rfl (lv_at hl 2 rfl) ?_
            refine x_tab C hW hT_10 k (pinV_nI (pinV_nn c_1)) hp (by decide) dX5_hit_31 ?_
            refine lv_iconst (v := nI 1) C.x C.b dX5_hit_32 (by decide) ?_
            refine lv_iadd C.x C.b dX5_hit_33 ?_
            refine x_getsN C hW C.G.2.2.2.1 C.M.1.2.2.1 dX5_hit_34 (fun t_13 hT_12 => ?_)
            refine lv_iload_n C.x C.b dX5_hit_37 rfl (lv_at hl 2 rfl) ?_
            refine x_tab C hW hT_12 k (pinV_nI (pinV_nn c_1)) hp (by decide) dX5_hit_38 ?_
            refine lv_iload_n C.x C.b dX5_hit_39 rfl (lv_at hl 0 rfl) ?_
            refine lv_iadd C.x C.b dX5_hit_40 ?_
            refine x_cSI C hW (As := [.int (tRO k + 1), .int (tLA k + 1)]) (rest := [.ref h0]) (wr := [(h0, bI E 9 (mB (hiF 1 (dropK g k) (pinQ (tRO k + 1) (tLA k - 1)) (f - 2))))]) (wn := [(h0, bI E 9 (mB (hiF 1 (dropK g k) (pinQ (tRO k + 1) (tLA k - 1)) (f - 2))))]) (met_X5_find l E (tRO k + 1) (tLA k + 1)) gX5_hit_X5_find rfl 2 rfl ⟨rfl, rfl⟩ ⟨by decide +kernel, by decide +kernel, by decide +kernel⟩ ⟨Nat.le_of_ble_eq_true rfl, Nat.le_of_ble_eq_true rfl⟩ [] [0] [0] rfl (by decide) rfl (by decide) (by decide) rfl (by decide) hl.1 rfl (Nat.le_of_ble_eq_true rfl) dX5_hit_41 ⟨Nat.zero_le _, Nat.zero_le _⟩ (fun H locs hW => ?_)
            refine lv_iload_n C.x C.b dX5_hit_44 rfl (lv_at hl 3 rfl) ?_
            refine lv_iconst (v := nI 2) C.x C.b dX5_hit_45 (by decide) ?_
            refine lv_isub C.x C.b dX5_hit_46 ?_
            refine x_cSV C hW (As := [.ref h0, .int (pinV (pinQ (tRO k + 1) (tLA k + 1))), .int (f - 2)]) (rest := []) (wr := []) (wn := [(h0, bI E 9 (mB (hiF 1 (hiF 1 (dropK g k) (pinQ (tRO k + 1) (tLA k - 1)) (f - 2)) (pinQ (tRO k + 1) (tLA k + 1)) (f - 2))))]) (met_X5_hit_1 l E h0 (hiF 1 (dropK g k) (pinQ (tRO k + 1) (tLA k - 1)) (f - 2)) (pinQ (tRO k + 1) (tLA k + 1)) (f - 2) (pinQ_le _ _) (Nat.lt_of_le_of_lt (hiF_le _ _ _ _) (Nat.lt_of_le_of_lt (dropK_le _ _) hs)) hf2) gX5_hit_X5_hit rfl 3 rfl ⟨rfl, rfl⟩ ⟨by decide +kernel, by decide +kernel, by decide +kernel⟩ ⟨Nat.le_of_ble_eq_true rfl, Nat.le_of_ble_eq_true rfl⟩ [0] [] [0] rfl (by decide) rfl (by decide) (by decide) rfl (by decide) hl.1 rfl (Nat.le_of_ble_eq_true rfl) dX5_hit_47 ⟨Nat.zero_le _, Nat.zero_le _⟩ (fun H locs hW => ?_)
            refine lv_iinc (k := 0) (v := nI 3) (lv' := [(3, .int (nI 3)), (0, .ref h0), (1, .int (pinV k)), (2, .int f)]) C.x C.b dX5_hit_50 hl rfl (by decide) (by decide) rfl (fun ls hl => ?_)
            refine lv_goto (tgt := 21) C.x C.b dX5_hit_53 (by decide) ?_
            refine lv_iload_n C.x C.b dX5_hit_21 rfl (lv_at hl 0 rfl) ?_
            refine lv_iconst (v := nI 2) C.x C.b dX5_hit_22 (by decide) ?_
            refine x_icmp_ge C (by omega) (by omega) (tgt := 56) dX5_hit_23 (by decide) (fun c_14 => ?_) (fun c_14 => ?_)
            · exact x_vret C hW (by rw [hiF_go hp hb1 hf1]) dX5_hit_56
            · exact absurd (by decide) c_14
      · exact x_vret C hW (by rw [hiF_no (fun q => by first | exact absurd q.1 (pinV_neg (by assumption)) | exact q.2.2 (z_l01 (by assumption)) | exact absurd q.2.1 (mB_n1 (by assumption)))]) dX5_hit_14

set_option maxHeartbeats 4000000 in
set_option maxRecDepth 100000 in
theorem met_X5_hit_3 (l : Launch) (E : EV) (h0 g k : Nat) (f : Int32) (hk : k ≤ 9) (hs : g < 512) (hf : f.toInt ≤ 6) : MV l yX5_hit wsX5_hit { frames := 3, cells := 0, slots := 0, locals := 69 } E [.ref h0, .int (pinV k), .int f] [(h0, bI E 9 (mB g))] [(h0, bI E 9 (mB (hiF 3 g k f)))] := by
  refine sV (own := RX5) (cc := cX5_hit) (maxL := 4) rfl (by decide) rfl (Nat.le_of_ble_eq_true rfl) ?_
  intro p e s m below meth c C hnm ls hl hW
  have hl : lv_has ls 4 [(0, .ref h0), (1, .int (pinV k)), (2, .int f)] := hl
  have hW : WD E _ s [(h0, bI E 9 (mB g))] s.heap [] := hW
  refine lv_iload_n C.x C.b dX5_hit_0 rfl (lv_at hl 1 rfl) ?_
  refine lv_if_lt C.x C.b (tgt := 14) dX5_hit_1 (by decide) (fun c_1 => ?_) (fun c_1 => ?_)
  · exact x_vret C hW (by rw [hiF_no (fun q => by first | exact absurd q.1 (pinV_neg (by assumption)) | exact q.2.2 (z_l01 (by assumption)) | exact absurd q.2.1 (mB_n1 (by assumption)))]) dX5_hit_14
  · refine lv_iload_n C.x C.b dX5_hit_4 rfl (lv_at hl 2 rfl) ?_
    refine lv_if_le C.x C.b (tgt := 14) dX5_hit_5 (by decide) (fun c_2 => ?_) (fun c_2 => ?_)
    · exact x_vret C hW (by rw [hiF_no (fun q => by first | exact absurd q.1 (pinV_neg (by assumption)) | exact q.2.2 (z_l01 (by assumption)) | exact absurd q.2.1 (mB_n1 (by assumption)))]) dX5_hit_14
    · have hp : k < 9 := pinV_nn c_1
      refine lv_aload_n C.x C.b dX5_hit_8 rfl (lv_at hl 0 rfl) ?_
      refine lv_iload_n C.x C.b dX5_hit_9 rfl (lv_at hl 1 rfl) ?_
      refine x_zld C hW 0 k rfl (pinV_nI (pinV_nn c_1)) hp (by decide) dX5_hit_10 ?_
      refine x_if_ne C (by have := mB_lt g k; omega) (tgt := 15) dX5_hit_11 (by decide) (fun c_3 => ?_) (fun c_3 => ?_)
      · have hf1 : ¬ f < 1 := z_n01 c_2
        have hf2 : (f - 2).toInt ≤ 4 := z_sub2 hf1 (by omega)
        have hb1 : g / 2 ^ k % 2 = 1 := mB_n0 c_3
        refine lv_aload_n C.x C.b dX5_hit_15 rfl (lv_at hl 0 rfl) ?_
        refine lv_iload_n C.x C.b dX5_hit_16 rfl (lv_at hl 1 rfl) ?_
        refine lv_iconst (v := nI 0) C.x C.b dX5_hit_17 (by decide) ?_
        refine x_zst C hW 0 k 0 rfl (pinV_nI (pinV_nn c_1)) rfl (by decide) hp (by decide) dX5_hit_18 (w' := [(h0, bI E 9 (upN (mB g) k 0))]) rfl (fun H locs hW => ?_)
        have hW := hW.to (w' := [(h0, bI E 9 (mB (dropK g k)))]) (by rw [mB_drop hs hp])
        refine lv_iconst (v := (-1)) C.x C.b dX5_hit_19 (by decide) ?_
        refine lv_istore_n (lv' := [(3, .int ((-1 : Int32))), (0, .ref h0), (1, .int (pinV k)), (2, .int f)]) C.x C.b dX5_hit_20 rfl hl (by decide) rfl (fun ls hl => ?_)
        refine lv_iload_n C.x C.b dX5_hit_21 rfl (lv_at hl 0 rfl) ?_
        refine lv_iconst (v := nI 2) C.x C.b dX5_hit_22 (by decide) ?_
        refine lv_icmp_ge C.x C.b (tgt := 56) dX5_hit_23 (by decide) (fun c_4 => ?_) (fun c_4 => ?_)
        · exact absurd c_4 (by decide)
        · have c_4 : ¬ (2 ≤ (-1 : Int32)) := c_4
          refine lv_aload_n C.x C.b dX5_hit_26 rfl (lv_at hl 1 rfl) ?_
          refine x_getsN C hW C.G.2.2.1 C.M.1.2.1 dX5_hit_27 (fun t_6 hT_5 => ?_)
          refine lv_iload_n C.x C.b dX5_hit_30 rfl (lv_at hl 2 rfl) ?_
          refine x_tab C hW hT_5 k (pinV_nI (pinV_nn c_1)) hp (by decide) dX5_hit_31 ?_
          refine lv_iconst (v := nI 1) C.x C.b dX5_hit_32 (by decide) ?_
          refine lv_iadd C.x C.b dX5_hit_33 ?_
          refine x_getsN C hW C.G.2.2.2.1 C.M.1.2.2.1 dX5_hit_34 (fun t_8 hT_7 => ?_)
          refine lv_iload_n C.x C.b dX5_hit_37 rfl (lv_at hl 2 rfl) ?_
          refine x_tab C hW hT_7 k (pinV_nI (pinV_nn c_1)) hp (by decide) dX5_hit_38 ?_
          refine lv_iload_n C.x C.b dX5_hit_39 rfl (lv_at hl 0 rfl) ?_
          refine lv_iadd C.x C.b dX5_hit_40 ?_
          refine x_toi (y := tLA k - 1) (z_am1 _) ?_
          refine x_cSI C hW (As := [.int (tRO k + 1), .int (tLA k - 1)]) (rest := [.ref h0]) (wr := [(h0, bI E 9 (mB (dropK g k)))]) (wn := [(h0, bI E 9 (mB (dropK g k)))]) (met_X5_find l E (tRO k + 1) (tLA k - 1)) gX5_hit_X5_find rfl 2 rfl ⟨rfl, rfl⟩ ⟨by decide +kernel, by decide +kernel, by decide +kernel⟩ ⟨Nat.le_of_ble_eq_true rfl, Nat.le_of_ble_eq_true rfl⟩ [] [0] [0] rfl (by decide) rfl (by decide) (by decide) rfl (by decide) hl.1 rfl (Nat.le_of_ble_eq_true rfl) dX5_hit_41 ⟨Nat.zero_le _, Nat.zero_le _⟩ (fun H locs hW => ?_)
          refine lv_iload_n C.x C.b dX5_hit_44 rfl (lv_at hl 3 rfl) ?_
          refine lv_iconst (v := nI 2) C.x C.b dX5_hit_45 (by decide) ?_
          refine lv_isub C.x C.b dX5_hit_46 ?_
          refine x_cSV C hW (As := [.ref h0, .int (pinV (pinQ (tRO k + 1) (tLA k - 1))), .int (f - 2)]) (rest := []) (wr := []) (wn := [(h0, bI E 9 (mB (hiF 2 (dropK g k) (pinQ (tRO k + 1) (tLA k - 1)) (f - 2))))]) (met_X5_hit_2 l E h0 (dropK g k) (pinQ (tRO k + 1) (tLA k - 1)) (f - 2) (pinQ_le _ _) (Nat.lt_of_le_of_lt (dropK_le _ _) hs) hf2) gX5_hit_X5_hit rfl 3 rfl ⟨rfl, rfl⟩ ⟨by decide +kernel, by decide +kernel, by decide +kernel⟩ ⟨Nat.le_of_ble_eq_true rfl, Nat.le_of_ble_eq_true rfl⟩ [0] [] [0] rfl (by decide) rfl (by decide) (by decide) rfl (by decide) hl.1 rfl (Nat.le_of_ble_eq_true rfl) dX5_hit_47 ⟨Nat.zero_le _, Nat.zero_le _⟩ (fun H locs hW => ?_)
          refine lv_iinc (k := 0) (v := nI 1) (lv' := [(3, .int (nI 1)), (0, .ref h0), (1, .int (pinV k)), (2, .int f)]) C.x C.b dX5_hit_50 hl rfl (by decide) (by decide) rfl (fun ls hl => ?_)
          refine lv_goto (tgt := 21) C.x C.b dX5_hit_53 (by decide) ?_
          refine lv_iload_n C.x C.b dX5_hit_21 rfl (lv_at hl 0 rfl) ?_
          refine lv_iconst (v := nI 2) C.x C.b dX5_hit_22 (by decide) ?_
          refine x_icmp_ge C (by omega) (by omega) (tgt := 56) dX5_hit_23 (by decide) (fun c_9 => ?_) (fun c_9 => ?_)
          · exact absurd c_9 (by decide)
          · refine lv_aload_n C.x C.b dX5_hit_26 rfl (lv_at hl 1 rfl) ?_
            refine x_getsN C hW C.G.2.2.1 C.M.1.2.1 dX5_hit_27 (fun t_11 hT_10 => ?_)
            refine lv_iload_n C.x C.b dX5_hit_30 rfl (lv_at hl 2 rfl) ?_
            refine x_tab C hW hT_10 k (pinV_nI (pinV_nn c_1)) hp (by decide) dX5_hit_31 ?_
            refine lv_iconst (v := nI 1) C.x C.b dX5_hit_32 (by decide) ?_
            refine lv_iadd C.x C.b dX5_hit_33 ?_
            refine x_getsN C hW C.G.2.2.2.1 C.M.1.2.2.1 dX5_hit_34 (fun t_13 hT_12 => ?_)
            refine lv_iload_n C.x C.b dX5_hit_37 rfl (lv_at hl 2 rfl) ?_
            refine x_tab C hW hT_12 k (pinV_nI (pinV_nn c_1)) hp (by decide) dX5_hit_38 ?_
            refine lv_iload_n C.x C.b dX5_hit_39 rfl (lv_at hl 0 rfl) ?_
            refine lv_iadd C.x C.b dX5_hit_40 ?_
            refine x_cSI C hW (As := [.int (tRO k + 1), .int (tLA k + 1)]) (rest := [.ref h0]) (wr := [(h0, bI E 9 (mB (hiF 2 (dropK g k) (pinQ (tRO k + 1) (tLA k - 1)) (f - 2))))]) (wn := [(h0, bI E 9 (mB (hiF 2 (dropK g k) (pinQ (tRO k + 1) (tLA k - 1)) (f - 2))))]) (met_X5_find l E (tRO k + 1) (tLA k + 1)) gX5_hit_X5_find rfl 2 rfl ⟨rfl, rfl⟩ ⟨by decide +kernel, by decide +kernel, by decide +kernel⟩ ⟨Nat.le_of_ble_eq_true rfl, Nat.le_of_ble_eq_true rfl⟩ [] [0] [0] rfl (by decide) rfl (by decide) (by decide) rfl (by decide) hl.1 rfl (Nat.le_of_ble_eq_true rfl) dX5_hit_41 ⟨Nat.zero_le _, Nat.zero_le _⟩ (fun H locs hW => ?_)
            refine lv_iload_n C.x C.b dX5_hit_44 rfl (lv_at hl 3 rfl) ?_
            refine lv_iconst (v := nI 2) C.x C.b dX5_hit_45 (by decide) ?_
            refine lv_isub C.x C.b dX5_hit_46 ?_
            refine x_cSV C hW (As := [.ref h0, .int (pinV (pinQ (tRO k + 1) (tLA k + 1))), .int (f - 2)]) (rest := []) (wr := []) (wn := [(h0, bI E 9 (mB (hiF 2 (hiF 2 (dropK g k) (pinQ (tRO k + 1) (tLA k - 1)) (f - 2)) (pinQ (tRO k + 1) (tLA k + 1)) (f - 2))))]) (met_X5_hit_2 l E h0 (hiF 2 (dropK g k) (pinQ (tRO k + 1) (tLA k - 1)) (f - 2)) (pinQ (tRO k + 1) (tLA k + 1)) (f - 2) (pinQ_le _ _) (Nat.lt_of_le_of_lt (hiF_le _ _ _ _) (Nat.lt_of_le_of_lt (dropK_le _ _) hs)) hf2) gX5_hit_X5_hit rfl 3 rfl ⟨rfl, rfl⟩ ⟨by decide +kernel, by decide +kernel, by decide +kernel⟩ ⟨Nat.le_of_ble_eq_true rfl, Nat.le_of_ble_eq_true rfl⟩ [0] [] [0] rfl (by decide) rfl (by decide) (by decide) rfl (by decide) hl.1 rfl (Nat.le_of_ble_eq_true rfl) dX5_hit_47 ⟨Nat.zero_le _, Nat.zero_le _⟩ (fun H locs hW => ?_)
            refine lv_iinc (k := 0) (v := nI 3) (lv' := [(3, .int (nI 3)), (0, .ref h0), (1, .int (pinV k)), (2, .int f)]) C.x C.b dX5_hit_50 hl rfl (by decide) (by decide) rfl (fun ls hl => ?_)
            refine lv_goto (tgt := 21) C.x C.b dX5_hit_53 (by decide) ?_
            refine lv_iload_n C.x C.b dX5_hit_21 rfl (lv_at hl 0 rfl) ?_
            refine lv_iconst (v := nI 2) C.x C.b dX5_hit_22 (by decide) ?_
            refine x_icmp_ge C (by omega) (by omega) (tgt := 56) dX5_hit_23 (by decide) (fun c_14 => ?_) (fun c_14 => ?_)
            · exact x_vret C hW (by rw [hiF_go hp hb1 hf1]) dX5_hit_56
            · exact absurd (by decide) c_14
      · exact x_vret C hW (by rw [hiF_no (fun q => by first | exact absurd q.1 (pinV_neg (by assumption)) | exact q.2.2 (z_l01 (by assumption)) | exact absurd q.2.1 (mB_n1 (by assumption)))]) dX5_hit_14

set_option maxHeartbeats 4000000 in
set_option maxRecDepth 100000 in
theorem met_X5_behind (l : Launch) (E : EV) (h0 g b z : Nat) (hg : g < 512) (hb : b < 5) : MN l yX5_behind wsX5_behind { frames := 4, cells := 1, slots := 9, locals := 92 } E [.ref h0, .int (nI b), .int (nI z)] [(h0, bI E 9 (mB g))] 1 9 (bI E 9 (mB (roN g b z))) := by
  refine sN (own := RX5) (cc := cX5_behind) (maxL := 7) (ret := (some (.array .boolean))) rfl (by decide) rfl (Nat.le_of_ble_eq_true rfl) ?_
  intro p e s m below meth c C hnm ls hl hW
  have hl : lv_has ls 7 [(0, .ref h0), (1, .int (nI b)), (2, .int (nI z))] := hl
  have hW : WD E _ s [(h0, bI E 9 (mB g))] s.heap [] := hW
  refine lv_aload_n C.x C.b dX5_behind_0 rfl (lv_at hl 0 rfl) ?_
  refine x_clone C hW 0 rfl (fun j => mB_lt _ j) hl.1 (by decide +kernel) (by decide +kernel) (by decide +kernel) (by decide +kernel) (by decide +kernel) (Nat.le_of_ble_eq_true rfl) (Nat.le_of_ble_eq_true rfl) (by show _ ≤ 1; omega) (by show _ ≤ 9; omega) dX5_behind_1 (fun o_1 H hW => ?_)
  have hW : WD E _ s [(h0, bI E 9 (mB g)), (o_1, bI E 9 (mB g))] H _ := hW
  refine x_castZ C hW 1 rfl (by decide +kernel) dX5_behind_4 ?_
  refine lv_astore_n (lv' := [(3, .ref o_1), (0, .ref h0), (1, .int (nI b)), (2, .int (nI z))]) C.x C.b dX5_behind_7 rfl hl (by decide) rfl (fun ls hl => ?_)
  refine lv_iload_n C.x C.b dX5_behind_8 rfl (lv_at hl 2 rfl) ?_
  refine lv_iconst (v := nI 2) C.x C.b dX5_behind_9 (by decide) ?_
  refine x_iadd C dX5_behind_10 ?_
  refine lv_istore (lv' := [(4, .int (nI (b + 2))), (3, .ref o_1), (0, .ref h0), (1, .int (nI b)), (2, .int (nI z))]) C.x C.b dX5_behind_11 hl (by decide) rfl (fun ls hl => ?_)
  refine lv_iconst (v := nI 0) C.x C.b dX5_behind_13 (by decide) ?_
  refine lv_istore (lv' := [(5, .int (nI 0)), (4, .int (nI (b + 2))), (3, .ref o_1), (0, .ref h0), (1, .int (nI b)), (2, .int (nI z))]) C.x C.b dX5_behind_14 hl (by decide) rfl (fun ls hl => ?_)
  have lp_2 : ∀ (n2 i : Nat), i ≤ 5 → 5 + 1 ≤ i + n2 → ∀ (H : Heap) (locs : List Loc) (ls : Array Slot), WD E (va_A [(h0, bI E 9 (mB g))] s.heap.size) s [(h0, bI E 9 (mB g)), (o_1, bI E 9 (mB (roS g b z i).1))] H locs → lv_has ls 7 [(5, .int (nI i)), (4, .int (nI ((roS g b z i).2))), (3, .ref o_1), (0, .ref h0), (1, .int (nI b)), (2, .int (nI z))] → W p l e ({ frames := 4, cells := 1, slots := 9, locals := 92 } : Room) s m ([.ref h0, .int (nI b), .int (nI z)] : List Value).toArray below meth c H locs (0 + 1) (0 + 9) (QN E [(h0, bI E 9 (mB g))] 1 9 (bI E 9 (mB (roN g b z))) below ([.ref h0, .int (nI b), .int (nI z)] : List Value).toArray s) (F0 m 16 ls []) := by
    intro n2
    induction n2 with
    | zero => intro i hi hn; exact absurd hn (by omega)
    | succ n2 ih2 =>
      intro i hi hn  H locs ls hW hl
      have hro := ro_le g b z i
      refine lv_iload C.x C.b dX5_behind_16 (lv_at hl 0 rfl) ?_
      refine lv_iconst (v := nI 5) C.x C.b dX5_behind_18 (by decide) ?_
      refine x_icmp_ge C (by omega) (by omega) (tgt := 67) dX5_behind_19 (by decide) (fun c_3 => ?_) (fun c_3 => ?_)
      · obtain rfl : i = 5 := by omega
        refine lv_aload_n C.x C.b dX5_behind_67 rfl (lv_at hl 2 rfl) ?_
        refine W.widen (k := 1) (n := 9) (by omega) (by omega) ?_
        exact x_aretN C (Or.inr ⟨_, rfl⟩) hW rfl rfl rfl dX5_behind_68
      · refine lv_iload C.x C.b dX5_behind_22 (lv_at hl 0 rfl) ?_
        refine lv_iload_n C.x C.b dX5_behind_24 rfl (lv_at hl 5 rfl) ?_
        refine x_cSI C hW (As := [.int (nI i), .int (nI z)]) (rest := []) (wr := [(h0, bI E 9 (mB g)), (o_1, bI E 9 (mB (roS g b z i).1))]) (wn := [(h0, bI E 9 (mB g)), (o_1, bI E 9 (mB (roS g b z i).1))]) (met_X5_find l E (nI i) (nI z)) gX5_behind_X5_find rfl 2 rfl ⟨rfl, rfl⟩ ⟨by decide +kernel, by decide +kernel, by decide +kernel⟩ ⟨Nat.le_of_ble_eq_true rfl, Nat.le_of_ble_eq_true rfl⟩ [] [0, 1] [0, 1] rfl (by decide) rfl (by decide) (by decide) rfl (by decide) hl.1 rfl (Nat.le_of_ble_eq_true rfl) dX5_behind_25 ⟨Nat.le_of_ble_eq_true rfl, Nat.le_of_ble_eq_true rfl⟩ (fun H locs hW => ?_)
        refine lv_istore (lv' := [(6, .int (pinV (pinQ (nI i) (nI z)))), (5, .int (nI i)), (4, .int (nI ((roS g b z i).2))), (3, .ref o_1), (0, .ref h0), (1, .int (nI b)), (2, .int (nI z))]) C.x C.b dX5_behind_28 hl (by decide) rfl (fun ls hl => ?_)
        refine lv_iload C.x C.b dX5_behind_30 (lv_at hl 0 rfl) ?_
        refine lv_if_lt C.x C.b (tgt := 61) dX5_behind_32 (by decide) (fun c_4 => ?_) (fun c_4 => ?_)
        · refine lv_iinc (k := 1) (v := nI (i + 1)) (lv' := [(5, .int (nI (i + 1))), (6, .int (pinV (pinQ (nI i) (nI z)))), (4, .int (nI ((roS g b z i).2))), (3, .ref o_1), (0, .ref h0), (1, .int (nI b)), (2, .int (nI z))]) C.x C.b dX5_behind_61 hl rfl (z_inc i 1) (by decide) rfl (fun ls hl => ?_)
          refine lv_goto (tgt := 16) C.x C.b dX5_behind_64 (by decide) ?_
          exact ih2 (i + 1) (by omega) (by omega)  _ _ _ (hW.to (by first | (rw [ro_skip (fun q => absurd q.1 (pinV_neg (by assumption)))]; done) | (rw [ro_skip (fun q => absurd q.2 (mB_n1 (by assumption)))]; done) | (rw [ro_zero (by assumption)]; done) | (rw [ro_hit (by assumption) hp (mB_n0 (by assumption))]; done))) (lv_to (lv_sub (l' := [(5, .int (nI (i + 1))), (4, .int (nI ((roS g b z i).2))), (3, .ref o_1), (0, .ref h0), (1, .int (nI b)), (2, .int (nI z))]) hl [0, 2, 3, 4, 5, 6] rfl) (by first | (rw [ro_skip (fun q => absurd q.1 (pinV_neg (by assumption)))]; done) | (rw [ro_skip (fun q => absurd q.2 (mB_n1 (by assumption)))]; done) | (rw [ro_zero (by assumption)]; done) | (rw [ro_hit (by assumption) hp (mB_n0 (by assumption))]; done)))
        · have hp : pinQ (nI i) (nI z) < 9 := pinV_nn (by assumption)
          refine lv_aload_n C.x C.b dX5_behind_35 rfl (lv_at hl 3 rfl) ?_
          refine lv_iload C.x C.b dX5_behind_36 (lv_at hl 0 rfl) ?_
          refine x_zld C hW 1 (pinQ (nI i) (nI z)) rfl (pinV_nI hp) hp (by decide) dX5_behind_38 ?_
          refine x_if_eq C (by have := mB_lt (roS g b z i).1 (pinQ (nI i) (nI z)); omega) (tgt := 61) dX5_behind_39 (by decide) (fun c_5 => ?_) (fun c_5 => ?_)
          · refine lv_iinc (k := 1) (v := nI (i + 1)) (lv' := [(5, .int (nI (i + 1))), (6, .int (pinV (pinQ (nI i) (nI z)))), (4, .int (nI ((roS g b z i).2))), (3, .ref o_1), (0, .ref h0), (1, .int (nI b)), (2, .int (nI z))]) C.x C.b dX5_behind_61 hl rfl (z_inc i 1) (by decide) rfl (fun ls hl => ?_)
            refine lv_goto (tgt := 16) C.x C.b dX5_behind_64 (by decide) ?_
            exact ih2 (i + 1) (by omega) (by omega)  _ _ _ (hW.to (by first | (rw [ro_skip (fun q => absurd q.1 (pinV_neg (by assumption)))]; done) | (rw [ro_skip (fun q => absurd q.2 (mB_n1 (by assumption)))]; done) | (rw [ro_zero (by assumption)]; done) | (rw [ro_hit (by assumption) hp (mB_n0 (by assumption))]; done))) (lv_to (lv_sub (l' := [(5, .int (nI (i + 1))), (4, .int (nI ((roS g b z i).2))), (3, .ref o_1), (0, .ref h0), (1, .int (nI b)), (2, .int (nI z))]) hl [0, 2, 3, 4, 5, 6] rfl) (by first | (rw [ro_skip (fun q => absurd q.1 (pinV_neg (by assumption)))]; done) | (rw [ro_skip (fun q => absurd q.2 (mB_n1 (by assumption)))]; done) | (rw [ro_zero (by assumption)]; done) | (rw [ro_hit (by assumption) hp (mB_n0 (by assumption))]; done)))
          · refine lv_iload C.x C.b dX5_behind_42 (lv_at hl 2 rfl) ?_
            refine x_if_ne C (by omega) (tgt := 50) dX5_behind_44 (by decide) (fun c_6 => ?_) (fun c_6 => ?_)
            · refine lv_aload_n C.x C.b dX5_behind_50 rfl (lv_at hl 3 rfl) ?_
              refine lv_iload C.x C.b dX5_behind_51 (lv_at hl 0 rfl) ?_
              refine lv_iload C.x C.b dX5_behind_53 (lv_at hl 2 rfl) ?_
              refine x_cSV C hW (As := [.ref o_1, .int (pinV (pinQ (nI i) (nI z))), .int (nI ((roS g b z i).2))]) (rest := []) (wr := [(h0, bI E 9 (mB g))]) (wn := [(h0, bI E 9 (mB g)), (o_1, bI E 9 (mB (hiF 3 ((roS g b z i).1) (pinQ (nI i) (nI z)) (nI ((roS g b z i).2)))))]) (met_X5_hit_3 l E o_1 ((roS g b z i).1) (pinQ (nI i) (nI z)) (nI ((roS g b z i).2)) (pinQ_le _ _) (Nat.lt_of_le_of_lt hro.1 hg) (by rw [nI_toInt (by omega)]; omega)) gX5_behind_X5_hit rfl 3 rfl ⟨rfl, rfl⟩ ⟨by decide +kernel, by decide +kernel, by decide +kernel⟩ ⟨Nat.le_of_ble_eq_true rfl, Nat.le_of_ble_eq_true rfl⟩ [1] [0] [0, 1] rfl (by decide) rfl (by decide) (by decide) rfl (by decide) hl.1 rfl (Nat.le_of_ble_eq_true rfl) dX5_behind_55 ⟨Nat.le_of_ble_eq_true rfl, Nat.le_of_ble_eq_true rfl⟩ (fun H locs hW => ?_)
              refine lv_iinc (k := 2) (v := nI (((roS g b z i).2) - 1)) (lv' := [(4, .int (nI (((roS g b z i).2) - 1))), (6, .int (pinV (pinQ (nI i) (nI z)))), (5, .int (nI i)), (3, .ref o_1), (0, .ref h0), (1, .int (nI b)), (2, .int (nI z))]) C.x C.b dX5_behind_58 hl rfl (z_dec1 (by omega)) (by decide) rfl (fun ls hl => ?_)
              refine lv_iinc (k := 2) (v := nI (i + 1)) (lv' := [(5, .int (nI (i + 1))), (4, .int (nI (((roS g b z i).2) - 1))), (6, .int (pinV (pinQ (nI i) (nI z)))), (3, .ref o_1), (0, .ref h0), (1, .int (nI b)), (2, .int (nI z))]) C.x C.b dX5_behind_61 hl rfl (z_inc i 1) (by decide) rfl (fun ls hl => ?_)
              refine lv_goto (tgt := 16) C.x C.b dX5_behind_64 (by decide) ?_
              exact ih2 (i + 1) (by omega) (by omega)  _ _ _ (hW.to (by first | (rw [ro_skip (fun q => absurd q.1 (pinV_neg (by assumption)))]; done) | (rw [ro_skip (fun q => absurd q.2 (mB_n1 (by assumption)))]; done) | (rw [ro_zero (by assumption)]; done) | (rw [ro_hit (by assumption) hp (mB_n0 (by assumption))]; done))) (lv_to (lv_sub (l' := [(5, .int (nI (i + 1))), (4, .int (nI (((roS g b z i).2) - 1))), (3, .ref o_1), (0, .ref h0), (1, .int (nI b)), (2, .int (nI z))]) hl [0, 1, 3, 4, 5, 6] rfl) (by first | (rw [ro_skip (fun q => absurd q.1 (pinV_neg (by assumption)))]; done) | (rw [ro_skip (fun q => absurd q.2 (mB_n1 (by assumption)))]; done) | (rw [ro_zero (by assumption)]; done) | (rw [ro_hit (by assumption) hp (mB_n0 (by assumption))]; done)))
            · refine lv_goto (tgt := 61) C.x C.b dX5_behind_47 (by decide) ?_
              refine lv_iinc (k := 1) (v := nI (i + 1)) (lv' := [(5, .int (nI (i + 1))), (6, .int (pinV (pinQ (nI i) (nI z)))), (4, .int (nI ((roS g b z i).2))), (3, .ref o_1), (0, .ref h0), (1, .int (nI b)), (2, .int (nI z))]) C.x C.b dX5_behind_61 hl rfl (z_inc i 1) (by decide) rfl (fun ls hl => ?_)
              refine lv_goto (tgt := 16) C.x C.b dX5_behind_64 (by decide) ?_
              exact ih2 (i + 1) (by omega) (by omega)  _ _ _ (hW.to (by first | (rw [ro_skip (fun q => absurd q.1 (pinV_neg (by assumption)))]; done) | (rw [ro_skip (fun q => absurd q.2 (mB_n1 (by assumption)))]; done) | (rw [ro_zero (by assumption)]; done) | (rw [ro_hit (by assumption) hp (mB_n0 (by assumption))]; done))) (lv_to (lv_sub (l' := [(5, .int (nI (i + 1))), (4, .int (nI ((roS g b z i).2))), (3, .ref o_1), (0, .ref h0), (1, .int (nI b)), (2, .int (nI z))]) hl [0, 2, 3, 4, 5, 6] rfl) (by first | (rw [ro_skip (fun q => absurd q.1 (pinV_neg (by assumption)))]; done) | (rw [ro_skip (fun q => absurd q.2 (mB_n1 (by assumption)))]; done) | (rw [ro_zero (by assumption)]; done) | (rw [ro_hit (by assumption) hp (mB_n0 (by assumption))]; done)))
  exact lp_2 (5 + 1) 0 (by omega) (by omega)  _ _ _ (hW.to rfl) (lv_to (lv_sub (l' := [(5, .int (nI 0)), (4, .int (nI (b + 2))), (3, .ref o_1), (0, .ref h0), (1, .int (nI b)), (2, .int (nI z))]) hl [0, 1, 2, 3, 4, 5] rfl) rfl)

set_option maxHeartbeats 4000000 in
set_option maxRecDepth 100000 in
theorem met_X5_setUp (l : Launch) (E : EV) (h0 k1 k2 k3 k4 : Nat) (sp pl tu fr nf : Nat) (g : Nat) (w : Nat → Nat) (hg : g < 512) (hw : ∀ i, w i ≤ 12) : MV l yX5_setUp wsX5_setUp { frames := 0, cells := 0, slots := 0, locals := 0 } E [.ref h0] [(h0, .inr (4, [.ref k1, .ref k2, .ref k3, .int (nI sp), .int (nI pl), .int (nI tu), .int (nI fr), .int (nI nf), .ref k4])), (k1, bI E 9 (mB g)), (k2, aI E 9 w)] [(h0, .inr (4, [.ref k1, .ref k2, .ref k3, .int (nI sp), .int (nI pl), .int (nI tu), .int (nI fr), .int (nI nf), .ref k4])), (k1, bI E 9 (mB (suN w 9))), (k2, aI E 9 w)] := by
  refine sV (own := RX5) (cc := cX5_setUp) (maxL := 2) rfl (by decide) rfl (Nat.le_of_ble_eq_true rfl) ?_
  intro p e s m below meth c C hnm ls hl hW
  have hl : lv_has ls 2 [(0, .ref h0)] := hl
  have hW : WD E _ s [(h0, .inr (4, [.ref k1, .ref k2, .ref k3, .int (nI sp), .int (nI pl), .int (nI tu), .int (nI fr), .int (nI nf), .ref k4])), (k1, bI E 9 (mB g)), (k2, aI E 9 w)] s.heap [] := hW
  have hinX5 : ∀ w ∈ u_ws RX5 TX5 9, w ∈ wsX5_setUp := by decide +kernel
  have hf7 : Cond.fieldLink RX5 7 (TX5 0).1 (TX5 0).2.1 (TX5 0).2.2.1 ∈ wsX5_setUp := by decide +kernel
  have hf13 : Cond.fieldLink RX5 13 (TX5 1).1 (TX5 1).2.1 (TX5 1).2.2.1 ∈ wsX5_setUp := by decide +kernel
  refine lv_iconst (v := nI 0) C.x C.b dX5_setUp_0 (by decide) ?_
  refine lv_istore_n (lv' := [(1, .int (nI 0)), (0, .ref h0)]) C.x C.b dX5_setUp_1 rfl hl (by decide) rfl (fun ls hl => ?_)
  have lp_1 : ∀ (n1 i : Nat), i ≤ 9 → 9 + 1 ≤ i + n1 → ∀ (H : Heap) (locs : List Loc) (ls : Array Slot), WD E (va_A [(h0, .inr (4, [.ref k1, .ref k2, .ref k3, .int (nI sp), .int (nI pl), .int (nI tu), .int (nI fr), .int (nI nf), .ref k4])), (k1, bI E 9 (mB g)), (k2, aI E 9 w)] s.heap.size) s [(h0, .inr (4, [.ref k1, .ref k2, .ref k3, .int (nI sp), .int (nI pl), .int (nI tu), .int (nI fr), .int (nI nf), .ref k4])), (k1, bI E 9 (suB w (mB g) i)), (k2, aI E 9 w)] H locs → lv_has ls 2 [(1, .int (nI i)), (0, .ref h0)] → W p l e ({ frames := 0, cells := 0, slots := 0, locals := 0 } : Room) s m ([.ref h0] : List Value).toArray below meth c H locs 0 0 (QV E [(h0, .inr (4, [.ref k1, .ref k2, .ref k3, .int (nI sp), .int (nI pl), .int (nI tu), .int (nI fr), .int (nI nf), .ref k4])), (k1, bI E 9 (mB g)), (k2, aI E 9 w)] [(h0, .inr (4, [.ref k1, .ref k2, .ref k3, .int (nI sp), .int (nI pl), .int (nI tu), .int (nI fr), .int (nI nf), .ref k4])), (k1, bI E 9 (mB (suN w 9))), (k2, aI E 9 w)] below ([.ref h0] : List Value).toArray s) (F0 m 2 ls []) := by
    intro n1
    induction n1 with
    | zero => intro i hi hn; exact absurd hn (by omega)
    | succ n1 ih1 =>
      intro i hi hn  H locs ls hW hl
      have h9 := hw i
      refine lv_iload_n C.x C.b dX5_setUp_2 rfl (lv_at hl 0 rfl) ?_
      refine lv_bipush (v := nI 9) C.x C.b dX5_setUp_3 (by decide) ?_
      refine x_icmp_ge C (by omega) (by omega) (tgt := 36) dX5_setUp_5 (by decide) (fun c_2 => ?_) (fun c_2 => ?_)
      · obtain rfl : i = 9 := by omega
        exact x_vret C hW (by rw [suB_9 hg]) dX5_setUp_36
      · refine lv_aload_n C.x C.b dX5_setUp_8 rfl (lv_at hl 1 rfl) ?_
        refine x_get C hW 0 4 0 (Cn := RX5) (T := TX5) (N := 9) rfl rfl (by decide) hinX5 hf7 rfl dX5_setUp_9 ?_
        refine lv_iload_n C.x C.b dX5_setUp_12 rfl (lv_at hl 0 rfl) ?_
        refine lv_aload_n C.x C.b dX5_setUp_13 rfl (lv_at hl 1 rfl) ?_
        refine x_get C hW 0 4 1 (Cn := RX5) (T := TX5) (N := 9) rfl rfl (by decide) hinX5 hf13 rfl dX5_setUp_14 ?_
        refine lv_iload_n C.x C.b dX5_setUp_17 rfl (lv_at hl 0 rfl) ?_
        refine x_ald C hW 2 i rfl rfl (by omega) (by decide) dX5_setUp_18 ?_
        refine lv_bipush (v := nI 12) C.x C.b dX5_setUp_19 (by decide) ?_
        refine x_icmp_ge C (by omega) (by omega) (tgt := 28) dX5_setUp_21 (by decide) (fun c_3 => ?_) (fun c_3 => ?_)
        · refine lv_iconst (v := nI 0) C.x C.b dX5_setUp_28 (by decide) ?_
          refine x_zst C hW 1 i 0 rfl rfl rfl (by decide) (by omega) (by decide) dX5_setUp_29 (w' := [(h0, .inr (4, [.ref k1, .ref k2, .ref k3, .int (nI sp), .int (nI pl), .int (nI tu), .int (nI fr), .int (nI nf), .ref k4])), (k1, bI E 9 (upN (suB w (mB g) i) i 0)), (k2, aI E 9 w)]) rfl (fun H locs hW => ?_)
          refine lv_iinc (k := 0) (v := nI (i + 1)) (lv' := [(1, .int (nI (i + 1))), (0, .ref h0)]) C.x C.b dX5_setUp_30 hl rfl (z_inc i 1) (by decide) rfl (fun ls hl => ?_)
          refine lv_goto (tgt := 2) C.x C.b dX5_setUp_33 (by decide) ?_
          exact ih1 (i + 1) (by omega) (by omega)  _ _ _ (hW.to (by first | (rw [show suB w (mB g) (i + 1) = upN (suB w (mB g) i) i 1 from by simp only [suB]; rw [if_pos (by omega)]]; done) | (rw [show suB w (mB g) (i + 1) = upN (suB w (mB g) i) i 0 from by simp only [suB]; rw [if_neg (by omega)]]; done))) (lv_to (lv_sub (l' := [(1, .int (nI (i + 1))), (0, .ref h0)]) hl [0, 1] rfl) (by first | rfl | (simp [c_2, c_3]; done) | (rw [if_pos (by omega)]; done) | (rw [if_neg (by omega)]; done) | (exfalso; omega) | ((repeat' split) <;> first | rfl | contradiction | (exfalso; omega))))
        · refine lv_iconst (v := nI 1) C.x C.b dX5_setUp_24 (by decide) ?_
          refine lv_goto (tgt := 29) C.x C.b dX5_setUp_25 (by decide) ?_
          refine x_zst C hW 1 i 1 rfl rfl rfl (by decide) (by omega) (by decide) dX5_setUp_29 (w' := [(h0, .inr (4, [.ref k1, .ref k2, .ref k3, .int (nI sp), .int (nI pl), .int (nI tu), .int (nI fr), .int (nI nf), .ref k4])), (k1, bI E 9 (upN (suB w (mB g) i) i 1)), (k2, aI E 9 w)]) rfl (fun H locs hW => ?_)
          refine lv_iinc (k := 0) (v := nI (i + 1)) (lv' := [(1, .int (nI (i + 1))), (0, .ref h0)]) C.x C.b dX5_setUp_30 hl rfl (z_inc i 1) (by decide) rfl (fun ls hl => ?_)
          refine lv_goto (tgt := 2) C.x C.b dX5_setUp_33 (by decide) ?_
          exact ih1 (i + 1) (by omega) (by omega)  _ _ _ (hW.to (by first | (rw [show suB w (mB g) (i + 1) = upN (suB w (mB g) i) i 1 from by simp only [suB]; rw [if_pos (by omega)]]; done) | (rw [show suB w (mB g) (i + 1) = upN (suB w (mB g) i) i 0 from by simp only [suB]; rw [if_neg (by omega)]]; done))) (lv_to (lv_sub (l' := [(1, .int (nI (i + 1))), (0, .ref h0)]) hl [0, 1] rfl) (by first | rfl | (simp [c_2, c_3]; done) | (rw [if_pos (by omega)]; done) | (rw [if_neg (by omega)]; done) | (exfalso; omega) | ((repeat' split) <;> first | rfl | contradiction | (exfalso; omega))))
  exact lp_1 (9 + 1) 0 (by omega) (by omega)  _ _ _ (hW.to rfl) (lv_to (lv_sub (l' := [(1, .int (nI 0)), (0, .ref h0)]) hl [0, 1] rfl) rfl)

set_option maxHeartbeats 4000000 in
set_option maxRecDepth 100000 in
theorem met_X5_isOver (l : Launch) (E : EV) (h0 k1 k2 k3 k4 : Nat) (sp pl tu fr nf : Nat) (hfr : fr ≤ 10) : MI l yX5_isOver wsX5_isOver { frames := 0, cells := 0, slots := 0, locals := 0 } E [.ref h0] [(h0, .inr (4, [.ref k1, .ref k2, .ref k3, .int (nI sp), .int (nI pl), .int (nI tu), .int (nI fr), .int (nI nf), .ref k4]))] (nI (if fr = 10 then 1 else 0)) [(h0, .inr (4, [.ref k1, .ref k2, .ref k3, .int (nI sp), .int (nI pl), .int (nI tu), .int (nI fr), .int (nI nf), .ref k4]))] := by
  refine sI (own := RX5) (cc := cX5_isOver) (maxL := 1) (ret := (some .boolean)) rfl (by decide) rfl (Nat.le_of_ble_eq_true rfl) ?_
  intro p e s m below meth c C hnm ls hl hW
  have hl : lv_has ls 1 [(0, .ref h0)] := hl
  have hW : WD E _ s [(h0, .inr (4, [.ref k1, .ref k2, .ref k3, .int (nI sp), .int (nI pl), .int (nI tu), .int (nI fr), .int (nI nf), .ref k4]))] s.heap [] := hW
  have hinX5 : ∀ w ∈ u_ws RX5 TX5 9, w ∈ wsX5_isOver := by decide +kernel
  have hf50 : Cond.fieldLink RX5 50 (TX5 6).1 (TX5 6).2.1 (TX5 6).2.2.1 ∈ wsX5_isOver := by decide +kernel
  refine lv_aload_n C.x C.b dX5_isOver_0 rfl (lv_at hl 0 rfl) ?_
  refine x_get C hW 0 4 6 (Cn := RX5) (T := TX5) (N := 9) rfl rfl (by decide) hinX5 hf50 rfl dX5_isOver_1 ?_
  refine lv_bipush (v := nI 10) C.x C.b dX5_isOver_4 (by decide) ?_
  refine x_icmp_ne C (by omega) (by omega) (tgt := 13) dX5_isOver_6 (by decide) (fun c_1 => ?_) (fun c_1 => ?_)
  · refine lv_iconst (v := nI 0) C.x C.b dX5_isOver_13 (by decide) ?_
    exact x_iret C hW (by first | rfl | exact z_narb _) (by first | rfl | (simp [c_1]; done) | (rw [if_pos (by omega)]; done) | (rw [if_neg (by omega)]; done) | (exfalso; omega) | ((repeat' split) <;> first | rfl | contradiction | (exfalso; omega))) rfl dX5_isOver_14
  · refine lv_iconst (v := nI 1) C.x C.b dX5_isOver_9 (by decide) ?_
    refine lv_goto (tgt := 14) C.x C.b dX5_isOver_10 (by decide) ?_
    exact x_iret C hW (by first | rfl | exact z_narb _) (by first | rfl | (simp [c_1]; done) | (rw [if_pos (by omega)]; done) | (rw [if_neg (by omega)]; done) | (exfalso; omega) | ((repeat' split) <;> first | rfl | contradiction | (exfalso; omega))) rfl dX5_isOver_14

set_option maxHeartbeats 4000000 in
set_option maxRecDepth 100000 in
theorem met_X5_canThrow (l : Launch) (E : EV) (h0 k1 k2 k3 k4 : Nat) (sp pl tu fr nf : Nat) (aw : Nat → Nat) (b : Nat) (hfr : fr ≤ 10) (hpl : pl ≤ 4) (hb : b < 5) (ha : ∀ i, aw i ≤ 2) : MI l yX5_canThrow wsX5_canThrow { frames := 1, cells := 0, slots := 0, locals := 20 } E [.ref h0, .int (nI b)] [(h0, .inr (4, [.ref k1, .ref k2, .ref k3, .int (nI sp), .int (nI pl), .int (nI tu), .int (nI fr), .int (nI nf), .ref k4])), (k3, aI E 5 aw)] (nI (if 0 < pl ∧ ¬ fr = 10 ∧ aw b = 0 then 1 else 0)) [(h0, .inr (4, [.ref k1, .ref k2, .ref k3, .int (nI sp), .int (nI pl), .int (nI tu), .int (nI fr), .int (nI nf), .ref k4])), (k3, aI E 5 aw)] := by
  refine sI (own := RX5) (cc := cX5_canThrow) (maxL := 2) (ret := (some .boolean)) rfl (by decide) rfl (Nat.le_of_ble_eq_true rfl) ?_
  intro p e s m below meth c C hnm ls hl hW
  have hl : lv_has ls 2 [(0, .ref h0), (1, .int (nI b))] := hl
  have hW : WD E _ s [(h0, .inr (4, [.ref k1, .ref k2, .ref k3, .int (nI sp), .int (nI pl), .int (nI tu), .int (nI fr), .int (nI nf), .ref k4])), (k3, aI E 5 aw)] s.heap [] := hW
  have hinX5 : ∀ w ∈ u_ws RX5 TX5 9, w ∈ wsX5_canThrow := by decide +kernel
  have hf17 : Cond.fieldLink RX5 17 (TX5 2).1 (TX5 2).2.1 (TX5 2).2.2.1 ∈ wsX5_canThrow := by decide +kernel
  have hf53 : Cond.fieldLink RX5 53 (TX5 4).1 (TX5 4).2.1 (TX5 4).2.2.1 ∈ wsX5_canThrow := by decide +kernel
  refine lv_aload_n C.x C.b dX5_canThrow_0 rfl (lv_at hl 0 rfl) ?_
  refine x_get C hW 0 4 4 (Cn := RX5) (T := TX5) (N := 9) rfl rfl (by decide) hinX5 hf53 rfl dX5_canThrow_1 ?_
  refine x_if_le C (by omega) (tgt := 27) dX5_canThrow_4 (by decide) (fun c_1 => ?_) (fun c_1 => ?_)
  · refine lv_iconst (v := nI 0) C.x C.b dX5_canThrow_27 (by decide) ?_
    exact x_iret C hW (by first | rfl | exact z_narb _) (by first | rfl | (simp [c_1]; done) | (rw [if_pos (by omega)]; done) | (rw [if_neg (by omega)]; done) | (exfalso; omega) | ((repeat' split) <;> first | rfl | contradiction | (exfalso; omega))) rfl dX5_canThrow_28
  · refine lv_aload_n C.x C.b dX5_canThrow_7 rfl (lv_at hl 0 rfl) ?_
    refine x_cVI C hW (As := []) (rest := []) (wr := [(k3, aI E 5 aw)]) (wn := [(h0, .inr (4, [.ref k1, .ref k2, .ref k3, .int (nI sp), .int (nI pl), .int (nI tu), .int (nI fr), .int (nI nf), .ref k4])), (k3, aI E 5 aw)]) (Cn := RX5) (met_X5_isOver l E h0 k1 k2 k3 k4 sp pl tu fr nf (by omega)) gX5_canThrow_X5_isOver rfl 0 rfl ⟨rfl, rfl⟩ ⟨rfl, by decide +kernel, by decide +kernel, by decide +kernel⟩ ⟨Nat.le_of_ble_eq_true rfl, Nat.le_of_ble_eq_true rfl⟩ [0] [1] [1, 0] rfl (by decide) rfl (by decide) (by decide) rfl (by decide) 0 4 rfl rfl hl.1 rfl (Nat.le_of_ble_eq_true rfl) dX5_canThrow_8 ⟨Nat.zero_le _, Nat.zero_le _⟩ (fun H locs hW => ?_)
    refine x_ifb_ne C (tgt := 27) dX5_canThrow_11 (by decide) (fun c_2 => ?_) (fun c_2 => ?_)
    · refine lv_iconst (v := nI 0) C.x C.b dX5_canThrow_27 (by decide) ?_
      exact x_iret C hW (by first | rfl | exact z_narb _) (by first | rfl | (simp [c_1, c_2]; done) | (rw [if_pos (by omega)]; done) | (rw [if_neg (by omega)]; done) | (exfalso; omega) | ((repeat' split) <;> first | rfl | contradiction | (exfalso; omega))) rfl dX5_canThrow_28
    · refine lv_aload_n C.x C.b dX5_canThrow_14 rfl (lv_at hl 0 rfl) ?_
      have h9 := ha b
      refine x_get C hW 0 4 2 (Cn := RX5) (T := TX5) (N := 9) rfl rfl (by decide) hinX5 hf17 rfl dX5_canThrow_15 ?_
      refine lv_iload_n C.x C.b dX5_canThrow_18 rfl (lv_at hl 1 rfl) ?_
      refine x_ald C hW 1 b rfl rfl (by omega) (by decide) dX5_canThrow_19 ?_
      refine x_if_ne C (by omega) (tgt := 27) dX5_canThrow_20 (by decide) (fun c_3 => ?_) (fun c_3 => ?_)
      · refine lv_iconst (v := nI 0) C.x C.b dX5_canThrow_27 (by decide) ?_
        exact x_iret C hW (by first | rfl | exact z_narb _) (by first | rfl | (simp [c_1, c_2, c_3]; done) | (rw [if_pos (by omega)]; done) | (rw [if_neg (by omega)]; done) | (exfalso; omega) | ((repeat' split) <;> first | rfl | contradiction | (exfalso; omega))) rfl dX5_canThrow_28
      · refine lv_iconst (v := nI 1) C.x C.b dX5_canThrow_23 (by decide) ?_
        refine lv_goto (tgt := 28) C.x C.b dX5_canThrow_24 (by decide) ?_
        exact x_iret C hW (by first | rfl | exact z_narb _) (by first | rfl | (simp [c_1, c_2, c_3]; done) | (rw [if_pos (by omega)]; done) | (rw [if_neg (by omega)]; done) | (exfalso; omega) | ((repeat' split) <;> first | rfl | contradiction | (exfalso; omega))) rfl dX5_canThrow_28
