/-! THE WRITER'S OWN KIT, 8: calls -/
section YC
variable {p : Program} {l : Launch} {e : Env} {R : Room} {s : State} {m : MethodId} {args : Array Value} {below : List Frame} {meth : Method} {c : Code} {H : Heap} {locs : List Loc} {cells slots : Nat} {Q : State → Prop}
variable {cc : ByteArray} {pc nL : Nat} {ls : Array Slot} {rest st0 : List Value} {own : String} {Ts : List Cond} {ret : Option FieldType} {E : EV} {A : Nat → Prop} {w : va_W}
theorem x_rVI (C : CX p s m args meth c cc nL own Ts ret E A) (hW : WD E A s w H locs) {y : MethodName} {wsY wsY' : List Cond} {rm : Room} {b : Nat} {As : List Value} {wc : va_W} {r : Int32} (hM : MI l y wsY rm E (.ref b :: As) wc r wc) {Cn : String} {index maxL : Nat} {bytes : ByteArray} {rty : Option FieldType} (hg : GoodIn Ts (wsV own index Cn y wsY)) (hwY : wsY = Cond.code y bytes maxL rty :: wsY') (na : Nat) (hna : As.length = na) (h0 : rm.cells = 0 ∧ rm.slots = 0) (hd : y.cls = Cn ∧ y.cls ≠ "java/lang/invoke/MethodHandle" ∧ y.cls ≠ "java/lang/invoke/VarHandle" ∧ (parseMethodDescriptor y.desc).map (fun d => d.parameters.length) = some na) (hR : rm.frames + 1 ≤ R.frames ∧ 8 + (maxL + 11) + rm.locals ≤ R.locals)
    (isC : List Nat) (hC : isC.map (fun i => w[i]?) = wc.map some) (hCn : va_nd isC = true) (q0 ci : Nat) {fs : List Value} {T : u_T} {N : Nat} (hc : vwCl[ci]? = some (Cn, T, N)) (he : w[q0]? = some (b, .inr (ci, fs))) (hls : ls.size = nL) (hst : st0 = As.reverse ++ .ref b :: rest) (hrest : (rest.map fun v => v.category).sum ≤ 8) (hdg : decode cc pc = .ok (.invokevirtual index, 3)) (hf : cells + 0 ≤ R.cells ∧ slots + 0 ≤ R.slots)
    (kk : ∀ (H1 : Heap) (locs1 : List Loc), WD E A s w H1 locs1 → W p l e R s m args below meth c H1 locs1 cells slots Q (F0 m (pc + 3) ls (.int r :: rest))) : W p l e R s m args below meth c H locs cells slots Q (F0 m pc ls st0) := by
  obtain ⟨hP, hD, hS⟩ := hW
  subst hst
  have hPc := hP.sub isC (map_fm hC)
  have hDc := hD.sub isC hCn hC
  have hFc := va_free (wc := wc) hD hS C.ar isC hC
  have hIn : ∀ (k : Nat) (q : Nat × va_E), wc[k]? = some q → ∃ i : Nat, w[i]? = some q := fun k q h => (va_in_of isC hC h).elim (fun i h2 => ⟨i, h2.2⟩)
  have hPre : ∀ U : State, U.heap = H → s.WarmedH U.vm → va_Pc (.ref b :: As) (XP E wc H.size) (Value.ref b :: As).toArray U := fun U hU hW => ⟨rfl, by rw [hU], by rw [hU]; exact hPc, va_K.moved hW.alike C.K, hDc.weaken (fun _ _ _ _ => trivial), C.G.to (by rw [hU]; exact hS.2.1) hFc hW⟩
  refine va_calli (va_runV (As := As) (rest := rest) C.fix (hM H.size) (cwV na C.ts hg hwY h0.1 h0.2 hd hR) ⟨fun a U g mk q => ⟨q.1, q.2.calling⟩, va_recv C.K hP hc he, hPre⟩ rfl hna hls rfl (lv_room hrest) hdg hf) hS (fun q _ h => hFc q h) hFc (fun r2 u t H1 locs1 ht hvm hw2 hB hz1 hk1 hS1 => ?_)
  subst hw2
  obtain ⟨hP1, hK1, hD1⟩ := hB
  rw [ht] at hP1
  exact kk H1 locs1 ⟨va_look hP hD hIn hk1 hP1, hD, hS1⟩
theorem x_rVL (C : CX p s m args meth c cc nL own Ts ret E A) (hW : WD E A s w H locs) {y : MethodName} {wsY wsY' : List Cond} {rm : Room} {b : Nat} {As : List Value} {wc : va_W} {r : Int64} (hM : ML l y wsY rm E (.ref b :: As) wc r wc) {Cn : String} {index maxL : Nat} {bytes : ByteArray} {rty : Option FieldType} (hg : GoodIn Ts (wsV own index Cn y wsY)) (hwY : wsY = Cond.code y bytes maxL rty :: wsY') (na : Nat) (hna : As.length = na) (h0 : rm.cells = 0 ∧ rm.slots = 0) (hd : y.cls = Cn ∧ y.cls ≠ "java/lang/invoke/MethodHandle" ∧ y.cls ≠ "java/lang/invoke/VarHandle" ∧ (parseMethodDescriptor y.desc).map (fun d => d.parameters.length) = some na) (hR : rm.frames + 1 ≤ R.frames ∧ 8 + (maxL + 11) + rm.locals ≤ R.locals)
    (isC : List Nat) (hC : isC.map (fun i => w[i]?) = wc.map some) (hCn : va_nd isC = true) (q0 ci : Nat) {fs : List Value} {T : u_T} {N : Nat} (hc : vwCl[ci]? = some (Cn, T, N)) (he : w[q0]? = some (b, .inr (ci, fs))) (hls : ls.size = nL) (hst : st0 = As.reverse ++ .ref b :: rest) (hrest : (rest.map fun v => v.category).sum ≤ 8) (hdg : decode cc pc = .ok (.invokevirtual index, 3)) (hf : cells + 0 ≤ R.cells ∧ slots + 0 ≤ R.slots)
    (kk : ∀ (H1 : Heap) (locs1 : List Loc), WD E A s w H1 locs1 → W p l e R s m args below meth c H1 locs1 cells slots Q (F0 m (pc + 3) ls (.long r :: rest))) : W p l e R s m args below meth c H locs cells slots Q (F0 m pc ls st0) := by
  obtain ⟨hP, hD, hS⟩ := hW
  subst hst
  have hPc := hP.sub isC (map_fm hC)
  have hDc := hD.sub isC hCn hC
  have hFc := va_free (wc := wc) hD hS C.ar isC hC
  have hIn : ∀ (k : Nat) (q : Nat × va_E), wc[k]? = some q → ∃ i : Nat, w[i]? = some q := fun k q h => (va_in_of isC hC h).elim (fun i h2 => ⟨i, h2.2⟩)
  have hPre : ∀ U : State, U.heap = H → s.WarmedH U.vm → va_Pc (.ref b :: As) (XP E wc H.size) (Value.ref b :: As).toArray U := fun U hU hW => ⟨rfl, by rw [hU], by rw [hU]; exact hPc, va_K.moved hW.alike C.K, hDc.weaken (fun _ _ _ _ => trivial), C.G.to (by rw [hU]; exact hS.2.1) hFc hW⟩
  refine va_calll (va_runV (As := As) (rest := rest) C.fix (hM H.size) (cwV na C.ts hg hwY h0.1 h0.2 hd hR) ⟨fun a U g mk q => ⟨q.1, q.2.calling⟩, va_recv C.K hP hc he, hPre⟩ rfl hna hls rfl (lv_room hrest) hdg hf) hS (fun q _ h => hFc q h) hFc (fun r2 u t H1 locs1 ht hvm hw2 hB hz1 hk1 hS1 => ?_)
  subst hw2
  obtain ⟨hP1, hK1, hD1⟩ := hB
  rw [ht] at hP1
  exact kk H1 locs1 ⟨va_look hP hD hIn hk1 hP1, hD, hS1⟩
theorem x_rVD (C : CX p s m args meth c cc nL own Ts ret E A) (hW : WD E A s w H locs) {y : MethodName} {wsY wsY' : List Cond} {rm : Room} {b : Nat} {As : List Value} {wc : va_W} {r : UInt64} (hM : MD l y wsY rm E (.ref b :: As) wc r wc) {Cn : String} {index maxL : Nat} {bytes : ByteArray} {rty : Option FieldType} (hg : GoodIn Ts (wsV own index Cn y wsY)) (hwY : wsY = Cond.code y bytes maxL rty :: wsY') (na : Nat) (hna : As.length = na) (h0 : rm.cells = 0 ∧ rm.slots = 0) (hd : y.cls = Cn ∧ y.cls ≠ "java/lang/invoke/MethodHandle" ∧ y.cls ≠ "java/lang/invoke/VarHandle" ∧ (parseMethodDescriptor y.desc).map (fun d => d.parameters.length) = some na) (hR : rm.frames + 1 ≤ R.frames ∧ 8 + (maxL + 11) + rm.locals ≤ R.locals)
    (isC : List Nat) (hC : isC.map (fun i => w[i]?) = wc.map some) (hCn : va_nd isC = true) (q0 ci : Nat) {fs : List Value} {T : u_T} {N : Nat} (hc : vwCl[ci]? = some (Cn, T, N)) (he : w[q0]? = some (b, .inr (ci, fs))) (hls : ls.size = nL) (hst : st0 = As.reverse ++ .ref b :: rest) (hrest : (rest.map fun v => v.category).sum ≤ 8) (hdg : decode cc pc = .ok (.invokevirtual index, 3)) (hf : cells + 0 ≤ R.cells ∧ slots + 0 ≤ R.slots)
    (kk : ∀ (H1 : Heap) (locs1 : List Loc), WD E A s w H1 locs1 → W p l e R s m args below meth c H1 locs1 cells slots Q (F0 m (pc + 3) ls (.double r :: rest))) : W p l e R s m args below meth c H locs cells slots Q (F0 m pc ls st0) := by
  obtain ⟨hP, hD, hS⟩ := hW
  subst hst
  have hPc := hP.sub isC (map_fm hC)
  have hDc := hD.sub isC hCn hC
  have hFc := va_free (wc := wc) hD hS C.ar isC hC
  have hIn : ∀ (k : Nat) (q : Nat × va_E), wc[k]? = some q → ∃ i : Nat, w[i]? = some q := fun k q h => (va_in_of isC hC h).elim (fun i h2 => ⟨i, h2.2⟩)
  have hPre : ∀ U : State, U.heap = H → s.WarmedH U.vm → va_Pc (.ref b :: As) (XP E wc H.size) (Value.ref b :: As).toArray U := fun U hU hW => ⟨rfl, by rw [hU], by rw [hU]; exact hPc, va_K.moved hW.alike C.K, hDc.weaken (fun _ _ _ _ => trivial), C.G.to (by rw [hU]; exact hS.2.1) hFc hW⟩
  refine va_calld (va_runV (As := As) (rest := rest) C.fix (hM H.size) (cwV na C.ts hg hwY h0.1 h0.2 hd hR) ⟨fun a U g mk q => ⟨q.1, q.2.calling⟩, va_recv C.K hP hc he, hPre⟩ rfl hna hls rfl (lv_room hrest) hdg hf) hS (fun q _ h => hFc q h) hFc (fun r2 u t H1 locs1 ht hvm hw2 hB hz1 hk1 hS1 => ?_)
  subst hw2
  obtain ⟨hP1, hK1, hD1⟩ := hB
  rw [ht] at hP1
  exact kk H1 locs1 ⟨va_look hP hD hIn hk1 hP1, hD, hS1⟩
theorem x_rSI (C : CX p s m args meth c cc nL own Ts ret E A) (hW : WD E A s w H locs) {y : MethodName} {wsY wsY' : List Cond} {rm : Room} {As : List Value} {wc : va_W} {r : Int32} (hM : MI l y wsY rm E As wc r wc) {index maxL : Nat} {bytes : ByteArray} {rty : Option FieldType} (hg : GoodIn Ts (va_wsS own index y wsY)) (hwY : wsY = Cond.code y bytes maxL rty :: wsY') (na : Nat) (hna : As.length = na) (h0 : rm.cells = 0 ∧ rm.slots = 0) (hd : y.cls ≠ "java/lang/invoke/MethodHandle" ∧ y.cls ≠ "java/lang/invoke/VarHandle" ∧ (parseMethodDescriptor y.desc).map (fun d => d.parameters.length) = some na) (hR : rm.frames + 1 ≤ R.frames ∧ 8 + (maxL + 11) + rm.locals ≤ R.locals)
    (isC : List Nat) (hC : isC.map (fun i => w[i]?) = wc.map some) (hCn : va_nd isC = true)  (hls : ls.size = nL) (hst : st0 = As.reverse ++ rest) (hrest : (rest.map fun v => v.category).sum ≤ 8) (hdg : decode cc pc = .ok (.invokestatic index, 3)) (hf : cells + 0 ≤ R.cells ∧ slots + 0 ≤ R.slots)
    (kk : ∀ (H1 : Heap) (locs1 : List Loc), WD E A s w H1 locs1 → W p l e R s m args below meth c H1 locs1 cells slots Q (F0 m (pc + 3) ls (.int r :: rest))) : W p l e R s m args below meth c H locs cells slots Q (F0 m pc ls st0) := by
  obtain ⟨hP, hD, hS⟩ := hW
  subst hst
  have hPc := hP.sub isC (map_fm hC)
  have hDc := hD.sub isC hCn hC
  have hFc := va_free (wc := wc) hD hS C.ar isC hC
  have hIn : ∀ (k : Nat) (q : Nat × va_E), wc[k]? = some q → ∃ i : Nat, w[i]? = some q := fun k q h => (va_in_of isC hC h).elim (fun i h2 => ⟨i, h2.2⟩)
  have hPre : ∀ U : State, U.heap = H → s.WarmedH U.vm → va_Pc As (XP E wc H.size) (As).toArray U := fun U hU hW => ⟨rfl, by rw [hU], by rw [hU]; exact hPc, va_K.moved hW.alike C.K, hDc.weaken (fun _ _ _ _ => trivial), C.G.to (by rw [hU]; exact hS.2.1) hFc hW⟩
  refine va_calli (va_runS (As := As) (rest := rest) C.fix (hM H.size) (va_cwS na C.ts hg hwY h0.1 h0.2 hd hR) ⟨fun a U g mk q => ⟨q.1, q.2.calling⟩, hPre⟩ rfl hna hls rfl (lv_room hrest) hdg hf) hS (fun q _ h => hFc q h) hFc (fun r2 u t H1 locs1 ht hvm hw2 hB hz1 hk1 hS1 => ?_)
  subst hw2
  obtain ⟨hP1, hK1, hD1⟩ := hB
  rw [ht] at hP1
  exact kk H1 locs1 ⟨va_look hP hD hIn hk1 hP1, hD, hS1⟩
theorem x_rVIa (C : CX p s m args meth c cc nL own Ts ret E A) (hW : WD E A s w H locs) {y : MethodName} {wsY wsY' : List Cond} {rm : Room} {b : Nat} {As : List Value} {wc : va_W} {r : Int32} {mc ms : Nat} (hM : MIa l y wsY rm E (.ref b :: As) wc mc ms r wc) {Cn : String} {index maxL : Nat} {bytes : ByteArray} {rty : Option FieldType} (hg : GoodIn Ts (wsV own index Cn y wsY)) (hwY : wsY = Cond.code y bytes maxL rty :: wsY') (na : Nat) (hna : As.length = na) (h0 : rm.cells = mc ∧ rm.slots = ms) (hd : y.cls = Cn ∧ y.cls ≠ "java/lang/invoke/MethodHandle" ∧ y.cls ≠ "java/lang/invoke/VarHandle" ∧ (parseMethodDescriptor y.desc).map (fun d => d.parameters.length) = some na) (hR : rm.frames + 1 ≤ R.frames ∧ 8 + (maxL + 11) + rm.locals ≤ R.locals)
    (isC : List Nat) (hC : isC.map (fun i => w[i]?) = wc.map some) (hCn : va_nd isC = true) (q0 ci : Nat) {fs : List Value} {T : u_T} {N : Nat} (hc : vwCl[ci]? = some (Cn, T, N)) (he : w[q0]? = some (b, .inr (ci, fs))) (hls : ls.size = nL) (hst : st0 = As.reverse ++ .ref b :: rest) (hrest : (rest.map fun v => v.category).sum ≤ 8) (hdg : decode cc pc = .ok (.invokevirtual index, 3)) (hf : cells + mc ≤ R.cells ∧ slots + ms ≤ R.slots)
    (kk : ∀ (H1 : Heap) (locs1 : List Loc), WD E A s w H1 locs1 → W p l e R s m args below meth c H1 locs1 (cells + mc) (slots + ms) Q (F0 m (pc + 3) ls (.int r :: rest))) : W p l e R s m args below meth c H locs cells slots Q (F0 m pc ls st0) := by
  obtain ⟨hP, hD, hS⟩ := hW
  subst hst
  have hPc := hP.sub isC (map_fm hC)
  have hDc := hD.sub isC hCn hC
  have hFc := va_free (wc := wc) hD hS C.ar isC hC
  have hIn : ∀ (k : Nat) (q : Nat × va_E), wc[k]? = some q → ∃ i : Nat, w[i]? = some q := fun k q h => (va_in_of isC hC h).elim (fun i h2 => ⟨i, h2.2⟩)
  have hPre : ∀ U : State, U.heap = H → s.WarmedH U.vm → va_Pc (.ref b :: As) (XP E wc H.size) (Value.ref b :: As).toArray U := fun U hU hW => ⟨rfl, by rw [hU], by rw [hU]; exact hPc, va_K.moved hW.alike C.K, hDc.weaken (fun _ _ _ _ => trivial), C.G.to (by rw [hU]; exact hS.2.1) hFc hW⟩
  refine va_calli (va_runV (As := As) (rest := rest) C.fix (hM H.size) (cwV na C.ts hg hwY h0.1 h0.2 hd hR) ⟨fun a U g mk q => ⟨q.1, q.2.calling⟩, va_recv C.K hP hc he, hPre⟩ rfl hna hls rfl (lv_room hrest) hdg hf) hS (fun q _ h => hFc q h) hFc (fun r2 u t H1 locs1 ht hvm hw2 hB hz1 hk1 hS1 => ?_)
  subst hw2
  obtain ⟨hP1, hK1, hD1⟩ := hB
  rw [ht] at hP1
  exact kk H1 locs1 ⟨va_look hP hD hIn hk1 hP1, hD, hS1⟩
theorem x_rVIaT (C : CX p s m args meth c cc nL own Ts ret E A) {X pl : va_W} (hW : WD E A s (X ++ pl) H locs) {y : MethodName} {wsY wsY' : List Cond} {rm : Room} {b : Nat} {As : List Value} {cx : va_W} {r : Int32} {mc ms : Nat} (hM : MIa l y wsY rm E (.ref b :: As) (cx ++ pl) mc ms r (cx ++ pl)) {Cn : String} {index maxL : Nat} {bytes : ByteArray} {rty : Option FieldType} (hg : GoodIn Ts (wsV own index Cn y wsY)) (hwY : wsY = Cond.code y bytes maxL rty :: wsY') (na : Nat) (hna : As.length = na) (h0 : rm.cells = mc ∧ rm.slots = ms) (hd : y.cls = Cn ∧ y.cls ≠ "java/lang/invoke/MethodHandle" ∧ y.cls ≠ "java/lang/invoke/VarHandle" ∧ (parseMethodDescriptor y.desc).map (fun d => d.parameters.length) = some na) (hR : rm.frames + 1 ≤ R.frames ∧ 8 + (maxL + 11) + rm.locals ≤ R.locals)
    (isC : List Nat) (hC : isC.map (fun i => X[i]?) = cx.map some) (hCn : va_nd isC = true) (q0 ci : Nat) {fs : List Value} {T : u_T} {N : Nat} (hc : vwCl[ci]? = some (Cn, T, N)) (he : (X ++ pl)[q0]? = some (b, .inr (ci, fs))) (hls : ls.size = nL) (hst : st0 = As.reverse ++ .ref b :: rest) (hrest : (rest.map fun v => v.category).sum ≤ 8) (hdg : decode cc pc = .ok (.invokevirtual index, 3)) (hf : cells + mc ≤ R.cells ∧ slots + ms ≤ R.slots)
    (kk : ∀ (H1 : Heap) (locs1 : List Loc), WD E A s (X ++ pl) H1 locs1 → W p l e R s m args below meth c H1 locs1 (cells + mc) (slots + ms) Q (F0 m (pc + 3) ls (.int r :: rest))) : W p l e R s m args below meth c H locs cells slots Q (F0 m pc ls st0) := by
  obtain ⟨hP, hD, hS⟩ := hW
  subst hst
  have hPc := hP.part isC hC
  have hDc := hD.part isC hCn hC
  have hFc : ∀ q : Nat, va_A (cx ++ pl) H.size q → A q := fun q h => h.elim (fun ⟨k, e, h⟩ => hDc.2 k _ h) (fun h => C.ar q (Nat.le_trans hS.1 h))
  have hIn : ∀ (k : Nat) (q : Nat × va_E), (cx ++ pl)[k]? = some q → ∃ i : Nat, (X ++ pl)[i]? = some q := fun k q h => ⟨_, va_part isC hC k q h⟩
  have hPre : ∀ U : State, U.heap = H → s.WarmedH U.vm → va_Pc (.ref b :: As) (XP E (cx ++ pl) H.size) (Value.ref b :: As).toArray U := fun U hU hW => ⟨rfl, by rw [hU], by rw [hU]; exact hPc, va_K.moved hW.alike C.K, hDc.weaken (fun _ _ _ _ => trivial), C.G.to (by rw [hU]; exact hS.2.1) hFc hW⟩
  refine va_calli (va_runV (As := As) (rest := rest) C.fix (hM H.size) (cwV na C.ts hg hwY h0.1 h0.2 hd hR) ⟨fun a U g mk q => ⟨q.1, q.2.calling⟩, va_recv C.K hP hc he, hPre⟩ rfl hna hls rfl (lv_room hrest) hdg hf) hS (fun q _ h => hFc q h) hFc (fun r2 u t H1 locs1 ht hvm hw2 hB hz1 hk1 hS1 => ?_)
  subst hw2
  obtain ⟨hP1, hK1, hD1⟩ := hB
  rw [ht] at hP1
  exact kk H1 locs1 ⟨va_look hP hD hIn hk1 hP1, hD, hS1⟩
theorem x_rVN (C : CX p s m args meth c cc nL own Ts ret E A) (hW : WD E A s w H locs) {y : MethodName} {wsY wsY' : List Cond} {rm : Room} {b : Nat} {As : List Value} {wc : va_W} {x : va_E} {mc ms : Nat} (hM : MN l y wsY rm E (.ref b :: As) wc mc ms x) {Cn : String} {index maxL : Nat} {bytes : ByteArray} {rty : Option FieldType} (hg : GoodIn Ts (wsV own index Cn y wsY)) (hwY : wsY = Cond.code y bytes maxL rty :: wsY') (na : Nat) (hna : As.length = na) (h0 : rm.cells = mc ∧ rm.slots = ms) (hd : y.cls = Cn ∧ y.cls ≠ "java/lang/invoke/MethodHandle" ∧ y.cls ≠ "java/lang/invoke/VarHandle" ∧ (parseMethodDescriptor y.desc).map (fun d => d.parameters.length) = some na) (hR : rm.frames + 1 ≤ R.frames ∧ 8 + (maxL + 11) + rm.locals ≤ R.locals)
    (isC : List Nat) (hC : isC.map (fun i => w[i]?) = wc.map some) (hCn : va_nd isC = true) (q0 ci : Nat) {fs : List Value} {T : u_T} {N : Nat} (hc : vwCl[ci]? = some (Cn, T, N)) (he : w[q0]? = some (b, .inr (ci, fs))) (hls : ls.size = nL) (hst : st0 = As.reverse ++ .ref b :: rest) (hrest : (rest.map fun v => v.category).sum ≤ 8) (hdg : decode cc pc = .ok (.invokevirtual index, 3)) (hf : cells + mc ≤ R.cells ∧ slots + ms ≤ R.slots)
    (kk : ∀ (q : Nat) (H1 : Heap) (locs1 : List Loc), WD E A s (w ++ [(q, x)]) H1 locs1 → W p l e R s m args below meth c H1 locs1 (cells + mc) (slots + ms) Q (F0 m (pc + 3) ls (.ref q :: rest))) : W p l e R s m args below meth c H locs cells slots Q (F0 m pc ls st0) := by
  obtain ⟨hP, hD, hS⟩ := hW
  subst hst
  have hPc := hP.sub isC (map_fm hC)
  have hDc := hD.sub isC hCn hC
  have hFc := va_free (wc := wc) hD hS C.ar isC hC
  have hIn : ∀ (k : Nat) (q : Nat × va_E), wc[k]? = some q → ∃ i : Nat, w[i]? = some q := fun k q h => (va_in_of isC hC h).elim (fun i h2 => ⟨i, h2.2⟩)
  have hPre : ∀ U : State, U.heap = H → s.WarmedH U.vm → va_Pc (.ref b :: As) (XP E wc H.size) (Value.ref b :: As).toArray U := fun U hU hW => ⟨rfl, by rw [hU], by rw [hU]; exact hPc, va_K.moved hW.alike C.K, hDc.weaken (fun _ _ _ _ => trivial), C.G.to (by rw [hU]; exact hS.2.1) hFc hW⟩
  refine va_callr (va_runV (As := As) (rest := rest) C.fix (hM H.size) (cwV na C.ts hg hwY h0.1 h0.2 hd hR) ⟨fun a U g mk q => ⟨q.1, q.2.calling⟩, va_recv C.K hP hc he, hPre⟩ rfl hna hls rfl (lv_room hrest) hdg hf) hS (fun q _ h => hFc q h) hFc (fun u ra t H1 locs1 ht hvm hw2 hB hz1 hk1 hS1 => ?_)
  obtain ⟨hP1, hK1, hD1⟩ := hB
  rw [ht] at hP1
  have hwc : va_P E.1 vwCl wc H1 := fun k q hk => hP1 k q (by rw [List.getElem?_append_left (List.getElem?_eq_some_iff.mp hk).1]; exact hk)
  obtain ⟨h8, h9⟩ := va_fresh hP hD hFc (va_look hP hD hIn hk1 hwc) hP1 hD1
  exact kk ra H1 locs1 ⟨h8, h9, hS1⟩
theorem x_rSN (C : CX p s m args meth c cc nL own Ts ret E A) (hW : WD E A s w H locs) {y : MethodName} {wsY wsY' : List Cond} {rm : Room} {As : List Value} {wc : va_W} {x : va_E} {mc ms : Nat} (hM : MN l y wsY rm E As wc mc ms x) {index maxL : Nat} {bytes : ByteArray} {rty : Option FieldType} (hg : GoodIn Ts (va_wsS own index y wsY)) (hwY : wsY = Cond.code y bytes maxL rty :: wsY') (na : Nat) (hna : As.length = na) (h0 : rm.cells = mc ∧ rm.slots = ms) (hd : y.cls ≠ "java/lang/invoke/MethodHandle" ∧ y.cls ≠ "java/lang/invoke/VarHandle" ∧ (parseMethodDescriptor y.desc).map (fun d => d.parameters.length) = some na) (hR : rm.frames + 1 ≤ R.frames ∧ 8 + (maxL + 11) + rm.locals ≤ R.locals)
    (isC : List Nat) (hC : isC.map (fun i => w[i]?) = wc.map some) (hCn : va_nd isC = true)  (hls : ls.size = nL) (hst : st0 = As.reverse ++ rest) (hrest : (rest.map fun v => v.category).sum ≤ 8) (hdg : decode cc pc = .ok (.invokestatic index, 3)) (hf : cells + mc ≤ R.cells ∧ slots + ms ≤ R.slots)
    (kk : ∀ (q : Nat) (H1 : Heap) (locs1 : List Loc), WD E A s (w ++ [(q, x)]) H1 locs1 → W p l e R s m args below meth c H1 locs1 (cells + mc) (slots + ms) Q (F0 m (pc + 3) ls (.ref q :: rest))) : W p l e R s m args below meth c H locs cells slots Q (F0 m pc ls st0) := by
  obtain ⟨hP, hD, hS⟩ := hW
  subst hst
  have hPc := hP.sub isC (map_fm hC)
  have hDc := hD.sub isC hCn hC
  have hFc := va_free (wc := wc) hD hS C.ar isC hC
  have hIn : ∀ (k : Nat) (q : Nat × va_E), wc[k]? = some q → ∃ i : Nat, w[i]? = some q := fun k q h => (va_in_of isC hC h).elim (fun i h2 => ⟨i, h2.2⟩)
  have hPre : ∀ U : State, U.heap = H → s.WarmedH U.vm → va_Pc As (XP E wc H.size) (As).toArray U := fun U hU hW => ⟨rfl, by rw [hU], by rw [hU]; exact hPc, va_K.moved hW.alike C.K, hDc.weaken (fun _ _ _ _ => trivial), C.G.to (by rw [hU]; exact hS.2.1) hFc hW⟩
  refine va_callr (va_runS (As := As) (rest := rest) C.fix (hM H.size) (va_cwS na C.ts hg hwY h0.1 h0.2 hd hR) ⟨fun a U g mk q => ⟨q.1, q.2.calling⟩, hPre⟩ rfl hna hls rfl (lv_room hrest) hdg hf) hS (fun q _ h => hFc q h) hFc (fun u ra t H1 locs1 ht hvm hw2 hB hz1 hk1 hS1 => ?_)
  obtain ⟨hP1, hK1, hD1⟩ := hB
  rw [ht] at hP1
  have hwc : va_P E.1 vwCl wc H1 := fun k q hk => hP1 k q (by rw [List.getElem?_append_left (List.getElem?_eq_some_iff.mp hk).1]; exact hk)
  obtain ⟨h8, h9⟩ := va_fresh hP hD hFc (va_look hP hD hIn hk1 hwc) hP1 hD1
  exact kk ra H1 locs1 ⟨h8, h9, hS1⟩
theorem x_rVNT (C : CX p s m args meth c cc nL own Ts ret E A) {X pl : va_W} (hW : WD E A s (X ++ pl) H locs) {y : MethodName} {wsY wsY' : List Cond} {rm : Room} {b : Nat} {As : List Value} {cx : va_W} {x : va_E} {mc ms : Nat} (hM : MN l y wsY rm E (.ref b :: As) (cx ++ pl) mc ms x) {Cn : String} {index maxL : Nat} {bytes : ByteArray} {rty : Option FieldType} (hg : GoodIn Ts (wsV own index Cn y wsY)) (hwY : wsY = Cond.code y bytes maxL rty :: wsY') (na : Nat) (hna : As.length = na) (h0 : rm.cells = mc ∧ rm.slots = ms) (hd : y.cls = Cn ∧ y.cls ≠ "java/lang/invoke/MethodHandle" ∧ y.cls ≠ "java/lang/invoke/VarHandle" ∧ (parseMethodDescriptor y.desc).map (fun d => d.parameters.length) = some na) (hR : rm.frames + 1 ≤ R.frames ∧ 8 + (maxL + 11) + rm.locals ≤ R.locals)
    (isC : List Nat) (hC : isC.map (fun i => X[i]?) = cx.map some) (hCn : va_nd isC = true) (q0 ci : Nat) {fs : List Value} {T : u_T} {N : Nat} (hc : vwCl[ci]? = some (Cn, T, N)) (he : (X ++ pl)[q0]? = some (b, .inr (ci, fs))) (hls : ls.size = nL) (hst : st0 = As.reverse ++ .ref b :: rest) (hrest : (rest.map fun v => v.category).sum ≤ 8) (hdg : decode cc pc = .ok (.invokevirtual index, 3)) (hf : cells + mc ≤ R.cells ∧ slots + ms ≤ R.slots)
    (kk : ∀ (q : Nat) (H1 : Heap) (locs1 : List Loc), WD E A s ((X ++ pl) ++ [(q, x)]) H1 locs1 → W p l e R s m args below meth c H1 locs1 (cells + mc) (slots + ms) Q (F0 m (pc + 3) ls (.ref q :: rest))) : W p l e R s m args below meth c H locs cells slots Q (F0 m pc ls st0) := by
  obtain ⟨hP, hD, hS⟩ := hW
  subst hst
  have hPc := hP.part isC hC
  have hDc := hD.part isC hCn hC
  have hFc : ∀ q : Nat, va_A (cx ++ pl) H.size q → A q := fun q h => h.elim (fun ⟨k, e, h⟩ => hDc.2 k _ h) (fun h => C.ar q (Nat.le_trans hS.1 h))
  have hIn : ∀ (k : Nat) (q : Nat × va_E), (cx ++ pl)[k]? = some q → ∃ i : Nat, (X ++ pl)[i]? = some q := fun k q h => ⟨_, va_part isC hC k q h⟩
  have hPre : ∀ U : State, U.heap = H → s.WarmedH U.vm → va_Pc (.ref b :: As) (XP E (cx ++ pl) H.size) (Value.ref b :: As).toArray U := fun U hU hW => ⟨rfl, by rw [hU], by rw [hU]; exact hPc, va_K.moved hW.alike C.K, hDc.weaken (fun _ _ _ _ => trivial), C.G.to (by rw [hU]; exact hS.2.1) hFc hW⟩
  refine va_callr (va_runV (As := As) (rest := rest) C.fix (hM H.size) (cwV na C.ts hg hwY h0.1 h0.2 hd hR) ⟨fun a U g mk q => ⟨q.1, q.2.calling⟩, va_recv C.K hP hc he, hPre⟩ rfl hna hls rfl (lv_room hrest) hdg hf) hS (fun q _ h => hFc q h) hFc (fun u ra t H1 locs1 ht hvm hw2 hB hz1 hk1 hS1 => ?_)
  obtain ⟨hP1, hK1, hD1⟩ := hB
  rw [ht] at hP1
  have hwc : va_P E.1 vwCl (cx ++ pl) H1 := fun k q hk => hP1 k q (by rw [List.getElem?_append_left (List.getElem?_eq_some_iff.mp hk).1]; exact hk)
  obtain ⟨h8, h9⟩ := va_fresh hP hD hFc (va_look hP hD hIn hk1 hwc) hP1 hD1
  exact kk ra H1 locs1 ⟨h8, h9, hS1⟩
theorem x_wVI (C : CX p s m args meth c cc nL own Ts ret E A) {X pl : va_W} (hW : WD E A s (X ++ pl) H locs) {y : MethodName} {wsY wsY' : List Cond} {rm : Room} {b : Nat} {As : List Value} {wc wr w1 wn : va_W} {r : Int32} (hM : MI l y wsY rm E (.ref b :: As) wc r w1) {Cn : String} {index maxL : Nat} {bytes : ByteArray} {rty : Option FieldType} (hg : GoodIn Ts (wsV own index Cn y wsY)) (hwY : wsY = Cond.code y bytes maxL rty :: wsY') (na : Nat) (hna : As.length = na) (h0 : rm.cells = 0 ∧ rm.slots = 0) (hd : y.cls = Cn ∧ y.cls ≠ "java/lang/invoke/MethodHandle" ∧ y.cls ≠ "java/lang/invoke/VarHandle" ∧ (parseMethodDescriptor y.desc).map (fun d => d.parameters.length) = some na) (hR : rm.frames + 1 ≤ R.frames ∧ 8 + (maxL + 11) + rm.locals ≤ R.locals)
    (isC isR isN : List Nat) (hC : isC.map (fun i => X[i]?) = wc.map some) (hCn : va_nd isC = true) (hRr : isR.map (fun i => X[i]?) = wr.map some) (hRn : va_nd isR = true) (hdis : ∀ i ∈ isR, i ∉ isC) (hN : isN.map (fun i => (wr ++ w1)[i]?) = wn.map some) (hNn : va_nd isN = true) (q0 ci : Nat) {fs : List Value} {T : u_T} {N : Nat} (hc : vwCl[ci]? = some (Cn, T, N)) (he : (X ++ pl)[q0]? = some (b, .inr (ci, fs))) (hls : ls.size = nL) (hst : st0 = As.reverse ++ .ref b :: rest) (hrest : (rest.map fun v => v.category).sum ≤ 8) (hdg : decode cc pc = .ok (.invokevirtual index, 3)) (hf : cells + 0 ≤ R.cells ∧ slots + 0 ≤ R.slots)
    (kk : ∀ (H1 : Heap) (locs1 : List Loc), WD E A s (wn ++ pl) H1 locs1 → W p l e R s m args below meth c H1 locs1 cells slots Q (F0 m (pc + 3) ls (.int r :: rest))) : W p l e R s m args below meth c H locs cells slots Q (F0 m pc ls st0) := by
  obtain ⟨hP, hD, hS⟩ := hW
  subst hst
  have hPc0 := hP.part isC hC
  have hDc0 := hD.part isC hCn hC
  have hPc : va_P E.1 vwCl wc H := fun k q hk => hPc0 k q (by rw [List.getElem?_append_left (List.getElem?_eq_some_iff.mp hk).1]; exact hk)
  have hDc : va_D A wc := hDc0.by id (fun k q hk => (List.getElem?_append_left (List.getElem?_eq_some_iff.mp hk).1).trans hk) (fun i j _ _ e => e)
  have hFc : ∀ q : Nat, va_A wc H.size q → A q := fun q h => h.elim (fun ⟨k, e, h⟩ => hDc.2 k _ h) (fun h => C.ar q (Nat.le_trans hS.1 h))
  have hPre : ∀ U : State, U.heap = H → s.WarmedH U.vm → va_Pc (.ref b :: As) (XP E wc H.size) (Value.ref b :: As).toArray U := fun U hU hW => ⟨rfl, by rw [hU], by rw [hU]; exact hPc, va_K.moved hW.alike C.K, hDc.weaken (fun _ _ _ _ => trivial), C.G.to (by rw [hU]; exact hS.2.1) hFc hW⟩
  refine va_calli (va_runV (As := As) (rest := rest) C.fix (hM H.size) (cwV na C.ts hg hwY h0.1 h0.2 hd hR) ⟨fun a U g mk q => ⟨q.1, q.2.calling⟩, va_recv C.K hP hc he, hPre⟩ rfl hna hls rfl (lv_room hrest) hdg hf) hS (fun q _ h => hFc q h) hFc (fun r2 u t H1 locs1 ht hvm hw2 hB hz1 hk1 hS1 => ?_)
  subst hw2
  obtain ⟨hP1, hK1, hD1⟩ := hB
  rw [ht] at hP1
  obtain ⟨hP2, hD2⟩ := va_joinQ (wr := wr) (w1 := w1) hP hD isC isR hC hRr hRn hdis hk1 hFc hP1 hD1
  exact kk H1 locs1 (WD.part ⟨hP2, hD2, hS1⟩ isN hN hNn)
theorem x_wVV (C : CX p s m args meth c cc nL own Ts ret E A) {X pl : va_W} (hW : WD E A s (X ++ pl) H locs) {y : MethodName} {wsY wsY' : List Cond} {rm : Room} {b : Nat} {As : List Value} {wc wr w1 wn : va_W} (hM : MV l y wsY rm E (.ref b :: As) wc w1) {Cn : String} {index maxL : Nat} {bytes : ByteArray} {rty : Option FieldType} (hg : GoodIn Ts (wsV own index Cn y wsY)) (hwY : wsY = Cond.code y bytes maxL rty :: wsY') (na : Nat) (hna : As.length = na) (h0 : rm.cells = 0 ∧ rm.slots = 0) (hd : y.cls = Cn ∧ y.cls ≠ "java/lang/invoke/MethodHandle" ∧ y.cls ≠ "java/lang/invoke/VarHandle" ∧ (parseMethodDescriptor y.desc).map (fun d => d.parameters.length) = some na) (hR : rm.frames + 1 ≤ R.frames ∧ 8 + (maxL + 11) + rm.locals ≤ R.locals)
    (isC isR isN : List Nat) (hC : isC.map (fun i => X[i]?) = wc.map some) (hCn : va_nd isC = true) (hRr : isR.map (fun i => X[i]?) = wr.map some) (hRn : va_nd isR = true) (hdis : ∀ i ∈ isR, i ∉ isC) (hN : isN.map (fun i => (wr ++ w1)[i]?) = wn.map some) (hNn : va_nd isN = true) (q0 ci : Nat) {fs : List Value} {T : u_T} {N : Nat} (hc : vwCl[ci]? = some (Cn, T, N)) (he : (X ++ pl)[q0]? = some (b, .inr (ci, fs))) (hls : ls.size = nL) (hst : st0 = As.reverse ++ .ref b :: rest) (hrest : (rest.map fun v => v.category).sum ≤ 8) (hdg : decode cc pc = .ok (.invokevirtual index, 3)) (hf : cells + 0 ≤ R.cells ∧ slots + 0 ≤ R.slots)
    (kk : ∀ (H1 : Heap) (locs1 : List Loc), WD E A s (wn ++ pl) H1 locs1 → W p l e R s m args below meth c H1 locs1 cells slots Q (F0 m (pc + 3) ls (rest))) : W p l e R s m args below meth c H locs cells slots Q (F0 m pc ls st0) := by
  obtain ⟨hP, hD, hS⟩ := hW
  subst hst
  have hPc0 := hP.part isC hC
  have hDc0 := hD.part isC hCn hC
  have hPc : va_P E.1 vwCl wc H := fun k q hk => hPc0 k q (by rw [List.getElem?_append_left (List.getElem?_eq_some_iff.mp hk).1]; exact hk)
  have hDc : va_D A wc := hDc0.by id (fun k q hk => (List.getElem?_append_left (List.getElem?_eq_some_iff.mp hk).1).trans hk) (fun i j _ _ e => e)
  have hFc : ∀ q : Nat, va_A wc H.size q → A q := fun q h => h.elim (fun ⟨k, e, h⟩ => hDc.2 k _ h) (fun h => C.ar q (Nat.le_trans hS.1 h))
  have hPre : ∀ U : State, U.heap = H → s.WarmedH U.vm → va_Pc (.ref b :: As) (XP E wc H.size) (Value.ref b :: As).toArray U := fun U hU hW => ⟨rfl, by rw [hU], by rw [hU]; exact hPc, va_K.moved hW.alike C.K, hDc.weaken (fun _ _ _ _ => trivial), C.G.to (by rw [hU]; exact hS.2.1) hFc hW⟩
  refine va_callv (va_runV (As := As) (rest := rest) C.fix (hM H.size) (cwV na C.ts hg hwY h0.1 h0.2 hd hR) ⟨fun a U g mk q => ⟨q.1, q.2.calling⟩, va_recv C.K hP hc he, hPre⟩ rfl hna hls rfl (lv_room hrest) hdg hf) hS (fun q _ h => hFc q h) hFc (fun u t H1 locs1 ht hvm hw2 hB hz1 hk1 hS1 => ?_)
  obtain ⟨hP1, hK1, hD1⟩ := hB
  rw [ht] at hP1
  obtain ⟨hP2, hD2⟩ := va_joinQ (wr := wr) (w1 := w1) hP hD isC isR hC hRr hRn hdis hk1 hFc hP1 hD1
  exact kk H1 locs1 (WD.part ⟨hP2, hD2, hS1⟩ isN hN hNn)
theorem x_gVG (C : CX p s m args meth c cc nL own Ts ret E A) {X pl : va_W} (hW : WD E A s (X ++ pl) H locs) {y : MethodName} {wsY wsY' : List Cond} {rm : Room} {b : Nat} {As : List Value} {cx wr : va_W} {mc ms : Nat} {post : Int32 → va_W → Prop} (hM : MG l y wsY rm E (.ref b :: As) (cx ++ pl) mc ms post) {Cn : String} {index maxL : Nat} {bytes : ByteArray} {rty : Option FieldType} (hg : GoodIn Ts (wsV own index Cn y wsY)) (hwY : wsY = Cond.code y bytes maxL rty :: wsY') (na : Nat) (hna : As.length = na) (h0 : rm.cells = mc ∧ rm.slots = ms) (hd : y.cls = Cn ∧ y.cls ≠ "java/lang/invoke/MethodHandle" ∧ y.cls ≠ "java/lang/invoke/VarHandle" ∧ (parseMethodDescriptor y.desc).map (fun d => d.parameters.length) = some na) (hR : rm.frames + 1 ≤ R.frames ∧ 8 + (maxL + 11) + rm.locals ≤ R.locals)
    (isC isR : List Nat) (hC : isC.map (fun i => X[i]?) = cx.map some) (hCn : va_nd isC = true) (hRr : isR.map (fun i => X[i]?) = wr.map some) (hRn : va_nd isR = true) (hdis : ∀ i ∈ isR, i ∉ isC) (q0 ci : Nat) {fs : List Value} {T : u_T} {N : Nat} (hc : vwCl[ci]? = some (Cn, T, N)) (he : (X ++ pl)[q0]? = some (b, .inr (ci, fs))) (hls : ls.size = nL) (hst : st0 = As.reverse ++ .ref b :: rest) (hrest : (rest.map fun v => v.category).sum ≤ 8) (hdg : decode cc pc = .ok (.invokevirtual index, 3)) (hf : cells + mc ≤ R.cells ∧ slots + ms ≤ R.slots)
    (kk : ∀ (r : Int32) (w1 : va_W) (H1 : Heap) (locs1 : List Loc), post r w1 → WD E A s (wr ++ w1) H1 locs1 → W p l e R s m args below meth c H1 locs1 (cells + mc) (slots + ms) Q (F0 m (pc + 3) ls (.int r :: rest))) : W p l e R s m args below meth c H locs cells slots Q (F0 m pc ls st0) := by
  obtain ⟨hP, hD, hS⟩ := hW
  subst hst
  have hPc := hP.part isC hC
  have hDc := hD.part isC hCn hC
  have hFc : ∀ q : Nat, va_A (cx ++ pl) H.size q → A q := fun q h => h.elim (fun ⟨k, e, h⟩ => hDc.2 k _ h) (fun h => C.ar q (Nat.le_trans hS.1 h))
  have hPre : ∀ U : State, U.heap = H → s.WarmedH U.vm → va_Pc (.ref b :: As) (XP E (cx ++ pl) H.size) (Value.ref b :: As).toArray U := fun U hU hW => ⟨rfl, by rw [hU], by rw [hU]; exact hPc, va_K.moved hW.alike C.K, hDc.weaken (fun _ _ _ _ => trivial), C.G.to (by rw [hU]; exact hS.2.1) hFc hW⟩
  refine va_calli (va_runV (As := As) (rest := rest) C.fix (hM H.size) (cwV na C.ts hg hwY h0.1 h0.2 hd hR) ⟨fun a U g mk q => ⟨q.1, q.2.calling⟩, va_recv C.K hP hc he, hPre⟩ rfl hna hls rfl (lv_room hrest) hdg hf) hS (fun q _ h => hFc q h) hFc (fun r2 u t H1 locs1 ht hvm hw2 hB hz1 hk1 hS1 => ?_)
  obtain ⟨hP1, hK1, hD1⟩ := hB
  rw [ht] at hP1
  obtain ⟨hP2, hD2⟩ := va_joinP (wr := wr) (rx := u) (pl1 := []) hP hD isC isR hC hRr hRn hdis hk1 hFc (by rw [List.append_nil]; exact hP1) (by rw [List.append_nil]; exact hD1)
  rw [List.append_nil] at hP2 hD2
  exact kk r2 u H1 locs1 hw2 ⟨hP2, hD2, hS1⟩
theorem x_gSG (C : CX p s m args meth c cc nL own Ts ret E A) {X pl : va_W} (hW : WD E A s (X ++ pl) H locs) {y : MethodName} {wsY wsY' : List Cond} {rm : Room} {As : List Value} {cx wr : va_W} {mc ms : Nat} {post : Int32 → va_W → Prop} (hM : MG l y wsY rm E As (cx ++ pl) mc ms post) {index maxL : Nat} {bytes : ByteArray} {rty : Option FieldType} {hh : List (Nat × Nat × Nat × Nat)} (hg : GoodIn Ts (va_wsS own index y wsY)) (hwY : wsY = Cond.codeWith y bytes maxL rty hh :: wsY') (na : Nat) (hna : As.length = na) (h0 : rm.cells = mc ∧ rm.slots = ms) (hd : y.cls ≠ "java/lang/invoke/MethodHandle" ∧ y.cls ≠ "java/lang/invoke/VarHandle" ∧ (parseMethodDescriptor y.desc).map (fun d => d.parameters.length) = some na) (hR : rm.frames + 1 ≤ R.frames ∧ 8 + (maxL + 11) + rm.locals ≤ R.locals)
    (isC isR : List Nat) (hC : isC.map (fun i => X[i]?) = cx.map some) (hCn : va_nd isC = true) (hRr : isR.map (fun i => X[i]?) = wr.map some) (hRn : va_nd isR = true) (hdis : ∀ i ∈ isR, i ∉ isC)  (hls : ls.size = nL) (hst : st0 = As.reverse ++ rest) (hrest : (rest.map fun v => v.category).sum ≤ 8) (hdg : decode cc pc = .ok (.invokestatic index, 3)) (hf : cells + mc ≤ R.cells ∧ slots + ms ≤ R.slots)
    (kk : ∀ (r : Int32) (w1 : va_W) (H1 : Heap) (locs1 : List Loc), post r w1 → WD E A s (wr ++ w1) H1 locs1 → W p l e R s m args below meth c H1 locs1 (cells + mc) (slots + ms) Q (F0 m (pc + 3) ls (.int r :: rest))) : W p l e R s m args below meth c H locs cells slots Q (F0 m pc ls st0) := by
  obtain ⟨hP, hD, hS⟩ := hW
  subst hst
  have hPc := hP.part isC hC
  have hDc := hD.part isC hCn hC
  have hFc : ∀ q : Nat, va_A (cx ++ pl) H.size q → A q := fun q h => h.elim (fun ⟨k, e, h⟩ => hDc.2 k _ h) (fun h => C.ar q (Nat.le_trans hS.1 h))
  have hPre : ∀ U : State, U.heap = H → s.WarmedH U.vm → va_Pc As (XP E (cx ++ pl) H.size) (As).toArray U := fun U hU hW => ⟨rfl, by rw [hU], by rw [hU]; exact hPc, va_K.moved hW.alike C.K, hDc.weaken (fun _ _ _ _ => trivial), C.G.to (by rw [hU]; exact hS.2.1) hFc hW⟩
  refine va_calli (vx_runSW (As := As) (rest := rest) C.fix (hM H.size) (vx_cwSW na C.ts hg hwY h0.1 h0.2 hd hR) ⟨fun a U g mk q => ⟨q.1, q.2.calling⟩, hPre⟩ rfl hna hls rfl (lv_room hrest) hdg hf) hS (fun q _ h => hFc q h) hFc (fun r2 u t H1 locs1 ht hvm hw2 hB hz1 hk1 hS1 => ?_)
  obtain ⟨hP1, hK1, hD1⟩ := hB
  rw [ht] at hP1
  obtain ⟨hP2, hD2⟩ := va_joinP (wr := wr) (rx := u) (pl1 := []) hP hD isC isR hC hRr hRn hdis hk1 hFc (by rw [List.append_nil]; exact hP1) (by rw [List.append_nil]; exact hD1)
  rw [List.append_nil] at hP2 hD2
  exact kk r2 u H1 locs1 hw2 ⟨hP2, hD2, hS1⟩
theorem x_gSR (C : CX p s m args meth c cc nL own Ts ret E A) {X pl : va_W} (hW : WD E A s (X ++ pl) H locs) {y : MethodName} {wsY wsY' : List Cond} {rm : Room} {As : List Value} {cx wr : va_W} {mc ms : Nat} {post : Nat → va_W → Prop} (hM : MR l y wsY rm E As (cx ++ pl) mc ms post) {index maxL : Nat} {bytes : ByteArray} {rty : Option FieldType} (hg : GoodIn Ts (va_wsS own index y wsY)) (hwY : wsY = Cond.code y bytes maxL rty :: wsY') (na : Nat) (hna : As.length = na) (h0 : rm.cells = mc ∧ rm.slots = ms) (hd : y.cls ≠ "java/lang/invoke/MethodHandle" ∧ y.cls ≠ "java/lang/invoke/VarHandle" ∧ (parseMethodDescriptor y.desc).map (fun d => d.parameters.length) = some na) (hR : rm.frames + 1 ≤ R.frames ∧ 8 + (maxL + 11) + rm.locals ≤ R.locals)
    (isC isR : List Nat) (hC : isC.map (fun i => X[i]?) = cx.map some) (hCn : va_nd isC = true) (hRr : isR.map (fun i => X[i]?) = wr.map some) (hRn : va_nd isR = true) (hdis : ∀ i ∈ isR, i ∉ isC)  (hls : ls.size = nL) (hst : st0 = As.reverse ++ rest) (hrest : (rest.map fun v => v.category).sum ≤ 8) (hdg : decode cc pc = .ok (.invokestatic index, 3)) (hf : cells + mc ≤ R.cells ∧ slots + ms ≤ R.slots)
    (kk : ∀ (r : Nat) (w1 : va_W) (H1 : Heap) (locs1 : List Loc), post r w1 → WD E A s (wr ++ w1) H1 locs1 → W p l e R s m args below meth c H1 locs1 (cells + mc) (slots + ms) Q (F0 m (pc + 3) ls (.ref r :: rest))) : W p l e R s m args below meth c H locs cells slots Q (F0 m pc ls st0) := by
  obtain ⟨hP, hD, hS⟩ := hW
  subst hst
  have hPc := hP.part isC hC
  have hDc := hD.part isC hCn hC
  have hFc : ∀ q : Nat, va_A (cx ++ pl) H.size q → A q := fun q h => h.elim (fun ⟨k, e, h⟩ => hDc.2 k _ h) (fun h => C.ar q (Nat.le_trans hS.1 h))
  have hPre : ∀ U : State, U.heap = H → s.WarmedH U.vm → va_Pc As (XP E (cx ++ pl) H.size) (As).toArray U := fun U hU hW => ⟨rfl, by rw [hU], by rw [hU]; exact hPc, va_K.moved hW.alike C.K, hDc.weaken (fun _ _ _ _ => trivial), C.G.to (by rw [hU]; exact hS.2.1) hFc hW⟩
  refine va_callr (va_runS (As := As) (rest := rest) C.fix (hM H.size) (va_cwS na C.ts hg hwY h0.1 h0.2 hd hR) ⟨fun a U g mk q => ⟨q.1, q.2.calling⟩, hPre⟩ rfl hna hls rfl (lv_room hrest) hdg hf) hS (fun q _ h => hFc q h) hFc (fun u ra t H1 locs1 ht hvm hw2 hB hz1 hk1 hS1 => ?_)
  obtain ⟨e9, hP1, hK1, hD1⟩ := hB
  subst e9
  rw [ht] at hP1
  obtain ⟨hP2, hD2⟩ := va_joinP (wr := wr) (rx := u.2) (pl1 := []) hP hD isC isR hC hRr hRn hdis hk1 hFc (by rw [List.append_nil]; exact hP1) (by rw [List.append_nil]; exact hD1)
  rw [List.append_nil] at hP2 hD2
  exact kk u.1 u.2 H1 locs1 hw2 ⟨hP2, hD2, hS1⟩
theorem x_catchR {X name : String} (C : CX p s m args meth c cc nL own Ts ret E A) (hgc : gC s) (pre : List ExceptionTableEntry) (x : ExceptionTableEntry) (suf : List ExceptionTableEntry) (hsplit : c.exceptionTable.toList = pre ++ x :: suf)
    (hpass : ∀ z ∈ pre, covers z pc = false) (hx : covers x pc = true) (h0x : x.catchType ≠ 0) (hlink : Cond.classLink own x.catchType name ∈ Ts) (hcast : va_Nw (.castable X name) s)
    (hW : WD E A s w H locs) {y : MethodName} {wsY wsY' : List Cond} {rm : Room} {b : Nat} {As : List Value} {wc : va_W} (hM : MXi l y wsY rm E (.ref b :: As) wc X) {Cn : String} {index maxL : Nat} {bytes : ByteArray} {rty : Option FieldType} (hg : GoodIn Ts (wsV own index Cn y wsY)) (hwY : wsY = Cond.code y bytes maxL rty :: wsY') (na : Nat) (hna : As.length = na) (h0 : rm.cells = 1 ∧ rm.slots = 6) (hd : y.cls = Cn ∧ y.cls ≠ "java/lang/invoke/MethodHandle" ∧ y.cls ≠ "java/lang/invoke/VarHandle" ∧ (parseMethodDescriptor y.desc).map (fun d => d.parameters.length) = some na) (hR : rm.frames + 1 ≤ R.frames ∧ 8 + (maxL + 11) + rm.locals ≤ R.locals)
    (isC : List Nat) (hC : isC.map (fun i => w[i]?) = wc.map some) (hCn : va_nd isC = true) (q0 ci : Nat) {fs : List Value} {T : u_T} {N : Nat} (hc : vwCl[ci]? = some (Cn, T, N)) (he : w[q0]? = some (b, .inr (ci, fs))) (hls : ls.size = nL) (hst : st0 = As.reverse ++ .ref b :: rest) (hrest : (rest.map fun v => v.category).sum ≤ 8) (hdg : decode cc pc = .ok (.invokevirtual index, 3)) (hf : cells + 1 ≤ R.cells ∧ slots + 6 ≤ R.slots)
    (kk : ∀ (q : Nat) (H1 : Heap) (locs1 : List Loc), WD E A s w H1 locs1 → W p l e R s m args below meth c H1 locs1 (cells + 1) (slots + 6) Q (F0 m x.handlerPc ls [.ref q])) :
    W p l e R s m args below meth c H locs cells slots Q (F0 m pc ls st0) := by
  obtain ⟨hP, hD, hS⟩ := hW
  subst hst
  have hPc := hP.sub isC (map_fm hC)
  have hDc := hD.sub isC hCn hC
  have hFc := va_free (wc := wc) hD hS C.ar isC hC
  have hIn : ∀ (k : Nat) (q : Nat × va_E), wc[k]? = some q → ∃ i : Nat, w[i]? = some q := fun k q h => (va_in_of isC hC h).elim (fun i h2 => ⟨i, h2.2⟩)
  have hPre : ∀ U : State, U.heap = H → s.WarmedH U.vm → va_Pc (.ref b :: As) (XPX E wc H.size) (Value.ref b :: As).toArray U := fun U hU hW => ⟨rfl, ⟨by rw [hU], by rw [hU]; exact hPc, va_K.moved hW.alike C.K, hDc.weaken (fun _ _ _ _ => trivial), C.G.to (by rw [hU]; exact hS.2.1) hFc hW⟩, hgc.to hW⟩
  refine vx_calli (mc := 1) (ms := 6) (vx_runV (As := As) (rest := rest) C.fix (hM H.size) (cwV na C.ts hg hwY h0.1 h0.2 hd hR) ⟨fun a U g mk q => ⟨q.1, q.2.calling⟩, va_recv C.K hP hc he, hPre⟩ rfl hna hls rfl (lv_room hrest) hdg hf) hS (fun q _ h => hFc q h) hFc (fun q _ h => hFc q h) (fun Ex ce q9 u t H1 locs1 ht hvm _ hB hz1 hk1 hS1 hcell hv hcl => ?_) (fun r u t H1 locs1 ht hvm hw2 hB hz1 hk1 hS1 => hw2.elim)
  · obtain ⟨rfl, hP1, hK1, hD1⟩ := hB
    rw [ht] at hP1
    exact vx_catch C.ow pre x suf hsplit (fun z hz => Or.inl (hpass z hz)) hx h0x (C.ts _ hlink) (va_Nw.use rfl hcast) hcell hv hcl (kk q9 H1 locs1 ⟨va_look hP hD hIn hk1 hP1, hD, hS1⟩)
end YC
