/-! THE WRITER'S OWN KIT, 5: calls that throw -/
def XPX (E : EV) (wc : va_W) (sz : Nat) (U : State) : Prop := XP E wc sz U ∧ gC U
theorem XPX.calling {E : EV} {wc : va_W} {sz : Nat} {U : State} {g : JFrame} {mk : MethodId} {a : Array Value} (h : XPX E wc sz U) : XPX E wc sz (U.calling g mk a) := ⟨h.1.calling, h.2.to (U := U.calling g mk a) (State.WarmedH.refl U)⟩
/-- a method that always throws X here, and changes nothing -/
def MXv (l : Launch) (y : MethodName) (ws : List Cond) (rm : Room) (E : EV) (args : List Value) (wc : va_W) (X : String) : Prop := ∀ sz, vx_Met l y ws rm (va_Pc args (XPX E wc sz)) (va_Qv (fun (_ : Unit) => False) (fun _ _ => True) (va_A wc sz)) (vx_X (fun (_ : Unit) => True) (fun Ex _ t => Ex = X ∧ XQ E wc sz wc t) (va_A wc sz)) 1 6 (va_A wc sz)
def MXi (l : Launch) (y : MethodName) (ws : List Cond) (rm : Room) (E : EV) (args : List Value) (wc : va_W) (X : String) : Prop := ∀ sz, vx_Met l y ws rm (va_Pc args (XPX E wc sz)) (va_Qi (fun (_ : Int32) (_ : Unit) => False) (fun _ _ => True) (va_A wc sz)) (vx_X (fun (_ : Unit) => True) (fun Ex _ t => Ex = X ∧ XQ E wc sz wc t) (va_A wc sz)) 1 6 (va_A wc sz)
theorem x_startX {l : Launch} {y : MethodName} {ws ws' : List Cond} {rm : Room} {E : EV} {args : List Value} {wc : va_W} {cc : ByteArray} {maxL : Nat} {own X : String} {ret : Option FieldType} {Pq : Nat → Array Value → State → Outcome → State → Prop} (hown : y.cls = own) (hy : plainName y.cls = true) (hw : ws = Cond.code y cc maxL ret :: ws') (hlen : (lg_sl args).length ≤ maxL)
    (body : ∀ (p : Program) (e : Env) (s : State) (m : MethodId) (below : List Frame) (meth : Method) (c : Code), CX p s m args.toArray meth c cc maxL own ws ret E (va_A wc s.heap.size) → gC s → (∀ x ∈ c.exceptionTable.toList, False) → ∀ ls : Array Slot, lv_has ls maxL (lv_args 0 args) → WD E (va_A wc s.heap.size) s wc s.heap [] →
      W p l e rm s m args.toArray below meth c s.heap [] 0 0 (vx_MQ below (Pq s.heap.size) (vx_X (fun (_ : Unit) => True) (fun Ex _ t => Ex = X ∧ XQ E wc s.heap.size wc t) (va_A wc s.heap.size)) args.toArray s 1 6 (va_A wc s.heap.size)) (F0 m 0 ls [])) :
    ∀ sz, vx_Met l y ws rm (va_Pc args (XPX E wc sz)) (Pq sz) (vx_X (fun (_ : Unit) => True) (fun Ex _ t => Ex = X ∧ XQ E wc sz wc t) (va_A wc sz)) 1 6 (va_A wc sz) := by
  intro sz
  refine vx_ofW (cc := cc) (maxL := maxL) (ret := ret) hy hw ?_
  intro p e s m args' below meth c s₁ B hml htab hv
  obtain ⟨rfl, ⟨hsz, hP, hK, hD0, hG⟩, hgc⟩ := hv
  subst hsz
  have hl := lv_entry args (n := maxL) hlen
  rw [lg_entry_eq]
  exact body p e s m below meth c ⟨B.exec, B.bytes, hml, by rw [← hown]; exact findClass_of_methodNamed B.named, atoms_spec (ws := ws) B.pre, B.returns, B.notSynchronized, hK, hG, fun q h => Or.inr h⟩ hgc htab _ hl ⟨hP, hD0.self, va_S.rf⟩
variable {p : Program} {l : Launch} {e : Env} {R : Room} {s : State} {m : MethodId} {args : Array Value} {below : List Frame} {meth : Method} {c : Code} {H : Heap} {locs : List Loc} {cells slots : Nat} {Q : State → Prop}
variable {cc : ByteArray} {pc nL : Nat} {ls : Array Slot} {rest st0 : List Value} {own : String} {Ts : List Cond} {ret : Option FieldType} {E : EV} {A : Nat → Prop} {w : va_W}
/-- a static call that always throws, in a method that lets it out -/
theorem x_xSV {w0 : va_W} {X : String} {Pq : Array Value → State → Outcome → State → Prop} (C : CX p s m args meth c cc nL own Ts ret E (va_A w0 s.heap.size)) (hgc : gC s) (hex : ∀ x ∈ c.exceptionTable.toList, False) (hW : WD E (va_A w0 s.heap.size) s w H locs) {y : MethodName} {wsY wsY' : List Cond} {rm : Room} {As : List Value} {wc wr : va_W} (hM : MXv l y wsY rm E As wc X) {index maxL : Nat} {bytes : ByteArray} {rty : Option FieldType} (hg : GoodIn Ts (va_wsS own index y wsY)) (hwY : wsY = Cond.code y bytes maxL rty :: wsY') (na : Nat) (hna : As.length = na) (h0 : rm.cells = 1 ∧ rm.slots = 6) (hd : y.cls ≠ "java/lang/invoke/MethodHandle" ∧ y.cls ≠ "java/lang/invoke/VarHandle" ∧ (parseMethodDescriptor y.desc).map (fun d => d.parameters.length) = some na) (hR : rm.frames + 1 ≤ R.frames ∧ 8 + (maxL + 11) + rm.locals ≤ R.locals)
    (isC isR isN : List Nat) (hC : isC.map (fun i => w[i]?) = wc.map some) (hCn : va_nd isC = true) (hRr : isR.map (fun i => w[i]?) = wr.map some) (hRn : va_nd isR = true) (hdis : ∀ i ∈ isR, i ∉ isC) (hN : isN.map (fun i => (wr ++ wc)[i]?) = w0.map some) (hNn : va_nd isN = true) (hls : ls.size = nL) (hst : st0 = As.reverse ++ rest) (hrest : (rest.map fun v => v.category).sum ≤ 8) (hdg : decode cc pc = .ok (.invokestatic index, 3)) (hf : 1 ≤ R.cells ∧ 6 ≤ R.slots) :
    W p l e R s m args below meth c H locs 0 0 (vx_MQ below Pq (vx_X (fun (_ : Unit) => True) (fun Ex _ t => Ex = X ∧ XQ E w0 s.heap.size w0 t) (va_A w0 s.heap.size)) args s 1 6 (va_A w0 s.heap.size)) (F0 m pc ls st0) := by
  obtain ⟨hP, hD, hS⟩ := hW
  subst hst
  have hPc := hP.sub isC (map_fm hC)
  have hDc := hD.sub isC hCn hC
  have hFc := va_free (wc := wc) hD hS C.ar isC hC
  have hPre : ∀ U : State, U.heap = H → s.WarmedH U.vm → va_Pc As (XPX E wc H.size) (As).toArray U := fun U hU hW => ⟨rfl, ⟨by rw [hU], by rw [hU]; exact hPc, va_K.moved hW.alike C.K, hDc.weaken (fun _ _ _ _ => trivial), C.G.to (by rw [hU]; exact hS.2.1) hFc hW⟩, hgc.to hW⟩
  have hlk := C.lk
  refine vx_callv (mc := 1) (ms := 6) (vx_runS (As := As) (rest := rest) C.fix (hM H.size) (va_cwS na C.ts hg hwY h0.1 h0.2 hd hR) ⟨fun a U g mk q => ⟨q.1, q.2.calling⟩, hPre⟩ rfl hna hls rfl (lv_room hrest) hdg ⟨by omega, by omega⟩) hS (fun q _ h => hFc q h) hFc (fun q _ h => hFc q h) (fun Ex ce q9 u t H1 locs1 ht hvm _ hB hz1 hk1 hS1 hcell hv hcl => ?_) (fun u t H1 locs1 ht hvm hw2 hB hz1 hk1 hS1 => hw2.elim)
  · obtain ⟨rfl, hP1, hK1, hD1⟩ := hB
    rw [ht] at hP1
    obtain ⟨hP2, hD2⟩ := va_join (wr := wr) (w1 := wc) hP hD isC isR hC hRr hRn hdis hk1 hFc hP1 hD1
    exact vx_out (fun x hx => (hex x hx).elim) hlk hcell hv hcl (fun t2 ht2 ha2 => ⟨(), trivial, ⟨rfl, by rw [ht2]; exact hP2.sub isN (map_fm hN), va_K.moved ha2 C.K, hD2.sub isN hNn hN⟩, hS1.F ht2⟩) hS1.2.2 (Nat.le_of_ble_eq_true rfl) (Nat.le_of_ble_eq_true rfl)
/-- a call of an object that always throws, in a method that lets it out -/
theorem x_xVV {w0 : va_W} {X : String} {Pq : Array Value → State → Outcome → State → Prop} (C : CX p s m args meth c cc nL own Ts ret E (va_A w0 s.heap.size)) (hgc : gC s) (hex : ∀ x ∈ c.exceptionTable.toList, False) (hW : WD E (va_A w0 s.heap.size) s w H locs) {y : MethodName} {wsY wsY' : List Cond} {rm : Room} {b : Nat} {As : List Value} {wc wr : va_W} (hM : MXv l y wsY rm E (.ref b :: As) wc X) {Cn : String} {index maxL : Nat} {bytes : ByteArray} {rty : Option FieldType} (hg : GoodIn Ts (wsV own index Cn y wsY)) (hwY : wsY = Cond.code y bytes maxL rty :: wsY') (na : Nat) (hna : As.length = na) (h0 : rm.cells = 1 ∧ rm.slots = 6) (hd : y.cls = Cn ∧ y.cls ≠ "java/lang/invoke/MethodHandle" ∧ y.cls ≠ "java/lang/invoke/VarHandle" ∧ (parseMethodDescriptor y.desc).map (fun d => d.parameters.length) = some na) (hR : rm.frames + 1 ≤ R.frames ∧ 8 + (maxL + 11) + rm.locals ≤ R.locals)
    (isC isR isN : List Nat) (hC : isC.map (fun i => w[i]?) = wc.map some) (hCn : va_nd isC = true) (hRr : isR.map (fun i => w[i]?) = wr.map some) (hRn : va_nd isR = true) (hdis : ∀ i ∈ isR, i ∉ isC) (hN : isN.map (fun i => (wr ++ wc)[i]?) = w0.map some) (hNn : va_nd isN = true) (q0 ci : Nat) {fs : List Value} {T : u_T} {N : Nat} (hc : vwCl[ci]? = some (Cn, T, N)) (he : w[q0]? = some (b, .inr (ci, fs))) (hls : ls.size = nL) (hst : st0 = As.reverse ++ .ref b :: rest) (hrest : (rest.map fun v => v.category).sum ≤ 8) (hdg : decode cc pc = .ok (.invokevirtual index, 3)) (hf : 1 ≤ R.cells ∧ 6 ≤ R.slots) :
    W p l e R s m args below meth c H locs 0 0 (vx_MQ below Pq (vx_X (fun (_ : Unit) => True) (fun Ex _ t => Ex = X ∧ XQ E w0 s.heap.size w0 t) (va_A w0 s.heap.size)) args s 1 6 (va_A w0 s.heap.size)) (F0 m pc ls st0) := by
  obtain ⟨hP, hD, hS⟩ := hW
  subst hst
  have hPc := hP.sub isC (map_fm hC)
  have hDc := hD.sub isC hCn hC
  have hFc := va_free (wc := wc) hD hS C.ar isC hC
  have hPre : ∀ U : State, U.heap = H → s.WarmedH U.vm → va_Pc (.ref b :: As) (XPX E wc H.size) (Value.ref b :: As).toArray U := fun U hU hW => ⟨rfl, ⟨by rw [hU], by rw [hU]; exact hPc, va_K.moved hW.alike C.K, hDc.weaken (fun _ _ _ _ => trivial), C.G.to (by rw [hU]; exact hS.2.1) hFc hW⟩, hgc.to hW⟩
  have hlk := C.lk
  refine vx_callv (mc := 1) (ms := 6) (vx_runV (As := As) (rest := rest) C.fix (hM H.size) (cwV na C.ts hg hwY h0.1 h0.2 hd hR) ⟨fun a U g mk q => ⟨q.1, q.2.calling⟩, va_recv C.K hP hc he, hPre⟩ rfl hna hls rfl (lv_room hrest) hdg ⟨by omega, by omega⟩) hS (fun q _ h => hFc q h) hFc (fun q _ h => hFc q h) (fun Ex ce q9 u t H1 locs1 ht hvm _ hB hz1 hk1 hS1 hcell hv hcl => ?_) (fun u t H1 locs1 ht hvm hw2 hB hz1 hk1 hS1 => hw2.elim)
  · obtain ⟨rfl, hP1, hK1, hD1⟩ := hB
    rw [ht] at hP1
    obtain ⟨hP2, hD2⟩ := va_join (wr := wr) (w1 := wc) hP hD isC isR hC hRr hRn hdis hk1 hFc hP1 hD1
    exact vx_out (fun x hx => (hex x hx).elim) hlk hcell hv hcl (fun t2 ht2 ha2 => ⟨(), trivial, ⟨rfl, by rw [ht2]; exact hP2.sub isN (map_fm hN), va_K.moved ha2 C.K, hD2.sub isN hNn hN⟩, hS1.F ht2⟩) hS1.2.2 (Nat.le_of_ble_eq_true rfl) (Nat.le_of_ble_eq_true rfl)

/-- 'throw new X(text)' where the cells are as at the start -/
theorem x_throw {w0 : va_W} {X text : String} {sa ik is ic : Nat} {Pq : Array Value → State → Outcome → State → Prop} (C : CX p s m args meth c cc nL own Ts ret E (va_A w0 s.heap.size)) (hst : l.stackTraces = false) (hex : ∀ x ∈ c.exceptionTable.toList, False) (hW : WD E (va_A w0 s.heap.size) s w0 H locs) (hls : ls.size = nL) (hcls : Bundle.fit X = true) (hk : Cond.classLink own ik X ∈ Ts) (hini : Cond.initialized X ∈ Ts) (hstr : vk_R own is text sa s) (hat : ∀ w ∈ vx_atS own ic X xNames, w.before args s = true) (hgood : ∀ w ∈ Cond.classLink own ik X :: Cond.initialized X :: vx_atS own ic X xNames, vx_ot w = true)
    (d0 : decode cc pc = .ok (.new ik, 3)) (d3 : decode cc (pc + 3) = .ok (.dup, 1)) (d4 : decode cc (pc + 4) = .ok (.ldc is, 2)) (d6 : decode cc (pc + 6) = .ok (.invokespecial ic, 3)) (d9 : decode cc (pc + 9) = .ok (.athrow, 1)) (hrest : rest = []) (hRf : 6 ≤ R.frames) (hRl : 82 ≤ R.locals) (hf : 1 ≤ R.cells ∧ 6 ≤ R.slots) :
    W p l e R s m args below meth c H locs 0 0 (vx_MQ below Pq (vx_X (fun (_ : Unit) => True) (fun Ex _ t => Ex = X ∧ XQ E w0 s.heap.size w0 t) (va_A w0 s.heap.size)) args s 1 6 (va_A w0 s.heap.size)) (F0 m pc ls rest) := by
  subst hrest
  refine vx_throwS C.x C.b hst (own := own) (cls := X) (names := xNames) (A := va_A w0 s.heap.size) C.ow hcls (by decide +kernel) (C.ts _ hk) (C.ts _ hini) hstr hat hgood C.G.2.2.2.2.1 C.G.2.2.2.2.2.1 hW.2.2 (hls.trans C.2.2.1.symm) d0 d3 d4 d6 d9 (fun x hx => (hex x hx).elim) (by show 2 + 3 < R.frames; omega) (by show 0 + (13 * (2 + 1) + 43) ≤ R.locals; omega) (by omega) (by omega) C.lk (fun t hal hsz hq => ⟨(), trivial, ⟨rfl, ?_, va_K.moved hal C.K, hW.2.1⟩, ?_⟩) hW.2.2.2.2 (by omega) (by omega)
  · exact hW.1.kept (fun k q hk => hq q.1 (vx_lt hW.1 hk))
  · exact ⟨Nat.le_trans hW.2.2.1 hsz, fun q h1 h2 => (hq q (Nat.lt_of_lt_of_le h1 hW.2.2.1)).trans (hW.2.2.2.1 q h1 h2)⟩
