/-! THE WRITER'S OWN KIT, 6: objects, rows of references, the law's helpers -/
def XPO (E : EV) (wc : va_W) (sz : Nat) (U : State) : Prop := XP E wc sz U ∧ va_AO "SkittleStrings$Sheet" U
theorem XPO.calling {E : EV} {wc : va_W} {sz : Nat} {U : State} {g : JFrame} {mk : MethodId} {a : Array Value} (h : XPO E wc sz U) : XPO E wc sz (U.calling g mk a) := ⟨h.1.calling, va_AO.moved (u := U) (U := U.calling g mk a) (Vm.Alike.refl U.vm) h.2⟩
def MCO (l : Launch) (y : MethodName) (ws : List Cond) (rm : Room) (E : EV) (args : List Value) (wc : va_W) (mc ms : Nat) (post : va_W → Prop) : Prop := ∀ sz, Met l y ws rm (va_Pc args (XPO E wc sz)) (va_Qv post (fun w1 t => XQ E wc sz w1 t) (va_A wc sz)) mc ms (va_A wc sz)
theorem x_startO {l : Launch} {y : MethodName} {ws ws' : List Cond} {rm : Room} {E : EV} {args : List Value} {wc : va_W} {cc : ByteArray} {maxL mc ms : Nat} {post : va_W → Prop} {own : String} {ret : Option FieldType} (hown : y.cls = own) (hy : plainName y.cls = true) (hw : ws = Cond.code y cc maxL ret :: ws') (hlen : (lg_sl args).length ≤ maxL)
    (body : ∀ (p : Program) (e : Env) (s : State) (m : MethodId) (below : List Frame) (meth : Method) (c : Code), CX p s m args.toArray meth c cc maxL own ws ret E (va_A wc s.heap.size) → meth.name = y.name → va_AO "SkittleStrings$Sheet" s → ∀ ls : Array Slot, lv_has ls maxL (lv_args 0 args) → WD E (va_A wc s.heap.size) s wc s.heap [] →
      W p l e rm s m args.toArray below meth c s.heap [] 0 0 (QC E wc mc ms post below args.toArray s) (F0 m 0 ls [])) : MCO l y ws rm E args wc mc ms post := by
  intro sz
  refine Met.ofW (cc := cc) (maxL := maxL) (ret := ret) hy hw ?_
  intro p e s m args' below meth c s₁ B hml hv
  obtain ⟨rfl, ⟨hsz, hP, hK, hD0, hG⟩, hao⟩ := hv
  subst hsz
  have hl := lv_entry args (n := maxL) hlen
  rw [lg_entry_eq]
  exact body p e s m below meth c ⟨B.exec, B.bytes, hml, by rw [← hown]; exact findClass_of_methodNamed B.named, atoms_spec (ws := ws) B.pre, B.returns, B.notSynchronized, hK, hG, fun q h => Or.inr h⟩ (name_of_methodNamed B.named B.method).1 hao _ hl ⟨hP, hD0.self, va_S.rf⟩
theorem x_ofWH {l : Launch} {y : MethodName} {ws ws' : List Cond} {rm : Room} {Pc : Array Value → State → Prop} {Qc : Array Value → State → Outcome → State → Prop} {mc ms : Nat} {free : Addr → Prop} {cc : ByteArray} {maxL : Nat} {ret : Option FieldType} {hh : List (Nat × Nat × Nat × Nat)}
    (hy : plainName y.cls = true) (hw : ws = Cond.codeWith y cc maxL ret hh :: ws')
    (body : ∀ p e s m args below meth c s₁, BodyLoose p l y (headSpec ws rm) cc maxL ret e s m args below meth c s₁ → c.maxLocals = maxL → Pc args s →
      W p l e (headSpec ws rm).room s m args below meth c s.heap [] 0 0 (MQ below Qc args s mc ms free) (entryFrame m args maxL)) : Met l y ws rm Pc Qc mc ms free := by
  refine MetFree.of_bodyS (code := cc) (maxLocals := maxL) (ret := ret) hy ?_ ?_
  · intro args s m h hn
    obtain ⟨m9, meth, c, hn9, h1, h2, h3, h4, -, h5, h6, -⟩ := Cond.codeWith_spec (atoms_spec (ws := ws) h _ (by rw [hw]; exact List.mem_cons_self))
    cases hn.symm.trans hn9
    exact ⟨meth, c, h1, h2, h3, h4, h5, h6⟩
  · intro p e s m args below meth c s₁ B hml hP _
    have hh0 : s₁.heap = s.heap := by rw [B.state]; rfl
    obtain ⟨t, a1, o, b1, b2, b3⟩ := body p e s m args below meth c s₁ B hml hP s₁ hh0 (Stand.of_body B)
    exact ⟨t, o, a1, b1, b2, ⟨b3.1, b3.2⟩⟩
/-- the law's helpers: with a table of handlers -/
def MIh (l : Launch) (y : MethodName) (ws : List Cond) (rm : Room) (E : EV) (args : List Value) (wc : va_W) (mc ms : Nat) (r : Int32) (w1 : va_W) : Prop := ∀ sz, Met l y ws rm (va_Pc args (XPX E wc sz)) (va_Qi (fun (r' : Int32) (_ : Unit) => r' = r) (fun _ t => XQ E wc sz w1 t) (va_A wc sz)) mc ms (va_A wc sz)
def QIh (E : EV) (wc : va_W) (mc ms : Nat) (r : Int32) (w1 : va_W) (below : List Frame) (args : Array Value) (s : State) : State → Prop := MQ below (va_Qi (fun (r' : Int32) (_ : Unit) => r' = r) (fun _ t => XQ E wc s.heap.size w1 t) (va_A wc s.heap.size)) args s mc ms (va_A wc s.heap.size)
theorem sH {l : Launch} {y : MethodName} {ws ws' : List Cond} {rm : Room} {E : EV} {args : List Value} {wc w1 : va_W} {cc : ByteArray} {maxL mc ms : Nat} {r : Int32} {own : String} {ret : Option FieldType} {hh : List (Nat × Nat × Nat × Nat)} (hown : y.cls = own) (hy : plainName y.cls = true) (hw : ws = Cond.codeWith y cc maxL ret hh :: ws') (hlen : (lg_sl args).length ≤ maxL)
    (body : ∀ (p : Program) (e : Env) (s : State) (m : MethodId) (below : List Frame) (meth : Method) (c : Code), CX p s m args.toArray meth c cc maxL own ws ret E (va_A wc s.heap.size) → gC s → c.exceptionTable.toList = tableOf hh → ∀ ls : Array Slot, lv_has ls maxL (lv_args 0 args) → WD E (va_A wc s.heap.size) s wc s.heap [] →
      W p l e rm s m args.toArray below meth c s.heap [] 0 0 (QIh E wc mc ms r w1 below args.toArray s) (F0 m 0 ls [])) : MIh l y ws rm E args wc mc ms r w1 := by
  intro sz
  refine x_ofWH (cc := cc) (maxL := maxL) (ret := ret) hy hw ?_
  intro p e s m args' below meth c s₁ B hml hv
  obtain ⟨rfl, ⟨hsz, hP, hK, hD0, hG⟩, hgc⟩ := hv
  subst hsz
  have hl := lv_entry args (n := maxL) hlen
  rw [lg_entry_eq]
  exact body p e s m below meth c ⟨B.exec, B.bytes, hml, by rw [← hown]; exact findClass_of_methodNamed B.named, atoms_spec (ws := ws) B.pre, B.returns, B.notSynchronized, hK, hG, fun q h => Or.inr h⟩ hgc (vx_table (x := y) B (atoms_spec (ws := ws) B.pre _ (by rw [hw]; exact List.mem_cons_self))) _ hl ⟨hP, hD0.self, va_S.rf⟩
section XO
variable {p : Program} {l : Launch} {e : Env} {R : Room} {s : State} {m : MethodId} {args : Array Value} {below : List Frame} {meth : Method} {c : Code} {H : Heap} {locs : List Loc} {cells slots : Nat} {Q : State → Prop}
variable {cc : ByteArray} {pc nL : Nat} {ls : Array Slot} {rest st0 : List Value} {own : String} {Ts : List Cond} {ret : Option FieldType} {E : EV} {A : Nat → Prop} {w : va_W}
theorem x_new (C : CX p s m args meth c cc nL own Ts ret E A) (hW : WD E A s w H locs) {Cn : String} {T : u_T} {N index ci : Nat} {fs : List Value} (ty : Nat → FieldType) (hty : ∀ k, k < N → parseFieldDescriptor (T k).2.2.1 = some (ty k)) (hc : vwCl[ci]? = some (Cn, T, N)) (hin : ∀ w ∈ u_ws Cn T N, w ∈ Ts) (hcl : Cond.classLink own index Cn ∈ Ts) (hinst : Cond.instantiable Cn N ∈ Ts) (hini : Cond.initialized Cn ∈ Ts) (hfs : ∀ j, j < N → defaultValue (ty j) = vp_V fs j) (hcells : cells + 1 ≤ R.cells) (hslots : slots + N ≤ R.slots) (hdg : decode cc pc = .ok (.new index, 3))
    (kk : ∀ (q : Nat) (H1 : Heap), WD E A s (w ++ [(q, .inr (ci, fs))]) H1 locs → W p l e R s m args below meth c H1 locs (cells + 1) (slots + N) Q (F0 m (pc + 3) ls (.ref q :: rest))) : W p l e R s m args below meth c H locs cells slots Q (F0 m pc ls rest) :=
  va_new C.x C.b C.ts hin ty hty C.ow (C.ts _ hcl) (C.ts _ hinst) (C.ts _ hini) C.K hW.1 hW.2.1 hW.2.2 C.ar hc hfs hcells hslots hdg (fun q H1 h1 h2 h3 => kk q H1 ⟨h1, h2, h3⟩)
/-- a constructor, by a nest mate's link -/
theorem x_cIN (C : CX p s m args meth c cc nL own Ts ret E A) (hW : WD E A s w H locs) {y : MethodName} {wsY wsY' : List Cond} {rm : Room} {b mc ms : Nat} {wc wr : va_W} {post : va_W → Prop} (hM : MC l y wsY rm E [.ref b] wc mc ms post) {index maxL : Nat} {host : String} {bytes : ByteArray} (hN : va_Nw (.methodLinkNest own index y host) s) (hini : Cond.initialized y.cls ∈ Ts) (hinst : Cond.instanceMethod y ∈ Ts) (hyn : y.name = "<init>") (hg : GoodIn Ts wsY) (hwY : wsY = Cond.code y bytes maxL none :: wsY') (h0 : rm.cells = mc ∧ rm.slots = ms) (hd : y.cls ≠ "java/lang/invoke/MethodHandle" ∧ y.cls ≠ "java/lang/invoke/VarHandle" ∧ (parseMethodDescriptor y.desc).map (fun d => d.parameters.length) = some 0) (hR : rm.frames + 1 ≤ R.frames ∧ 8 + (maxL + 11) + rm.locals ≤ R.locals)
    (isC isR : List Nat) (hC : isC.map (fun i => w[i]?) = wc.map some) (hCn : va_nd isC = true) (hRr : isR.map (fun i => w[i]?) = wr.map some) (hRn : va_nd isR = true) (hdis : ∀ i ∈ isR, i ∉ isC) (hls : ls.size = nL) (hst : st0 = .ref b :: rest) (hrest : (rest.map fun v => v.category).sum ≤ 8) (hdg : decode cc pc = .ok (.invokespecial index, 3)) (hf : cells + mc ≤ R.cells ∧ slots + ms ≤ R.slots)
    (kk : ∀ (w1 : va_W) (H1 : Heap) (locs1 : List Loc), post w1 → WD E A s (wr ++ w1) H1 locs1 → W p l e R s m args below meth c H1 locs1 (cells + mc) (slots + ms) Q (F0 m (pc + 3) ls rest)) : W p l e R s m args below meth c H locs cells slots Q (F0 m pc ls st0) := by
  obtain ⟨hP, hD, hS⟩ := hW
  subst hst
  have hPc := hP.sub isC (map_fm hC)
  have hDc := hD.sub isC hCn hC
  have hFc := va_free (wc := wc) hD hS C.ar isC hC
  have hPre : ∀ U : State, U.heap = H → s.WarmedH U.vm → va_Pc [.ref b] (XP E wc H.size) [Value.ref b].toArray U := fun U hU hW => ⟨rfl, by rw [hU], by rw [hU]; exact hPc, va_K.moved hW.alike C.K, hDc.weaken (fun _ _ _ _ => trivial), C.G.to (by rw [hU]; exact hS.2.1) hFc hW⟩
  refine va_callv (va_runIN (As := []) (rest := rest) C.fix (hM H.size) ⟨va_cnB 0 C.ts hg hwY h0.1 h0.2 hN (C.ts _ hini) hd hR, hyn, C.ts _ hinst⟩ ⟨fun a U g mk q => ⟨q.1, q.2.calling⟩, hPre⟩ rfl rfl hls rfl (lv_room hrest) hdg hf) hS (fun q _ h => hFc q h) hFc (fun u t H1 locs1 ht hvm hp hB hz1 hk1 hS1 => ?_)
  obtain ⟨hP1, hK1, hD1⟩ := hB
  rw [ht] at hP1
  obtain ⟨hP2, hD2⟩ := va_join (wr := wr) (w1 := u) hP hD isC isR hC hRr hRn hdis hk1 hFc hP1 hD1
  exact kk u H1 locs1 hp ⟨hP2, hD2, hS1⟩
/-- a constructor, by its own link -/
theorem x_cI (C : CX p s m args meth c cc nL own Ts ret E A) (hW : WD E A s w H locs) {y : MethodName} {wsY wsY' : List Cond} {rm : Room} {b mc ms : Nat} {wc wr : va_W} {post : va_W → Prop} (hM : MC l y wsY rm E [.ref b] wc mc ms post) {index maxL : Nat} {bytes : ByteArray} (hN : Cond.methodLink own index y ∈ Ts) (hini : Cond.initialized y.cls ∈ Ts) (hinst : Cond.instanceMethod y ∈ Ts) (hyn : y.name = "<init>") (hg : GoodIn Ts wsY) (hwY : wsY = Cond.code y bytes maxL none :: wsY') (h0 : rm.cells = mc ∧ rm.slots = ms) (hd : y.cls ≠ "java/lang/invoke/MethodHandle" ∧ y.cls ≠ "java/lang/invoke/VarHandle" ∧ (parseMethodDescriptor y.desc).map (fun d => d.parameters.length) = some 0) (hR : rm.frames + 1 ≤ R.frames ∧ 8 + (maxL + 11) + rm.locals ≤ R.locals)
    (isC isR : List Nat) (hC : isC.map (fun i => w[i]?) = wc.map some) (hCn : va_nd isC = true) (hRr : isR.map (fun i => w[i]?) = wr.map some) (hRn : va_nd isR = true) (hdis : ∀ i ∈ isR, i ∉ isC) (hls : ls.size = nL) (hst : st0 = .ref b :: rest) (hrest : (rest.map fun v => v.category).sum ≤ 8) (hdg : decode cc pc = .ok (.invokespecial index, 3)) (hf : cells + mc ≤ R.cells ∧ slots + ms ≤ R.slots)
    (kk : ∀ (w1 : va_W) (H1 : Heap) (locs1 : List Loc), post w1 → WD E A s (wr ++ w1) H1 locs1 → W p l e R s m args below meth c H1 locs1 (cells + mc) (slots + ms) Q (F0 m (pc + 3) ls rest)) : W p l e R s m args below meth c H locs cells slots Q (F0 m pc ls st0) := by
  obtain ⟨hP, hD, hS⟩ := hW
  subst hst
  have hPc := hP.sub isC (map_fm hC)
  have hDc := hD.sub isC hCn hC
  have hFc := va_free (wc := wc) hD hS C.ar isC hC
  have hPre : ∀ U : State, U.heap = H → s.WarmedH U.vm → va_Pc [.ref b] (XP E wc H.size) [Value.ref b].toArray U := fun U hU hW => ⟨rfl, by rw [hU], by rw [hU]; exact hPc, va_K.moved hW.alike C.K, hDc.weaken (fun _ _ _ _ => trivial), C.G.to (by rw [hU]; exact hS.2.1) hFc hW⟩
  refine va_callv (va_runI (As := []) (rest := rest) C.fix (hM H.size) (cwI 0 C.ts hg hwY h0.1 h0.2 (C.ts _ hini) (C.ts _ hN) (C.ts _ hinst) hyn hd hR) ⟨fun a U g mk q => ⟨q.1, q.2.calling⟩, hPre⟩ rfl rfl hls rfl (lv_room hrest) hdg hf) hS (fun q _ h => hFc q h) hFc (fun u t H1 locs1 ht hvm hp hB hz1 hk1 hS1 => ?_)
  obtain ⟨hP1, hK1, hD1⟩ := hB
  rw [ht] at hP1
  obtain ⟨hP2, hD2⟩ := va_join (wr := wr) (w1 := u) hP hD isC isR hC hRr hRn hdis hk1 hFc hP1 hD1
  exact kk u H1 locs1 hp ⟨hP2, hD2, hS1⟩
theorem x_cIO (C : CX p s m args meth c cc nL own Ts ret E A) (hao : va_AO "SkittleStrings$Sheet" s) (hW : WD E A s w H locs) {y : MethodName} {wsY wsY' : List Cond} {rm : Room} {b mc ms : Nat} {wc wr : va_W} {post : va_W → Prop} (hM : MCO l y wsY rm E [.ref b] wc mc ms post) {index maxL : Nat} {bytes : ByteArray} (hN : Cond.methodLink own index y ∈ Ts) (hini : Cond.initialized y.cls ∈ Ts) (hinst : Cond.instanceMethod y ∈ Ts) (hyn : y.name = "<init>") (hg : GoodIn Ts wsY) (hwY : wsY = Cond.code y bytes maxL none :: wsY') (h0 : rm.cells = mc ∧ rm.slots = ms) (hd : y.cls ≠ "java/lang/invoke/MethodHandle" ∧ y.cls ≠ "java/lang/invoke/VarHandle" ∧ (parseMethodDescriptor y.desc).map (fun d => d.parameters.length) = some 0) (hR : rm.frames + 1 ≤ R.frames ∧ 8 + (maxL + 11) + rm.locals ≤ R.locals)
    (isC isR : List Nat) (hC : isC.map (fun i => w[i]?) = wc.map some) (hCn : va_nd isC = true) (hRr : isR.map (fun i => w[i]?) = wr.map some) (hRn : va_nd isR = true) (hdis : ∀ i ∈ isR, i ∉ isC) (hls : ls.size = nL) (hst : st0 = .ref b :: rest) (hrest : (rest.map fun v => v.category).sum ≤ 8) (hdg : decode cc pc = .ok (.invokespecial index, 3)) (hf : cells + mc ≤ R.cells ∧ slots + ms ≤ R.slots)
    (kk : ∀ (w1 : va_W) (H1 : Heap) (locs1 : List Loc), post w1 → WD E A s (wr ++ w1) H1 locs1 → W p l e R s m args below meth c H1 locs1 (cells + mc) (slots + ms) Q (F0 m (pc + 3) ls rest)) : W p l e R s m args below meth c H locs cells slots Q (F0 m pc ls st0) := by
  obtain ⟨hP, hD, hS⟩ := hW
  subst hst
  have hPc := hP.sub isC (map_fm hC)
  have hDc := hD.sub isC hCn hC
  have hFc := va_free (wc := wc) hD hS C.ar isC hC
  have hPre : ∀ U : State, U.heap = H → s.WarmedH U.vm → va_Pc [.ref b] (XPO E wc H.size) [Value.ref b].toArray U := fun U hU hW => ⟨rfl, ⟨by rw [hU], by rw [hU]; exact hPc, va_K.moved hW.alike C.K, hDc.weaken (fun _ _ _ _ => trivial), C.G.to (by rw [hU]; exact hS.2.1) hFc hW⟩, va_AO.moved hW.alike hao⟩
  refine va_callv (va_runI (As := []) (rest := rest) C.fix (hM H.size) (cwI 0 C.ts hg hwY h0.1 h0.2 (C.ts _ hini) (C.ts _ hN) (C.ts _ hinst) hyn hd hR) ⟨fun a U g mk q => ⟨q.1, q.2.calling⟩, hPre⟩ rfl rfl hls rfl (lv_room hrest) hdg hf) hS (fun q _ h => hFc q h) hFc (fun u t H1 locs1 ht hvm hp hB hz1 hk1 hS1 => ?_)
  obtain ⟨hP1, hK1, hD1⟩ := hB
  rw [ht] at hP1
  obtain ⟨hP2, hD2⟩ := va_join (wr := wr) (w1 := u) hP hD isC isR hC hRr hRn hdis hk1 hFc hP1 hD1
  exact kk u H1 locs1 hp ⟨hP2, hD2, hS1⟩
/-- the row of sheets is made, and written -/
theorem x_newq (C : CX p s m args meth c cc nL own Ts ret E A) (hao : va_AO "SkittleStrings$Sheet" s) (hW : WD E A s w H locs) {N' index : Nat} {n : Int32} (hcl : Cond.classLink own index "SkittleStrings$Sheet" ∈ Ts) (hn : n = nI N') (hlt : N' < 1000) (hcells : cells + 1 ≤ R.cells) (hslots : slots + N' ≤ R.slots) (hdg : decode cc pc = .ok (.anewarray index, 3))
    (kk : ∀ (q : Nat) (H1 : Heap), WD E A s (w ++ [(q, .inl (E.2.2.2.1, N', .inr (.inr (.inr (.inr (fun _ => none))))))]) H1 locs → W p l e R s m args below meth c H1 locs (cells + 1) (slots + N') Q (F0 m (pc + 3) ls (.ref q :: rest))) : W p l e R s m args below meth c H locs cells slots Q (F0 m pc ls (.int n :: rest)) := by
  subst hn
  refine va_newq C.x C.b C.ow (C.ts _ hcl) hao C.K hW.1 hW.2.1 hW.2.2 C.ar (nI_pos (by omega)) (nI_clamp (by omega)) (by omega) hcells hslots hdg (fun q cA H1 hK1 hP1 hD1 hS1 => ?_)
  have e1 : cA = E.2.2.2.1 := by
    obtain ⟨-, -, -, -, -, h1⟩ := (hK1.2 4 (cA, .object "SkittleStrings$Sheet") rfl).2
    obtain ⟨-, -, -, -, -, h2⟩ := (C.K.2 2 (E.2.2.2.1, .object "SkittleStrings$Sheet") rfl).2
    exact Option.some.inj (h1.symm.trans h2)
  subst e1
  exact kk q H1 ⟨hP1, hD1, hS1⟩
theorem x_astq (C : CX p s m args meth c cc nL own Ts ret E A) (hW : WD E A s w H locs) (q0 qk : Nat) {a n v : Nat} {vs : List Value} {f : Nat → Option Nat} {i : Int32} {w' : va_W} (j : Nat) (he : w[q0]? = some (a, .inl (E.2.2.2.1, n, .inr (.inr (.inr (.inr f)))))) (hv : w[qk]? = some (v, .inr (2, vs))) (hi : i = nI j) (hj : j < n) (hn : n < 2 ^ 31) (hdg : decode cc pc = .ok (.aastore, 1)) (hw : w.set q0 (a, .inl (E.2.2.2.1, n, .inr (.inr (.inr (.inr (va_up f j (some v))))))) = w')
    (kk : ∀ (H1 : Heap) (locs1 : List Loc), WD E A s w' H1 locs1 → W p l e R s m args below meth c H1 locs1 cells slots Q (F0 m (pc + 1) ls rest)) : W p l e R s m args below meth c H locs cells slots Q (F0 m pc ls (.ref v :: .int i :: .ref a :: rest)) := by
  subst hi; subst hw
  have hj2 : j < 2 ^ 31 := Nat.lt_trans hj hn
  refine va_astq (r := (RX3, TX3, 5)) C.x C.b C.K hW.1 hW.2.1 hW.2.2 q0 2 qk 2 he rfl hv rfl (vp_in_nI hj hn) hdg (fun H1 locs1 h1 h2 h3 => ?_)
  rw [nI_clamp hj2] at h1 h2
  exact kk H1 locs1 ⟨h1, h2, h3⟩
/-- a row of references, told otherwise beyond its end -/
theorem WD.row (hW : WD E A s w H locs) (q0 : Nat) {a n : Nat} {cA : ClassId} {f g : Nat → Option Nat} (he : w[q0]? = some (a, .inl (cA, n, .inr (.inr (.inr (.inr f)))))) (hfg : ∀ j, j < n → f j = g j) {w' : va_W} (hw : w.set q0 (a, .inl (cA, n, .inr (.inr (.inr (.inr g))))) = w') : WD E A s w' H locs := by
  subst hw
  refine ⟨hW.1.set hW.2.1 he ?_ (fun _ _ => rfl), hW.2.1.set he, hW.2.2⟩
  have h0 : H[a]? = some (vp_cell cA (n, .inr (.inr (.inr (.inr f))))) := hW.1 q0 _ he
  show H[a]? = some (vp_cell cA (n, .inr (.inr (.inr (.inr g)))))
  rw [h0, vp_cell_q, vp_cell_q]
  congr 1
  unfold arrV
  congr 1
  congr 1
  funext j
  show va_rf (f j.val) = va_rf (g j.val)
  rw [hfg j.val j.isLt]
/-- the same long twice -/
theorem x_lcmp (C : CX p s m args meth c cc nL own Ts ret E A) {x y : Int64} (hxy : x = y) (hdg : decode cc pc = .ok (.lcmp, 1))
    (kk : W p l e R s m args below meth c H locs cells slots Q (F0 m (pc + 1) ls (.int (nI 0) :: rest))) : W p l e R s m args below meth c H locs cells slots Q (F0 m pc ls (.long y :: .long x :: rest)) := by
  subst hxy
  refine W.lcmp C.x C.b hdg ?_
  rw [show lg_cmp x x = nI 0 from by unfold lg_cmp; rw [if_neg (by rw [gt_iff_lt, Int64.lt_iff_toInt_lt]; omega), if_pos rfl]; rfl]
  exact kk
theorem x_iretH {wc w1 : va_W} {mc ms : Nat} {r v : Int32} {ty : FieldType} (C : CX p s m args meth c cc nL own Ts (some ty) E (va_A wc s.heap.size)) (hW : WD E (va_A wc s.heap.size) s w1 H locs) (hn : narrow ty (.int v) = .int v) (hv : v = r) (hc : cells = mc) (hs : slots = ms) (hdg : decode cc pc = .ok (.ireturn, 1)) : W p l e R s m args below meth c H locs cells slots (QIh E wc mc ms r w1 below args s) (F0 m pc ls [.int v]) := by
  subst hv; subst hc; subst hs
  have hlocks := C.lk
  exact W.zret C.x C.b C.r hn (fun t ht hWm => ⟨⟨v, (), rfl, rfl, by rw [ht]; exact hW.1, va_K.moved hWm.alike C.K, hW.2.1⟩, hW.2.2.F ht⟩) hW.2.2.2.2 hdg
/-- a call of an object that always throws, in a method that catches it -/
theorem x_catchV {X name : String} (C : CX p s m args meth c cc nL own Ts ret E A) (hgc : gC s) (pre : List ExceptionTableEntry) (x : ExceptionTableEntry) (suf : List ExceptionTableEntry) (hsplit : c.exceptionTable.toList = pre ++ x :: suf)
    (hpass : ∀ z ∈ pre, covers z pc = false ∨ (z.catchType ≠ 0 ∧ ∃ nm : String, (Cond.classLink own z.catchType nm).before args s = true ∧ va_Nc X nm s)) (hx : covers x pc = true) (h0x : x.catchType ≠ 0) (hlink : Cond.classLink own x.catchType name ∈ Ts) (hcast : va_Nw (.castable X name) s)
    (hW : WD E A s w H locs) {y : MethodName} {wsY wsY' : List Cond} {rm : Room} {b : Nat} {As : List Value} {wc wr wn : va_W} (hM : MXi l y wsY rm E (.ref b :: As) wc X) {Cn : String} {index maxL : Nat} {bytes : ByteArray} {rty : Option FieldType} (hg : GoodIn Ts (wsV own index Cn y wsY)) (hwY : wsY = Cond.code y bytes maxL rty :: wsY') (na : Nat) (hna : As.length = na) (h0 : rm.cells = 1 ∧ rm.slots = 6) (hd : y.cls = Cn ∧ y.cls ≠ "java/lang/invoke/MethodHandle" ∧ y.cls ≠ "java/lang/invoke/VarHandle" ∧ (parseMethodDescriptor y.desc).map (fun d => d.parameters.length) = some na) (hR : rm.frames + 1 ≤ R.frames ∧ 8 + (maxL + 11) + rm.locals ≤ R.locals)
    (isC isR isN : List Nat) (hC : isC.map (fun i => w[i]?) = wc.map some) (hCn : va_nd isC = true) (hRr : isR.map (fun i => w[i]?) = wr.map some) (hRn : va_nd isR = true) (hdis : ∀ i ∈ isR, i ∉ isC) (hN : isN.map (fun i => (wr ++ wc)[i]?) = wn.map some) (hNn : va_nd isN = true) (q0 ci : Nat) {fs : List Value} {T : u_T} {N : Nat} (hc : vwCl[ci]? = some (Cn, T, N)) (he : w[q0]? = some (b, .inr (ci, fs))) (hls : ls.size = nL) (hst : st0 = As.reverse ++ .ref b :: rest) (hrest : (rest.map fun v => v.category).sum ≤ 8) (hdg : decode cc pc = .ok (.invokevirtual index, 3)) (hf : cells + 1 ≤ R.cells ∧ slots + 6 ≤ R.slots)
    (kk : ∀ (q : Nat) (H1 : Heap) (locs1 : List Loc), WD E A s wn H1 locs1 → W p l e R s m args below meth c H1 locs1 (cells + 1) (slots + 6) Q (F0 m x.handlerPc ls [.ref q])) :
    W p l e R s m args below meth c H locs cells slots Q (F0 m pc ls st0) := by
  obtain ⟨hP, hD, hS⟩ := hW
  subst hst
  have hPc := hP.sub isC (map_fm hC)
  have hDc := hD.sub isC hCn hC
  have hFc := va_free (wc := wc) hD hS C.ar isC hC
  have hPre : ∀ U : State, U.heap = H → s.WarmedH U.vm → va_Pc (.ref b :: As) (XPX E wc H.size) (Value.ref b :: As).toArray U := fun U hU hW => ⟨rfl, ⟨by rw [hU], by rw [hU]; exact hPc, va_K.moved hW.alike C.K, hDc.weaken (fun _ _ _ _ => trivial), C.G.to (by rw [hU]; exact hS.2.1) hFc hW⟩, hgc.to hW⟩
  refine vx_calli (mc := 1) (ms := 6) (vx_runV (As := As) (rest := rest) C.fix (hM H.size) (cwV na C.ts hg hwY h0.1 h0.2 hd hR) ⟨fun a U g mk q => ⟨q.1, q.2.calling⟩, va_recv C.K hP hc he, hPre⟩ rfl hna hls rfl (lv_room hrest) hdg hf) hS (fun q _ h => hFc q h) hFc (fun q _ h => hFc q h) (fun Ex ce q9 u t H1 locs1 ht hvm _ hB hz1 hk1 hS1 hcell hv hcl => ?_) (fun r u t H1 locs1 ht hvm hw2 hB hz1 hk1 hS1 => hw2.elim)
  · obtain ⟨rfl, hP1, hK1, hD1⟩ := hB
    rw [ht] at hP1
    obtain ⟨hP2, hD2⟩ := va_join (wr := wr) (w1 := wc) hP hD isC isR hC hRr hRn hdis hk1 hFc hP1 hD1
    exact vx_catch C.ow pre x suf hsplit hpass hx h0x (C.ts _ hlink) (va_Nw.use rfl hcast) hcell hv hcl (kk q9 H1 locs1 ⟨hP2.sub isN (map_fm hN), hD2.sub isN hNn hN, hS1⟩)
/-- the law calls a helper -/
theorem x_cSH (C : CX p s m args meth c cc nL own Ts ret E A) (hgc : gC s) (hW : WD E A s w H locs) {y : MethodName} {wsY wsY' : List Cond} {rm : Room} {As : List Value} {wc wr w1 wn : va_W} {mc ms : Nat} {r : Int32} (hM : MIh l y wsY rm E As wc mc ms r w1) {index maxL : Nat} {bytes : ByteArray} {rty : Option FieldType} {hh : List (Nat × Nat × Nat × Nat)} (hg : GoodIn Ts (va_wsS own index y wsY)) (hwY : wsY = Cond.codeWith y bytes maxL rty hh :: wsY') (na : Nat) (hna : As.length = na) (h0 : rm.cells = mc ∧ rm.slots = ms) (hd : y.cls ≠ "java/lang/invoke/MethodHandle" ∧ y.cls ≠ "java/lang/invoke/VarHandle" ∧ (parseMethodDescriptor y.desc).map (fun d => d.parameters.length) = some na) (hR : rm.frames + 1 ≤ R.frames ∧ 8 + (maxL + 11) + rm.locals ≤ R.locals)
    (isC isR isN : List Nat) (hC : isC.map (fun i => w[i]?) = wc.map some) (hCn : va_nd isC = true) (hRr : isR.map (fun i => w[i]?) = wr.map some) (hRn : va_nd isR = true) (hdis : ∀ i ∈ isR, i ∉ isC) (hN : isN.map (fun i => (wr ++ w1)[i]?) = wn.map some) (hNn : va_nd isN = true) (hls : ls.size = nL) (hst : st0 = As.reverse ++ rest) (hrest : (rest.map fun v => v.category).sum ≤ 8) (hdg : decode cc pc = .ok (.invokestatic index, 3)) (hf : cells + mc ≤ R.cells ∧ slots + ms ≤ R.slots)
    (kk : ∀ (H1 : Heap) (locs1 : List Loc), WD E A s wn H1 locs1 → W p l e R s m args below meth c H1 locs1 (cells + mc) (slots + ms) Q (F0 m (pc + 3) ls (.int r :: rest))) : W p l e R s m args below meth c H locs cells slots Q (F0 m pc ls st0) := by
  obtain ⟨hP, hD, hS⟩ := hW
  subst hst
  have hPc := hP.sub isC (map_fm hC)
  have hDc := hD.sub isC hCn hC
  have hFc := va_free (wc := wc) hD hS C.ar isC hC
  have hPre : ∀ U : State, U.heap = H → s.WarmedH U.vm → va_Pc As (XPX E wc H.size) (As).toArray U := fun U hU hW => ⟨rfl, ⟨by rw [hU], by rw [hU]; exact hPc, va_K.moved hW.alike C.K, hDc.weaken (fun _ _ _ _ => trivial), C.G.to (by rw [hU]; exact hS.2.1) hFc hW⟩, hgc.to hW⟩
  refine va_calli (vx_runSW (As := As) (rest := rest) C.fix (hM H.size) (vx_cwSW na C.ts hg hwY h0.1 h0.2 hd hR) ⟨fun a U g mk q => ⟨q.1, q.2.calling⟩, hPre⟩ rfl hna hls rfl (lv_room hrest) hdg hf) hS (fun q _ h => hFc q h) hFc (fun r2 u t H1 locs1 ht hvm hw2 hB hz1 hk1 hS1 => ?_)
  subst hw2
  obtain ⟨hP1, hK1, hD1⟩ := hB
  rw [ht] at hP1
  obtain ⟨hP2, hD2⟩ := va_join (wr := wr) (w1 := w1) hP hD isC isR hC hRr hRn hdis hk1 hFc hP1 hD1
  exact kk H1 locs1 ⟨hP2.sub isN (map_fm hN), hD2.sub isN hNn hN, hS1⟩
/-- a long method that makes cells, of an object -/
theorem x_cVLa (C : CX p s m args meth c cc nL own Ts ret E A) (hW : WD E A s w H locs) {y : MethodName} {wsY wsY' : List Cond} {rm : Room} {b mc ms : Nat} {As : List Value} {wc wr w1 wn : va_W} {r : Int64} (hM : MLa l y wsY rm E (.ref b :: As) wc mc ms r w1) {Cn : String} {index maxL : Nat} {bytes : ByteArray} {rty : Option FieldType} (hg : GoodIn Ts (wsV own index Cn y wsY)) (hwY : wsY = Cond.code y bytes maxL rty :: wsY') (na : Nat) (hna : As.length = na) (h0 : rm.cells = mc ∧ rm.slots = ms) (hd : y.cls = Cn ∧ y.cls ≠ "java/lang/invoke/MethodHandle" ∧ y.cls ≠ "java/lang/invoke/VarHandle" ∧ (parseMethodDescriptor y.desc).map (fun d => d.parameters.length) = some na) (hR : rm.frames + 1 ≤ R.frames ∧ 8 + (maxL + 11) + rm.locals ≤ R.locals)
    (isC isR isN : List Nat) (hC : isC.map (fun i => w[i]?) = wc.map some) (hCn : va_nd isC = true) (hRr : isR.map (fun i => w[i]?) = wr.map some) (hRn : va_nd isR = true) (hdis : ∀ i ∈ isR, i ∉ isC) (hN : isN.map (fun i => (wr ++ w1)[i]?) = wn.map some) (hNn : va_nd isN = true) (q0 ci : Nat) {fs : List Value} {T : u_T} {N : Nat} (hc : vwCl[ci]? = some (Cn, T, N)) (he : w[q0]? = some (b, .inr (ci, fs))) (hls : ls.size = nL) (hst : st0 = As.reverse ++ .ref b :: rest) (hrest : (rest.map fun v => v.category).sum ≤ 8) (hdg : decode cc pc = .ok (.invokevirtual index, 3)) (hf : cells + mc ≤ R.cells ∧ slots + ms ≤ R.slots)
    (kk : ∀ (H1 : Heap) (locs1 : List Loc), WD E A s wn H1 locs1 → W p l e R s m args below meth c H1 locs1 (cells + mc) (slots + ms) Q (F0 m (pc + 3) ls (.long r :: rest))) : W p l e R s m args below meth c H locs cells slots Q (F0 m pc ls st0) := by
  obtain ⟨hP, hD, hS⟩ := hW
  subst hst
  have hPc := hP.sub isC (map_fm hC)
  have hDc := hD.sub isC hCn hC
  have hFc := va_free (wc := wc) hD hS C.ar isC hC
  have hPre : ∀ U : State, U.heap = H → s.WarmedH U.vm → va_Pc (.ref b :: As) (XP E wc H.size) (Value.ref b :: As).toArray U := fun U hU hW => ⟨rfl, by rw [hU], by rw [hU]; exact hPc, va_K.moved hW.alike C.K, hDc.weaken (fun _ _ _ _ => trivial), C.G.to (by rw [hU]; exact hS.2.1) hFc hW⟩
  refine va_calll (va_runV (As := As) (rest := rest) C.fix (hM H.size) (cwV na C.ts hg hwY h0.1 h0.2 hd hR) ⟨fun a U g mk q => ⟨q.1, q.2.calling⟩, va_recv C.K hP hc he, hPre⟩ rfl hna hls rfl (lv_room hrest) hdg hf) hS (fun q _ h => hFc q h) hFc (fun r2 u t H1 locs1 ht hvm hw2 hB hz1 hk1 hS1 => ?_)
  subst hw2
  obtain ⟨hP1, hK1, hD1⟩ := hB
  rw [ht] at hP1
  obtain ⟨hP2, hD2⟩ := va_join (wr := wr) (w1 := w1) hP hD isC isR hC hRr hRn hdis hk1 hFc hP1 hD1
  exact kk H1 locs1 ⟨hP2.sub isN (map_fm hN), hD2.sub isN hNn hN, hS1⟩
end XO
