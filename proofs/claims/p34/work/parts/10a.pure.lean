/-! THE WRITER'S OWN KIT, 4: methods that make cells -/
theorem WD.sub {E : EV} {A : Nat → Prop} {s : State} {w w' : va_W} {H : Heap} {locs : List Loc} (h : WD E A s w H locs) (is : List Nat) (hm : is.map (fun i => w[i]?) = w'.map some) (hn : va_nd is = true) : WD E A s w' H locs := ⟨h.1.sub is (map_fm hm), h.2.1.sub is hn hm, h.2.2⟩
def MLa (l : Launch) (y : MethodName) (ws : List Cond) (rm : Room) (E : EV) (args : List Value) (wc : va_W) (mc ms : Nat) (r : Int64) (w1 : va_W) : Prop := ∀ sz, Met l y ws rm (va_Pc args (XP E wc sz)) (va_Ql (fun (r' : Int64) (_ : Unit) => r' = r) (fun _ t => XQ E wc sz w1 t) (va_A wc sz)) mc ms (va_A wc sz)
def QLa (E : EV) (wc : va_W) (mc ms : Nat) (r : Int64) (w1 : va_W) (below : List Frame) (args : Array Value) (s : State) : State → Prop := MQ below (va_Ql (fun (r' : Int64) (_ : Unit) => r' = r) (fun _ t => XQ E wc s.heap.size w1 t) (va_A wc s.heap.size)) args s mc ms (va_A wc s.heap.size)
theorem sA {l : Launch} {y : MethodName} {ws ws' : List Cond} {rm : Room} {E : EV} {args : List Value} {wc w1 : va_W} {cc : ByteArray} {maxL : Nat} {own : String} {mc ms : Nat} {r : Int64} (hown : y.cls = own) (hy : plainName y.cls = true) (hw : ws = Cond.code y cc maxL (some .long) :: ws') (hlen : (lg_sl args).length ≤ maxL)
    (body : ∀ (p : Program) (e : Env) (s : State) (m : MethodId) (below : List Frame) (meth : Method) (c : Code), CX p s m args.toArray meth c cc maxL own ws (some .long) E (va_A wc s.heap.size) → meth.name = y.name → ∀ ls : Array Slot, lv_has ls maxL (lv_args 0 args) → WD E (va_A wc s.heap.size) s wc s.heap [] →
      W p l e rm s m args.toArray below meth c s.heap [] 0 0 (QLa E wc mc ms r w1 below args.toArray s) (F0 m 0 ls [])) : MLa l y ws rm E args wc mc ms r w1 :=
  x_start (Pq := fun sz => va_Ql (fun (r' : Int64) (_ : Unit) => r' = r) (fun _ t => XQ E wc sz w1 t) (va_A wc sz)) hown hy hw hlen body
section XN
variable {p : Program} {l : Launch} {e : Env} {R : Room} {s : State} {m : MethodId} {args : Array Value} {below : List Frame} {meth : Method} {c : Code} {H : Heap} {locs : List Loc} {cells slots : Nat} {Q : State → Prop}
variable {cc : ByteArray} {pc nL : Nat} {ls : Array Slot} {rest st0 : List Value} {own : String} {Ts : List Cond} {ret : Option FieldType} {E : EV} {A : Nat → Prop} {w : va_W}
theorem x_newa (C : CX p s m args meth c cc nL own Ts ret E A) (hW : WD E A s w H locs) {N' : Nat} {n : Int32} (harr : Cond.arrayClass .int ∈ Ts) (hn : n = nI N') (hlt : N' < 1000) (hcells : cells + 1 ≤ R.cells) (hslots : slots + N' ≤ R.slots) (hdg : decode cc pc = .ok (.newarray .int, 2))
    (kk : ∀ (q : Nat) (H1 : Heap), WD E A s (w ++ [(q, aI E N' (fun _ => 0))]) H1 locs → W p l e R s m args below meth c H1 locs (cells + 1) (slots + N') Q (F0 m (pc + 2) ls (.ref q :: rest))) : W p l e R s m args below meth c H locs cells slots Q (F0 m pc ls (.int n :: rest)) := by
  subst hn
  refine va_newa C.x C.b (atype := .int) (C.ts _ harr) (ty := .int) rfl C.K hW.1 hW.2.1 hW.2.2 C.ar (a0 := (N', .inl (fun j => nI ((fun _ => 0) j)))) (fun cA => rfl) (nI_pos (by omega)) (nI_clamp (by omega)) (by show N' * 4 ≤ 536870912; omega) hcells hslots hdg (fun q cA H1 hK1 hP1 hD1 hS1 => ?_)
  have e1 : cA = E.2.1 := by
    have h1 := (hK1.2 4 (cA, .int) rfl).2
    have h2 := (C.K.2 0 (E.2.1, .int) rfl).2
    exact Option.some.inj (h1.symm.trans h2)
  subst e1
  exact kk q H1 ⟨hP1, hD1, hS1⟩
theorem x_aldR (C : CX p s m args meth c cc nL own Ts ret E A) (hW : WD E A s w H locs) (q0 : Nat) {a n : Nat} {f : Nat → Int32} {i : Int32} (j : Nat) (he : w[q0]? = some (a, .inl (E.2.1, n, .inl f))) (hi : i = nI j) (hj : j < n) (hn : n < 2 ^ 31) (hdg : decode cc pc = .ok (.iaload, 1))
    (kk : W p l e R s m args below meth c H locs cells slots Q (F0 m (pc + 1) ls (.int (f j) :: rest))) : W p l e R s m args below meth c H locs cells slots Q (F0 m pc ls (.int i :: .ref a :: rest)) := by
  subst hi
  have hj2 : j < 2 ^ 31 := Nat.lt_trans hj hn
  refine va_iald C.x C.b C.K hW.1 q0 0 he rfl (vp_in_nI hj hn) hdg ?_
  rw [nI_clamp hj2]
  exact kk
theorem x_astR (C : CX p s m args meth c cc nL own Ts ret E A) (hW : WD E A s w H locs) (q0 : Nat) {a n : Nat} {f : Nat → Int32} {i x : Int32} {w' : va_W} (j : Nat) (he : w[q0]? = some (a, .inl (E.2.1, n, .inl f))) (hi : i = nI j) (hj : j < n) (hn : n < 2 ^ 31) (hdg : decode cc pc = .ok (.iastore, 1)) (hw : w.set q0 (a, .inl (E.2.1, n, .inl (upN f j x))) = w')
    (kk : ∀ (H1 : Heap) (locs1 : List Loc), WD E A s w' H1 locs1 → W p l e R s m args below meth c H1 locs1 cells slots Q (F0 m (pc + 1) ls rest)) : W p l e R s m args below meth c H locs cells slots Q (F0 m pc ls (.int x :: .int i :: .ref a :: rest)) := by
  subst hi; subst hw
  have hj2 : j < 2 ^ 31 := Nat.lt_trans hj hn
  refine va_iast C.x C.b C.K hW.1 hW.2.1 hW.2.2 q0 0 he rfl (vp_in_nI hj hn) hdg (fun H1 locs1 h1 h2 h3 => ?_)
  rw [nI_clamp hj2] at h1 h2
  exact kk H1 locs1 ⟨h1, h2, h3⟩
theorem x_lretA {wc w1 : va_W} {mc ms : Nat} {r v : Int64} (C : CX p s m args meth c cc nL own Ts (some .long) E (va_A wc s.heap.size)) (hW : WD E (va_A wc s.heap.size) s w1 H locs) (hv : v = r) (hc : cells = mc) (hs : slots = ms) (hdg : decode cc pc = .ok (.lreturn, 1)) : W p l e R s m args below meth c H locs cells slots (QLa E wc mc ms r w1 below args s) (F0 m pc ls [.long v]) := by
  subst hv; subst hc; subst hs
  have hlocks := C.lk
  exact W.lret C.x C.b C.r (fun t ht hWm => ⟨⟨v, (), rfl, rfl, by rw [ht]; exact hW.1, va_K.moved hWm.alike C.K, hW.2.1⟩, hW.2.2.F ht⟩) hW.2.2.2.2 hdg
theorem x_obj (C : CX p s m args meth c cc nL own Ts ret E A) {idx a : Nat} (hl : Cond.methodLink own idx Lib.objectInit ∈ Ts) (hi : Cond.instanceMethod Lib.objectInit ∈ Ts) (hc : Cond.code Lib.objectInit ⟨#[0xb1]⟩ 1 none ∈ Ts) (hls : ls.size = nL) (hrest : rest = []) (hfr : 1 ≤ R.frames) (hlo : 12 ≤ R.locals) (hdg : decode cc pc = .ok (.invokespecial idx, 3))
    (kk : W p l e R s m args below meth c H locs cells slots Q (F0 m (pc + 3) ls rest)) : W p l e R s m args below meth c H locs cells slots Q (F0 m pc ls (.ref a :: rest)) := by
  subst hrest
  exact W.objInit C.x C.b C.ow (C.ts _ hl) (C.ts _ hi) (C.ts _ hc) rfl (hls.trans C.2.2.1.symm) rfl hdg hfr hlo kk
end XN
