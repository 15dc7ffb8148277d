/-! THE WRITER'S OWN KIT, 5: calls that throw -/
abbrev xNames : List String := ["java/lang/RuntimeException", "java/lang/Exception"]
abbrev xIO : String := "java/lang/IndexOutOfBoundsException"
abbrev xIS : String := "java/lang/IllegalStateException"
abbrev xIA : String := "java/lang/IllegalArgumentException"
/-- casts that hold: of each exception to itself -/
def gC (U : State) : Prop := va_Nw (.castable xIO xIO) U ∧ va_Nw (.castable xIS xIS) U ∧ va_Nw (.castable xIA xIA) U ∧ va_Nw (.declares (Bundle.initS "java/lang/RuntimeException")) U ∧ va_Nw (.declares (Bundle.initS "java/lang/Exception")) U ∧ va_Nw (.declares (Bundle.initS Bundle.tN)) U
theorem gC.io {U : State} (h : gC U) : va_Nw (.castable xIO xIO) U := h.1
theorem gC.st {U : State} (h : gC U) : va_Nw (.castable xIS xIS) U := h.2.1
theorem gC.ia {U : State} (h : gC U) : va_Nw (.castable xIA xIA) U := h.2.2.1
theorem gC.dr {U : State} (h : gC U) : va_Nw (.declares (Bundle.initS "java/lang/RuntimeException")) U := h.2.2.2.1
theorem gC.de {U : State} (h : gC U) : va_Nw (.declares (Bundle.initS "java/lang/Exception")) U := h.2.2.2.2.1
theorem gC.dt {U : State} (h : gC U) : va_Nw (.declares (Bundle.initS Bundle.tN)) U := h.2.2.2.2.2
theorem gC.to {s U : State} (h : gC s) (hW : s.WarmedH U.vm) : gC U := ⟨va_Nw.warmC hW h.io, va_Nw.warmC hW h.st, va_Nw.warmC hW h.ia, va_Nw.warmD hW h.dr, va_Nw.warmD hW h.de, va_Nw.warmD hW h.dt⟩
def XPX (E : EV) (wc : va_W) (sz : Nat) (U : State) : Prop := XP E wc sz U ∧ gC U
theorem XPX.calling {E : EV} {wc : va_W} {sz : Nat} {U : State} {g : JFrame} {mk : MethodId} {a : Array Value} (h : XPX E wc sz U) : XPX E wc sz (U.calling g mk a) := ⟨h.1.calling, h.2.to (U := U.calling g mk a) (State.WarmedH.refl U)⟩
/-- a method that always throws X here, and changes nothing -/
def MXv (l : Launch) (y : MethodName) (ws : List Cond) (rm : Room) (E : EV) (args : List Value) (wc : va_W) (X : String) : Prop := ∀ sz, vx_Met l y ws rm (va_Pc args (XPX E wc sz)) (va_Qv (fun (_ : Unit) => False) (fun _ _ => True) (va_A wc sz)) (vx_X (fun (_ : Unit) => True) (fun Ex _ t => Ex = X ∧ XQ E wc sz wc t) (va_A wc sz)) 1 6 (va_A wc sz)
def MXi (l : Launch) (y : MethodName) (ws : List Cond) (rm : Room) (E : EV) (args : List Value) (wc : va_W) (X : String) : Prop := ∀ sz, vx_Met l y ws rm (va_Pc args (XPX E wc sz)) (va_Qi (fun (_ : Int32) (_ : Unit) => False) (fun _ _ => True) (va_A wc sz)) (vx_X (fun (_ : Unit) => True) (fun Ex _ t => Ex = X ∧ XQ E wc sz wc t) (va_A wc sz)) 1 6 (va_A wc sz)
theorem x_startX {l : Launch} {y : MethodName} {ws ws' : List Cond} {rm : Room} {E : EV} {args : List Value} {wc : va_W} {cc : ByteArray} {maxL : Nat} {own X : String} {ret : Option FieldType} {Pq : Nat → Array Value → State → Outcome → State → Prop} (hown : y.cls = own) (hy : plainName y.cls = true) (hw : ws = Cond.code y cc maxL ret :: ws') (hlen : (lg_sl args).length ≤ maxL)
    (body : ∀ (p : Program) (e : Env) (s : State) (m : MethodId) (below : List Frame) (meth : Method) (c : Code), CX p s m args.toArray meth c cc maxL own ws ret E (va_A wc s.heap.size) → gC s → (∀ x ∈ c.exceptionTable.toList, False) → ∀ ls : Array Slot, lv_has ls maxL (lv_args 0 args) → WD E (va_A wc s.heap.size) s wc s.heap [] →
      W p l e rm s m args.toArray below meth c s.heap [] 0 0 (vx_MQ below (Pq s.heap.size) (vx_X (fun (_ : Unit) => True) (fun Ex _ t => Ex = X ∧ XQ E wc s.heap.size wc t) (va_A wc s.heap.size)) args.toArray s 1 6 (va_A wc s.heap.size)) (F0 m 0 ls [])) :
    ∀ sz, vx_Met l y ws rm (va_Pc args (XPX E wc sz)) (Pq sz) (vx_X (fun (_ : Unit) => True) (fun Ex _ t => Ex = X ∧ XQ E wc sz wc t) (va_A wc sz)) 1 6 (va_A wc sz) := by
  intro sz
  refine vx_ofW (cc := cc) (maxL := maxL) (ret := ret) hy hw ?_
  intro p e s m args' below meth c s₁ B hml htab hv
  obtain ⟨rfl, ⟨hsz, hP, hK, hD0, hG⟩, hgc⟩ := hv
  subst hsz
  have hl := lv_entry args (n := maxL) hlen
  rw [lg_entry_eq]
  exact body p e s m below meth c ⟨B.exec, B.bytes, hml, by rw [← hown]; exact findClass_of_methodNamed B.named, atoms_spec (ws := ws) B.pre, B.returns, B.notSynchronized, hK, hG, fun q h => Or.inr h⟩ hgc htab _ hl ⟨hP, hD0.self, va_S.rf⟩
