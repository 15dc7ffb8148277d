/-! THE WRITER'S OWN KIT, 1: worlds, facts that never change, contracts, rows -/
theorem z_ddiv {a b : Int32} (h : b ≠ 0) : vf_n64 (FP.ddiv (FP.i2d a) (FP.i2d b)) := by
  have h1 : FP.Core.dIsNaN (FP.ddiv (FP.i2d a) (FP.i2d b)) = false := FP.Core.ddiv_out (FP.Core.i2d_fin a).notNaN (FP.Core.i2d_fin b) (fun q => FP.Core.i2d_ne_zero h ((FP.Core.zero_bits2 _).mp q))
  have h2 : ¬ 9218868437227405312 < (FP.ddiv (FP.i2d a) (FP.i2d b)).toNat % 2 ^ 63 := fun q => by
    rw [(FP.Core.isNaN_bits _).mpr q] at h1; cases h1
  unfold vf_n64
  rw [UInt64.le_iff_toNat_le, UInt64.toNat_and]
  have e1 : (0x7fffffffffffffff : UInt64).toNat = 2 ^ 63 - 1 := by decide
  have e2 : (0x7ff0000000000000 : UInt64).toNat = 9218868437227405312 := by decide
  rw [e1, e2, Nat.and_two_pow_sub_one_eq_mod]
  omega
abbrev EV : Type := va_G × ClassId × ClassId × ClassId × ClassId × (Nat × Nat × (Nat → Int32))
abbrev eT (E : EV) : List (ClassId × FieldType) := [(E.2.1, .int), (E.2.2.1, .boolean), (E.2.2.2.1, .object "SkittleStrings$Sheet"), (E.2.2.2.2.1, .array .int)]
def tPL : Nat → Int32 := fun j => ([-1, -1, 0, -1, -1, -1, 1, -1, 2, -1, 3, -1, 4, -1, 5, -1, 6, -1, 7, -1, -1, -1, 8, -1, -1] : List Int32).getD j 0
def tRO : Nat → Int32 := fun j => ([0, 1, 1, 2, 2, 2, 3, 3, 4] : List Int32).getD j 0
def tLA : Nat → Int32 := fun j => ([2, 1, 3, 0, 2, 4, 1, 3, 2] : List Int32).getD j 0
/-- an int array of n places that holds the numbers w -/
abbrev aI (E : EV) (n : Nat) (w : Nat → Nat) : va_E := .inl (E.2.1, n, .inl (fun j => nI (w j)))
def upN {α : Type} (w : Nat → α) (k : Nat) (v : α) : Nat → α := fun j => if j = k then v else w j
theorem upN_s {α : Type} (w : Nat → α) (k : Nat) (v : α) : upN w k v k = v := by simp [upN]
theorem upN_n {α : Type} (w : Nat → α) (k : Nat) (v : α) {j : Nat} (h : j ≠ k) : upN w k v j = w j := by simp [upN, h]
theorem upd_nI (w : Nat → Nat) (k v : Nat) : upd (fun j => nI (w j)) k (nI v) = fun j => nI (upN w k v j) := by
  funext j
  by_cases h : j = k
  · subst h; simp [upd, upN]
  · simp [upd, upN, h]
/-- a static table that nobody writes -/
def gS (C n : String) (N : Nat) (f : Nat → Int32) (A : Nat → Prop) (U : State) (H : Heap) : Prop := ∃ t : Nat, va_Z C n "[I" (.ref t) A U H ∧ va_T .int t N (fun j => .int (f j)) A U H
def gN (U : State) : Prop := va_Nw (.methodLinkNest RX4 9 yX0_init RX4) U ∧ va_Nw (.methodLinkNest RX4 18 yX2_init RX4) U ∧ va_Nw (.methodLinkNest RX4 29 yX3_init RX4) U ∧ va_Nw (.methodLinkNest RX4 173 yX1_canClear RX4) U
def gN2 (U : State) : Prop := va_Nw (.methodLinkNest RL 61 yX5_init RL) U ∧ va_Nw (.fieldLinkNest RX5 29 RL "ROWS" "[I" RL) U ∧ va_Nw (.fieldLinkNest RX5 34 RL "LANES" "[I" RL) U ∧ va_Nw (.castable "[Z" "java/lang/Cloneable") U
def gR (U : State) : Prop := (∃ a, vk_R RX4 40 "there are 4 players, or the game has begun" a U) ∧ (∃ a, vk_R RX4 57 "nobody's turn, or the ball is away" a U) ∧ (∃ a, vk_R RX4 89 "no spare string is left" a U) ∧ (∃ a, vk_R RX4 96 "strings is not 1 to 20" a U) ∧ (∃ a, vk_R RX4 198 "there is no such number" a U)
/-- rows of int rows: the machine can make them, and what class they are of -/
def gAO (U : State) : Prop := (Cond.arrayOver (.array .int)).before #[] U = true
theorem gAO.moved {u U : State} (hvm : u.vm.Alike U.vm) (h : gAO u) : gAO U := by
  obtain ⟨comp, c, k, h1, h2, h3, h4, h5⟩ := arrayOverA_spec h
  obtain ⟨k', hk', he⟩ := hvm.2.2 _ _ h3
  have hi : (U.vm.classes.findIdx? fun (x : Class) => match x.kind with | .array component _ => component == comp | _ => false) = some c := by
    rw [hvm.findIdx?_eq _ (fun _ => rfl)]
    exact h2
  have hkind : k'.kind = .array comp (.array .int) := by rw [he]; exact h4
  have f1 : U.vm.findClass (FieldType.array .int).toString = some comp := by rw [hvm.findClass]; exact h1
  have f2 : U.vm.findClass ("[" ++ (FieldType.array .int).toString) = some c := by rw [hvm.findClass]; exact h5
  unfold gAO Cond.before Cond.holds
  simp only [Cond.value]
  rw [f1, Option.bind_some]
  refine (congrArg (fun o : Option Nat => (o.bind (fun c => (U.vm.classes[c]?).map fun (k : Class) => match k.kind with | .array _ ty => decide (ty = FieldType.array .int) && decide (U.vm.findClass ("[" ++ (FieldType.array .int).toString) = some c) | _ => false) == some true)) hi).trans ?_
  simp [hk', hkind, f2]
def gAA (E : EV) (U : State) : Prop := ∃ kA : Class, U.vm.classes[E.2.2.2.2.1]? = some kA ∧ kA.kind = .array E.2.1 (.array .int)
theorem gAA.moved {E : EV} {u U : State} (hvm : u.vm.Alike U.vm) (h : gAA E u) : gAA E U := by
  obtain ⟨kA, h1, h2⟩ := h
  obtain ⟨k', hk', he⟩ := hvm.2.2 _ _ h1
  exact ⟨k', hk', by rw [he]; exact h2⟩
/-- the script -/
def gX (E : EV) (A : Nat → Prop) (U : State) (H : Heap) : Prop := va_T .int E.2.2.2.2.2.1 E.2.2.2.2.2.2.1 (fun j => .int (E.2.2.2.2.2.2.2 j)) A U H ∧ E.2.2.2.2.2.2.1 ≤ 260
abbrev xNames : List String := ["java/lang/RuntimeException", "java/lang/Exception"]
abbrev xIO : String := "java/lang/IndexOutOfBoundsException"
abbrev xIS : String := "java/lang/IllegalStateException"
abbrev xIA : String := "java/lang/IllegalArgumentException"
/-- casts that hold: of each exception to itself -/
def gC (U : State) : Prop := va_Nw (.castable xIO xIO) U ∧ va_Nw (.castable xIS xIS) U ∧ va_Nw (.castable xIA xIA) U ∧ va_Nw (.declares (Bundle.initS "java/lang/RuntimeException")) U ∧ va_Nw (.declares (Bundle.initS "java/lang/Exception")) U ∧ va_Nw (.declares (Bundle.initS Bundle.tN)) U
theorem gC.io {U : State} (h : gC U) : va_Nw (.castable xIO xIO) U := h.1
theorem gC.st {U : State} (h : gC U) : va_Nw (.castable xIS xIS) U := h.2.1
theorem gC.ia {U : State} (h : gC U) : va_Nw (.castable xIA xIA) U := h.2.2.1
theorem gC.dr {U : State} (h : gC U) : va_Nw (.declares (Bundle.initS "java/lang/RuntimeException")) U := h.2.2.2.1
theorem gC.de {U : State} (h : gC U) : va_Nw (.declares (Bundle.initS "java/lang/Exception")) U := h.2.2.2.2.1
theorem gC.dt {U : State} (h : gC U) : va_Nw (.declares (Bundle.initS Bundle.tN)) U := h.2.2.2.2.2
theorem gC.to {s U : State} (h : gC s) (hW : s.WarmedH U.vm) : gC U := ⟨va_Nw.warmC hW h.io, va_Nw.warmC hW h.st, va_Nw.warmC hW h.ia, va_Nw.warmD hW h.dr, va_Nw.warmD hW h.de, va_Nw.warmD hW h.dt⟩
def gM (E : EV) (U : State) : Prop := gN2 U ∧ gAO U ∧ gAA E U ∧ gC U ∧ va_AO "SkittleStrings$Sheet" U
theorem gM.to {E : EV} {s U : State} (h : gM E s) (hW : s.WarmedH U.vm) : gM E U := by
  obtain ⟨⟨n1, n2, n3, n4⟩, h2, h3, h4, h5⟩ := h
  exact ⟨⟨va_Nw.warmM hW n1, va_Nw.warmF hW n2, va_Nw.warmF hW n3, va_Nw.warmC hW n4⟩, h2.moved hW.alike, h3.moved hW.alike, h4.to hW, va_AO.moved hW.alike h5⟩
def GF (E : EV) (A : Nat → Prop) (U : State) (H : Heap) : Prop := gS RX1 "PLACES" 25 tPL A U H ∧ gX E A U H ∧ gS RL "ROWS" 9 tRO A U H ∧ gS RL "LANES" 9 tLA A U H ∧ vx_Zq Bundle.tN "UNASSIGNED_STACK" Bundle.steD A U H ∧ vx_Zq Bundle.tN "SUPPRESSED_SENTINEL" Bundle.listD A U H ∧ gN U ∧ gR U ∧ gM E U
theorem gS.to {C n : String} {N : Nat} {f : Nat → Int32} {A B : Nat → Prop} {s U : State} {H : Heap} (h : gS C n N f A s s.heap) (hk : ∀ q, q < s.heap.size → ¬ A q → H[q]? = s.heap[q]?) (hB : ∀ q, B q → A q) (hW : s.WarmedH U.vm) : gS C n N f B U H := by
  obtain ⟨t, h1, h2⟩ := h
  exact ⟨t, va_Z.moved hW.alike ((h1.kept hk).narrow hB), va_T.moved hW.alike ((h2.kept hk).narrow hB)⟩
theorem GF.to {E : EV} {A B : Nat → Prop} {s U : State} {H : Heap} (h : GF E A s s.heap) (hk : ∀ q, q < s.heap.size → ¬ A q → H[q]? = s.heap[q]?) (hB : ∀ q, B q → A q) (hW : s.WarmedH U.vm) : GF E B U H := by
  obtain ⟨h1, ⟨h2, h20⟩, h3, h4, h5, h6, ⟨n1, n2, n3, n4⟩, ⟨⟨a1, r1⟩, ⟨a2, r2⟩, ⟨a3, r3⟩, ⟨a4, r4⟩, ⟨a5, r5⟩⟩, hm⟩ := h
  exact ⟨h1.to hk hB hW, ⟨va_T.moved hW.alike ((h2.kept hk).narrow hB), h20⟩, h3.to hk hB hW, h4.to hk hB hW, vx_Zq.moved hW.alike ((h5.kept hk).narrow hB), vx_Zq.moved hW.alike ((h6.kept hk).narrow hB),
    ⟨va_Nw.warmM hW n1, va_Nw.warmM hW n2, va_Nw.warmM hW n3, va_Nw.warmM hW n4⟩, ⟨⟨a1, vk_R.warm hW r1⟩, ⟨a2, vk_R.warm hW r2⟩, ⟨a3, vk_R.warm hW r3⟩, ⟨a4, vk_R.warm hW r4⟩, ⟨a5, vk_R.warm hW r5⟩⟩, hm.to hW⟩
/-- a method's start: its cells, and what never changes -/
def XP (E : EV) (wc : va_W) (sz : Nat) (U : State) : Prop := U.heap.size = sz ∧ va_P E.1 vwCl wc U.heap ∧ va_K E.1 vwCl (eT E) U ∧ va_D (fun _ => True) wc ∧ GF E (va_A wc sz) U U.heap
def XQ (E : EV) (wc : va_W) (sz : Nat) (w1 : va_W) (t : State) : Prop := va_P E.1 vwCl w1 t.heap ∧ va_K E.1 vwCl (eT E) t ∧ va_D (va_A wc sz) w1
theorem XP.calling {E : EV} {wc : va_W} {sz : Nat} {U : State} {g : JFrame} {mk : MethodId} {a : Array Value} (h : XP E wc sz U) : XP E wc sz (U.calling g mk a) := by
  obtain ⟨h1, h2, h3, h4, h5⟩ := h
  exact ⟨h1, h2, va_K.moved (u := U) (U := U.calling g mk a) (Vm.Alike.refl U.vm) h3, h4, GF.to (U := U.calling g mk a) h5 (fun _ _ _ => rfl) (fun _ h => h) (State.WarmedH.refl U)⟩
/-- contracts: the answer and the cells behind the call, as said -/
def MI (l : Launch) (y : MethodName) (ws : List Cond) (rm : Room) (E : EV) (args : List Value) (wc : va_W) (r : Int32) (w1 : va_W) : Prop := ∀ sz, Met l y ws rm (va_Pc args (XP E wc sz)) (va_Qi (fun (r' : Int32) (_ : Unit) => r' = r) (fun _ t => XQ E wc sz w1 t) (va_A wc sz)) 0 0 (va_A wc sz)
def ML (l : Launch) (y : MethodName) (ws : List Cond) (rm : Room) (E : EV) (args : List Value) (wc : va_W) (r : Int64) (w1 : va_W) : Prop := ∀ sz, Met l y ws rm (va_Pc args (XP E wc sz)) (va_Ql (fun (r' : Int64) (_ : Unit) => r' = r) (fun _ t => XQ E wc sz w1 t) (va_A wc sz)) 0 0 (va_A wc sz)
def MD (l : Launch) (y : MethodName) (ws : List Cond) (rm : Room) (E : EV) (args : List Value) (wc : va_W) (r : UInt64) (w1 : va_W) : Prop := ∀ sz, Met l y ws rm (va_Pc args (XP E wc sz)) (va_Qd (fun (r' : UInt64) (_ : Unit) => r' = r) (fun _ t => XQ E wc sz w1 t) (va_A wc sz)) 0 0 (va_A wc sz)
def MV (l : Launch) (y : MethodName) (ws : List Cond) (rm : Room) (E : EV) (args : List Value) (wc : va_W) (w1 : va_W) : Prop := ∀ sz, Met l y ws rm (va_Pc args (XP E wc sz)) (va_Qv (fun (_ : Unit) => True) (fun _ t => XQ E wc sz w1 t) (va_A wc sz)) 0 0 (va_A wc sz)
/-- a method that makes cells -/
def MC (l : Launch) (y : MethodName) (ws : List Cond) (rm : Room) (E : EV) (args : List Value) (wc : va_W) (mc ms : Nat) (post : va_W → Prop) : Prop := ∀ sz, Met l y ws rm (va_Pc args (XP E wc sz)) (va_Qv post (fun w1 t => XQ E wc sz w1 t) (va_A wc sz)) mc ms (va_A wc sz)
/-- what a body owes at its end -/
def QI (E : EV) (wc : va_W) (r : Int32) (w1 : va_W) (below : List Frame) (args : Array Value) (s : State) : State → Prop := MQ below (va_Qi (fun (r' : Int32) (_ : Unit) => r' = r) (fun _ t => XQ E wc s.heap.size w1 t) (va_A wc s.heap.size)) args s 0 0 (va_A wc s.heap.size)
def QL (E : EV) (wc : va_W) (r : Int64) (w1 : va_W) (below : List Frame) (args : Array Value) (s : State) : State → Prop := MQ below (va_Ql (fun (r' : Int64) (_ : Unit) => r' = r) (fun _ t => XQ E wc s.heap.size w1 t) (va_A wc s.heap.size)) args s 0 0 (va_A wc s.heap.size)
def QD (E : EV) (wc : va_W) (r : UInt64) (w1 : va_W) (below : List Frame) (args : Array Value) (s : State) : State → Prop := MQ below (va_Qd (fun (r' : UInt64) (_ : Unit) => r' = r) (fun _ t => XQ E wc s.heap.size w1 t) (va_A wc s.heap.size)) args s 0 0 (va_A wc s.heap.size)
def QV (E : EV) (wc : va_W) (w1 : va_W) (below : List Frame) (args : Array Value) (s : State) : State → Prop := MQ below (va_Qv (fun (_ : Unit) => True) (fun _ t => XQ E wc s.heap.size w1 t) (va_A wc s.heap.size)) args s 0 0 (va_A wc s.heap.size)
def QC (E : EV) (wc : va_W) (mc ms : Nat) (post : va_W → Prop) (below : List Frame) (args : Array Value) (s : State) : State → Prop := MQ below (va_Qv post (fun w1 t => XQ E wc s.heap.size w1 t) (va_A wc s.heap.size)) args s mc ms (va_A wc s.heap.size)
/-- what stands all through a body -/
def CX (p : Program) (s : State) (m : MethodId) (args : Array Value) (meth : Method) (c : Code) (cc : ByteArray) (nL : Nat) (own : String) (Ts : List Cond) (ret : Option FieldType) (E : EV) (A : Nat → Prop) : Prop :=
  p.tables.exec = Jvm.exec ∧ c.code = cc ∧ c.maxLocals = nL ∧ s.vm.findClass own = some m.cls ∧ (∀ w ∈ Ts, w.before args s = true) ∧ meth.sig.returnType = ret ∧ meth.locks = false ∧ va_K E.1 vwCl (eT E) s ∧ GF E A s s.heap ∧ (∀ q, s.heap.size ≤ q → A q)
/-- the cells, at some point of a body -/
def WD (E : EV) (A : Nat → Prop) (s : State) (w : va_W) (H : Heap) (locs : List Loc) : Prop := va_P E.1 vwCl w H ∧ va_D A w ∧ va_S A s.heap H locs
theorem WD.to {E : EV} {A : Nat → Prop} {s : State} {w w' : va_W} {H : Heap} {locs : List Loc} (h : WD E A s w H locs) (e : w = w') : WD E A s w' H locs := e ▸ h
theorem lv_to {ls : Array Slot} {nL : Nat} {l l' : List (Nat × Value)} (h : lv_has ls nL l) (e : l = l') : lv_has ls nL l' := e ▸ h
theorem map_fm {w wc : va_W} {is : List Nat} (h : is.map (fun i => w[i]?) = wc.map some) : is.filterMap (fun i => w[i]?) = wc := by
  have e : is.filterMap (fun i => w[i]?) = (is.map (fun i => w[i]?)).filterMap id := by
    rw [List.filterMap_map]; rfl
  rw [e, h, List.filterMap_map]
  induction wc with
  | nil => rfl
  | cons a l ih => simp
section Starts
variable {l : Launch} {y : MethodName} {ws ws' : List Cond} {rm : Room} {E : EV} {args : List Value} {wc w1 : va_W} {cc : ByteArray} {maxL : Nat} {own : String}
theorem x_start {Pq : Nat → Array Value → State → Outcome → State → Prop} {ret : Option FieldType} {mc ms : Nat} (hown : y.cls = own) (hy : plainName y.cls = true) (hw : ws = Cond.code y cc maxL ret :: ws') (hlen : (lg_sl args).length ≤ maxL)
    (body : ∀ (p : Program) (e : Env) (s : State) (m : MethodId) (below : List Frame) (meth : Method) (c : Code), CX p s m args.toArray meth c cc maxL own ws ret E (va_A wc s.heap.size) → meth.name = y.name → ∀ ls : Array Slot, lv_has ls maxL (lv_args 0 args) → WD E (va_A wc s.heap.size) s wc s.heap [] →
      W p l e rm s m args.toArray below meth c s.heap [] 0 0 (MQ below (Pq s.heap.size) args.toArray s mc ms (va_A wc s.heap.size)) (F0 m 0 ls [])) :
    ∀ sz, Met l y ws rm (va_Pc args (XP E wc sz)) (Pq sz) mc ms (va_A wc sz) := by
  intro sz
  refine Met.ofW (cc := cc) (maxL := maxL) (ret := ret) hy hw ?_
  intro p e s m args' below meth c s₁ B hml hv
  obtain ⟨rfl, hsz, hP, hK, hD0, hG⟩ := hv
  subst hsz
  have hl := lv_entry args (n := maxL) hlen
  rw [lg_entry_eq]
  exact body p e s m below meth c ⟨B.exec, B.bytes, hml, by rw [← hown]; exact findClass_of_methodNamed B.named, atoms_spec (ws := ws) B.pre, B.returns, B.notSynchronized, hK, hG, fun q h => Or.inr h⟩ (name_of_methodNamed B.named B.method).1 _ hl ⟨hP, hD0.self, va_S.rf⟩
end Starts
