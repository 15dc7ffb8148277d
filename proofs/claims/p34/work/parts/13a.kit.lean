/-! THE WRITER'S OWN KIT, 7: rows of truths, rows of rows, worlds with a tail, calls that only look -/
/-- a row of truths -/
abbrev bI (E : EV) (n : Nat) (w : Nat → Nat) : va_E := .inl (E.2.2.1, n, .inl (fun j => nI (w j)))
/-- a row of int rows -/
abbrev qI (E : EV) (n : Nat) (f : Nat → Option Nat) : va_E := .inl (E.2.2.2.2.1, n, .inr (.inr (.inr (.inr f))))
theorem nar01 {v : Nat} (h : v < 2) : vp_nar .boolean (nI v) = nI v := by
  rcases (show v = 0 ∨ v = 1 by omega) with rfl | rfl <;> rfl
theorem WD.front {E : EV} {A : Nat → Prop} {s : State} {w : va_W} {x : Nat × va_E} {H : Heap} {locs : List Loc} (h : WD E A s (w ++ [x]) H locs) : WD E A s (x :: w) H locs := by
  have key : ∀ (k : Nat) (q : Nat × va_E), (x :: w)[k]? = some q → (w ++ [x])[if k = 0 then w.length else k - 1]? = some q := by
    intro k q hk
    cases k with
    | zero =>
      rw [if_pos rfl, List.getElem?_append_right (Nat.le_refl _), Nat.sub_self]
      exact hk
    | succ k =>
      rw [if_neg (by omega), Nat.add_sub_cancel]
      have hk2 : w[k]? = some q := hk
      rw [List.getElem?_append_left (List.getElem?_eq_some_iff.mp hk2).1]
      exact hk2
  refine ⟨h.1.by _ key, h.2.1.by _ key (fun i j hi hj e => ?_), h.2.2⟩
  rw [List.length_cons] at hi hj
  split at e <;> split at e <;> omega
theorem WD.back {E : EV} {A : Nat → Prop} {s : State} {w : va_W} {x : Nat × va_E} {H : Heap} {locs : List Loc} (h : WD E A s (x :: w) H locs) : WD E A s (w ++ [x]) H locs := by
  have key : ∀ (k : Nat) (q : Nat × va_E), (w ++ [x])[k]? = some q → (x :: w)[if k < w.length then k + 1 else 0]? = some q := by
    intro k q hk
    by_cases hlt : k < w.length
    · rw [if_pos hlt]
      rw [List.getElem?_append_left hlt] at hk
      exact hk
    · rw [if_neg hlt]
      rw [List.getElem?_append_right (by omega)] at hk
      have hz : k - w.length < 1 := (List.getElem?_eq_some_iff.mp hk).1
      rw [show k - w.length = 0 by omega] at hk
      exact hk
  refine ⟨h.1.by _ key, h.2.1.by _ key (fun i j hi hj e => ?_), h.2.2⟩
  rw [List.length_append, List.length_singleton] at hi hj
  split at e <;> split at e <;> omega
theorem WD.part {E : EV} {A : Nat → Prop} {s : State} {X w' pl : va_W} {H : Heap} {locs : List Loc} (h : WD E A s (X ++ pl) H locs) (is : List Nat) (hm : is.map (fun i => X[i]?) = w'.map some) (hn : va_nd is = true) : WD E A s (w' ++ pl) H locs := ⟨h.1.part is hm, h.2.1.part is hn hm, h.2.2⟩
/-- cells that only were looked at stand as before -/
theorem va_look {D : va_G} {A0 : Nat → Prop} {ws wc : va_W} {H H1 : Heap} (hP : va_P D vwCl ws H) (hD : va_D A0 ws) (hC : ∀ (k : Nat) (q : Nat × va_E), wc[k]? = some q → ∃ i : Nat, ws[i]? = some q) (hk : ∀ q : Nat, q < H.size → ¬ va_A wc H.size q → H1[q]? = H[q]?) (hP1 : va_P D vwCl wc H1) : va_P D vwCl ws H1 := by
  intro k q hq
  by_cases hA : va_A wc H.size q.1
  · rcases hA with ⟨k2, e, h⟩ | h
    · obtain ⟨i, h2⟩ := hC k2 _ h
      have hik : i = k := hD.1 _ _ _ _ h2 hq rfl
      subst hik
      have e9 : (q.1, e) = q := Option.some.inj (h2.symm.trans hq)
      exact e9 ▸ hP1 k2 _ h
    · exact absurd (hP k q hq).lt (Nat.not_lt.mpr h)
  · exact (hP k q hq).kept (hk q.1 (hP k q hq).lt hA)
/-- .. and a cell that was made -/
theorem va_fresh {D : va_G} {A0 : Nat → Prop} {ws wc : va_W} {H H1 : Heap} {x : Nat × va_E} (hP : va_P D vwCl ws H) (hD : va_D A0 ws) (hF : ∀ q, va_A wc H.size q → A0 q) (hL : va_P D vwCl ws H1) (hP1 : va_P D vwCl (wc ++ [x]) H1) (hD1 : va_D (va_A wc H.size) (wc ++ [x])) : va_P D vwCl (ws ++ [x]) H1 ∧ va_D A0 (ws ++ [x]) := by
  have hx : (wc ++ [x])[wc.length]? = some x := by rw [List.getElem?_append_right (Nat.le_refl _), Nat.sub_self]; rfl
  have hnew : H.size ≤ x.1 := by
    rcases hD1.2 _ _ hx with ⟨k, e, h⟩ | h
    · have h2 : (wc ++ [x])[k]? = some (x.1, e) := by rw [List.getElem?_append_left (List.getElem?_eq_some_iff.mp h).1]; exact h
      have := hD1.1 _ _ _ _ h2 hx rfl
      have := (List.getElem?_eq_some_iff.mp h).1
      omega
    · exact h
  have key : ∀ (k : Nat) (q : Nat × va_E), (ws ++ [x])[k]? = some q → ws[k]? = some q ∨ (k = ws.length ∧ q = x) := by
    intro k q hq
    by_cases h : k < ws.length
    · rw [List.getElem?_append_left h] at hq; exact Or.inl hq
    · rw [List.getElem?_append_right (by omega)] at hq
      have h2 : k - ws.length < 1 := (List.getElem?_eq_some_iff.mp hq).1
      rw [show k - ws.length = 0 by omega] at hq
      cases hq
      exact Or.inr ⟨by omega, rfl⟩
  refine ⟨fun k q hq => ?_, ⟨fun i j a b ha hb hab => ?_, fun k q hq => ?_⟩⟩
  · rcases key k q hq with h | ⟨-, rfl⟩
    · exact hL k q h
    · exact hP1 _ _ hx
  · rcases key i a ha with h | ⟨h, rfl⟩ <;> rcases key j b hb with h2 | ⟨h2, rfl⟩
    · exact hD.1 i j a b h h2 hab
    · have := (hP i a h).lt; omega
    · have := (hP j b h2).lt; omega
    · omega
  · rcases key k q hq with h | ⟨-, rfl⟩
    · exact hD.2 k q h
    · exact hF _ (Or.inr hnew)
/-- contracts that make cells: the answer as said and the cells as before; any answer and any cells; a reference to a cell that was made; any reference and any cells -/
def MIa (l : Launch) (y : MethodName) (ws : List Cond) (rm : Room) (E : EV) (args : List Value) (wc : va_W) (mc ms : Nat) (r : Int32) (w1 : va_W) : Prop := ∀ sz, Met l y ws rm (va_Pc args (XP E wc sz)) (va_Qi (fun (r' : Int32) (_ : Unit) => r' = r) (fun _ t => XQ E wc sz w1 t) (va_A wc sz)) mc ms (va_A wc sz)
def QIa (E : EV) (wc : va_W) (mc ms : Nat) (r : Int32) (w1 : va_W) (below : List Frame) (args : Array Value) (s : State) : State → Prop := MQ below (va_Qi (fun (r' : Int32) (_ : Unit) => r' = r) (fun _ t => XQ E wc s.heap.size w1 t) (va_A wc s.heap.size)) args s mc ms (va_A wc s.heap.size)
def MG (l : Launch) (y : MethodName) (ws : List Cond) (rm : Room) (E : EV) (args : List Value) (wc : va_W) (mc ms : Nat) (post : Int32 → va_W → Prop) : Prop := ∀ sz, Met l y ws rm (va_Pc args (XP E wc sz)) (va_Qi post (fun w1 t => XQ E wc sz w1 t) (va_A wc sz)) mc ms (va_A wc sz)
def QG (E : EV) (wc : va_W) (mc ms : Nat) (post : Int32 → va_W → Prop) (below : List Frame) (args : Array Value) (s : State) : State → Prop := MQ below (va_Qi post (fun w1 t => XQ E wc s.heap.size w1 t) (va_A wc s.heap.size)) args s mc ms (va_A wc s.heap.size)
def MN (l : Launch) (y : MethodName) (ws : List Cond) (rm : Room) (E : EV) (args : List Value) (wc : va_W) (mc ms : Nat) (x : va_E) : Prop := ∀ sz, Met l y ws rm (va_Pc args (XP E wc sz)) (va_Qr (fun (_ : Unit) => True) (fun _ a t => XQ E wc sz (wc ++ [(a, x)]) t) (va_A wc sz)) mc ms (va_A wc sz)
def QN (E : EV) (wc : va_W) (mc ms : Nat) (x : va_E) (below : List Frame) (args : Array Value) (s : State) : State → Prop := MQ below (va_Qr (fun (_ : Unit) => True) (fun _ a t => XQ E wc s.heap.size (wc ++ [(a, x)]) t) (va_A wc s.heap.size)) args s mc ms (va_A wc s.heap.size)
def MR (l : Launch) (y : MethodName) (ws : List Cond) (rm : Room) (E : EV) (args : List Value) (wc : va_W) (mc ms : Nat) (post : Nat → va_W → Prop) : Prop := ∀ sz, Met l y ws rm (va_Pc args (XP E wc sz)) (va_Qr (fun (u : Nat × va_W) => post u.1 u.2) (fun u a t => u.1 = a ∧ XQ E wc sz u.2 t) (va_A wc sz)) mc ms (va_A wc sz)
def QR (E : EV) (wc : va_W) (mc ms : Nat) (post : Nat → va_W → Prop) (below : List Frame) (args : Array Value) (s : State) : State → Prop := MQ below (va_Qr (fun (u : Nat × va_W) => post u.1 u.2) (fun u a t => u.1 = a ∧ XQ E wc s.heap.size u.2 t) (va_A wc s.heap.size)) args s mc ms (va_A wc s.heap.size)
section YS
variable {l : Launch} {y : MethodName} {ws ws' : List Cond} {rm : Room} {E : EV} {args : List Value} {wc w1 : va_W} {cc : ByteArray} {maxL mc ms : Nat} {own : String} {ret : Option FieldType}
theorem sIa {r : Int32} (hown : y.cls = own) (hy : plainName y.cls = true) (hw : ws = Cond.code y cc maxL ret :: ws') (hlen : (lg_sl args).length ≤ maxL)
    (body : ∀ (p : Program) (e : Env) (s : State) (m : MethodId) (below : List Frame) (meth : Method) (c : Code), CX p s m args.toArray meth c cc maxL own ws ret E (va_A wc s.heap.size) → meth.name = y.name → ∀ ls : Array Slot, lv_has ls maxL (lv_args 0 args) → WD E (va_A wc s.heap.size) s wc s.heap [] →
      W p l e rm s m args.toArray below meth c s.heap [] 0 0 (QIa E wc mc ms r w1 below args.toArray s) (F0 m 0 ls [])) : MIa l y ws rm E args wc mc ms r w1 :=
  x_start (Pq := fun sz => va_Qi (fun (r' : Int32) (_ : Unit) => r' = r) (fun _ t => XQ E wc sz w1 t) (va_A wc sz)) hown hy hw hlen body
theorem sG {post : Int32 → va_W → Prop} (hown : y.cls = own) (hy : plainName y.cls = true) (hw : ws = Cond.code y cc maxL ret :: ws') (hlen : (lg_sl args).length ≤ maxL)
    (body : ∀ (p : Program) (e : Env) (s : State) (m : MethodId) (below : List Frame) (meth : Method) (c : Code), CX p s m args.toArray meth c cc maxL own ws ret E (va_A wc s.heap.size) → meth.name = y.name → ∀ ls : Array Slot, lv_has ls maxL (lv_args 0 args) → WD E (va_A wc s.heap.size) s wc s.heap [] →
      W p l e rm s m args.toArray below meth c s.heap [] 0 0 (QG E wc mc ms post below args.toArray s) (F0 m 0 ls [])) : MG l y ws rm E args wc mc ms post :=
  x_start (Pq := fun sz => va_Qi post (fun w1 t => XQ E wc sz w1 t) (va_A wc sz)) hown hy hw hlen body
theorem sN {x : va_E} (hown : y.cls = own) (hy : plainName y.cls = true) (hw : ws = Cond.code y cc maxL ret :: ws') (hlen : (lg_sl args).length ≤ maxL)
    (body : ∀ (p : Program) (e : Env) (s : State) (m : MethodId) (below : List Frame) (meth : Method) (c : Code), CX p s m args.toArray meth c cc maxL own ws ret E (va_A wc s.heap.size) → meth.name = y.name → ∀ ls : Array Slot, lv_has ls maxL (lv_args 0 args) → WD E (va_A wc s.heap.size) s wc s.heap [] →
      W p l e rm s m args.toArray below meth c s.heap [] 0 0 (QN E wc mc ms x below args.toArray s) (F0 m 0 ls [])) : MN l y ws rm E args wc mc ms x :=
  x_start (Pq := fun sz => va_Qr (fun (_ : Unit) => True) (fun _ a t => XQ E wc sz (wc ++ [(a, x)]) t) (va_A wc sz)) hown hy hw hlen body
theorem sR {post : Nat → va_W → Prop} (hown : y.cls = own) (hy : plainName y.cls = true) (hw : ws = Cond.code y cc maxL ret :: ws') (hlen : (lg_sl args).length ≤ maxL)
    (body : ∀ (p : Program) (e : Env) (s : State) (m : MethodId) (below : List Frame) (meth : Method) (c : Code), CX p s m args.toArray meth c cc maxL own ws ret E (va_A wc s.heap.size) → meth.name = y.name → ∀ ls : Array Slot, lv_has ls maxL (lv_args 0 args) → WD E (va_A wc s.heap.size) s wc s.heap [] →
      W p l e rm s m args.toArray below meth c s.heap [] 0 0 (QR E wc mc ms post below args.toArray s) (F0 m 0 ls [])) : MR l y ws rm E args wc mc ms post :=
  x_start (Pq := fun sz => va_Qr (fun (u : Nat × va_W) => post u.1 u.2) (fun u a t => u.1 = a ∧ XQ E wc sz u.2 t) (va_A wc sz)) hown hy hw hlen body
/-- with handlers -/
theorem sGh {post : Int32 → va_W → Prop} {hh : List (Nat × Nat × Nat × Nat)} (hown : y.cls = own) (hy : plainName y.cls = true) (hw : ws = Cond.codeWith y cc maxL ret hh :: ws') (hlen : (lg_sl args).length ≤ maxL)
    (body : ∀ (p : Program) (e : Env) (s : State) (m : MethodId) (below : List Frame) (meth : Method) (c : Code), CX p s m args.toArray meth c cc maxL own ws ret E (va_A wc s.heap.size) → c.exceptionTable.toList = tableOf hh → ∀ ls : Array Slot, lv_has ls maxL (lv_args 0 args) → WD E (va_A wc s.heap.size) s wc s.heap [] →
      W p l e rm s m args.toArray below meth c s.heap [] 0 0 (QG E wc mc ms post below args.toArray s) (F0 m 0 ls [])) : MG l y ws rm E args wc mc ms post := by
  intro sz
  refine x_ofWH (cc := cc) (maxL := maxL) (ret := ret) hy hw ?_
  intro p e s m args' below meth c s₁ B hml hv
  obtain ⟨rfl, hsz, hP, hK, hD0, hG⟩ := hv
  subst hsz
  have hl := lv_entry args (n := maxL) hlen
  rw [lg_entry_eq]
  exact body p e s m below meth c ⟨B.exec, B.bytes, hml, by rw [← hown]; exact findClass_of_methodNamed B.named, atoms_spec (ws := ws) B.pre, B.returns, B.notSynchronized, hK, hG, fun q h => Or.inr h⟩ (vx_table (x := y) B (atoms_spec (ws := ws) B.pre _ (by rw [hw]; exact List.mem_cons_self))) _ hl ⟨hP, hD0.self, va_S.rf⟩
end YS
section YR
variable {p : Program} {l : Launch} {e : Env} {R : Room} {s : State} {m : MethodId} {args : Array Value} {below : List Frame} {meth : Method} {c : Code} {H : Heap} {locs : List Loc} {cells slots : Nat} {Q : State → Prop}
variable {cc : ByteArray} {pc nL : Nat} {ls : Array Slot} {rest st0 : List Value} {own : String} {Ts : List Cond} {ret : Option FieldType} {E : EV} {A : Nat → Prop} {w : va_W}
theorem CX.M (C : CX p s m args meth c cc nL own Ts ret E A) : gM E s := C.G.2.2.2.2.2.2.2.2
theorem CX.gc (C : CX p s m args meth c cc nL own Ts ret E A) : gC s := C.M.2.2.2.1
theorem CX.ao (C : CX p s m args meth c cc nL own Ts ret E A) : va_AO "SkittleStrings$Sheet" s := C.M.2.2.2.2
/-- truths -/
theorem x_zld (C : CX p s m args meth c cc nL own Ts ret E A) (hW : WD E A s w H locs) (q0 : Nat) {a n : Nat} {f : Nat → Nat} {i : Int32} (j : Nat) (he : w[q0]? = some (a, bI E n f)) (hi : i = nI j) (hj : j < n) (hn : n < 2 ^ 31) (hdg : decode cc pc = .ok (.baload, 1))
    (kk : W p l e R s m args below meth c H locs cells slots Q (F0 m (pc + 1) ls (.int (nI (f j)) :: rest))) : W p l e R s m args below meth c H locs cells slots Q (F0 m pc ls (.int i :: .ref a :: rest)) := by
  subst hi
  have hj2 : j < 2 ^ 31 := Nat.lt_trans hj hn
  refine va_zald C.x C.b C.K hW.1 q0 1 he rfl (vp_in_nI hj hn) hdg ?_
  rw [nI_clamp hj2]
  exact kk
theorem x_zst (C : CX p s m args meth c cc nL own Ts ret E A) (hW : WD E A s w H locs) (q0 : Nat) {a n : Nat} {f : Nat → Nat} {i x : Int32} {w' : va_W} (j v : Nat) (he : w[q0]? = some (a, bI E n f)) (hi : i = nI j) (hx : x = nI v) (hv : v < 2) (hj : j < n) (hn : n < 2 ^ 31) (hdg : decode cc pc = .ok (.bastore, 1)) (hw : w.set q0 (a, bI E n (upN f j v)) = w')
    (kk : ∀ (H1 : Heap) (locs1 : List Loc), WD E A s w' H1 locs1 → W p l e R s m args below meth c H1 locs1 cells slots Q (F0 m (pc + 1) ls rest)) : W p l e R s m args below meth c H locs cells slots Q (F0 m pc ls (.int x :: .int i :: .ref a :: rest)) := by
  subst hi; subst hx; subst hw
  have hj2 : j < 2 ^ 31 := Nat.lt_trans hj hn
  refine va_zast C.x C.b C.K hW.1 hW.2.1 hW.2.2 q0 1 he rfl (vp_in_nI hj hn) hdg (fun H1 locs1 h1 h2 h3 => ?_)
  rw [nI_clamp hj2, nar01 hv, upd_nI] at h1 h2
  exact kk H1 locs1 ⟨h1, h2, h3⟩
theorem x_newz (C : CX p s m args meth c cc nL own Ts ret E A) (hW : WD E A s w H locs) {N' : Nat} {n : Int32} (harr : Cond.arrayClass .boolean ∈ Ts) (hn : n = nI N') (hlt : N' < 1000) (hcells : cells + 1 ≤ R.cells) (hslots : slots + N' ≤ R.slots) (hdg : decode cc pc = .ok (.newarray .boolean, 2))
    (kk : ∀ (q : Nat) (H1 : Heap), WD E A s (w ++ [(q, bI E N' (fun _ => 0))]) H1 locs → W p l e R s m args below meth c H1 locs (cells + 1) (slots + N') Q (F0 m (pc + 2) ls (.ref q :: rest))) : W p l e R s m args below meth c H locs cells slots Q (F0 m pc ls (.int n :: rest)) := by
  subst hn
  refine va_newa C.x C.b (atype := .boolean) (C.ts _ harr) (ty := .boolean) rfl C.K hW.1 hW.2.1 hW.2.2 C.ar (a0 := (N', .inl (fun j => nI ((fun _ => 0) j)))) (fun cA => rfl) (nI_pos (by omega)) (nI_clamp (by omega)) (by show N' * 1 ≤ 536870912; omega) hcells hslots hdg (fun q cA H1 hK1 hP1 hD1 hS1 => ?_)
  have e1 : cA = E.2.2.1 := by
    have h1 := (hK1.2 4 (cA, .boolean) rfl).2
    have h2 := (C.K.2 1 (E.2.2.1, .boolean) rfl).2
    exact Option.some.inj (h1.symm.trans h2)
  subst e1
  exact kk q H1 ⟨hP1, hD1, hS1⟩
/-- a row of truths is copied -/
theorem x_clone (C : CX p s m args meth c cc nL own Ts ret E A) (hW : WD E A s w H locs) (q0 : Nat) {a n index : Nat} {f : Nat → Nat} (he : w[q0]? = some (a, bI E n f)) (h2 : ∀ j, f j < 2) (hls : ls.size = nL) (hl1 : Cond.methodLink own index ⟨"[Z", "clone", "()Ljava/lang/Object;"⟩ ∈ Ts) (hl2 : Cond.sameMethod "[Z" "java/lang/Object" "clone" "()Ljava/lang/Object;" ∈ Ts) (hl3 : Cond.native ⟨"java/lang/Object", "clone", "()Ljava/lang/Object;"⟩ ∈ Ts) (hl4 : Cond.instanceMethod ⟨"java/lang/Object", "clone", "()Ljava/lang/Object;"⟩ ∈ Ts) (hl5 : Cond.selects "[Z" ⟨"[Z", "clone", "()Ljava/lang/Object;"⟩ ⟨"java/lang/Object", "clone", "()Ljava/lang/Object;"⟩ ∈ Ts)
    (hfr : 1 ≤ R.frames) (hlo : (rest.map fun v => v.category).sum + 14 ≤ R.locals) (hcells : cells + 1 ≤ R.cells) (hslots : slots + n ≤ R.slots) (hdg : decode cc pc = .ok (.invokevirtual index, 3))
    (kk : ∀ (q : Nat) (H1 : Heap), WD E A s (w ++ [(q, bI E n f)]) H1 locs → W p l e R s m args below meth c H1 locs (cells + 1) (slots + n) Q (F0 m (pc + 3) ls (.ref q :: rest))) : W p l e R s m args below meth c H locs cells slots Q (F0 m pc ls (.ref a :: rest)) := by
  refine va_clone C.x C.b (C.2.2.1.trans hls.symm) C.ow (C.ts _ hl1) (C.ts _ hl2) (C.ts _ hl3) (C.ts _ hl4) (C.ts _ hl5) C.M.1.2.2.2 C.K hW.1 hW.2.1 hW.2.2 C.ar q0 1 he rfl (va_nm_boolean (C.K.2 1 (E.2.2.1, .boolean) rfl).2) (fun i v hv => ?_) hfr hlo hcells hslots hdg (fun q H1 _ h1 h3 h4 => kk q H1 ⟨h1, h3, h4⟩)
  rw [vp_cell_i] at hv
  obtain ⟨hi, hv2⟩ := Array.getElem?_eq_some_iff.mp hv
  have hi2 : i < n := by rw [arrV_size] at hi; exact hi
  have hv3 : (arrV E.2.2.1 n (fun j => .int (nI (f j)))).slots[i]? = some (.int (nI (f i))) := arrV_read _ _ hi2
  rw [hv3] at hv
  cases hv
  rcases (show f i = 0 ∨ f i = 1 by have := h2 i; omega) with e | e <;> rw [e] <;> rfl
theorem x_castZ (C : CX p s m args meth c cc nL own Ts ret E A) (hW : WD E A s w H locs) (q0 : Nat) {a n index : Nat} {f : Nat → Nat} (he : w[q0]? = some (a, bI E n f)) (hl : Cond.classLink own index "[Z" ∈ Ts) (hdg : decode cc pc = .ok (.checkcast index, 3))
    (kk : W p l e R s m args below meth c H locs cells slots Q (F0 m (pc + 3) ls (.ref a :: rest))) : W p l e R s m args below meth c H locs cells slots Q (F0 m pc ls (.ref a :: rest)) :=
  va_castA C.x C.b C.ow (C.ts _ hl) hW.1 q0 he (va_nm_boolean (C.K.2 1 (E.2.2.1, .boolean) rfl).2) hdg kk
/-- rows of int rows -/
theorem x_newqI (C : CX p s m args meth c cc nL own Ts ret E A) (hW : WD E A s w H locs) {N' index : Nat} {n : Int32} (hcl : Cond.classLink own index "[I" ∈ Ts) (hn : n = nI N') (hlt : N' < 1000) (hcells : cells + 1 ≤ R.cells) (hslots : slots + N' ≤ R.slots) (hdg : decode cc pc = .ok (.anewarray index, 3))
    (kk : ∀ (q : Nat) (H1 : Heap), WD E A s (w ++ [(q, qI E N' (fun _ => none))]) H1 locs → W p l e R s m args below meth c H1 locs (cells + 1) (slots + N') Q (F0 m (pc + 3) ls (.ref q :: rest))) : W p l e R s m args below meth c H locs cells slots Q (F0 m pc ls (.int n :: rest)) := by
  subst hn
  have hcl9 : (nI N').toNatClampNeg = N' := nI_clamp (by omega)
  refine W.anewA (t := .int) (g := F0 m pc ls (.int (nI N') :: rest)) C.x C.b C.ow (C.ts _ hcl) C.M.2.1 rfl hdg rfl (nI_pos (by omega)) (by rw [hcl9]; omega) hcells (by rw [hcl9]; exact hslots) (fun cA kA comp f1 f2 f3 f4 => ?_)
  rw [hcl9]
  have e1 : cA = E.2.2.2.2.1 := Option.some.inj (f1.symm.trans (C.K.2 3 (E.2.2.2.2.1, .array .int) rfl).2)
  subst e1
  generalize hH1 : H.push ({ cls := E.2.2.2.2.1, slots := Array.replicate N' .null, vm := .none } : Cell) = H1
  have e1 : H1[H.size]? = some (arrV E.2.2.2.2.1 N' (fun _ => .null)) := by rw [← hH1, Array.getElem?_push_size, ← arrV_new]
  have o1 : ∀ q : Nat, q < H.size → H1[q]? = H[q]? := fun q hq => by rw [← hH1, Array.getElem?_push, if_neg (Nat.ne_of_lt hq)]
  have z1 : H1.size = H.size + 1 := by rw [← hH1, Array.size_push]
  have hk : ∀ (k : Nat) (x : Nat × va_E), w[k]? = some x → H1[x.1]? = H[x.1]? := fun k x hx => o1 x.1 ((hW.1 k x hx).lt)
  refine kk H.size H1 ⟨(hW.1.kept hk).app (fun k x hx => ?_), hW.2.1.push hW.1 rfl (C.ar _ hW.2.2.1), ⟨Nat.le_trans hW.2.2.1 (by omega), fun x h1 h2 => (o1 x (Nat.lt_of_lt_of_le h1 hW.2.2.1)).trans (hW.2.2.2.1 x h1 h2), hW.2.2.2.2⟩⟩
  have hz : k < 1 := (List.getElem?_eq_some_iff.mp hx).1
  rw [show k = 0 by omega] at hx
  cases hx
  show H1[H.size]? = some (vp_cell _ _)
  rw [vp_cell_q]
  exact e1
theorem x_aldqI (C : CX p s m args meth c cc nL own Ts ret E A) (hW : WD E A s w H locs) (q0 : Nat) {a n v : Nat} {f : Nat → Option Nat} {i : Int32} (j : Nat) (he : w[q0]? = some (a, qI E n f)) (hi : i = nI j) (hj : j < n) (hn : n < 2 ^ 31) (hf : f j = some v) (hdg : decode cc pc = .ok (.aaload, 1))
    (kk : W p l e R s m args below meth c H locs cells slots Q (F0 m (pc + 1) ls (.ref v :: rest))) : W p l e R s m args below meth c H locs cells slots Q (F0 m pc ls (.int i :: .ref a :: rest)) := by
  subst hi
  have hj2 : j < 2 ^ 31 := Nat.lt_trans hj hn
  have hin := vp_in_nI hj hn
  refine W.aald (v := .ref v) (ty := .array .int) C.x C.b (hW.1 q0 _ he) ((C.K.2 3 (E.2.2.2.2.1, .array .int) rfl).1 n (fun j => va_rf (f j))) rfl (fun q => by cases q) (by show ¬ (nI j < 0 ∨ (arrV _ _ _).slots.size ≤ _); rw [arrV_size]; exact hin) (by show (arrV _ _ _).slots[_]? = _; rw [nI_clamp hj2, arrV_read _ _ hj, hf]; rfl) rfl rfl hdg kk
theorem x_astqI (C : CX p s m args meth c cc nL own Ts ret E A) (hW : WD E A s w H locs) (q0 qk : Nat) {a n v : Nat} {x : vp_A} {f : Nat → Option Nat} {i : Int32} {w' : va_W} (j : Nat) (he : w[q0]? = some (a, qI E n f)) (hv : w[qk]? = some (v, .inl (E.2.1, x))) (hi : i = nI j) (hj : j < n) (hn : n < 2 ^ 31) (hdg : decode cc pc = .ok (.aastore, 1)) (hw : w.set q0 (a, qI E n (va_up f j (some v))) = w')
    (kk : ∀ (H1 : Heap) (locs1 : List Loc), WD E A s w' H1 locs1 → W p l e R s m args below meth c H1 locs1 cells slots Q (F0 m (pc + 1) ls rest)) : W p l e R s m args below meth c H locs cells slots Q (F0 m pc ls (.ref v :: .int i :: .ref a :: rest)) := by
  subst hi; subst hw
  have hj2 : j < 2 ^ 31 := Nat.lt_trans hj hn
  have hin := vp_in_nI hj hn
  obtain ⟨kA, k1, k2⟩ := C.M.2.2.1
  obtain ⟨-, kI, hkI, compI, hkindI⟩ := (C.K.2 0 (E.2.1, .int) rfl).1 0 (fun _ => .null)
  have hcv : H[v]? = some (vp_cell E.2.1 x) := hW.1 qk _ hv
  have hvm0 : (vp_cell E.2.1 x).vm = .none := by
    obtain ⟨n, f | f | f | f | f⟩ := x <;> rfl
  have hcl0 : (vp_cell E.2.1 x).cls = E.2.1 := by
    obtain ⟨n, f | f | f | f | f⟩ := x <;> rfl
  refine W.aast (t := .array .int) (comp := E.2.1) C.x C.b (hW.1 q0 _ he) (fun q h => by cases h) (fun h => by cases h) k1 k2 rfl hkI ⟨fun q => hin (Or.inl q), by show _ < (arrV _ _ _).slots.size; rw [arrV_size, nI_clamp hj2]; exact hj⟩ hcv (fun q h => by rw [hvm0] at h; cases h) (by rw [hcl0]; exact hkI) (by rw [hcl0]; exact va_asg _ _) rfl rfl hdg fun H1 e z oq => ?_
  refine kk H1 _ ⟨hW.1.set hW.2.1 he ?_ oq, hW.2.1.set he, hW.2.2.put z oq (hW.2.1.2 q0 _ he)⟩
  show H1[a]? = some (vp_cell _ _)
  rw [e, nI_clamp hj2]
  show some ((vp_cell _ _).setSlot _ _) = some (vp_cell _ _)
  rw [vp_cell_q, vp_cell_q, arrV_store]
  congr 2
  funext q
  by_cases hq : q = j
  · subst hq
    simp [updV, va_up, va_rf]
  · simp [updV, va_up, hq]
/-- the script -/
theorem x_slT (C : CX p s m args meth c cc nL own Ts ret E A) (hW : WD E A s w H locs) (hdg : decode cc pc = .ok (.arraylength, 1))
    (kk : W p l e R s m args below meth c H locs cells slots Q (F0 m (pc + 1) ls (.int (nI E.2.2.2.2.2.2.1) :: rest))) : W p l e R s m args below meth c H locs cells slots Q (F0 m pc ls (.ref E.2.2.2.2.2.1 :: rest)) :=
  va_tlen C.x C.b C.G.2.1.1 hW.2.2 rfl hdg kk
theorem x_sldT (C : CX p s m args meth c cc nL own Ts ret E A) (hW : WD E A s w H locs) {i : Int32} (j : Nat) (hi : i = nI j) (hj : j < E.2.2.2.2.2.2.1) (hdg : decode cc pc = .ok (.iaload, 1))
    (kk : W p l e R s m args below meth c H locs cells slots Q (F0 m (pc + 1) ls (.int (E.2.2.2.2.2.2.2 j) :: rest))) : W p l e R s m args below meth c H locs cells slots Q (F0 m pc ls (.int i :: .ref E.2.2.2.2.2.1 :: rest)) := by
  subst hi
  have h260 := C.G.2.1.2
  refine va_ti C.x C.b C.G.2.1.1 hW.2.2 (vp_in_nI hj (by omega)) (by rw [nI_clamp (by omega)]) hdg kk
/-- a table of a nest mate -/
theorem x_getsN (C : CX p s m args meth c cc nL own Ts ret E A) (hW : WD E A s w H locs) {Cn n host : String} {N index : Nat} {f : Nat → Int32} (hg : gS Cn n N f A s s.heap) (hl : va_Nw (.fieldLinkNest own index Cn n "[I" host) s) (hdg : decode cc pc = .ok (.getstatic index, 3))
    (kk : ∀ t : Nat, va_T .int t N (fun j => .int (f j)) A s s.heap → W p l e R s m args below meth c H locs cells slots Q (F0 m (pc + 3) ls (.ref t :: rest))) : W p l e R s m args below meth c H locs cells slots Q (F0 m pc ls rest) := by
  obtain ⟨t, h1, h2⟩ := hg
  exact va_getsN C.x C.b h1 hW.2.2 C.ow (va_Nw.use rfl hl) (fun _ h9 => h9) hdg (kk t h2)
theorem x_irem (C : CX p s m args meth c cc nL own Ts ret E A) {a b : Nat} (ha : a < 2 ^ 31) (hb0 : 0 < b) (hb : b < 2 ^ 31) (hdg : decode cc pc = .ok (.irem, 1))
    (kk : W p l e R s m args below meth c H locs cells slots Q (F0 m (pc + 1) ls (.int (nI (a % b)) :: rest))) : W p l e R s m args below meth c H locs cells slots Q (F0 m pc ls (.int (nI b) :: .int (nI a) :: rest)) := by
  refine lv_irem C.x C.b hdg (fun q => absurd ((nI_eq (b := 0) hb (by decide)).mp q) (by omega)) ?_
  rw [pk_rem ha hb0 hb]
  exact kk
theorem x_idiv (C : CX p s m args meth c cc nL own Ts ret E A) {a b : Nat} (ha : a < 2 ^ 31) (hb0 : 0 < b) (hb : b < 2 ^ 31) (hdg : decode cc pc = .ok (.idiv, 1))
    (kk : W p l e R s m args below meth c H locs cells slots Q (F0 m (pc + 1) ls (.int (nI (a / b)) :: rest))) : W p l e R s m args below meth c H locs cells slots Q (F0 m pc ls (.int (nI b) :: .int (nI a) :: rest)) := by
  refine lv_idiv C.x C.b hdg (fun q => absurd ((nI_eq (b := 0) hb (by decide)).mp q) (by omega)) ?_
  rw [pk_div ha hb0 hb]
  exact kk
theorem x_putR (C : CX p s m args meth c cc nL own Ts ret E A) (hW : WD E A s w H locs) (q0 ci k : Nat) {a : Nat} {fs : List Value} {Cn : String} {T : u_T} {N index : Nat} {v : Value} {w' : va_W} {ty : FieldType} (ty0 : Nat → FieldType) (hty : ∀ k, k < N → parseFieldDescriptor (T k).2.2.1 = some (ty0 k)) (hnm : ∀ a, a < N → ∀ b, b < N → a ≠ b → (T a).2.1 ≠ (T b).2.1) (hc : vwCl[ci]? = some (Cn, T, N)) (he : w[q0]? = some (a, .inr (ci, fs))) (hk : k < N) (hin : ∀ w ∈ u_ws Cn T N, w ∈ Ts) (hl : Cond.fieldLink own index (T k).1 (T k).2.1 (T k).2.2.1 ∈ Ts) (hfin : (T k).2.2.2 = false) (hd : parseFieldDescriptor (T k).2.2.1 = some ty) (hn : narrow ty v = v) (hfit : fits ty v = true) (hlen : k < fs.length) (hdg : decode cc pc = .ok (.putfield index, 3)) (hw : w.set q0 (a, .inr (ci, fs.set k v)) = w')
    (kk : ∀ (H1 : Heap) (locs1 : List Loc), WD E A s w' H1 locs1 → W p l e R s m args below meth c H1 locs1 cells slots Q (F0 m (pc + 3) ls rest)) : W p l e R s m args below meth c H locs cells slots Q (F0 m pc ls (v :: .ref a :: rest)) := by
  subst hw
  exact va_put C.x C.b C.ts hin ty0 hty hnm C.ow C.K hW.1 hW.2.1 hW.2.2 q0 he hc k hk (C.ts _ hl) (fun _ h9 => h9) hfin hd hn hfit hlen hdg (fun H1 locs1 h1 h2 h3 => kk H1 locs1 ⟨h1, h2, h3⟩)
/-! ends -/
theorem x_iretG {wc : va_W} {mc ms : Nat} {post : Int32 → va_W → Prop} {v : Int32} {ty : FieldType} (C : CX p s m args meth c cc nL own Ts (some ty) E (va_A wc s.heap.size)) (hW : WD E (va_A wc s.heap.size) s w H locs) (hn : narrow ty (.int v) = .int v) (hp : post v w) (hc : cells = mc) (hs : slots = ms) (hdg : decode cc pc = .ok (.ireturn, 1)) : W p l e R s m args below meth c H locs cells slots (QG E wc mc ms post below args s) (F0 m pc ls [.int v]) := by
  subst hc; subst hs
  have hlocks := C.lk
  exact W.zret C.x C.b C.r hn (fun t ht hWm => ⟨⟨v, w, rfl, hp, by rw [ht]; exact hW.1, va_K.moved hWm.alike C.K, hW.2.1⟩, hW.2.2.F ht⟩) hW.2.2.2.2 hdg
theorem x_iretIa {wc w1 : va_W} {mc ms : Nat} {r v : Int32} {ty : FieldType} (C : CX p s m args meth c cc nL own Ts (some ty) E (va_A wc s.heap.size)) (hW : WD E (va_A wc s.heap.size) s w H locs) (hn : narrow ty (.int v) = .int v) (hv : v = r) (hw : w = w1) (hc : cells = mc) (hs : slots = ms) (hdg : decode cc pc = .ok (.ireturn, 1)) : W p l e R s m args below meth c H locs cells slots (QIa E wc mc ms r w1 below args s) (F0 m pc ls [.int v]) := by
  subst hv; subst hc; subst hs; subst hw
  have hlocks := C.lk
  exact W.zret C.x C.b C.r hn (fun t ht hWm => ⟨⟨v, (), rfl, rfl, by rw [ht]; exact hW.1, va_K.moved hWm.alike C.K, hW.2.1⟩, hW.2.2.F ht⟩) hW.2.2.2.2 hdg
theorem x_aretN {wc : va_W} {mc ms a : Nat} {x : va_E} {rt : FieldType} (C : CX p s m args meth c cc nL own Ts (some rt) E (va_A wc s.heap.size)) (hrt : (∃ n, rt = .object n) ∨ ∃ t, rt = .array t) (hW : WD E (va_A wc s.heap.size) s w H locs) (hw : w = wc ++ [(a, x)]) (hc : cells = mc) (hs : slots = ms) (hdg : decode cc pc = .ok (.areturn, 1)) : W p l e R s m args below meth c H locs cells slots (QN E wc mc ms x below args s) (F0 m pc ls [.ref a]) := by
  subst hc; subst hs; subst hw
  have hlocks := C.lk
  exact W.aret C.x C.b C.r hrt (Or.inr ⟨a, rfl⟩) (fun t ht hWm => ⟨⟨(), a, rfl, trivial, by rw [ht]; exact hW.1, va_K.moved hWm.alike C.K, hW.2.1⟩, hW.2.2.F ht⟩) hW.2.2.2.2 hdg
theorem x_aretR {wc : va_W} {mc ms a : Nat} {post : Nat → va_W → Prop} {rt : FieldType} (C : CX p s m args meth c cc nL own Ts (some rt) E (va_A wc s.heap.size)) (hrt : (∃ n, rt = .object n) ∨ ∃ t, rt = .array t) (hW : WD E (va_A wc s.heap.size) s w H locs) (hp : post a w) (hc : cells = mc) (hs : slots = ms) (hdg : decode cc pc = .ok (.areturn, 1)) : W p l e R s m args below meth c H locs cells slots (QR E wc mc ms post below args s) (F0 m pc ls [.ref a]) := by
  subst hc; subst hs
  have hlocks := C.lk
  exact W.aret C.x C.b C.r hrt (Or.inr ⟨a, rfl⟩) (fun t ht hWm => ⟨⟨(a, w), a, rfl, hp, rfl, by rw [ht]; exact hW.1, va_K.moved hWm.alike C.K, hW.2.1⟩, hW.2.2.F ht⟩) hW.2.2.2.2 hdg
end YR
