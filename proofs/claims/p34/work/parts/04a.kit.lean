/-! THE WRITER'S OWN KIT, 3: starts; small rows -/
theorem z_incN (a k : Nat) : nI a + Int32.ofInt k = nI (a + k) := by
  rw [show Int32.ofInt (k : Int) = nI k from Int32.ofInt_eq_ofNat]; exact nI_add a k
theorem z_inc (a k : Nat) : nI a + Int32.ofInt (OfNat.ofNat k : Int) = nI (a + k) := z_incN a k
theorem z_dec1 {a : Nat} (h : 1 ≤ a) : nI a + Int32.ofInt (-1) = nI (a - 1) := by
  rw [show Int32.ofInt (-1) = (-1 : Int32) from by decide]
  exact sb_m1 h
theorem z_max {a b : Nat} (ha : a < 2 ^ 31) (hb : b < 2 ^ 31) : (if nI a < nI b then nI b else nI a) = nI (max a b) := by
  by_cases h : a < b
  · rw [if_pos ((nI_ltI ha hb).mpr h), Nat.max_eq_right (by omega)]
  · rw [if_neg (fun q => h ((nI_ltI ha hb).mp q)), Nat.max_eq_left (by omega)]
theorem z_min {a b : Nat} (ha : a < 2 ^ 31) (hb : b < 2 ^ 31) : (if nI b < nI a then nI b else nI a) = nI (min a b) := by
  by_cases h : b < a
  · rw [if_pos ((nI_ltI hb ha).mpr h), Nat.min_eq_right (by omega)]
  · rw [if_neg (fun q => h ((nI_ltI hb ha).mp q)), Nat.min_eq_left (by omega)]
theorem z_narb (c : Prop) [Decidable c] : narrow .boolean (.int (nI (if c then 1 else 0))) = .int (nI (if c then 1 else 0)) := by
  by_cases h : c
  · rw [if_pos h]; rfl
  · rw [if_neg h]; rfl
theorem z_shl1 : ∀ b, b < 31 → nI 1 <<< (nI b &&& 31) = nI (2 ^ b) := by decide +kernel
theorem z_ite_lt (c : Prop) [Decidable c] : (if c then 1 else 0) < 2 ^ 31 := by split <;> decide
theorem z_ite (c : Prop) [Decidable c] : nI (if c then 1 else 0) = if c then 1 else 0 := by split <;> rfl
section XS
variable {l : Launch} {y : MethodName} {ws ws' : List Cond} {rm : Room} {E : EV} {args : List Value} {wc w1 : va_W} {cc : ByteArray} {maxL : Nat} {own : String}
theorem sI {ret : Option FieldType} {r : Int32} (hown : y.cls = own) (hy : plainName y.cls = true) (hw : ws = Cond.code y cc maxL ret :: ws') (hlen : (lg_sl args).length ≤ maxL)
    (body : ∀ (p : Program) (e : Env) (s : State) (m : MethodId) (below : List Frame) (meth : Method) (c : Code), CX p s m args.toArray meth c cc maxL own ws ret E (va_A wc s.heap.size) → meth.name = y.name → ∀ ls : Array Slot, lv_has ls maxL (lv_args 0 args) → WD E (va_A wc s.heap.size) s wc s.heap [] →
      W p l e rm s m args.toArray below meth c s.heap [] 0 0 (QI E wc r w1 below args.toArray s) (F0 m 0 ls [])) : MI l y ws rm E args wc r w1 :=
  x_start (Pq := fun sz => va_Qi (fun (r' : Int32) (_ : Unit) => r' = r) (fun _ t => XQ E wc sz w1 t) (va_A wc sz)) hown hy hw hlen body
theorem sL {r : Int64} (hown : y.cls = own) (hy : plainName y.cls = true) (hw : ws = Cond.code y cc maxL (some .long) :: ws') (hlen : (lg_sl args).length ≤ maxL)
    (body : ∀ (p : Program) (e : Env) (s : State) (m : MethodId) (below : List Frame) (meth : Method) (c : Code), CX p s m args.toArray meth c cc maxL own ws (some .long) E (va_A wc s.heap.size) → meth.name = y.name → ∀ ls : Array Slot, lv_has ls maxL (lv_args 0 args) → WD E (va_A wc s.heap.size) s wc s.heap [] →
      W p l e rm s m args.toArray below meth c s.heap [] 0 0 (QL E wc r w1 below args.toArray s) (F0 m 0 ls [])) : ML l y ws rm E args wc r w1 :=
  x_start (Pq := fun sz => va_Ql (fun (r' : Int64) (_ : Unit) => r' = r) (fun _ t => XQ E wc sz w1 t) (va_A wc sz)) hown hy hw hlen body
theorem sD {r : UInt64} (hown : y.cls = own) (hy : plainName y.cls = true) (hw : ws = Cond.code y cc maxL (some .double) :: ws') (hlen : (lg_sl args).length ≤ maxL)
    (body : ∀ (p : Program) (e : Env) (s : State) (m : MethodId) (below : List Frame) (meth : Method) (c : Code), CX p s m args.toArray meth c cc maxL own ws (some .double) E (va_A wc s.heap.size) → meth.name = y.name → ∀ ls : Array Slot, lv_has ls maxL (lv_args 0 args) → WD E (va_A wc s.heap.size) s wc s.heap [] →
      W p l e rm s m args.toArray below meth c s.heap [] 0 0 (QD E wc r w1 below args.toArray s) (F0 m 0 ls [])) : MD l y ws rm E args wc r w1 :=
  x_start (Pq := fun sz => va_Qd (fun (r' : UInt64) (_ : Unit) => r' = r) (fun _ t => XQ E wc sz w1 t) (va_A wc sz)) hown hy hw hlen body
theorem sV (hown : y.cls = own) (hy : plainName y.cls = true) (hw : ws = Cond.code y cc maxL none :: ws') (hlen : (lg_sl args).length ≤ maxL)
    (body : ∀ (p : Program) (e : Env) (s : State) (m : MethodId) (below : List Frame) (meth : Method) (c : Code), CX p s m args.toArray meth c cc maxL own ws none E (va_A wc s.heap.size) → meth.name = y.name → ∀ ls : Array Slot, lv_has ls maxL (lv_args 0 args) → WD E (va_A wc s.heap.size) s wc s.heap [] →
      W p l e rm s m args.toArray below meth c s.heap [] 0 0 (QV E wc w1 below args.toArray s) (F0 m 0 ls [])) : MV l y ws rm E args wc w1 :=
  x_start (Pq := fun sz => va_Qv (fun (_ : Unit) => True) (fun _ t => XQ E wc sz w1 t) (va_A wc sz)) hown hy hw hlen body
theorem sC {mc ms : Nat} {post : va_W → Prop} (hown : y.cls = own) (hy : plainName y.cls = true) (hw : ws = Cond.code y cc maxL none :: ws') (hlen : (lg_sl args).length ≤ maxL)
    (body : ∀ (p : Program) (e : Env) (s : State) (m : MethodId) (below : List Frame) (meth : Method) (c : Code), CX p s m args.toArray meth c cc maxL own ws none E (va_A wc s.heap.size) → meth.name = y.name → ∀ ls : Array Slot, lv_has ls maxL (lv_args 0 args) → WD E (va_A wc s.heap.size) s wc s.heap [] →
      W p l e rm s m args.toArray below meth c s.heap [] 0 0 (QC E wc mc ms post below args.toArray s) (F0 m 0 ls [])) : MC l y ws rm E args wc mc ms post :=
  x_start (Pq := fun sz => va_Qv post (fun w1 t => XQ E wc sz w1 t) (va_A wc sz)) hown hy hw hlen body
end XS
section XT
variable {p : Program} {l : Launch} {e : Env} {R : Room} {s : State} {m : MethodId} {args : Array Value} {below : List Frame} {meth : Method} {c : Code} {H : Heap} {locs : List Loc} {cells slots : Nat} {Q : State → Prop}
variable {cc : ByteArray} {pc nL : Nat} {ls : Array Slot} {rest st0 : List Value} {own : String} {Ts : List Cond} {ret : Option FieldType} {E : EV} {A : Nat → Prop} {w : va_W}
theorem x_toi {x y : Int32} (h : x = y) (k : W p l e R s m args below meth c H locs cells slots Q (F0 m pc ls (.int y :: rest))) : W p l e R s m args below meth c H locs cells slots Q (F0 m pc ls (.int x :: rest)) := h ▸ k
theorem x_tol {x y : Int64} (h : x = y) (k : W p l e R s m args below meth c H locs cells slots Q (F0 m pc ls (.long y :: rest))) : W p l e R s m args below meth c H locs cells slots Q (F0 m pc ls (.long x :: rest)) := h ▸ k
theorem x_ifb_eq (C : CX p s m args meth c cc nL own Ts ret E A) {P : Prop} [Decidable P] {off : Int} {tgt : Nat} (hdg : decode cc pc = .ok (.ifCond .eq off, 3)) (ht : (pc : Int) + off = (tgt : Int))
    (kt : ¬ P → W p l e R s m args below meth c H locs cells slots Q (F0 m tgt ls rest)) (kf : P → W p l e R s m args below meth c H locs cells slots Q (F0 m (pc + 3) ls rest)) : W p l e R s m args below meth c H locs cells slots Q (F0 m pc ls (.int (nI (if P then 1 else 0)) :: rest)) := by
  by_cases h : P
  · refine lv_if_eq C.x C.b hdg ht (fun q => ?_) (fun _ => kf h)
    rw [if_pos h] at q; exact absurd q (by decide)
  · refine lv_if_eq C.x C.b hdg ht (fun _ => kt h) (fun q => ?_)
    rw [if_neg h] at q; exact absurd rfl q
theorem x_ifb_ne (C : CX p s m args meth c cc nL own Ts ret E A) {P : Prop} [Decidable P] {off : Int} {tgt : Nat} (hdg : decode cc pc = .ok (.ifCond .ne off, 3)) (ht : (pc : Int) + off = (tgt : Int))
    (kt : P → W p l e R s m args below meth c H locs cells slots Q (F0 m tgt ls rest)) (kf : ¬ P → W p l e R s m args below meth c H locs cells slots Q (F0 m (pc + 3) ls rest)) : W p l e R s m args below meth c H locs cells slots Q (F0 m pc ls (.int (nI (if P then 1 else 0)) :: rest)) := by
  by_cases h : P
  · refine lv_if_ne C.x C.b hdg ht (fun _ => kt h) (fun q => ?_)
    rw [if_pos h] at q; exact absurd q (by decide)
  · refine lv_if_ne C.x C.b hdg ht (fun q => ?_) (fun _ => kf h)
    rw [if_neg h] at q; exact absurd rfl q
/-- a field of references is written, final, in a constructor -/
theorem x_putr (C : CX p s m args meth c cc nL own Ts ret E A) (hW : WD E A s w H locs) (q0 ci k : Nat) {a : Nat} {fs : List Value} {Cn : String} {T : u_T} {N index : Nat} {v : Value} {w' : va_W} {ty : FieldType} (ty0 : Nat → FieldType) (hty : ∀ k, k < N → parseFieldDescriptor (T k).2.2.1 = some (ty0 k)) (hnm : ∀ a, a < N → ∀ b, b < N → a ≠ b → (T a).2.1 ≠ (T b).2.1) (hc : vwCl[ci]? = some (Cn, T, N)) (he : w[q0]? = some (a, .inr (ci, fs))) (hk : k < N) (hin : ∀ w ∈ u_ws Cn T N, w ∈ Ts) (hl : Cond.fieldLink own index (T k).1 (T k).2.1 (T k).2.2.1 ∈ Ts) (hfin : (T k).2.2.2 = true) (hin2 : meth.name = "<init>") (hdecl : (T k).1 = own) (hd : parseFieldDescriptor (T k).2.2.1 = some ty) (hn : narrow ty v = v) (hfit : fits ty v = true) (hlen : k < fs.length) (hdg : decode cc pc = .ok (.putfield index, 3)) (hw : w.set q0 (a, .inr (ci, fs.set k v)) = w')
    (kk : ∀ (H1 : Heap) (locs1 : List Loc), WD E A s w' H1 locs1 → W p l e R s m args below meth c H1 locs1 cells slots Q (F0 m (pc + 3) ls rest)) : W p l e R s m args below meth c H locs cells slots Q (F0 m pc ls (v :: .ref a :: rest)) := by
  subst hw
  exact va_putF C.x C.b C.ts hin ty0 hty hnm C.ow C.K hW.1 hW.2.1 hW.2.2 q0 he hc k hk (C.ts _ hl) (fun _ h9 => h9) hfin hin2 hdecl hd hn hfit hlen hdg (fun H1 locs1 h1 h2 h3 => kk H1 locs1 ⟨h1, h2, h3⟩)
theorem x_iand1 (C : CX p s m args meth c cc nL own Ts ret E A) {a : Nat} (hdg : decode cc pc = .ok (.iand, 1))
    (kk : W p l e R s m args below meth c H locs cells slots Q (F0 m (pc + 1) ls (.int (nI (a % 2)) :: rest))) : W p l e R s m args below meth c H locs cells slots Q (F0 m pc ls (.int (nI 1) :: .int (nI a) :: rest)) := by
  refine lv_iand C.x C.b hdg ?_
  rw [show nI a &&& nI 1 = nI (a % 2) from by rw [z_and, Nat.and_one_is_mod]]
  exact kk
theorem x_ishl1 (C : CX p s m args meth c cc nL own Ts ret E A) {b : Nat} (hb : b < 31) (hdg : decode cc pc = .ok (.ishl, 1))
    (kk : W p l e R s m args below meth c H locs cells slots Q (F0 m (pc + 1) ls (.int (nI (2 ^ b)) :: rest))) : W p l e R s m args below meth c H locs cells slots Q (F0 m pc ls (.int (nI b) :: .int (nI 1) :: rest)) := by
  refine lv_ishl C.x C.b hdg ?_
  rw [show nI 1 <<< (nI b &&& 31) = nI (2 ^ b) from z_shl1 b hb]
  exact kk
end XT
