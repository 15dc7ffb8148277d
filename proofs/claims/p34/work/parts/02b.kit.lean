theorem z_and (a b : Nat) : nI a &&& nI b = nI (a &&& b) := Int32.toBitVec_inj.mp (by simp [nI])
theorem z_or (a b : Nat) : nI a ||| nI b = nI (a ||| b) := Int32.toBitVec_inj.mp (by simp [nI])
theorem z_xor (a b : Nat) : nI a ^^^ nI b = nI (a ^^^ b) := Int32.toBitVec_inj.mp (by simp [nI])
theorem z_sm : ∀ b, b < 31 → ((nI b &&& 31).toBitVec.smod 32).toNat = b := by decide +kernel
theorem z_shl {a b : Nat} (hb : b < 31) (ha : a * 2 ^ b < 2 ^ 32) : nI a <<< (nI b &&& 31) = nI (a * 2 ^ b) := pk_shlN _ b (z_sm b hb) ha
theorem z_shr {a b : Nat} (hb : b < 31) (ha : a < 2 ^ 31) : nI a >>> (nI b &&& 31) = nI (a / 2 ^ b) := pk_shrN ha _ b (z_sm b hb)
theorem z_eq0 {a : Nat} (ha : a < 2 ^ 31) : nI a = 0 ↔ a = 0 := nI_eq (b := 0) ha (by decide)
theorem z_lt0 {a : Nat} (ha : a < 2 ^ 31) : nI a < 0 ↔ a < 0 := nI_ltI (b := 0) ha (by decide)
theorem z_ge0 {a : Nat} (ha : a < 2 ^ 31) : 0 ≤ nI a ↔ 0 ≤ a := nI_leI (a := 0) (by decide) ha
theorem z_gt0 {a : Nat} (ha : a < 2 ^ 31) : 0 < nI a ↔ 0 < a := nI_ltI (a := 0) (by decide) ha
theorem z_le0 {a : Nat} (ha : a < 2 ^ 31) : nI a ≤ 0 ↔ a ≤ 0 := nI_leI (b := 0) ha (by decide)
/-! THE WRITER'S OWN KIT, 2: rows over WD -/
section XR
variable {p : Program} {l : Launch} {e : Env} {R : Room} {s : State} {m : MethodId} {args : Array Value} {below : List Frame} {meth : Method} {c : Code} {H : Heap} {locs : List Loc} {cells slots : Nat} {Q : State → Prop}
variable {cc : ByteArray} {pc nL : Nat} {ls : Array Slot} {rest st0 : List Value} {own : String} {Ts : List Cond} {ret : Option FieldType} {E : EV} {A : Nat → Prop} {w : va_W}
theorem CX.x (C : CX p s m args meth c cc nL own Ts ret E A) : p.tables.exec = Jvm.exec := C.1
theorem CX.b (C : CX p s m args meth c cc nL own Ts ret E A) : c.code = cc := C.2.1
theorem CX.fix (C : CX p s m args meth c cc nL own Ts ret E A) : CallFix p m c cc nL s args Ts own := ⟨C.1, C.2.1, C.2.2.1, C.2.2.2.1, C.2.2.2.2.1⟩
theorem CX.ow (C : CX p s m args meth c cc nL own Ts ret E A) : s.vm.findClass own = some m.cls := C.2.2.2.1
theorem CX.ts (C : CX p s m args meth c cc nL own Ts ret E A) : ∀ w ∈ Ts, w.before args s = true := C.2.2.2.2.1
theorem CX.r (C : CX p s m args meth c cc nL own Ts ret E A) : meth.sig.returnType = ret := C.2.2.2.2.2.1
theorem CX.lk (C : CX p s m args meth c cc nL own Ts ret E A) : meth.locks = false := C.2.2.2.2.2.2.1
theorem CX.K (C : CX p s m args meth c cc nL own Ts ret E A) : va_K E.1 vwCl (eT E) s := C.2.2.2.2.2.2.2.1
theorem CX.G (C : CX p s m args meth c cc nL own Ts ret E A) : GF E A s s.heap := C.2.2.2.2.2.2.2.2.1
theorem CX.ar (C : CX p s m args meth c cc nL own Ts ret E A) : ∀ q, s.heap.size ≤ q → A q := C.2.2.2.2.2.2.2.2.2
/-- a field is read -/
theorem x_get (C : CX p s m args meth c cc nL own Ts ret E A) (hW : WD E A s w H locs) (q0 ci k : Nat) {a : Nat} {fs : List Value} {Cn : String} {T : u_T} {N index : Nat} {v : Value} (hc : vwCl[ci]? = some (Cn, T, N)) (he : w[q0]? = some (a, .inr (ci, fs))) (hk : k < N) (hin : ∀ w ∈ u_ws Cn T N, w ∈ Ts) (hl : Cond.fieldLink own index (T k).1 (T k).2.1 (T k).2.2.1 ∈ Ts) (hv : fs[k]? = some v) (hdg : decode cc pc = .ok (.getfield index, 3))
    (kk : W p l e R s m args below meth c H locs cells slots Q (F0 m (pc + 3) ls (v :: rest))) : W p l e R s m args below meth c H locs cells slots Q (F0 m pc ls (.ref a :: rest)) :=
  va_get C.x C.b C.ts hin C.ow C.K hW.1 q0 he hc k hk (C.ts _ hl) (fun _ h9 => h9) hv hdg kk
/-- an int field is written -/
theorem x_put (C : CX p s m args meth c cc nL own Ts ret E A) (hW : WD E A s w H locs) (q0 ci k : Nat) {a : Nat} {fs : List Value} {Cn : String} {T : u_T} {N index : Nat} {x : Int32} {w' : va_W} (ty0 : Nat → FieldType) (hty : ∀ k, k < N → parseFieldDescriptor (T k).2.2.1 = some (ty0 k)) (hnm : ∀ a, a < N → ∀ b, b < N → a ≠ b → (T a).2.1 ≠ (T b).2.1) (hc : vwCl[ci]? = some (Cn, T, N)) (he : w[q0]? = some (a, .inr (ci, fs))) (hk : k < N) (hin : ∀ w ∈ u_ws Cn T N, w ∈ Ts) (hl : Cond.fieldLink own index (T k).1 (T k).2.1 (T k).2.2.1 ∈ Ts) (hfin : (T k).2.2.2 = false) (hd : parseFieldDescriptor (T k).2.2.1 = some .int) (hlen : k < fs.length) (hdg : decode cc pc = .ok (.putfield index, 3)) (hw : w.set q0 (a, .inr (ci, fs.set k (.int x))) = w')
    (kk : ∀ (H1 : Heap) (locs1 : List Loc), WD E A s w' H1 locs1 → W p l e R s m args below meth c H1 locs1 cells slots Q (F0 m (pc + 3) ls rest)) : W p l e R s m args below meth c H locs cells slots Q (F0 m pc ls (.int x :: .ref a :: rest)) := by
  subst hw
  exact va_put C.x C.b C.ts hin ty0 hty hnm C.ow C.K hW.1 hW.2.1 hW.2.2 q0 he hc k hk (C.ts _ hl) (fun _ h9 => h9) hfin hd rfl rfl hlen hdg (fun H1 locs1 h1 h2 h3 => kk H1 locs1 ⟨h1, h2, h3⟩)
/-- a place of an int array is read -/
theorem x_ald (C : CX p s m args meth c cc nL own Ts ret E A) (hW : WD E A s w H locs) (q0 : Nat) {a n : Nat} {f : Nat → Nat} {i : Int32} (j : Nat) (he : w[q0]? = some (a, aI E n f)) (hi : i = nI j) (hj : j < n) (hn : n < 2 ^ 31) (hdg : decode cc pc = .ok (.iaload, 1))
    (kk : W p l e R s m args below meth c H locs cells slots Q (F0 m (pc + 1) ls (.int (nI (f j)) :: rest))) : W p l e R s m args below meth c H locs cells slots Q (F0 m pc ls (.int i :: .ref a :: rest)) := by
  subst hi
  have hj2 : j < 2 ^ 31 := Nat.lt_trans hj hn
  refine va_iald C.x C.b C.K hW.1 q0 0 he rfl (vp_in_nI hj hn) hdg ?_
  rw [nI_clamp hj2]
  exact kk
/-- .. and written -/
theorem x_ast (C : CX p s m args meth c cc nL own Ts ret E A) (hW : WD E A s w H locs) (q0 : Nat) {a n : Nat} {f : Nat → Nat} {i x : Int32} {w' : va_W} (j v : Nat) (he : w[q0]? = some (a, aI E n f)) (hi : i = nI j) (hx : x = nI v) (hj : j < n) (hn : n < 2 ^ 31) (hdg : decode cc pc = .ok (.iastore, 1)) (hw : w.set q0 (a, aI E n (upN f j v)) = w')
    (kk : ∀ (H1 : Heap) (locs1 : List Loc), WD E A s w' H1 locs1 → W p l e R s m args below meth c H1 locs1 cells slots Q (F0 m (pc + 1) ls rest)) : W p l e R s m args below meth c H locs cells slots Q (F0 m pc ls (.int x :: .int i :: .ref a :: rest)) := by
  subst hi; subst hx; subst hw
  have hj2 : j < 2 ^ 31 := Nat.lt_trans hj hn
  refine va_iast C.x C.b C.K hW.1 hW.2.1 hW.2.2 q0 0 he rfl (vp_in_nI hj hn) hdg (fun H1 locs1 h1 h2 h3 => ?_)
  rw [nI_clamp hj2, upd_nI] at h1 h2
  exact kk H1 locs1 ⟨h1, h2, h3⟩
/-- a static table: its reference, and a place of it -/
theorem x_gets (C : CX p s m args meth c cc nL own Ts ret E A) (hW : WD E A s w H locs) {Cn n : String} {N index : Nat} {f : Nat → Int32} (hg : gS Cn n N f A s s.heap) (hl : Cond.fieldLink own index Cn n "[I" ∈ Ts) (hdg : decode cc pc = .ok (.getstatic index, 3))
    (kk : ∀ t : Nat, va_T .int t N (fun j => .int (f j)) A s s.heap → W p l e R s m args below meth c H locs cells slots Q (F0 m (pc + 3) ls (.ref t :: rest))) : W p l e R s m args below meth c H locs cells slots Q (F0 m pc ls rest) := by
  obtain ⟨t, h1, h2⟩ := hg
  exact va_gets C.x C.b h1 hW.2.2 C.ow (C.ts _ hl) (fun _ h9 => h9) hdg (kk t h2)
theorem x_tab (C : CX p s m args meth c cc nL own Ts ret E A) (hW : WD E A s w H locs) {t N : Nat} {f : Nat → Int32} {i : Int32} (hT : va_T .int t N (fun j => .int (f j)) A s s.heap) (j : Nat) (hi : i = nI j) (hj : j < N) (hN : N < 2 ^ 31) (hdg : decode cc pc = .ok (.iaload, 1))
    (kk : W p l e R s m args below meth c H locs cells slots Q (F0 m (pc + 1) ls (.int (f j) :: rest))) : W p l e R s m args below meth c H locs cells slots Q (F0 m pc ls (.int i :: .ref t :: rest)) := by
  subst hi
  exact va_ti C.x C.b hT hW.2.2 (vp_in_nI hj hN) (by rw [nI_clamp (Nat.lt_trans hj hN)]) hdg kk
/-- the sheets' array -/
theorem x_aldq (C : CX p s m args meth c cc nL own Ts ret E A) (hW : WD E A s w H locs) (q0 : Nat) {a n : Nat} {f : Nat → Nat} {i : Int32} (j : Nat) (he : w[q0]? = some (a, .inl (E.2.2.2.1, n, .inr (.inr (.inr (.inr (fun k => some (f k)))))))) (hi : i = nI j) (hj : j < n) (hn : n < 2 ^ 31) (hdg : decode cc pc = .ok (.aaload, 1))
    (kk : W p l e R s m args below meth c H locs cells slots Q (F0 m (pc + 1) ls (.ref (f j) :: rest))) : W p l e R s m args below meth c H locs cells slots Q (F0 m pc ls (.int i :: .ref a :: rest)) := by
  subst hi
  have hj2 : j < 2 ^ 31 := Nat.lt_trans hj hn
  refine va_aldq C.x C.b C.K hW.1 q0 2 he rfl (vp_in_nI hj hn) hdg ?_
  rw [nI_clamp hj2]
  exact kk
theorem x_alen (C : CX p s m args meth c cc nL own Ts ret E A) (hW : WD E A s w H locs) (q0 t0 : Nat) {a : Nat} {cA : ClassId} {x : vp_A} (he : w[q0]? = some (a, .inl (cA, x))) {ty : FieldType} (ht : (eT E)[t0]? = some (cA, ty)) (hdg : decode cc pc = .ok (.arraylength, 1))
    (kk : W p l e R s m args below meth c H locs cells slots Q (F0 m (pc + 1) ls (.int (nI x.1) :: rest))) : W p l e R s m args below meth c H locs cells slots Q (F0 m pc ls (.ref a :: rest)) :=
  va_alen C.x C.b C.K hW.1 q0 t0 he ht rfl hdg kk
/-! arithmetic on numbers -/
theorem x_iadd (C : CX p s m args meth c cc nL own Ts ret E A) {a b : Nat}  (hdg : decode cc pc = .ok (.iadd, 1))
    (kk : W p l e R s m args below meth c H locs cells slots Q (F0 m (pc + 1) ls (.int (nI (a + b)) :: rest))) : W p l e R s m args below meth c H locs cells slots Q (F0 m pc ls (.int (nI b) :: .int (nI a) :: rest)) := by
  refine lv_iadd C.x C.b hdg ?_
  rw [show nI a + nI b = nI (a + b) from nI_add a b]
  exact kk
theorem x_isub (C : CX p s m args meth c cc nL own Ts ret E A) {a b : Nat} (hle : b ≤ a) (hdg : decode cc pc = .ok (.isub, 1))
    (kk : W p l e R s m args below meth c H locs cells slots Q (F0 m (pc + 1) ls (.int (nI (a - b)) :: rest))) : W p l e R s m args below meth c H locs cells slots Q (F0 m pc ls (.int (nI b) :: .int (nI a) :: rest)) := by
  refine lv_isub C.x C.b hdg ?_
  rw [show nI a - nI b = nI (a - b) from pk_sub hle]
  exact kk
theorem x_imul (C : CX p s m args meth c cc nL own Ts ret E A) {a b : Nat}  (hdg : decode cc pc = .ok (.imul, 1))
    (kk : W p l e R s m args below meth c H locs cells slots Q (F0 m (pc + 1) ls (.int (nI (a * b)) :: rest))) : W p l e R s m args below meth c H locs cells slots Q (F0 m pc ls (.int (nI b) :: .int (nI a) :: rest)) := by
  refine lv_imul C.x C.b hdg ?_
  rw [show nI a * nI b = nI (a * b) from pk_mul a b]
  exact kk
theorem x_iand (C : CX p s m args meth c cc nL own Ts ret E A) {a b : Nat}  (hdg : decode cc pc = .ok (.iand, 1))
    (kk : W p l e R s m args below meth c H locs cells slots Q (F0 m (pc + 1) ls (.int (nI (a &&& b)) :: rest))) : W p l e R s m args below meth c H locs cells slots Q (F0 m pc ls (.int (nI b) :: .int (nI a) :: rest)) := by
  refine lv_iand C.x C.b hdg ?_
  rw [show nI a &&& nI b = nI (a &&& b) from z_and a b]
  exact kk
theorem x_ior (C : CX p s m args meth c cc nL own Ts ret E A) {a b : Nat}  (hdg : decode cc pc = .ok (.ior, 1))
    (kk : W p l e R s m args below meth c H locs cells slots Q (F0 m (pc + 1) ls (.int (nI (a ||| b)) :: rest))) : W p l e R s m args below meth c H locs cells slots Q (F0 m pc ls (.int (nI b) :: .int (nI a) :: rest)) := by
  refine lv_ior C.x C.b hdg ?_
  rw [show nI a ||| nI b = nI (a ||| b) from z_or a b]
  exact kk
theorem x_ixor (C : CX p s m args meth c cc nL own Ts ret E A) {a b : Nat}  (hdg : decode cc pc = .ok (.ixor, 1))
    (kk : W p l e R s m args below meth c H locs cells slots Q (F0 m (pc + 1) ls (.int (nI (a ^^^ b)) :: rest))) : W p l e R s m args below meth c H locs cells slots Q (F0 m pc ls (.int (nI b) :: .int (nI a) :: rest)) := by
  refine lv_ixor C.x C.b hdg ?_
  rw [show nI a ^^^ nI b = nI (a ^^^ b) from z_xor a b]
  exact kk
theorem x_ishl (C : CX p s m args meth c cc nL own Ts ret E A) {a b : Nat} (hb : b < 31) (ha : a * 2 ^ b < 2 ^ 32) (hdg : decode cc pc = .ok (.ishl, 1))
    (kk : W p l e R s m args below meth c H locs cells slots Q (F0 m (pc + 1) ls (.int (nI (a * 2 ^ b)) :: rest))) : W p l e R s m args below meth c H locs cells slots Q (F0 m pc ls (.int (nI b) :: .int (nI a) :: rest)) := by
  refine lv_ishl C.x C.b hdg ?_
  rw [show nI a <<< (nI b &&& 31) = nI (a * 2 ^ b) from z_shl hb ha]
  exact kk
theorem x_ishr (C : CX p s m args meth c cc nL own Ts ret E A) {a b : Nat} (hb : b < 31) (ha : a < 2 ^ 31) (hdg : decode cc pc = .ok (.ishr, 1))
    (kk : W p l e R s m args below meth c H locs cells slots Q (F0 m (pc + 1) ls (.int (nI (a / 2 ^ b)) :: rest))) : W p l e R s m args below meth c H locs cells slots Q (F0 m pc ls (.int (nI b) :: .int (nI a) :: rest)) := by
  refine lv_ishr C.x C.b hdg ?_
  rw [show nI a >>> (nI b &&& 31) = nI (a / 2 ^ b) from z_shr hb ha]
  exact kk
theorem x_icmp_eq (C : CX p s m args meth c cc nL own Ts ret E A) {a b : Nat} (ha : a < 2 ^ 31) (hb : b < 2 ^ 31) {off : Int} {tgt : Nat} (hdg : decode cc pc = .ok (.if_icmp .eq off, 3)) (ht : (pc : Int) + off = (tgt : Int))
    (kt : a = b → W p l e R s m args below meth c H locs cells slots Q (F0 m tgt ls rest)) (kf : ¬ (a = b) → W p l e R s m args below meth c H locs cells slots Q (F0 m (pc + 3) ls rest)) : W p l e R s m args below meth c H locs cells slots Q (F0 m pc ls (.int (nI b) :: .int (nI a) :: rest)) :=
  lv_icmp_eq C.x C.b hdg ht (fun h => kt ((nI_eq ha hb).mp h)) (fun h => kf (fun q => h ((nI_eq ha hb).mpr q)))
theorem x_if_eq (C : CX p s m args meth c cc nL own Ts ret E A) {a : Nat} (ha : a < 2 ^ 31) {off : Int} {tgt : Nat} (hdg : decode cc pc = .ok (.ifCond .eq off, 3)) (ht : (pc : Int) + off = (tgt : Int))
    (kt : a = 0 → W p l e R s m args below meth c H locs cells slots Q (F0 m tgt ls rest)) (kf : ¬ (a = 0) → W p l e R s m args below meth c H locs cells slots Q (F0 m (pc + 3) ls rest)) : W p l e R s m args below meth c H locs cells slots Q (F0 m pc ls (.int (nI a) :: rest)) :=
  lv_if_eq C.x C.b hdg ht (fun h => kt ((z_eq0 ha).mp h)) (fun h => kf (fun q => h ((z_eq0 ha).mpr q)))
theorem x_icmp_ne (C : CX p s m args meth c cc nL own Ts ret E A) {a b : Nat} (ha : a < 2 ^ 31) (hb : b < 2 ^ 31) {off : Int} {tgt : Nat} (hdg : decode cc pc = .ok (.if_icmp .ne off, 3)) (ht : (pc : Int) + off = (tgt : Int))
    (kt : a ≠ b → W p l e R s m args below meth c H locs cells slots Q (F0 m tgt ls rest)) (kf : a = b → W p l e R s m args below meth c H locs cells slots Q (F0 m (pc + 3) ls rest)) : W p l e R s m args below meth c H locs cells slots Q (F0 m pc ls (.int (nI b) :: .int (nI a) :: rest)) :=
  lv_icmp_ne C.x C.b hdg ht (fun h => kt ((not_congr (nI_eq ha hb)).mp h)) (fun h => kf ((nI_eq ha hb).mp h))
theorem x_if_ne (C : CX p s m args meth c cc nL own Ts ret E A) {a : Nat} (ha : a < 2 ^ 31) {off : Int} {tgt : Nat} (hdg : decode cc pc = .ok (.ifCond .ne off, 3)) (ht : (pc : Int) + off = (tgt : Int))
    (kt : a ≠ 0 → W p l e R s m args below meth c H locs cells slots Q (F0 m tgt ls rest)) (kf : a = 0 → W p l e R s m args below meth c H locs cells slots Q (F0 m (pc + 3) ls rest)) : W p l e R s m args below meth c H locs cells slots Q (F0 m pc ls (.int (nI a) :: rest)) :=
  lv_if_ne C.x C.b hdg ht (fun h => kt ((not_congr (z_eq0 ha)).mp h)) (fun h => kf ((z_eq0 ha).mp h))
theorem x_icmp_lt (C : CX p s m args meth c cc nL own Ts ret E A) {a b : Nat} (ha : a < 2 ^ 31) (hb : b < 2 ^ 31) {off : Int} {tgt : Nat} (hdg : decode cc pc = .ok (.if_icmp .lt off, 3)) (ht : (pc : Int) + off = (tgt : Int))
    (kt : a < b → W p l e R s m args below meth c H locs cells slots Q (F0 m tgt ls rest)) (kf : ¬ (a < b) → W p l e R s m args below meth c H locs cells slots Q (F0 m (pc + 3) ls rest)) : W p l e R s m args below meth c H locs cells slots Q (F0 m pc ls (.int (nI b) :: .int (nI a) :: rest)) :=
  lv_icmp_lt C.x C.b hdg ht (fun h => kt ((nI_ltI ha hb).mp h)) (fun h => kf (fun q => h ((nI_ltI ha hb).mpr q)))
theorem x_if_lt (C : CX p s m args meth c cc nL own Ts ret E A) {a : Nat} (ha : a < 2 ^ 31) {off : Int} {tgt : Nat} (hdg : decode cc pc = .ok (.ifCond .lt off, 3)) (ht : (pc : Int) + off = (tgt : Int))
    (kt : a < 0 → W p l e R s m args below meth c H locs cells slots Q (F0 m tgt ls rest)) (kf : ¬ (a < 0) → W p l e R s m args below meth c H locs cells slots Q (F0 m (pc + 3) ls rest)) : W p l e R s m args below meth c H locs cells slots Q (F0 m pc ls (.int (nI a) :: rest)) :=
  lv_if_lt C.x C.b hdg ht (fun h => kt ((z_lt0 ha).mp h)) (fun h => kf (fun q => h ((z_lt0 ha).mpr q)))
theorem x_icmp_ge (C : CX p s m args meth c cc nL own Ts ret E A) {a b : Nat} (ha : a < 2 ^ 31) (hb : b < 2 ^ 31) {off : Int} {tgt : Nat} (hdg : decode cc pc = .ok (.if_icmp .ge off, 3)) (ht : (pc : Int) + off = (tgt : Int))
    (kt : b ≤ a → W p l e R s m args below meth c H locs cells slots Q (F0 m tgt ls rest)) (kf : ¬ (b ≤ a) → W p l e R s m args below meth c H locs cells slots Q (F0 m (pc + 3) ls rest)) : W p l e R s m args below meth c H locs cells slots Q (F0 m pc ls (.int (nI b) :: .int (nI a) :: rest)) :=
  lv_icmp_ge C.x C.b hdg ht (fun h => kt ((nI_leI hb ha).mp h)) (fun h => kf (fun q => h ((nI_leI hb ha).mpr q)))
theorem x_if_ge (C : CX p s m args meth c cc nL own Ts ret E A) {a : Nat} (ha : a < 2 ^ 31) {off : Int} {tgt : Nat} (hdg : decode cc pc = .ok (.ifCond .ge off, 3)) (ht : (pc : Int) + off = (tgt : Int))
    (kt : 0 ≤ a → W p l e R s m args below meth c H locs cells slots Q (F0 m tgt ls rest)) (kf : ¬ (0 ≤ a) → W p l e R s m args below meth c H locs cells slots Q (F0 m (pc + 3) ls rest)) : W p l e R s m args below meth c H locs cells slots Q (F0 m pc ls (.int (nI a) :: rest)) :=
  lv_if_ge C.x C.b hdg ht (fun h => kt ((z_ge0 ha).mp h)) (fun h => kf (fun q => h ((z_ge0 ha).mpr q)))
theorem x_icmp_gt (C : CX p s m args meth c cc nL own Ts ret E A) {a b : Nat} (ha : a < 2 ^ 31) (hb : b < 2 ^ 31) {off : Int} {tgt : Nat} (hdg : decode cc pc = .ok (.if_icmp .gt off, 3)) (ht : (pc : Int) + off = (tgt : Int))
    (kt : b < a → W p l e R s m args below meth c H locs cells slots Q (F0 m tgt ls rest)) (kf : ¬ (b < a) → W p l e R s m args below meth c H locs cells slots Q (F0 m (pc + 3) ls rest)) : W p l e R s m args below meth c H locs cells slots Q (F0 m pc ls (.int (nI b) :: .int (nI a) :: rest)) :=
  lv_icmp_gt C.x C.b hdg ht (fun h => kt ((nI_ltI hb ha).mp h)) (fun h => kf (fun q => h ((nI_ltI hb ha).mpr q)))
theorem x_if_gt (C : CX p s m args meth c cc nL own Ts ret E A) {a : Nat} (ha : a < 2 ^ 31) {off : Int} {tgt : Nat} (hdg : decode cc pc = .ok (.ifCond .gt off, 3)) (ht : (pc : Int) + off = (tgt : Int))
    (kt : 0 < a → W p l e R s m args below meth c H locs cells slots Q (F0 m tgt ls rest)) (kf : ¬ (0 < a) → W p l e R s m args below meth c H locs cells slots Q (F0 m (pc + 3) ls rest)) : W p l e R s m args below meth c H locs cells slots Q (F0 m pc ls (.int (nI a) :: rest)) :=
  lv_if_gt C.x C.b hdg ht (fun h => kt ((z_gt0 ha).mp h)) (fun h => kf (fun q => h ((z_gt0 ha).mpr q)))
theorem x_icmp_le (C : CX p s m args meth c cc nL own Ts ret E A) {a b : Nat} (ha : a < 2 ^ 31) (hb : b < 2 ^ 31) {off : Int} {tgt : Nat} (hdg : decode cc pc = .ok (.if_icmp .le off, 3)) (ht : (pc : Int) + off = (tgt : Int))
    (kt : a ≤ b → W p l e R s m args below meth c H locs cells slots Q (F0 m tgt ls rest)) (kf : ¬ (a ≤ b) → W p l e R s m args below meth c H locs cells slots Q (F0 m (pc + 3) ls rest)) : W p l e R s m args below meth c H locs cells slots Q (F0 m pc ls (.int (nI b) :: .int (nI a) :: rest)) :=
  lv_icmp_le C.x C.b hdg ht (fun h => kt ((nI_leI ha hb).mp h)) (fun h => kf (fun q => h ((nI_leI ha hb).mpr q)))
theorem x_if_le (C : CX p s m args meth c cc nL own Ts ret E A) {a : Nat} (ha : a < 2 ^ 31) {off : Int} {tgt : Nat} (hdg : decode cc pc = .ok (.ifCond .le off, 3)) (ht : (pc : Int) + off = (tgt : Int))
    (kt : a ≤ 0 → W p l e R s m args below meth c H locs cells slots Q (F0 m tgt ls rest)) (kf : ¬ (a ≤ 0) → W p l e R s m args below meth c H locs cells slots Q (F0 m (pc + 3) ls rest)) : W p l e R s m args below meth c H locs cells slots Q (F0 m pc ls (.int (nI a) :: rest)) :=
  lv_if_le C.x C.b hdg ht (fun h => kt ((z_le0 ha).mp h)) (fun h => kf (fun q => h ((z_le0 ha).mpr q)))
theorem x_cVI (C : CX p s m args meth c cc nL own Ts ret E A) (hW : WD E A s w H locs) {y : MethodName} {wsY wsY' : List Cond} {rm : Room} {b : Nat} {As : List Value} {wc wr w1 wn : va_W} {r : Int32} (hM : MI l y wsY rm E (.ref b :: As) wc r w1) {Cn : String} {index maxL : Nat} {bytes : ByteArray} {rty : Option FieldType} (hg : GoodIn Ts (wsV own index Cn y wsY)) (hwY : wsY = Cond.code y bytes maxL rty :: wsY') (na : Nat) (hna : As.length = na) (h0 : rm.cells = 0 ∧ rm.slots = 0) (hd : y.cls = Cn ∧ y.cls ≠ "java/lang/invoke/MethodHandle" ∧ y.cls ≠ "java/lang/invoke/VarHandle" ∧ (parseMethodDescriptor y.desc).map (fun d => d.parameters.length) = some na) (hR : rm.frames + 1 ≤ R.frames ∧ 8 + (maxL + 11) + rm.locals ≤ R.locals)
    (isC isR isN : List Nat) (hC : isC.map (fun i => w[i]?) = wc.map some) (hCn : va_nd isC = true) (hRr : isR.map (fun i => w[i]?) = wr.map some) (hRn : va_nd isR = true) (hdis : ∀ i ∈ isR, i ∉ isC) (hN : isN.map (fun i => (wr ++ w1)[i]?) = wn.map some) (hNn : va_nd isN = true) (q0 ci : Nat) {fs : List Value} {T : u_T} {N : Nat} (hc : vwCl[ci]? = some (Cn, T, N)) (he : w[q0]? = some (b, .inr (ci, fs))) (hls : ls.size = nL) (hst : st0 = As.reverse ++ .ref b :: rest) (hrest : (rest.map fun v => v.category).sum ≤ 8) (hdg : decode cc pc = .ok (.invokevirtual index, 3)) (hf : cells + 0 ≤ R.cells ∧ slots + 0 ≤ R.slots)
    (kk : ∀ (H1 : Heap) (locs1 : List Loc), WD E A s wn H1 locs1 → W p l e R s m args below meth c H1 locs1 cells slots Q (F0 m (pc + 3) ls (.int r :: rest))) : W p l e R s m args below meth c H locs cells slots Q (F0 m pc ls st0) := by
  obtain ⟨hP, hD, hS⟩ := hW
  subst hst
  have hPc := hP.sub isC (map_fm hC)
  have hDc := hD.sub isC hCn hC
  have hFc := va_free (wc := wc) hD hS C.ar isC hC
  have hPre : ∀ U : State, U.heap = H → s.WarmedH U.vm → va_Pc (.ref b :: As) (XP E wc H.size) (Value.ref b :: As).toArray U := fun U hU hW => ⟨rfl, by rw [hU], by rw [hU]; exact hPc, va_K.moved hW.alike C.K, hDc.weaken (fun _ _ _ _ => trivial), C.G.to (by rw [hU]; exact hS.2.1) hFc hW⟩
  refine va_calli (va_runV (As := As) (rest := rest) C.fix (hM H.size) (cwV na C.ts hg hwY h0.1 h0.2 hd hR) ⟨fun a U g mk q => ⟨q.1, q.2.calling⟩, va_recv C.K hP hc he, hPre⟩ rfl hna hls rfl (lv_room hrest) hdg hf) hS (fun q _ h => hFc q h) hFc (fun r2 u t H1 locs1 ht hvm hw2 hB hz1 hk1 hS1 => ?_)
  subst hw2
  obtain ⟨hP1, hK1, hD1⟩ := hB
  rw [ht] at hP1
  obtain ⟨hP2, hD2⟩ := va_join (wr := wr) (w1 := w1) hP hD isC isR hC hRr hRn hdis hk1 hFc hP1 hD1
  exact kk H1 locs1 ⟨hP2.sub isN (map_fm hN), hD2.sub isN hNn hN, hS1⟩
theorem x_cSI (C : CX p s m args meth c cc nL own Ts ret E A) (hW : WD E A s w H locs) {y : MethodName} {wsY wsY' : List Cond} {rm : Room} {As : List Value} {wc wr w1 wn : va_W} {r : Int32} (hM : MI l y wsY rm E As wc r w1) {index maxL : Nat} {bytes : ByteArray} {rty : Option FieldType} (hg : GoodIn Ts (va_wsS own index y wsY)) (hwY : wsY = Cond.code y bytes maxL rty :: wsY') (na : Nat) (hna : As.length = na) (h0 : rm.cells = 0 ∧ rm.slots = 0) (hd : y.cls ≠ "java/lang/invoke/MethodHandle" ∧ y.cls ≠ "java/lang/invoke/VarHandle" ∧ (parseMethodDescriptor y.desc).map (fun d => d.parameters.length) = some na) (hR : rm.frames + 1 ≤ R.frames ∧ 8 + (maxL + 11) + rm.locals ≤ R.locals)
    (isC isR isN : List Nat) (hC : isC.map (fun i => w[i]?) = wc.map some) (hCn : va_nd isC = true) (hRr : isR.map (fun i => w[i]?) = wr.map some) (hRn : va_nd isR = true) (hdis : ∀ i ∈ isR, i ∉ isC) (hN : isN.map (fun i => (wr ++ w1)[i]?) = wn.map some) (hNn : va_nd isN = true)  (hls : ls.size = nL) (hst : st0 = As.reverse ++ rest) (hrest : (rest.map fun v => v.category).sum ≤ 8) (hdg : decode cc pc = .ok (.invokestatic index, 3)) (hf : cells + 0 ≤ R.cells ∧ slots + 0 ≤ R.slots)
    (kk : ∀ (H1 : Heap) (locs1 : List Loc), WD E A s wn H1 locs1 → W p l e R s m args below meth c H1 locs1 cells slots Q (F0 m (pc + 3) ls (.int r :: rest))) : W p l e R s m args below meth c H locs cells slots Q (F0 m pc ls st0) := by
  obtain ⟨hP, hD, hS⟩ := hW
  subst hst
  have hPc := hP.sub isC (map_fm hC)
  have hDc := hD.sub isC hCn hC
  have hFc := va_free (wc := wc) hD hS C.ar isC hC
  have hPre : ∀ U : State, U.heap = H → s.WarmedH U.vm → va_Pc As (XP E wc H.size) (As).toArray U := fun U hU hW => ⟨rfl, by rw [hU], by rw [hU]; exact hPc, va_K.moved hW.alike C.K, hDc.weaken (fun _ _ _ _ => trivial), C.G.to (by rw [hU]; exact hS.2.1) hFc hW⟩
  refine va_calli (va_runS (As := As) (rest := rest) C.fix (hM H.size) (va_cwS na C.ts hg hwY h0.1 h0.2 hd hR) ⟨fun a U g mk q => ⟨q.1, q.2.calling⟩, hPre⟩ rfl hna hls rfl (lv_room hrest) hdg hf) hS (fun q _ h => hFc q h) hFc (fun r2 u t H1 locs1 ht hvm hw2 hB hz1 hk1 hS1 => ?_)
  subst hw2
  obtain ⟨hP1, hK1, hD1⟩ := hB
  rw [ht] at hP1
  obtain ⟨hP2, hD2⟩ := va_join (wr := wr) (w1 := w1) hP hD isC isR hC hRr hRn hdis hk1 hFc hP1 hD1
  exact kk H1 locs1 ⟨hP2.sub isN (map_fm hN), hD2.sub isN hNn hN, hS1⟩
theorem x_cSNI (C : CX p s m args meth c cc nL own Ts ret E A) (hW : WD E A s w H locs) {y : MethodName} {wsY wsY' : List Cond} {rm : Room} {As : List Value} {wc wr w1 wn : va_W} {r : Int32} (hM : MI l y wsY rm E As wc r w1) {index maxL : Nat} {bytes : ByteArray} {rty : Option FieldType} (hg : GoodIn Ts wsY) {host : String} (hnw : va_Nw (.methodLinkNest own index y host) s) (hini : Cond.initialized y.cls ∈ Ts) (hsta : Cond.static y ∈ Ts) (hwY : wsY = Cond.code y bytes maxL rty :: wsY') (na : Nat) (hna : As.length = na) (h0 : rm.cells = 0 ∧ rm.slots = 0) (hd : y.cls ≠ "java/lang/invoke/MethodHandle" ∧ y.cls ≠ "java/lang/invoke/VarHandle" ∧ (parseMethodDescriptor y.desc).map (fun d => d.parameters.length) = some na) (hR : rm.frames + 1 ≤ R.frames ∧ 8 + (maxL + 11) + rm.locals ≤ R.locals)
    (isC isR isN : List Nat) (hC : isC.map (fun i => w[i]?) = wc.map some) (hCn : va_nd isC = true) (hRr : isR.map (fun i => w[i]?) = wr.map some) (hRn : va_nd isR = true) (hdis : ∀ i ∈ isR, i ∉ isC) (hN : isN.map (fun i => (wr ++ w1)[i]?) = wn.map some) (hNn : va_nd isN = true)  (hls : ls.size = nL) (hst : st0 = As.reverse ++ rest) (hrest : (rest.map fun v => v.category).sum ≤ 8) (hdg : decode cc pc = .ok (.invokestatic index, 3)) (hf : cells + 0 ≤ R.cells ∧ slots + 0 ≤ R.slots)
    (kk : ∀ (H1 : Heap) (locs1 : List Loc), WD E A s wn H1 locs1 → W p l e R s m args below meth c H1 locs1 cells slots Q (F0 m (pc + 3) ls (.int r :: rest))) : W p l e R s m args below meth c H locs cells slots Q (F0 m pc ls st0) := by
  obtain ⟨hP, hD, hS⟩ := hW
  subst hst
  have hPc := hP.sub isC (map_fm hC)
  have hDc := hD.sub isC hCn hC
  have hFc := va_free (wc := wc) hD hS C.ar isC hC
  have hPre : ∀ U : State, U.heap = H → s.WarmedH U.vm → va_Pc As (XP E wc H.size) (As).toArray U := fun U hU hW => ⟨rfl, by rw [hU], by rw [hU]; exact hPc, va_K.moved hW.alike C.K, hDc.weaken (fun _ _ _ _ => trivial), C.G.to (by rw [hU]; exact hS.2.1) hFc hW⟩
  refine va_calli (va_runSN (As := As) (rest := rest) C.fix (hM H.size) ⟨va_cnB na C.ts hg hwY h0.1 h0.2 hnw (C.ts _ hini) hd hR, C.ts _ hsta, trivial⟩ ⟨fun a U g mk q => ⟨q.1, q.2.calling⟩, hPre⟩ rfl hna hls rfl (lv_room hrest) hdg hf) hS (fun q _ h => hFc q h) hFc (fun r2 u t H1 locs1 ht hvm hw2 hB hz1 hk1 hS1 => ?_)
  subst hw2
  obtain ⟨hP1, hK1, hD1⟩ := hB
  rw [ht] at hP1
  obtain ⟨hP2, hD2⟩ := va_join (wr := wr) (w1 := w1) hP hD isC isR hC hRr hRn hdis hk1 hFc hP1 hD1
  exact kk H1 locs1 ⟨hP2.sub isN (map_fm hN), hD2.sub isN hNn hN, hS1⟩
theorem x_cVL (C : CX p s m args meth c cc nL own Ts ret E A) (hW : WD E A s w H locs) {y : MethodName} {wsY wsY' : List Cond} {rm : Room} {b : Nat} {As : List Value} {wc wr w1 wn : va_W} {r : Int64} (hM : ML l y wsY rm E (.ref b :: As) wc r w1) {Cn : String} {index maxL : Nat} {bytes : ByteArray} {rty : Option FieldType} (hg : GoodIn Ts (wsV own index Cn y wsY)) (hwY : wsY = Cond.code y bytes maxL rty :: wsY') (na : Nat) (hna : As.length = na) (h0 : rm.cells = 0 ∧ rm.slots = 0) (hd : y.cls = Cn ∧ y.cls ≠ "java/lang/invoke/MethodHandle" ∧ y.cls ≠ "java/lang/invoke/VarHandle" ∧ (parseMethodDescriptor y.desc).map (fun d => d.parameters.length) = some na) (hR : rm.frames + 1 ≤ R.frames ∧ 8 + (maxL + 11) + rm.locals ≤ R.locals)
    (isC isR isN : List Nat) (hC : isC.map (fun i => w[i]?) = wc.map some) (hCn : va_nd isC = true) (hRr : isR.map (fun i => w[i]?) = wr.map some) (hRn : va_nd isR = true) (hdis : ∀ i ∈ isR, i ∉ isC) (hN : isN.map (fun i => (wr ++ w1)[i]?) = wn.map some) (hNn : va_nd isN = true) (q0 ci : Nat) {fs : List Value} {T : u_T} {N : Nat} (hc : vwCl[ci]? = some (Cn, T, N)) (he : w[q0]? = some (b, .inr (ci, fs))) (hls : ls.size = nL) (hst : st0 = As.reverse ++ .ref b :: rest) (hrest : (rest.map fun v => v.category).sum ≤ 8) (hdg : decode cc pc = .ok (.invokevirtual index, 3)) (hf : cells + 0 ≤ R.cells ∧ slots + 0 ≤ R.slots)
    (kk : ∀ (H1 : Heap) (locs1 : List Loc), WD E A s wn H1 locs1 → W p l e R s m args below meth c H1 locs1 cells slots Q (F0 m (pc + 3) ls (.long r :: rest))) : W p l e R s m args below meth c H locs cells slots Q (F0 m pc ls st0) := by
  obtain ⟨hP, hD, hS⟩ := hW
  subst hst
  have hPc := hP.sub isC (map_fm hC)
  have hDc := hD.sub isC hCn hC
  have hFc := va_free (wc := wc) hD hS C.ar isC hC
  have hPre : ∀ U : State, U.heap = H → s.WarmedH U.vm → va_Pc (.ref b :: As) (XP E wc H.size) (Value.ref b :: As).toArray U := fun U hU hW => ⟨rfl, by rw [hU], by rw [hU]; exact hPc, va_K.moved hW.alike C.K, hDc.weaken (fun _ _ _ _ => trivial), C.G.to (by rw [hU]; exact hS.2.1) hFc hW⟩
  refine va_calll (va_runV (As := As) (rest := rest) C.fix (hM H.size) (cwV na C.ts hg hwY h0.1 h0.2 hd hR) ⟨fun a U g mk q => ⟨q.1, q.2.calling⟩, va_recv C.K hP hc he, hPre⟩ rfl hna hls rfl (lv_room hrest) hdg hf) hS (fun q _ h => hFc q h) hFc (fun r2 u t H1 locs1 ht hvm hw2 hB hz1 hk1 hS1 => ?_)
  subst hw2
  obtain ⟨hP1, hK1, hD1⟩ := hB
  rw [ht] at hP1
  obtain ⟨hP2, hD2⟩ := va_join (wr := wr) (w1 := w1) hP hD isC isR hC hRr hRn hdis hk1 hFc hP1 hD1
  exact kk H1 locs1 ⟨hP2.sub isN (map_fm hN), hD2.sub isN hNn hN, hS1⟩
theorem x_cSL (C : CX p s m args meth c cc nL own Ts ret E A) (hW : WD E A s w H locs) {y : MethodName} {wsY wsY' : List Cond} {rm : Room} {As : List Value} {wc wr w1 wn : va_W} {r : Int64} (hM : ML l y wsY rm E As wc r w1) {index maxL : Nat} {bytes : ByteArray} {rty : Option FieldType} (hg : GoodIn Ts (va_wsS own index y wsY)) (hwY : wsY = Cond.code y bytes maxL rty :: wsY') (na : Nat) (hna : As.length = na) (h0 : rm.cells = 0 ∧ rm.slots = 0) (hd : y.cls ≠ "java/lang/invoke/MethodHandle" ∧ y.cls ≠ "java/lang/invoke/VarHandle" ∧ (parseMethodDescriptor y.desc).map (fun d => d.parameters.length) = some na) (hR : rm.frames + 1 ≤ R.frames ∧ 8 + (maxL + 11) + rm.locals ≤ R.locals)
    (isC isR isN : List Nat) (hC : isC.map (fun i => w[i]?) = wc.map some) (hCn : va_nd isC = true) (hRr : isR.map (fun i => w[i]?) = wr.map some) (hRn : va_nd isR = true) (hdis : ∀ i ∈ isR, i ∉ isC) (hN : isN.map (fun i => (wr ++ w1)[i]?) = wn.map some) (hNn : va_nd isN = true)  (hls : ls.size = nL) (hst : st0 = As.reverse ++ rest) (hrest : (rest.map fun v => v.category).sum ≤ 8) (hdg : decode cc pc = .ok (.invokestatic index, 3)) (hf : cells + 0 ≤ R.cells ∧ slots + 0 ≤ R.slots)
    (kk : ∀ (H1 : Heap) (locs1 : List Loc), WD E A s wn H1 locs1 → W p l e R s m args below meth c H1 locs1 cells slots Q (F0 m (pc + 3) ls (.long r :: rest))) : W p l e R s m args below meth c H locs cells slots Q (F0 m pc ls st0) := by
  obtain ⟨hP, hD, hS⟩ := hW
  subst hst
  have hPc := hP.sub isC (map_fm hC)
  have hDc := hD.sub isC hCn hC
  have hFc := va_free (wc := wc) hD hS C.ar isC hC
  have hPre : ∀ U : State, U.heap = H → s.WarmedH U.vm → va_Pc As (XP E wc H.size) (As).toArray U := fun U hU hW => ⟨rfl, by rw [hU], by rw [hU]; exact hPc, va_K.moved hW.alike C.K, hDc.weaken (fun _ _ _ _ => trivial), C.G.to (by rw [hU]; exact hS.2.1) hFc hW⟩
  refine va_calll (va_runS (As := As) (rest := rest) C.fix (hM H.size) (va_cwS na C.ts hg hwY h0.1 h0.2 hd hR) ⟨fun a U g mk q => ⟨q.1, q.2.calling⟩, hPre⟩ rfl hna hls rfl (lv_room hrest) hdg hf) hS (fun q _ h => hFc q h) hFc (fun r2 u t H1 locs1 ht hvm hw2 hB hz1 hk1 hS1 => ?_)
  subst hw2
  obtain ⟨hP1, hK1, hD1⟩ := hB
  rw [ht] at hP1
  obtain ⟨hP2, hD2⟩ := va_join (wr := wr) (w1 := w1) hP hD isC isR hC hRr hRn hdis hk1 hFc hP1 hD1
  exact kk H1 locs1 ⟨hP2.sub isN (map_fm hN), hD2.sub isN hNn hN, hS1⟩
theorem x_cVD (C : CX p s m args meth c cc nL own Ts ret E A) (hW : WD E A s w H locs) {y : MethodName} {wsY wsY' : List Cond} {rm : Room} {b : Nat} {As : List Value} {wc wr w1 wn : va_W} {r : UInt64} (hM : MD l y wsY rm E (.ref b :: As) wc r w1) {Cn : String} {index maxL : Nat} {bytes : ByteArray} {rty : Option FieldType} (hg : GoodIn Ts (wsV own index Cn y wsY)) (hwY : wsY = Cond.code y bytes maxL rty :: wsY') (na : Nat) (hna : As.length = na) (h0 : rm.cells = 0 ∧ rm.slots = 0) (hd : y.cls = Cn ∧ y.cls ≠ "java/lang/invoke/MethodHandle" ∧ y.cls ≠ "java/lang/invoke/VarHandle" ∧ (parseMethodDescriptor y.desc).map (fun d => d.parameters.length) = some na) (hR : rm.frames + 1 ≤ R.frames ∧ 8 + (maxL + 11) + rm.locals ≤ R.locals)
    (isC isR isN : List Nat) (hC : isC.map (fun i => w[i]?) = wc.map some) (hCn : va_nd isC = true) (hRr : isR.map (fun i => w[i]?) = wr.map some) (hRn : va_nd isR = true) (hdis : ∀ i ∈ isR, i ∉ isC) (hN : isN.map (fun i => (wr ++ w1)[i]?) = wn.map some) (hNn : va_nd isN = true) (q0 ci : Nat) {fs : List Value} {T : u_T} {N : Nat} (hc : vwCl[ci]? = some (Cn, T, N)) (he : w[q0]? = some (b, .inr (ci, fs))) (hls : ls.size = nL) (hst : st0 = As.reverse ++ .ref b :: rest) (hrest : (rest.map fun v => v.category).sum ≤ 8) (hdg : decode cc pc = .ok (.invokevirtual index, 3)) (hf : cells + 0 ≤ R.cells ∧ slots + 0 ≤ R.slots)
    (kk : ∀ (H1 : Heap) (locs1 : List Loc), WD E A s wn H1 locs1 → W p l e R s m args below meth c H1 locs1 cells slots Q (F0 m (pc + 3) ls (.double r :: rest))) : W p l e R s m args below meth c H locs cells slots Q (F0 m pc ls st0) := by
  obtain ⟨hP, hD, hS⟩ := hW
  subst hst
  have hPc := hP.sub isC (map_fm hC)
  have hDc := hD.sub isC hCn hC
  have hFc := va_free (wc := wc) hD hS C.ar isC hC
  have hPre : ∀ U : State, U.heap = H → s.WarmedH U.vm → va_Pc (.ref b :: As) (XP E wc H.size) (Value.ref b :: As).toArray U := fun U hU hW => ⟨rfl, by rw [hU], by rw [hU]; exact hPc, va_K.moved hW.alike C.K, hDc.weaken (fun _ _ _ _ => trivial), C.G.to (by rw [hU]; exact hS.2.1) hFc hW⟩
  refine va_calld (va_runV (As := As) (rest := rest) C.fix (hM H.size) (cwV na C.ts hg hwY h0.1 h0.2 hd hR) ⟨fun a U g mk q => ⟨q.1, q.2.calling⟩, va_recv C.K hP hc he, hPre⟩ rfl hna hls rfl (lv_room hrest) hdg hf) hS (fun q _ h => hFc q h) hFc (fun r2 u t H1 locs1 ht hvm hw2 hB hz1 hk1 hS1 => ?_)
  subst hw2
  obtain ⟨hP1, hK1, hD1⟩ := hB
  rw [ht] at hP1
  obtain ⟨hP2, hD2⟩ := va_join (wr := wr) (w1 := w1) hP hD isC isR hC hRr hRn hdis hk1 hFc hP1 hD1
  exact kk H1 locs1 ⟨hP2.sub isN (map_fm hN), hD2.sub isN hNn hN, hS1⟩
theorem x_cSD (C : CX p s m args meth c cc nL own Ts ret E A) (hW : WD E A s w H locs) {y : MethodName} {wsY wsY' : List Cond} {rm : Room} {As : List Value} {wc wr w1 wn : va_W} {r : UInt64} (hM : MD l y wsY rm E As wc r w1) {index maxL : Nat} {bytes : ByteArray} {rty : Option FieldType} (hg : GoodIn Ts (va_wsS own index y wsY)) (hwY : wsY = Cond.code y bytes maxL rty :: wsY') (na : Nat) (hna : As.length = na) (h0 : rm.cells = 0 ∧ rm.slots = 0) (hd : y.cls ≠ "java/lang/invoke/MethodHandle" ∧ y.cls ≠ "java/lang/invoke/VarHandle" ∧ (parseMethodDescriptor y.desc).map (fun d => d.parameters.length) = some na) (hR : rm.frames + 1 ≤ R.frames ∧ 8 + (maxL + 11) + rm.locals ≤ R.locals)
    (isC isR isN : List Nat) (hC : isC.map (fun i => w[i]?) = wc.map some) (hCn : va_nd isC = true) (hRr : isR.map (fun i => w[i]?) = wr.map some) (hRn : va_nd isR = true) (hdis : ∀ i ∈ isR, i ∉ isC) (hN : isN.map (fun i => (wr ++ w1)[i]?) = wn.map some) (hNn : va_nd isN = true)  (hls : ls.size = nL) (hst : st0 = As.reverse ++ rest) (hrest : (rest.map fun v => v.category).sum ≤ 8) (hdg : decode cc pc = .ok (.invokestatic index, 3)) (hf : cells + 0 ≤ R.cells ∧ slots + 0 ≤ R.slots)
    (kk : ∀ (H1 : Heap) (locs1 : List Loc), WD E A s wn H1 locs1 → W p l e R s m args below meth c H1 locs1 cells slots Q (F0 m (pc + 3) ls (.double r :: rest))) : W p l e R s m args below meth c H locs cells slots Q (F0 m pc ls st0) := by
  obtain ⟨hP, hD, hS⟩ := hW
  subst hst
  have hPc := hP.sub isC (map_fm hC)
  have hDc := hD.sub isC hCn hC
  have hFc := va_free (wc := wc) hD hS C.ar isC hC
  have hPre : ∀ U : State, U.heap = H → s.WarmedH U.vm → va_Pc As (XP E wc H.size) (As).toArray U := fun U hU hW => ⟨rfl, by rw [hU], by rw [hU]; exact hPc, va_K.moved hW.alike C.K, hDc.weaken (fun _ _ _ _ => trivial), C.G.to (by rw [hU]; exact hS.2.1) hFc hW⟩
  refine va_calld (va_runS (As := As) (rest := rest) C.fix (hM H.size) (va_cwS na C.ts hg hwY h0.1 h0.2 hd hR) ⟨fun a U g mk q => ⟨q.1, q.2.calling⟩, hPre⟩ rfl hna hls rfl (lv_room hrest) hdg hf) hS (fun q _ h => hFc q h) hFc (fun r2 u t H1 locs1 ht hvm hw2 hB hz1 hk1 hS1 => ?_)
  subst hw2
  obtain ⟨hP1, hK1, hD1⟩ := hB
  rw [ht] at hP1
  obtain ⟨hP2, hD2⟩ := va_join (wr := wr) (w1 := w1) hP hD isC isR hC hRr hRn hdis hk1 hFc hP1 hD1
  exact kk H1 locs1 ⟨hP2.sub isN (map_fm hN), hD2.sub isN hNn hN, hS1⟩
theorem x_cVV (C : CX p s m args meth c cc nL own Ts ret E A) (hW : WD E A s w H locs) {y : MethodName} {wsY wsY' : List Cond} {rm : Room} {b : Nat} {As : List Value} {wc wr w1 wn : va_W} (hM : MV l y wsY rm E (.ref b :: As) wc w1) {Cn : String} {index maxL : Nat} {bytes : ByteArray} {rty : Option FieldType} (hg : GoodIn Ts (wsV own index Cn y wsY)) (hwY : wsY = Cond.code y bytes maxL rty :: wsY') (na : Nat) (hna : As.length = na) (h0 : rm.cells = 0 ∧ rm.slots = 0) (hd : y.cls = Cn ∧ y.cls ≠ "java/lang/invoke/MethodHandle" ∧ y.cls ≠ "java/lang/invoke/VarHandle" ∧ (parseMethodDescriptor y.desc).map (fun d => d.parameters.length) = some na) (hR : rm.frames + 1 ≤ R.frames ∧ 8 + (maxL + 11) + rm.locals ≤ R.locals)
    (isC isR isN : List Nat) (hC : isC.map (fun i => w[i]?) = wc.map some) (hCn : va_nd isC = true) (hRr : isR.map (fun i => w[i]?) = wr.map some) (hRn : va_nd isR = true) (hdis : ∀ i ∈ isR, i ∉ isC) (hN : isN.map (fun i => (wr ++ w1)[i]?) = wn.map some) (hNn : va_nd isN = true) (q0 ci : Nat) {fs : List Value} {T : u_T} {N : Nat} (hc : vwCl[ci]? = some (Cn, T, N)) (he : w[q0]? = some (b, .inr (ci, fs))) (hls : ls.size = nL) (hst : st0 = As.reverse ++ .ref b :: rest) (hrest : (rest.map fun v => v.category).sum ≤ 8) (hdg : decode cc pc = .ok (.invokevirtual index, 3)) (hf : cells + 0 ≤ R.cells ∧ slots + 0 ≤ R.slots)
    (kk : ∀ (H1 : Heap) (locs1 : List Loc), WD E A s wn H1 locs1 → W p l e R s m args below meth c H1 locs1 cells slots Q (F0 m (pc + 3) ls (rest))) : W p l e R s m args below meth c H locs cells slots Q (F0 m pc ls st0) := by
  obtain ⟨hP, hD, hS⟩ := hW
  subst hst
  have hPc := hP.sub isC (map_fm hC)
  have hDc := hD.sub isC hCn hC
  have hFc := va_free (wc := wc) hD hS C.ar isC hC
  have hPre : ∀ U : State, U.heap = H → s.WarmedH U.vm → va_Pc (.ref b :: As) (XP E wc H.size) (Value.ref b :: As).toArray U := fun U hU hW => ⟨rfl, by rw [hU], by rw [hU]; exact hPc, va_K.moved hW.alike C.K, hDc.weaken (fun _ _ _ _ => trivial), C.G.to (by rw [hU]; exact hS.2.1) hFc hW⟩
  refine va_callv (va_runV (As := As) (rest := rest) C.fix (hM H.size) (cwV na C.ts hg hwY h0.1 h0.2 hd hR) ⟨fun a U g mk q => ⟨q.1, q.2.calling⟩, va_recv C.K hP hc he, hPre⟩ rfl hna hls rfl (lv_room hrest) hdg hf) hS (fun q _ h => hFc q h) hFc (fun u t H1 locs1 ht hvm hw2 hB hz1 hk1 hS1 => ?_)
  obtain ⟨hP1, hK1, hD1⟩ := hB
  rw [ht] at hP1
  obtain ⟨hP2, hD2⟩ := va_join (wr := wr) (w1 := w1) hP hD isC isR hC hRr hRn hdis hk1 hFc hP1 hD1
  exact kk H1 locs1 ⟨hP2.sub isN (map_fm hN), hD2.sub isN hNn hN, hS1⟩
theorem x_cSV (C : CX p s m args meth c cc nL own Ts ret E A) (hW : WD E A s w H locs) {y : MethodName} {wsY wsY' : List Cond} {rm : Room} {As : List Value} {wc wr w1 wn : va_W} (hM : MV l y wsY rm E As wc w1) {index maxL : Nat} {bytes : ByteArray} {rty : Option FieldType} (hg : GoodIn Ts (va_wsS own index y wsY)) (hwY : wsY = Cond.code y bytes maxL rty :: wsY') (na : Nat) (hna : As.length = na) (h0 : rm.cells = 0 ∧ rm.slots = 0) (hd : y.cls ≠ "java/lang/invoke/MethodHandle" ∧ y.cls ≠ "java/lang/invoke/VarHandle" ∧ (parseMethodDescriptor y.desc).map (fun d => d.parameters.length) = some na) (hR : rm.frames + 1 ≤ R.frames ∧ 8 + (maxL + 11) + rm.locals ≤ R.locals)
    (isC isR isN : List Nat) (hC : isC.map (fun i => w[i]?) = wc.map some) (hCn : va_nd isC = true) (hRr : isR.map (fun i => w[i]?) = wr.map some) (hRn : va_nd isR = true) (hdis : ∀ i ∈ isR, i ∉ isC) (hN : isN.map (fun i => (wr ++ w1)[i]?) = wn.map some) (hNn : va_nd isN = true)  (hls : ls.size = nL) (hst : st0 = As.reverse ++ rest) (hrest : (rest.map fun v => v.category).sum ≤ 8) (hdg : decode cc pc = .ok (.invokestatic index, 3)) (hf : cells + 0 ≤ R.cells ∧ slots + 0 ≤ R.slots)
    (kk : ∀ (H1 : Heap) (locs1 : List Loc), WD E A s wn H1 locs1 → W p l e R s m args below meth c H1 locs1 cells slots Q (F0 m (pc + 3) ls (rest))) : W p l e R s m args below meth c H locs cells slots Q (F0 m pc ls st0) := by
  obtain ⟨hP, hD, hS⟩ := hW
  subst hst
  have hPc := hP.sub isC (map_fm hC)
  have hDc := hD.sub isC hCn hC
  have hFc := va_free (wc := wc) hD hS C.ar isC hC
  have hPre : ∀ U : State, U.heap = H → s.WarmedH U.vm → va_Pc As (XP E wc H.size) (As).toArray U := fun U hU hW => ⟨rfl, by rw [hU], by rw [hU]; exact hPc, va_K.moved hW.alike C.K, hDc.weaken (fun _ _ _ _ => trivial), C.G.to (by rw [hU]; exact hS.2.1) hFc hW⟩
  refine va_callv (va_runS (As := As) (rest := rest) C.fix (hM H.size) (va_cwS na C.ts hg hwY h0.1 h0.2 hd hR) ⟨fun a U g mk q => ⟨q.1, q.2.calling⟩, hPre⟩ rfl hna hls rfl (lv_room hrest) hdg hf) hS (fun q _ h => hFc q h) hFc (fun u t H1 locs1 ht hvm hw2 hB hz1 hk1 hS1 => ?_)
  obtain ⟨hP1, hK1, hD1⟩ := hB
  rw [ht] at hP1
  obtain ⟨hP2, hD2⟩ := va_join (wr := wr) (w1 := w1) hP hD isC isR hC hRr hRn hdis hk1 hFc hP1 hD1
  exact kk H1 locs1 ⟨hP2.sub isN (map_fm hN), hD2.sub isN hNn hN, hS1⟩
/-! ends -/
theorem x_iret {wc w1 : va_W} {r v : Int32} {ty : FieldType} (C : CX p s m args meth c cc nL own Ts (some ty) E (va_A wc s.heap.size)) (hW : WD E (va_A wc s.heap.size) s w H locs) (hn : narrow ty (.int v) = .int v) (hv : v = r) (hw : w = w1) (hdg : decode cc pc = .ok (.ireturn, 1)) : W p l e R s m args below meth c H locs 0 0 (QI E wc r w1 below args s) (F0 m pc ls [.int v]) := by
  subst hv; subst hw
  have hlocks := C.lk
  exact W.zret C.x C.b C.r hn (fun t ht hWm => ⟨⟨v, (), rfl, rfl, by rw [ht]; exact hW.1, va_K.moved hWm.alike C.K, hW.2.1⟩, hW.2.2.F ht⟩) hW.2.2.2.2 hdg
theorem x_lret {wc w1 : va_W} {r v : Int64} (C : CX p s m args meth c cc nL own Ts (some .long) E (va_A wc s.heap.size)) (hW : WD E (va_A wc s.heap.size) s w H locs) (hv : v = r) (hw : w = w1) (hdg : decode cc pc = .ok (.lreturn, 1)) : W p l e R s m args below meth c H locs 0 0 (QL E wc r w1 below args s) (F0 m pc ls [.long v]) := by
  subst hv; subst hw
  have hlocks := C.lk
  exact W.lret C.x C.b C.r (fun t ht hWm => ⟨⟨v, (), rfl, rfl, by rw [ht]; exact hW.1, va_K.moved hWm.alike C.K, hW.2.1⟩, hW.2.2.F ht⟩) hW.2.2.2.2 hdg
theorem x_dret {wc w1 : va_W} {r v : UInt64} (C : CX p s m args meth c cc nL own Ts (some .double) E (va_A wc s.heap.size)) (hW : WD E (va_A wc s.heap.size) s w H locs) (hv : v = r) (hw : w = w1) (hdg : decode cc pc = .ok (.dreturn, 1)) : W p l e R s m args below meth c H locs 0 0 (QD E wc r w1 below args s) (F0 m pc ls [.double v]) := by
  subst hv; subst hw
  have hlocks := C.lk
  exact W.dret C.x C.b C.r (fun t ht hWm => ⟨⟨v, (), rfl, rfl, by rw [ht]; exact hW.1, va_K.moved hWm.alike C.K, hW.2.1⟩, hW.2.2.F ht⟩) hW.2.2.2.2 hdg
theorem x_vret {wc w1 : va_W} (C : CX p s m args meth c cc nL own Ts none E (va_A wc s.heap.size)) (hW : WD E (va_A wc s.heap.size) s w H locs) (hw : w = w1) (hdg : decode cc pc = .ok (.return_, 1)) : W p l e R s m args below meth c H locs 0 0 (QV E wc w1 below args s) (F0 m pc ls []) := by
  subst hw
  have hlocks := C.lk
  exact W.vret C.x C.b C.r (fun t ht hWm => ⟨⟨(), rfl, trivial, by rw [ht]; exact hW.1, va_K.moved hWm.alike C.K, hW.2.1⟩, hW.2.2.F ht⟩) hW.2.2.2.2 hdg
theorem x_vretC {wc : va_W} {mc ms : Nat} {post : va_W → Prop} (C : CX p s m args meth c cc nL own Ts none E (va_A wc s.heap.size)) (hW : WD E (va_A wc s.heap.size) s w H locs) (hp : post w) (hc : cells = mc) (hs : slots = ms) (hdg : decode cc pc = .ok (.return_, 1)) : W p l e R s m args below meth c H locs cells slots (QC E wc mc ms post below args s) (F0 m pc ls []) := by
  subst hc; subst hs
  have hlocks := C.lk
  exact W.vret C.x C.b C.r (fun t ht hWm => ⟨⟨w, rfl, hp, by rw [ht]; exact hW.1, va_K.moved hWm.alike C.K, hW.2.1⟩, hW.2.2.F ht⟩) hW.2.2.2.2 hdg
end XR
