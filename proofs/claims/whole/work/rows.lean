section
-- ===== PART A: goes FIRST, ahead of the names: the tables' words, and 'selects' of the private methods out of them =====
/-- a private method of a class that the tables say can be made, by its rows of tables_1 -/
def lw_okq (q : MethodName × Nat) : Prop := (q.1.cls ≠ "java/lang/invoke/MethodHandle" ∧ q.1.cls ≠ "java/lang/invoke/VarHandle") ∧ Cond.instantiable q.1.cls q.2 ∈ tables_1 ∧ Cond.privateMethod q.1 ∈ tables_1 ∧ Cond.instanceMethod q.1 ∈ tables_1
theorem lw_p0 : lw_okq (⟨"SkittleStrings$Sheet", "framesWithBonus", "(I)I"⟩, 5) := ⟨⟨by decide +kernel, by decide +kernel⟩, List.mem_of_getElem? (i := 52) (by decide +kernel), List.mem_of_getElem? (i := 264) (by decide +kernel), List.mem_of_getElem? (i := 265) (by decide +kernel)⟩
theorem lw_p1 : lw_okq (⟨"SkittleStrings", "somethingThrown", "()Z"⟩, 7) := ⟨⟨by decide +kernel, by decide +kernel⟩, List.mem_of_getElem? (i := 16) (by decide +kernel), List.mem_of_getElem? (i := 280) (by decide +kernel), List.mem_of_getElem? (i := 281) (by decide +kernel)⟩
theorem lw_p2 : lw_okq (⟨"java/lang/Throwable", "fillInStackTrace", "(I)Ljava/lang/Throwable;"⟩, 6) := ⟨⟨by decide +kernel, by decide +kernel⟩, List.mem_of_getElem? (i := 326) (by decide +kernel), List.mem_of_getElem? (i := 324) (by decide +kernel), List.mem_of_getElem? (i := 325) (by decide +kernel)⟩
theorem lw_p3 : lw_okq (⟨"SkittleStrings", "endFrame", "()V"⟩, 7) := ⟨⟨by decide +kernel, by decide +kernel⟩, List.mem_of_getElem? (i := 16) (by decide +kernel), List.mem_of_getElem? (i := 407) (by decide +kernel), List.mem_of_getElem? (i := 408) (by decide +kernel)⟩
theorem lw_p4 : lw_okq (⟨"SkittleStrings", "checkPlayer", "(I)V"⟩, 7) := ⟨⟨by decide +kernel, by decide +kernel⟩, List.mem_of_getElem? (i := 16) (by decide +kernel), List.mem_of_getElem? (i := 495) (by decide +kernel), List.mem_of_getElem? (i := 496) (by decide +kernel)⟩
theorem lw_p5 : lw_okq (⟨"SkittleStringsModel", "throwsOfAll", "()I"⟩, 15) := ⟨⟨by decide +kernel, by decide +kernel⟩, List.mem_of_getElem? (i := 547) (by decide +kernel), List.mem_of_getElem? (i := 607) (by decide +kernel), List.mem_of_getElem? (i := 608) (by decide +kernel)⟩
theorem lw_p6 : lw_okq (⟨"SkittleStringsModel", "no", "(I)I"⟩, 15) := ⟨⟨by decide +kernel, by decide +kernel⟩, List.mem_of_getElem? (i := 547) (by decide +kernel), List.mem_of_getElem? (i := 611) (by decide +kernel), List.mem_of_getElem? (i := 612) (by decide +kernel)⟩
theorem lw_p7 : lw_okq (⟨"SkittleStringsModel", "over", "()Z"⟩, 15) := ⟨⟨by decide +kernel, by decide +kernel⟩, List.mem_of_getElem? (i := 547) (by decide +kernel), List.mem_of_getElem? (i := 625) (by decide +kernel), List.mem_of_getElem? (i := 626) (by decide +kernel)⟩
theorem lw_p8 : lw_okq (⟨"SkittleStringsModel", "play", "(II)I"⟩, 15) := ⟨⟨by decide +kernel, by decide +kernel⟩, List.mem_of_getElem? (i := 547) (by decide +kernel), List.mem_of_getElem? (i := 629) (by decide +kernel), List.mem_of_getElem? (i := 630) (by decide +kernel)⟩
theorem lw_p9 : lw_okq (⟨"SkittleStringsModel", "endFrame", "()V"⟩, 15) := ⟨⟨by decide +kernel, by decide +kernel⟩, List.mem_of_getElem? (i := 547) (by decide +kernel), List.mem_of_getElem? (i := 650) (by decide +kernel), List.mem_of_getElem? (i := 651) (by decide +kernel)⟩
theorem lw_p10 : lw_okq (⟨"SkittleStringsModel", "begin", "(II)I"⟩, 15) := ⟨⟨by decide +kernel, by decide +kernel⟩, List.mem_of_getElem? (i := 547) (by decide +kernel), List.mem_of_getElem? (i := 654) (by decide +kernel), List.mem_of_getElem? (i := 655) (by decide +kernel)⟩
theorem lw_p11 : lw_okq (⟨"SkittleStringsModel", "sum", "(III)I"⟩, 15) := ⟨⟨by decide +kernel, by decide +kernel⟩, List.mem_of_getElem? (i := 547) (by decide +kernel), List.mem_of_getElem? (i := 658) (by decide +kernel), List.mem_of_getElem? (i := 659) (by decide +kernel)⟩
theorem lw_p12 : lw_okq (⟨"SkittleStringsModel", "putUp", "()V"⟩, 15) := ⟨⟨by decide +kernel, by decide +kernel⟩, List.mem_of_getElem? (i := 547) (by decide +kernel), List.mem_of_getElem? (i := 663) (by decide +kernel), List.mem_of_getElem? (i := 664) (by decide +kernel)⟩
theorem lw_p13 : lw_okq (⟨"SkittleStringsModel", "broken", "(I)Z"⟩, 15) := ⟨⟨by decide +kernel, by decide +kernel⟩, List.mem_of_getElem? (i := 547) (by decide +kernel), List.mem_of_getElem? (i := 667) (by decide +kernel), List.mem_of_getElem? (i := 668) (by decide +kernel)⟩
theorem lw_p14 : lw_okq (⟨"SkittleStringsModel", "first", "()I"⟩, 15) := ⟨⟨by decide +kernel, by decide +kernel⟩, List.mem_of_getElem? (i := 547) (by decide +kernel), List.mem_of_getElem? (i := 686) (by decide +kernel), List.mem_of_getElem? (i := 687) (by decide +kernel)⟩
theorem lw_p15 : lw_okq (⟨"SkittleStringsModel", "score", "(I)I"⟩, 15) := ⟨⟨by decide +kernel, by decide +kernel⟩, List.mem_of_getElem? (i := 547) (by decide +kernel), List.mem_of_getElem? (i := 690) (by decide +kernel), List.mem_of_getElem? (i := 691) (by decide +kernel)⟩
def lw_privs_1 : List (MethodName × Nat) := [(⟨"SkittleStrings$Sheet", "framesWithBonus", "(I)I"⟩, 5), (⟨"SkittleStrings", "somethingThrown", "()Z"⟩, 7), (⟨"java/lang/Throwable", "fillInStackTrace", "(I)Ljava/lang/Throwable;"⟩, 6), (⟨"SkittleStrings", "endFrame", "()V"⟩, 7), (⟨"SkittleStrings", "checkPlayer", "(I)V"⟩, 7), (⟨"SkittleStringsModel", "throwsOfAll", "()I"⟩, 15), (⟨"SkittleStringsModel", "no", "(I)I"⟩, 15), (⟨"SkittleStringsModel", "over", "()Z"⟩, 15), (⟨"SkittleStringsModel", "play", "(II)I"⟩, 15), (⟨"SkittleStringsModel", "endFrame", "()V"⟩, 15), (⟨"SkittleStringsModel", "begin", "(II)I"⟩, 15), (⟨"SkittleStringsModel", "sum", "(III)I"⟩, 15), (⟨"SkittleStringsModel", "putUp", "()V"⟩, 15), (⟨"SkittleStringsModel", "broken", "(I)Z"⟩, 15), (⟨"SkittleStringsModel", "first", "()I"⟩, 15), (⟨"SkittleStringsModel", "score", "(I)I"⟩, 15)]
theorem lw_r1 : ∀ q ∈ lw_privs_1, lw_okq q := List.forall_mem_cons.mpr ⟨lw_p0, List.forall_mem_cons.mpr ⟨lw_p1, List.forall_mem_cons.mpr ⟨lw_p2, List.forall_mem_cons.mpr ⟨lw_p3, List.forall_mem_cons.mpr ⟨lw_p4, List.forall_mem_cons.mpr ⟨lw_p5, List.forall_mem_cons.mpr ⟨lw_p6, List.forall_mem_cons.mpr ⟨lw_p7, List.forall_mem_cons.mpr ⟨lw_p8, List.forall_mem_cons.mpr ⟨lw_p9, List.forall_mem_cons.mpr ⟨lw_p10, List.forall_mem_cons.mpr ⟨lw_p11, List.forall_mem_cons.mpr ⟨lw_p12, List.forall_mem_cons.mpr ⟨lw_p13, List.forall_mem_cons.mpr ⟨lw_p14, List.forall_mem_cons.mpr ⟨lw_p15, fun _ h => absurd h List.not_mem_nil⟩⟩⟩⟩⟩⟩⟩⟩⟩⟩⟩⟩⟩⟩⟩⟩
theorem lw_p16 : lw_okq (⟨"SkittleStringsModel", "points", "(II)I"⟩, 15) := ⟨⟨by decide +kernel, by decide +kernel⟩, List.mem_of_getElem? (i := 547) (by decide +kernel), List.mem_of_getElem? (i := 694) (by decide +kernel), List.mem_of_getElem? (i := 695) (by decide +kernel)⟩
theorem lw_p17 : lw_okq (⟨"SkittleStringsModel", "isNot", "(I)Z"⟩, 15) := ⟨⟨by decide +kernel, by decide +kernel⟩, List.mem_of_getElem? (i := 547) (by decide +kernel), List.mem_of_getElem? (i := 702) (by decide +kernel), List.mem_of_getElem? (i := 703) (by decide +kernel)⟩
theorem lw_p18 : lw_okq (⟨"SkittleStringsModel", "ok", "(I)I"⟩, 15) := ⟨⟨by decide +kernel, by decide +kernel⟩, List.mem_of_getElem? (i := 547) (by decide +kernel), List.mem_of_getElem? (i := 710) (by decide +kernel), List.mem_of_getElem? (i := 711) (by decide +kernel)⟩
theorem lw_p19 : lw_okq (⟨"SkittleStringsModel", "brokenNow", "()I"⟩, 15) := ⟨⟨by decide +kernel, by decide +kernel⟩, List.mem_of_getElem? (i := 547) (by decide +kernel), List.mem_of_getElem? (i := 726) (by decide +kernel), List.mem_of_getElem? (i := 727) (by decide +kernel)⟩
theorem lw_p20 : lw_okq (⟨"SkittleStringsModel", "turnNow", "()I"⟩, 15) := ⟨⟨by decide +kernel, by decide +kernel⟩, List.mem_of_getElem? (i := 547) (by decide +kernel), List.mem_of_getElem? (i := 750) (by decide +kernel), List.mem_of_getElem? (i := 751) (by decide +kernel)⟩
theorem lw_p21 : lw_okq (⟨"SkittleStringsModel", "of", "(I[I)I"⟩, 15) := ⟨⟨by decide +kernel, by decide +kernel⟩, List.mem_of_getElem? (i := 547) (by decide +kernel), List.mem_of_getElem? (i := 770) (by decide +kernel), List.mem_of_getElem? (i := 771) (by decide +kernel)⟩
theorem lw_p22 : lw_okq (⟨"SkittleStringsModel", "isPlayer", "(I)Z"⟩, 15) := ⟨⟨by decide +kernel, by decide +kernel⟩, List.mem_of_getElem? (i := 547) (by decide +kernel), List.mem_of_getElem? (i := 774) (by decide +kernel), List.mem_of_getElem? (i := 775) (by decide +kernel)⟩
theorem lw_p23 : lw_okq (⟨"SkittleStringsModel", "best", "()I"⟩, 15) := ⟨⟨by decide +kernel, by decide +kernel⟩, List.mem_of_getElem? (i := 547) (by decide +kernel), List.mem_of_getElem? (i := 814) (by decide +kernel), List.mem_of_getElem? (i := 815) (by decide +kernel)⟩
theorem lw_p24 : lw_okq (⟨"SkittleStringsModel", "clear", "()I"⟩, 15) := ⟨⟨by decide +kernel, by decide +kernel⟩, List.mem_of_getElem? (i := 547) (by decide +kernel), List.mem_of_getElem? (i := 822) (by decide +kernel), List.mem_of_getElem? (i := 823) (by decide +kernel)⟩
def lw_privs_2 : List (MethodName × Nat) := [(⟨"SkittleStringsModel", "points", "(II)I"⟩, 15), (⟨"SkittleStringsModel", "isNot", "(I)Z"⟩, 15), (⟨"SkittleStringsModel", "ok", "(I)I"⟩, 15), (⟨"SkittleStringsModel", "brokenNow", "()I"⟩, 15), (⟨"SkittleStringsModel", "turnNow", "()I"⟩, 15), (⟨"SkittleStringsModel", "of", "(I[I)I"⟩, 15), (⟨"SkittleStringsModel", "isPlayer", "(I)Z"⟩, 15), (⟨"SkittleStringsModel", "best", "()I"⟩, 15), (⟨"SkittleStringsModel", "clear", "()I"⟩, 15)]
theorem lw_r2 : ∀ q ∈ lw_privs_2, lw_okq q := List.forall_mem_cons.mpr ⟨lw_p16, List.forall_mem_cons.mpr ⟨lw_p17, List.forall_mem_cons.mpr ⟨lw_p18, List.forall_mem_cons.mpr ⟨lw_p19, List.forall_mem_cons.mpr ⟨lw_p20, List.forall_mem_cons.mpr ⟨lw_p21, List.forall_mem_cons.mpr ⟨lw_p22, List.forall_mem_cons.mpr ⟨lw_p23, List.forall_mem_cons.mpr ⟨lw_p24, fun _ h => absurd h List.not_mem_nil⟩⟩⟩⟩⟩⟩⟩⟩⟩
def lw_privs : List (MethodName × Nat) := lw_privs_1 ++ (lw_privs_2)
def lw_tbl : List Cond := k2_sels lw_privs ++ tables_1
theorem lw_privs_ok : ∀ q ∈ lw_privs, lw_okq q := by
  show ∀ q ∈ lw_privs_1 ++ (lw_privs_2), lw_okq q
  exact List.forall_mem_append.mpr ⟨lw_r1, lw_r2⟩
/-- the streams that the claim lets the run draw from -/
abbrev lw_cs : List Choice := [Jvm.Choice.named "NaN.bits"]
theorem lw_bits : nanBits ∈ lw_cs := by first | decide | exact List.mem_cons_self | simp [lw_cs, nanBits]
-- ===== end of PART A; then your names; then what follows =====
/-! ===== BEGIN words of one list among another's, by their places ===== -/
theorem goodIn_r {big : List Cond} (ws : List Cond) (ps : List Nat) (hp : ws = ps.filterMap (fun i => big[i]?)) (h : ws.all goodWord = true) : GoodIn big ws := by
  intro w hw
  have h1 := List.all_eq_true.mp h w hw
  rw [hp] at hw
  obtain ⟨i, -, hi⟩ := List.mem_filterMap.mp hw
  have hm : w ∈ big := by first | exact List.mem_of_getElem? hi | exact List.getElem?_mem hi
  exact ⟨hm, good_of_word h1⟩
theorem goodIn_app {big a b : List Cond} (ha : GoodIn big a) (hb : GoodIn big b) : GoodIn big (a ++ b) := fun w h => (List.mem_append.mp h).elim (ha w) (hb w)
theorem goodIn_ca {big a b : List Cond} {c : Cond} (ha : GoodIn big (c :: a)) (hb : GoodIn big b) : GoodIn big (c :: (a ++ b)) := fun w h => (List.mem_cons.mp h).elim (fun e => ha w (List.mem_cons.mpr (Or.inl e))) (fun h => (List.mem_append.mp h).elim (fun h => ha w (List.mem_cons.mpr (Or.inr h))) (hb w))
theorem goodIn_sub {big ws : List Cond} (hm : ∀ w ∈ ws, w ∈ big) (h : ws.all goodWord = true) : GoodIn big ws := fun w hw => ⟨hm w hw, good_of_word (List.all_eq_true.mp h w hw)⟩
/-! ===== END ===== -/

/-! ===== BEGIN exceptions that leave a method, and their catching by the caller (launches without stack traces) ===== -/
section VXA
/-! The laws vx_back, vx_callV, vx_callS, vx_callSW, vx_throw0, vx_throwS follow proofs of the library, with one case more: JvmDerived/Free/Laws.lean (Back.of_free), Shelf42/LK1.lean (callV, callS), Shelf/KitTraced.lean (throwNew0V, throwNewS). -/
/-- where a method has thrown q: the class by its name, the cell, what was written, the world -/
def vx_T (XC : String → State → State → Prop) (st : State) (q : Addr) (t : State) (mc ms : Nat) (free : Addr → Prop) : Prop :=
  ∃ (E : String) (ce : Cell) (L : List Loc), XC E st t ∧ t.heap[q]? = some ce ∧ ce.vm = .none ∧ st.vm.findClass E = some ce.cls ∧ st.WarmedH t.vm ∧ st.sameButNew ({ t with vm := st.vm } : State) L mc ms ∧ ∀ z ∈ L, free z.base
def vx_Q (Qc : Array Value → State → Outcome → State → Prop) (XC : String → State → State → Prop) (mc ms : Nat) (free : Addr → Prop) : Array Value → State → Outcome → State → Prop := fun a st o t =>
  (Qc a st o t ∧ ∃ L, FrameEnd st o t L mc ms ∧ ∀ q ∈ L, free q.base) ∨ ∃ q, o = .threw q ∧ vx_T XC st q t mc ms free
/-- a callee that returns or throws -/
def vx_Met (l : Launch) (y : MethodName) (ws : List Cond) (rm : Room) (Pc : Array Value → State → Prop) (Qc : Array Value → State → Outcome → State → Prop) (XC : String → State → State → Prop) (mc ms : Nat) (free : Addr → Prop) : Prop :=
  MetFree l y (headSpec ws rm) Pc (fun _ _ _ _ _ => True) (vx_Q Qc XC mc ms free)
def vx_Post (XC : String → State → State → Prop) (mc ms : Nat) (free : Addr → Prop) : Pt → Array Value → Addr → Pt → Prop := fun A a q B =>
  ∃ (g : JFrame) (mk : MethodId) (t : State) (L : List Loc) (E : String) (ce : Cell), B.U.heap = t.heap ∧ B.U.vm = t.vm ∧ XC E (A.U.calling g mk a) t ∧ t.heap[q]? = some ce ∧ ce.vm = .none ∧ A.U.vm.findClass E = some ce.cls ∧ B.locs = A.locs ++ L ∧ (∀ z ∈ L, free z.base) ∧ B.cells = A.cells + mc ∧ B.slots = A.slots + ms
def vx_Back (l : Launch) (R : Room) (p : Program) (e : Env) (below : List Frame) (s : State) (sargs : Array Value) (y : MethodName) (len W9 : Nat)
    (Pre : Pt → Array Value → Prop) (Post : Pt → Array Value → Option Value → Pt → Prop) (PostX : Pt → Array Value → Addr → Pt → Prop) : Prop :=
  ∀ (m : MethodId) (meth : Method) (c : Code) (A : Pt) (g : JFrame) (ig : Instr) (mk : MethodId) (a : Array Value),
    Stand p l e R s m sargs below meth c A.U A.locs A.cells A.slots → g.method = m → g.locals.size = c.maxLocals → decode c.code g.pc = .ok (ig, len) →
    2 * g.monitorRoom + (g.stack.map fun v => v.category).sum ≤ W9 → A.U.methodNamed? y = some mk → Pre A a →
    (∃ (v : Option Value) (B : Pt), Stand p l e R s m sargs below meth c B.U B.locs B.cells B.slots ∧ Post A a v B ∧
      Steps p.tables e below (doInvoke e (A.U.setTop g) [] mk a).1 (B.U.setTop { g with pc := g.pc + len, stack := v.toList ++ g.stack })) ∨
    (∃ (q : Addr) (B : Pt), Stand p l e R s m sargs below meth c B.U B.locs B.cells B.slots ∧ PostX A a q B ∧
      Steps p.tables e below (doInvoke e (A.U.setTop g) [] mk a).1 ((B.U.setTop g).pushFrame (.throwing q)))
section Payer
variable {l : Launch} {R : Room} {p : Program} {e : Env} {below : List Frame} {s : State} {sargs : Array Value} {y : MethodName} {len W9 : Nat}
theorem vx_back {ws : List Cond} {rm : Room} {Pc : Array Value → State → Prop} {Qc : Array Value → State → Outcome → State → Prop} {XC : String → State → State → Prop} {mc ms : Nat} {free : Addr → Prop} {bytes : ByteArray} {maxL : Nat} {ret : Option FieldType}
    (hM : vx_Met l y ws rm Pc Qc XC mc ms free) (hblind : FrameBlind Pc) (hrc : rm.cells = mc) (hrs : rm.slots = ms)
    (hframes : rm.frames + 1 ≤ R.frames) (hlocals : W9 + (maxL + 11) + rm.locals ≤ R.locals)
    (hws : ∀ w ∈ ws, ∀ a' U, s.WarmedH U.vm → w.before a' U = true) (hcode : Cond.code y bytes maxL ret ∈ ws) (hinit : ∀ a' U, s.WarmedH U.vm → (Cond.initialized y.cls).before a' U = true) :
    vx_Back l R p e below s sargs y len W9 (PreOf R mc ms Pc) (PostOf Qc mc ms free) (vx_Post XC mc ms free) := by
  intro m meth c A g ig mk a X hg hsize hdg hW hn hp
  have h1 : (headSpec ws rm).pre.before a A.U = true := atoms_intro fun w hw => hws w hw _ _ X.warmed
  have h2 : (Cond.code y bytes maxL ret).before a A.U = true := hws _ hcode _ _ X.warmed
  have h3 : (Cond.initialized y.cls).before a A.U = true := hinit _ _ X.warmed
  have h4 : A.cells + (headSpec ws rm).room.cells ≤ R.cells := by rw [show (headSpec ws rm).room.cells = mc from hrc]; exact hp.1
  have h5 : A.slots + (headSpec ws rm).room.slots ≤ R.slots := by rw [show (headSpec ws rm).room.slots = ms from hrs]; exact hp.2.1
  have hPc : Pc a (A.U.calling g mk a) := hblind _ _ _ _ hp.2.2
  obtain ⟨U, Ls, c0, s0⟩ := A
  dsimp only [Pt.U, Pt.locs, Pt.cells, Pt.slots] at h1 h2 h3 h4 h5 X hn hPc ⊢
  obtain ⟨methY, cY, hmY, hcY, -, hlY, -, -, -, -⟩ := Cond.code_spec hn h2
  obtain ⟨kY, hkY, -⟩ := className_of_methodNamed hn
  have hinitY : kY.init = .initialized := Cond.initialized_spec (findClass_of_methodNamed hn) hkY h3
  have h : At U g.method c below := by rw [hg]; exact X.here
  have hlocals9 : W9 + (maxL + 11) + (headSpec ws rm).room.locals ≤ R.locals := hlocals
  have happ : (headSpec ws rm).appliesLoose y e.platform (U.calling g mk a) = true :=
    Spec.appliesLoose_calling (g := g) h hdg hn hkY hinitY
      (X.room_calling (g := g) (R' := (headSpec ws rm).room) hsize hmY hcY hframes (by rw [hlY]; omega) h4 h5) h1
  obtain ⟨mid, hmid⟩ := h.above
  have hfr : (U.setTop g).frames = (.java g :: mid) ++ below := by rw [State.frames_setTop' g h.top, hmid]; rfl
  obtain ⟨o, s₂, hsteps, -, hend, hq⟩ := Steps.callFree hM p X.admits X.cas X.clock (acts := []) hfr happ hPc trivial
  have hq' : vx_Q Qc XC mc ms free a (U.calling g mk a) o s₂ := hq
  rw [State.frames_setTop' g h.top] at hend
  obtain ⟨g₀, hg0⟩ := Option.isSome_iff_exists.mp h.top
  obtain ⟨r, hr⟩ := State.topJava?_eq_some.mp hg0
  have hr' : (({ U with heap := s₂.heap, slotsUsed := s₂.slotsUsed } : State).setVm s₂.vm).frames = .java g₀ :: r := hr
  rcases hq' with ⟨hqc, L, hfe, hL⟩ | ⟨q, rfl, E, ce, L, hx, hce, hcv, hcl, hW₂, hsm, hL⟩
  · obtain ⟨⟨v, rfl⟩, hW₂, e2, q2, q3, q4, q5, q6⟩ := id hfe
    have e3 : s₂ = ({ (U.calling g mk a).setFrames s₂.frames with heap := s₂.heap, slotsUsed := s₂.slotsUsed } : State).setVm s₂.vm := by
      have : s₂ = ({ s₂ with vm := (U.calling g mk a).vm } : State).setVm s₂.vm := rfl
      rw [e2] at this
      exact this
    obtain ⟨c₂, i₂, len₂, hc₂, hd₂, hf₂⟩ := hend
    have hW' : U.WarmedH s₂.vm := hW₂
    have hcc : c₂ = c := by
      have h1 : s₂.code? g.method = U.code? g.method := by
        rw [State.code?_eq, State.code?_eq, hW'.alike.method?]
      exact Option.some.inj (hc₂.symm.trans (h1.trans h.code))
    subst hcc
    have hlen : len₂ = len := by rw [hdg] at hd₂; cases hd₂; rfl
    subst hlen
    have hs₂ : s₂ = (({ U with heap := s₂.heap, slotsUsed := s₂.slotsUsed } : State).setVm s₂.vm).setTop { g with pc := g.pc + len₂, stack := v.toList ++ g.stack } := by
      refine e3.trans ?_
      rw [hf₂, State.calling_eq h.top, State.setFrames_setFrames, State.setTop_of_frames _ hr', hr]
      rfl
    have hsame : U.sameButNew ({ U with heap := s₂.heap, slotsUsed := s₂.slotsUsed } : State) L mc ms := by
      refine ⟨?_, q2, q3, q4, q5, q6⟩
      obtain ⟨t, ht, -⟩ := State.frames_cons hr
      show ({ U with heap := s₂.heap, slotsUsed := s₂.slotsUsed } : State) = { U.setFrames U.frames with heap := s₂.heap, slotsUsed := s₂.slotsUsed }
      rw [State.setFrames_self ht]
    subst hg
    refine Or.inl ⟨v, ⟨(({ U with heap := s₂.heap, slotsUsed := s₂.slotsUsed } : State).setVm s₂.vm), Ls ++ L, c0 + mc, s0 + ms⟩,
      ⟨X.admits, X.cas, X.clock, X.frames, X.room, X.hears, X.method, X.code, (X.here.setHeapUsed s₂.heap s₂.slotsUsed).setVm hW'.alike, X.tail, State.WarmedH.trans X.warmed hW', X.limits, X.bytes, X.same.trans (hsame.setVm s.vm)⟩,
      ⟨g, mk, s₂, L, rfl, rfl, hqc, rfl, hL, rfl, rfl⟩, ?_⟩
    show Steps p.tables e below _ ((({ U with heap := s₂.heap, slotsUsed := s₂.slotsUsed } : State).setVm s₂.vm).setTop { g with pc := g.pc + len₂, stack := v.toList ++ g.stack })
    rw [← hs₂]
    exact hsteps
  · obtain ⟨e2, q2, q3, q4, q5, q6⟩ := id hsm
    have e3 : s₂ = ({ (U.calling g mk a).setFrames s₂.frames with heap := s₂.heap, slotsUsed := s₂.slotsUsed } : State).setVm s₂.vm := by
      have : s₂ = ({ s₂ with vm := (U.calling g mk a).vm } : State).setVm s₂.vm := rfl
      rw [e2] at this
      exact this
    have hf₂ : s₂.frames = .throwing q :: .java g :: U.frames.tail := hend
    have hW' : U.WarmedH s₂.vm := hW₂
    have hs₂ : s₂ = ((({ U with heap := s₂.heap, slotsUsed := s₂.slotsUsed } : State).setVm s₂.vm).setTop g).pushFrame (.throwing q) := by
      refine e3.trans ?_
      rw [hf₂, State.calling_eq h.top, State.setFrames_setFrames, State.pushFrame, State.frames_setTop _ hr', State.setTop_of_frames _ hr', State.setFrames_setFrames, hr]
      rfl
    have hsame : U.sameButNew ({ U with heap := s₂.heap, slotsUsed := s₂.slotsUsed } : State) L mc ms := by
      refine ⟨?_, q2, q3, q4, q5, q6⟩
      obtain ⟨t, ht, -⟩ := State.frames_cons hr
      show ({ U with heap := s₂.heap, slotsUsed := s₂.slotsUsed } : State) = { U.setFrames U.frames with heap := s₂.heap, slotsUsed := s₂.slotsUsed }
      rw [State.setFrames_self ht]
    subst hg
    refine Or.inr ⟨q, ⟨(({ U with heap := s₂.heap, slotsUsed := s₂.slotsUsed } : State).setVm s₂.vm), Ls ++ L, c0 + mc, s0 + ms⟩,
      ⟨X.admits, X.cas, X.clock, X.frames, X.room, X.hears, X.method, X.code, (X.here.setHeapUsed s₂.heap s₂.slotsUsed).setVm hW'.alike, X.tail, State.WarmedH.trans X.warmed hW', X.limits, X.bytes, X.same.trans (hsame.setVm s.vm)⟩,
      ⟨g, mk, s₂, L, E, ce, rfl, rfl, hx, hce, hcv, hcl, rfl, hL, rfl, rfl⟩, ?_⟩
    show Steps p.tables e below _ (((({ U with heap := s₂.heap, slotsUsed := s₂.slotsUsed } : State).setVm s₂.vm).setTop g).pushFrame (.throwing q))
    rw [← hs₂]
    exact hsteps
end Payer
section Calls
variable {p : Program} {l : Launch} {e : Env} {R : Room} {s : State} {m : MethodId} {args : Array Value} {below : List Frame} {meth : Method} {c : Code} {T : State} {locs : List Loc} {cells slots : Nat}
theorem vx_callV (X : Stand p l e R s m args below meth c T locs cells slots) (hexec : p.tables.exec = Jvm.exec) {own C : String} {index : Nat} {y : MethodName} {bytes : ByteArray} {maxL : Nat} {ret : Option FieldType}
    (hown : s.vm.findClass own = some m.cls) (hlink : (Cond.methodLink own index y).before args s = true) (hinst : (Cond.instanceMethod y).before args s = true) (hsel : (Cond.selects C y y).before args s = true)
    (hcode : (Cond.code y bytes maxL ret).before args s = true) (hy : y.cls ≠ "java/lang/invoke/MethodHandle" ∧ y.cls ≠ "java/lang/invoke/VarHandle")
    {W9 : Nat} {Pre : Pt → Array Value → Prop} {Post : Pt → Array Value → Option Value → Pt → Prop} {PostX : Pt → Array Value → Addr → Pt → Prop} (hK : vx_Back l R p e below s args y 3 W9 Pre Post PostX)
    {b : Addr} {cellB : Cell} (hcell : T.heap[b]? = some cellB) (hobj : cellB.vm.isStatics = false) (hcls : s.vm.findClass C = some cellB.cls)
    {g : JFrame} (hg : g.method = m) (hsize : g.locals.size = c.maxLocals) {argsL rest : List Value} (hlen : ∀ sig, parseMethodDescriptor y.desc = some sig → argsL.length = sig.parameters.length)
    (hstack : g.stack = argsL.reverse ++ .ref b :: rest) (hW : 2 * g.monitorRoom + (rest.map fun v => v.category).sum ≤ W9) (hdg : decode c.code g.pc = .ok (.invokevirtual index, 3))
    (hpre : ∀ vm₁, s.WarmedH vm₁ → Pre ⟨T.setVm vm₁, locs, cells, slots⟩ (Value.ref b :: argsL).toArray) :
    (∃ (v : Option Value) (vm₁ : Vm) (B : Pt), s.WarmedH vm₁ ∧ Stand p l e R s m args below meth c B.U B.locs B.cells B.slots ∧ Post ⟨T.setVm vm₁, locs, cells, slots⟩ (Value.ref b :: argsL).toArray v B ∧
      ∀ target, Steps p.tables e below (B.U.setTop { g with pc := g.pc + 3, stack := v.toList ++ rest }) target → Steps p.tables e below (T.setTop g) target) ∨
    (∃ (q : Addr) (vm₁ : Vm) (B : Pt), s.WarmedH vm₁ ∧ Stand p l e R s m args below meth c B.U B.locs B.cells B.slots ∧ PostX ⟨T.setVm vm₁, locs, cells, slots⟩ (Value.ref b :: argsL).toArray q B ∧
      Steps p.tables e below (T.setTop g) ((B.U.setTop { g with stack := rest }).pushFrame (.throwing q))) := by
  obtain ⟨mk, methM, hnamed, hmethM, hstM, habM⟩ := Cond.instanceMethod_spec hinst
  obtain ⟨methM', cM, hmethM', -, -, -, -, -, -, hsigM⟩ := Cond.code_spec hnamed hcode
  cases hmethM.symm.trans hmethM'
  obtain ⟨c2, r2, m2, q1, q2, q3, q4, kP, hkP, hkPi⟩ := Cond.selects_spec hsel
  cases hcls.symm.trans q1
  cases (State.methodFound?_of_named hnamed hy).symm.trans q2
  cases hnamed.symm.trans q3
  have hselP : selectMethod e.platform s.vm cellB.cls mk = .method mk := by rw [Launch.admits_selectMethod X.admits]; exact q4
  obtain ⟨vm₁, X₁, hstep₁⟩ := X.invokevirtual hexec hown hlink hnamed hmethM hstM hkP hkPi hy (a := b) (cell := cellB) hcell
    (fun z h => by rw [h] at hobj; cases hobj) hselP hmethM habM hkP hkPi (g := g) hg (argsL := argsL) (rest := rest) (hlen _ hsigM) hstack hdg
  rcases hK m meth c ⟨T.setVm vm₁, locs, cells, slots⟩ { g with stack := rest } (.invokevirtual index) mk (Value.ref b :: argsL).toArray X₁ hg hsize hdg hW (X₁.named hnamed) (hpre vm₁ X₁.warmed) with ⟨v, B, X', hpost, hsteps⟩ | ⟨q, B, X', hpost, hsteps⟩
  · exact Or.inl ⟨v, vm₁, B, X₁.warmed, X', hpost, fun target h => hstep₁ _ fun acts => by rw [doInvoke_state]; exact hsteps.trans h⟩
  · exact Or.inr ⟨q, vm₁, B, X₁.warmed, X', hpost, hstep₁ _ fun acts => by rw [doInvoke_state]; exact hsteps⟩
theorem vx_callS (X : Stand p l e R s m args below meth c T locs cells slots) (hexec : p.tables.exec = Jvm.exec) {own : String} {index : Nat} {y : MethodName} {bytes : ByteArray} {maxL : Nat} {ret : Option FieldType}
    (hown : s.vm.findClass own = some m.cls) (hlink : (Cond.methodLink own index y).before args s = true) (hstat : (Cond.static y).before args s = true) (hinit : (Cond.initialized y.cls).before args s = true)
    (hcode : (Cond.code y bytes maxL ret).before args s = true) (hy : y.cls ≠ "java/lang/invoke/MethodHandle" ∧ y.cls ≠ "java/lang/invoke/VarHandle")
    {W9 : Nat} {Pre : Pt → Array Value → Prop} {Post : Pt → Array Value → Option Value → Pt → Prop} {PostX : Pt → Array Value → Addr → Pt → Prop} (hK : vx_Back l R p e below s args y 3 W9 Pre Post PostX)
    {g : JFrame} (hg : g.method = m) (hsize : g.locals.size = c.maxLocals) {argsL rest : List Value} (hlen : ∀ sig, parseMethodDescriptor y.desc = some sig → argsL.length = sig.parameters.length)
    (hstack : g.stack = argsL.reverse ++ rest) (hW : 2 * g.monitorRoom + (rest.map fun v => v.category).sum ≤ W9) (hdg : decode c.code g.pc = .ok (.invokestatic index, 3))
    (hpre : ∀ vm₁, s.WarmedH vm₁ → Pre ⟨T.setVm vm₁, locs, cells, slots⟩ argsL.toArray) :
    (∃ (v : Option Value) (vm₁ : Vm) (B : Pt), s.WarmedH vm₁ ∧ Stand p l e R s m args below meth c B.U B.locs B.cells B.slots ∧ Post ⟨T.setVm vm₁, locs, cells, slots⟩ argsL.toArray v B ∧
      ∀ target, Steps p.tables e below (B.U.setTop { g with pc := g.pc + 3, stack := v.toList ++ rest }) target → Steps p.tables e below (T.setTop g) target) ∨
    (∃ (q : Addr) (vm₁ : Vm) (B : Pt), s.WarmedH vm₁ ∧ Stand p l e R s m args below meth c B.U B.locs B.cells B.slots ∧ PostX ⟨T.setVm vm₁, locs, cells, slots⟩ argsL.toArray q B ∧
      Steps p.tables e below (T.setTop g) ((B.U.setTop { g with stack := rest }).pushFrame (.throwing q))) := by
  obtain ⟨mk, hnamed⟩ := Cond.code_named hcode
  obtain ⟨methM, cM, hmethM, -, -, -, -, -, -, hsigM⟩ := Cond.code_spec hnamed hcode
  have hstatic : methM.isStatic = true := Cond.static_spec hnamed hmethM hstat
  obtain ⟨kP, hkP, -⟩ := className_of_methodNamed hnamed
  have hinitP : kP.init = .initialized := Cond.initialized_spec (findClass_of_methodNamed hnamed) hkP hinit
  obtain ⟨vm₁, X₁, hstep₁⟩ := X.invokestatic hexec hown hlink hnamed hmethM hstatic hkP hinitP hy (g := g) hg (argsL := argsL) (rest := rest) (hlen _ hsigM) hstack hdg
  rcases hK m meth c ⟨T.setVm vm₁, locs, cells, slots⟩ { g with stack := rest } (.invokestatic index) mk argsL.toArray X₁ hg hsize hdg hW (X₁.named hnamed) (hpre vm₁ X₁.warmed) with ⟨v, B, X', hpost, hsteps⟩ | ⟨q, B, X', hpost, hsteps⟩
  · exact Or.inl ⟨v, vm₁, B, X₁.warmed, X', hpost, fun target h => hstep₁ _ fun acts => by rw [doInvoke_state]; exact hsteps.trans h⟩
  · exact Or.inr ⟨q, vm₁, B, X₁.warmed, X', hpost, hstep₁ _ fun acts => by rw [doInvoke_state]; exact hsteps⟩
end Calls
theorem vx_cls {s : State} {T : State} {vm₁ : Vm} {E : String} {k : ClassId} (hW : s.WarmedH vm₁) (h : (T.setVm vm₁).vm.findClass E = some k) : s.vm.findClass E = some k := by
  have h1 : vm₁.findClass E = some k := h
  rw [hW.alike.findClass] at h1
  exact h1
/-- the method's frame g, with q thrown over it -/
def vx_W (p : Program) (l : Launch) (e : Env) (R : Room) (s : State) (m : MethodId) (args : Array Value) (below : List Frame) (meth : Method) (c : Code) (H : Heap) (locs : List Loc) (cells slots : Nat) (Q : State → Prop) (g : JFrame) (q : Addr) : Prop :=
  ∀ T : State, T.heap = H → Stand p l e R s m args below meth c T locs cells slots → ∃ t, Steps p.tables e below ((T.setTop g).pushFrame (.throwing q)) t ∧ Q t
def vx_Run (p : Program) (l : Launch) (e : Env) (R : Room) (s : State) (m : MethodId) (args : Array Value) (below : List Frame) (meth : Method) (c : Code) (H : Heap) (locs : List Loc) (cells slots mc ms : Nat) (g : JFrame) (rest : List Value) (Qa : State → Outcome → State → Prop) (XC : String → State → State → Prop) (free : Addr → Prop) : Prop :=
  ∀ T : State, T.heap = H → Stand p l e R s m args below meth c T locs cells slots →
    (∃ (v : Option Value) (st₀ t T' : State) (L : List Loc), st₀.heap = H ∧ Stand p l e R s m args below meth c T' (locs ++ L) (cells + mc) (slots + ms) ∧ (∀ q ∈ L, free q.base) ∧ T'.heap = t.heap ∧ T'.vm = t.vm ∧ Qa st₀ (.returned v) t ∧
      Goes p e below T g T' { g with pc := g.pc + 3, stack := v.toList ++ rest }) ∨
    (∃ (q : Addr) (st₀ t T' : State) (L : List Loc) (E : String) (ce : Cell), st₀.heap = H ∧ Stand p l e R s m args below meth c T' (locs ++ L) (cells + mc) (slots + ms) ∧ (∀ z ∈ L, free z.base) ∧ T'.heap = t.heap ∧ T'.vm = t.vm ∧ XC E st₀ t ∧ t.heap[q]? = some ce ∧ ce.vm = .none ∧ s.vm.findClass E = some ce.cls ∧
      Steps p.tables e below (T.setTop g) ((T'.setTop { g with stack := rest }).pushFrame (.throwing q)))
def vx_X {S : Type} (px : S → Prop) (B : String → S → State → Prop) (A : Nat → Prop) : String → State → State → Prop := fun E st t => ∃ u : S, px u ∧ B E u t ∧ va_F A st t
section Runs
variable {p : Program} {l : Launch} {e : Env} {R : Room} {s : State} {m : MethodId} {args : Array Value} {below : List Frame} {meth : Method} {c : Code} {H : Heap} {locs : List Loc} {cells slots : Nat}
variable {y : MethodName} {bytes cc : ByteArray} {maxL nL mc ms n index : Nat} {ret : Option FieldType} {ws : List Cond} {rm : Room} {Pc : Array Value → State → Prop} {Qc : Array Value → State → Outcome → State → Prop} {XC : String → State → State → Prop} {free : Addr → Prop} {Ts : List Cond} {own C : String} {b : Addr} {As rest : List Value} {g : JFrame}
theorem vx_callBack (cb : CallB R s args own index y bytes maxL ret ws rm mc ms n) (hM : vx_Met l y ws rm Pc Qc XC mc ms free) (hbl : FrameBlind Pc) : vx_Back l R p e below s args y 3 8 (PreOf R mc ms Pc) (PostOf Qc mc ms free) (vx_Post XC mc ms free) := by
  obtain ⟨hrc, hrs, hfr, hlo, hws, hcw, -, hini, -⟩ := cb
  exact vx_back (bytes := bytes) (maxL := maxL) (ret := ret) hM hbl hrc hrs hfr hlo hws hcw (fun a' U hW => word_at hW (Or.inl (by first | rfl | simp [Cond.onTables, Cond.keeps, Cond.steady])) hini)
theorem vx_runV (S : CallFix p m c cc nL s args Ts own) (hM : vx_Met l y ws rm Pc Qc XC mc ms free) (cw : CallW R s args own C index y bytes maxL ret ws rm mc ms n) (hp : PreV s H C b Pc As)
    (hg : g.method = m) (hn : As.length = n) (hsize : g.locals.size = nL) (hstack : g.stack = As.reverse ++ .ref b :: rest) (hW : 2 * g.monitorRoom + (rest.map fun v => v.category).sum ≤ 8) (hdg : decode cc g.pc = .ok (.invokevirtual index, 3)) (hf : cells + mc ≤ R.cells ∧ slots + ms ≤ R.slots) :
    vx_Run p l e R s m args below meth c H locs cells slots mc ms g rest (Qc (Value.ref b :: As).toArray) XC free := by
  have hK : vx_Back l R p e below s args y 3 8 (PreOf R mc ms Pc) (PostOf Qc mc ms free) (vx_Post XC mc ms free) := vx_callBack cw.1 hM hp.1
  obtain ⟨⟨-, -, -, -, -, -, hcode, -, hy, hlen, hl⟩, hin, hse⟩ := cw
  obtain ⟨hx, hb, hml, ho, -⟩ := S
  obtain ⟨-, ⟨cellB, hcB, hoB, hclB⟩, hPc⟩ := hp
  intro T hT X
  rcases vx_callV X hx (C := C) (bytes := bytes) (maxL := maxL) (ret := ret) ho hl hin hse hcode hy hK (by rw [hT]; exact hcB) hoB hclB hg (hsize.trans hml.symm) (argsL := As) (rest := rest) (fun sig h => hn.trans (hlen sig h)) hstack hW (by rw [hb]; exact hdg)
    (fun vm₁ hW₁ => ⟨hf.1, hf.2, hPc (T.setVm vm₁) hT hW₁⟩) with ⟨v, vm₁, ⟨U', l2, c2, s2⟩, hW₁, X', ⟨g', mk, t, L, e1, e2, hq, h1, hL, h2, h3⟩, st⟩ | ⟨q, vm₁, ⟨U', l2, c2, s2⟩, hW₁, X', ⟨g', mk, t, L, E, ce, e1, e2, hq, hce, hcv, hcl, h1, hL, h2, h3⟩, st⟩
  · dsimp only [Pt.U, Pt.locs, Pt.cells, Pt.slots] at X' e1 e2 h1 h2 h3 st
    subst h1; subst h2; subst h3
    exact Or.inl ⟨v, (T.setVm vm₁).calling g' mk (Value.ref b :: As).toArray, t, U', L, hT, X', hL, e1, e2, hq, st⟩
  · dsimp only [Pt.U, Pt.locs, Pt.cells, Pt.slots] at X' e1 e2 h1 h2 h3 st hcl
    subst h1; subst h2; subst h3
    exact Or.inr ⟨q, (T.setVm vm₁).calling g' mk (Value.ref b :: As).toArray, t, U', L, E, ce, hT, X', hL, e1, e2, hq, hce, hcv, vx_cls hW₁ hcl, st⟩
theorem vx_runS (S : CallFix p m c cc nL s args Ts own) (hM : vx_Met l y ws rm Pc Qc XC mc ms free) (cw : CallB R s args own index y bytes maxL ret ws rm mc ms n ∧ (Cond.static y).before args s = true) (hp : PreS s H Pc As)
    (hg : g.method = m) (hn : As.length = n) (hsize : g.locals.size = nL) (hstack : g.stack = As.reverse ++ rest) (hW : 2 * g.monitorRoom + (rest.map fun v => v.category).sum ≤ 8) (hdg : decode cc g.pc = .ok (.invokestatic index, 3)) (hf : cells + mc ≤ R.cells ∧ slots + ms ≤ R.slots) :
    vx_Run p l e R s m args below meth c H locs cells slots mc ms g rest (Qc As.toArray) XC free := by
  have hK : vx_Back l R p e below s args y 3 8 (PreOf R mc ms Pc) (PostOf Qc mc ms free) (vx_Post XC mc ms free) := vx_callBack cw.1 hM hp.1
  obtain ⟨⟨-, -, -, -, -, -, hcode, hini, hy, hlen, hl⟩, hstt⟩ := cw
  obtain ⟨hx, hb, hml, ho, -⟩ := S
  intro T hT X
  rcases vx_callS X hx (bytes := bytes) (maxL := maxL) (ret := ret) ho hl hstt hini hcode hy hK hg (hsize.trans hml.symm) (argsL := As) (rest := rest) (fun sig h => hn.trans (hlen sig h)) hstack hW (by rw [hb]; exact hdg)
    (fun vm₁ hW₁ => ⟨hf.1, hf.2, hp.2 (T.setVm vm₁) hT hW₁⟩) with ⟨v, vm₁, ⟨U', l2, c2, s2⟩, hW₁, X', ⟨g', mk, t, L, e1, e2, hq, h1, hL, h2, h3⟩, st⟩ | ⟨q, vm₁, ⟨U', l2, c2, s2⟩, hW₁, X', ⟨g', mk, t, L, E, ce, e1, e2, hq, hce, hcv, hcl, h1, hL, h2, h3⟩, st⟩
  · dsimp only [Pt.U, Pt.locs, Pt.cells, Pt.slots] at X' e1 e2 h1 h2 h3 st
    subst h1; subst h2; subst h3
    exact Or.inl ⟨v, (T.setVm vm₁).calling g' mk As.toArray, t, U', L, hT, X', hL, e1, e2, hq, st⟩
  · dsimp only [Pt.U, Pt.locs, Pt.cells, Pt.slots] at X' e1 e2 h1 h2 h3 st hcl
    subst h1; subst h2; subst h3
    exact Or.inr ⟨q, (T.setVm vm₁).calling g' mk As.toArray, t, U', L, E, ce, hT, X', hL, e1, e2, hq, hce, hcv, vx_cls hW₁ hcl, st⟩
end Runs
section Rows
variable {p : Program} {l : Launch} {e : Env} {R : Room} {s : State} {m : MethodId} {args : Array Value} {below : List Frame} {meth : Method} {c : Code} {H : Heap} {locs : List Loc} {cells slots : Nat} {Q : State → Prop}
variable {mc ms : Nat} {free : Addr → Prop} {A0 A1 : Nat → Prop} {H0 : Heap} {a : Array Value} {pc : Nat} {ls : Array Slot} {st0 rest : List Value}
theorem vx_keep {st₀ t T' : State} {L : List Loc} (h0 : st₀.heap = H) (e1 : T'.heap = t.heap) (hS : va_S A0 H0 H locs) (hA : ∀ q, q < H.size → A1 q → A0 q) (hf : ∀ q, free q → A0 q) (hL : ∀ q ∈ L, free q.base) (hF : va_F A1 st₀ t) :
    H.size ≤ T'.heap.size ∧ (∀ q : Nat, q < H.size → ¬ A1 q → T'.heap[q]? = H[q]?) ∧ va_S A0 H0 T'.heap (locs ++ L) := by
  obtain ⟨hz, hk⟩ := hF
  rw [h0] at hz hk
  exact ⟨by rw [e1]; exact hz, fun q h1 h2 => by rw [e1]; exact hk q h1 h2,
    ⟨Nat.le_trans hS.1 (by rw [e1]; exact hz), fun q h1 h2 => by rw [e1, hk q (Nat.lt_of_lt_of_le h1 hS.1) (fun z => h2 (hA q (Nat.lt_of_lt_of_le h1 hS.1) z))]; exact hS.2.1 q h1 h2, fun q hq => by
      rcases List.mem_append.mp hq with h | h
      · exact hS.2.2 q h
      · exact hf _ (hL q h)⟩⟩
theorem vx_calli {S SX : Type} {post : Int32 → S → Prop} {px : SX → Prop} {B : S → State → Prop} {BX : String → SX → State → Prop} {AX : Nat → Prop} (hr : vx_Run p l e R s m args below meth c H locs cells slots mc ms (F0 m pc ls st0) rest (va_Qi post B A1 a) (vx_X px BX AX) free) (hS : va_S A0 H0 H locs) (hA : ∀ q, q < H.size → A1 q → A0 q) (hf : ∀ q, free q → A0 q) (hAX : ∀ q, q < H.size → AX q → A0 q)
    (kx : ∀ (E : String) (ce : Cell) (q9 : Addr) (u : SX) (t : State) (H1 : Heap) (locs1 : List Loc), t.heap = H1 → s.vm.Alike t.vm → px u → BX E u t → H.size ≤ H1.size → (∀ q : Nat, q < H.size → ¬ AX q → H1[q]? = H[q]?) → va_S A0 H0 H1 locs1 → H1[q9]? = some ce → ce.vm = .none → s.vm.findClass E = some ce.cls → vx_W p l e R s m args below meth c H1 locs1 (cells + mc) (slots + ms) Q (F0 m pc ls rest) q9)
    (kk : ∀ (r : Int32) (u : S) (t : State) (H1 : Heap) (locs1 : List Loc), t.heap = H1 → s.vm.Alike t.vm → post r u → B u t → H.size ≤ H1.size → (∀ q : Nat, q < H.size → ¬ A1 q → H1[q]? = H[q]?) → va_S A0 H0 H1 locs1 → W p l e R s m args below meth c H1 locs1 (cells + mc) (slots + ms) Q (F0 m (pc + 3) ls (.int r :: rest))) : W p l e R s m args below meth c H locs cells slots Q (F0 m pc ls st0) := by
  intro T hT X
  rcases hr T hT X with ⟨v, st₀, t, T', L, h0, X', hL, e1, e2, ⟨⟨r, u, hv, hp, hb⟩, hF⟩, st⟩ | ⟨q, st₀, t, T', L, E, ce, h0, X', hL, e1, e2, ⟨u, hp, hb, hF⟩, hce, hcv, hcl, st⟩
  · cases hv
    obtain ⟨k1, k2, k3⟩ := vx_keep h0 e1 hS hA hf hL hF
    obtain ⟨t2, a1, b1⟩ := kk r u t T'.heap (locs ++ L) e1.symm (by rw [← e2]; exact X'.warmed.alike) hp hb k1 k2 k3 T' rfl X'
    exact ⟨t2, st t2 a1, b1⟩
  · obtain ⟨k1, k2, k3⟩ := vx_keep h0 e1 hS hAX hf hL hF
    obtain ⟨t2, a1, b1⟩ := kx E ce q u t T'.heap (locs ++ L) e1.symm (by rw [← e2]; exact X'.warmed.alike) hp hb k1 k2 k3 (by rw [e1]; exact hce) hcv hcl T' rfl X'
    exact ⟨t2, st.trans a1, b1⟩
theorem vx_calll {S SX : Type} {post : Int64 → S → Prop} {px : SX → Prop} {B : S → State → Prop} {BX : String → SX → State → Prop} {AX : Nat → Prop} (hr : vx_Run p l e R s m args below meth c H locs cells slots mc ms (F0 m pc ls st0) rest (va_Ql post B A1 a) (vx_X px BX AX) free) (hS : va_S A0 H0 H locs) (hA : ∀ q, q < H.size → A1 q → A0 q) (hf : ∀ q, free q → A0 q) (hAX : ∀ q, q < H.size → AX q → A0 q)
    (kx : ∀ (E : String) (ce : Cell) (q9 : Addr) (u : SX) (t : State) (H1 : Heap) (locs1 : List Loc), t.heap = H1 → s.vm.Alike t.vm → px u → BX E u t → H.size ≤ H1.size → (∀ q : Nat, q < H.size → ¬ AX q → H1[q]? = H[q]?) → va_S A0 H0 H1 locs1 → H1[q9]? = some ce → ce.vm = .none → s.vm.findClass E = some ce.cls → vx_W p l e R s m args below meth c H1 locs1 (cells + mc) (slots + ms) Q (F0 m pc ls rest) q9)
    (kk : ∀ (r : Int64) (u : S) (t : State) (H1 : Heap) (locs1 : List Loc), t.heap = H1 → s.vm.Alike t.vm → post r u → B u t → H.size ≤ H1.size → (∀ q : Nat, q < H.size → ¬ A1 q → H1[q]? = H[q]?) → va_S A0 H0 H1 locs1 → W p l e R s m args below meth c H1 locs1 (cells + mc) (slots + ms) Q (F0 m (pc + 3) ls (.long r :: rest))) : W p l e R s m args below meth c H locs cells slots Q (F0 m pc ls st0) := by
  intro T hT X
  rcases hr T hT X with ⟨v, st₀, t, T', L, h0, X', hL, e1, e2, ⟨⟨r, u, hv, hp, hb⟩, hF⟩, st⟩ | ⟨q, st₀, t, T', L, E, ce, h0, X', hL, e1, e2, ⟨u, hp, hb, hF⟩, hce, hcv, hcl, st⟩
  · cases hv
    obtain ⟨k1, k2, k3⟩ := vx_keep h0 e1 hS hA hf hL hF
    obtain ⟨t2, a1, b1⟩ := kk r u t T'.heap (locs ++ L) e1.symm (by rw [← e2]; exact X'.warmed.alike) hp hb k1 k2 k3 T' rfl X'
    exact ⟨t2, st t2 a1, b1⟩
  · obtain ⟨k1, k2, k3⟩ := vx_keep h0 e1 hS hAX hf hL hF
    obtain ⟨t2, a1, b1⟩ := kx E ce q u t T'.heap (locs ++ L) e1.symm (by rw [← e2]; exact X'.warmed.alike) hp hb k1 k2 k3 (by rw [e1]; exact hce) hcv hcl T' rfl X'
    exact ⟨t2, st.trans a1, b1⟩
theorem vx_callf {S SX : Type} {post : UInt32 → S → Prop} {px : SX → Prop} {B : S → State → Prop} {BX : String → SX → State → Prop} {AX : Nat → Prop} (hr : vx_Run p l e R s m args below meth c H locs cells slots mc ms (F0 m pc ls st0) rest (va_Qf post B A1 a) (vx_X px BX AX) free) (hS : va_S A0 H0 H locs) (hA : ∀ q, q < H.size → A1 q → A0 q) (hf : ∀ q, free q → A0 q) (hAX : ∀ q, q < H.size → AX q → A0 q)
    (kx : ∀ (E : String) (ce : Cell) (q9 : Addr) (u : SX) (t : State) (H1 : Heap) (locs1 : List Loc), t.heap = H1 → s.vm.Alike t.vm → px u → BX E u t → H.size ≤ H1.size → (∀ q : Nat, q < H.size → ¬ AX q → H1[q]? = H[q]?) → va_S A0 H0 H1 locs1 → H1[q9]? = some ce → ce.vm = .none → s.vm.findClass E = some ce.cls → vx_W p l e R s m args below meth c H1 locs1 (cells + mc) (slots + ms) Q (F0 m pc ls rest) q9)
    (kk : ∀ (r : UInt32) (u : S) (t : State) (H1 : Heap) (locs1 : List Loc), t.heap = H1 → s.vm.Alike t.vm → post r u → B u t → H.size ≤ H1.size → (∀ q : Nat, q < H.size → ¬ A1 q → H1[q]? = H[q]?) → va_S A0 H0 H1 locs1 → W p l e R s m args below meth c H1 locs1 (cells + mc) (slots + ms) Q (F0 m (pc + 3) ls (.float r :: rest))) : W p l e R s m args below meth c H locs cells slots Q (F0 m pc ls st0) := by
  intro T hT X
  rcases hr T hT X with ⟨v, st₀, t, T', L, h0, X', hL, e1, e2, ⟨⟨r, u, hv, hp, hb⟩, hF⟩, st⟩ | ⟨q, st₀, t, T', L, E, ce, h0, X', hL, e1, e2, ⟨u, hp, hb, hF⟩, hce, hcv, hcl, st⟩
  · cases hv
    obtain ⟨k1, k2, k3⟩ := vx_keep h0 e1 hS hA hf hL hF
    obtain ⟨t2, a1, b1⟩ := kk r u t T'.heap (locs ++ L) e1.symm (by rw [← e2]; exact X'.warmed.alike) hp hb k1 k2 k3 T' rfl X'
    exact ⟨t2, st t2 a1, b1⟩
  · obtain ⟨k1, k2, k3⟩ := vx_keep h0 e1 hS hAX hf hL hF
    obtain ⟨t2, a1, b1⟩ := kx E ce q u t T'.heap (locs ++ L) e1.symm (by rw [← e2]; exact X'.warmed.alike) hp hb k1 k2 k3 (by rw [e1]; exact hce) hcv hcl T' rfl X'
    exact ⟨t2, st.trans a1, b1⟩
theorem vx_calld {S SX : Type} {post : UInt64 → S → Prop} {px : SX → Prop} {B : S → State → Prop} {BX : String → SX → State → Prop} {AX : Nat → Prop} (hr : vx_Run p l e R s m args below meth c H locs cells slots mc ms (F0 m pc ls st0) rest (va_Qd post B A1 a) (vx_X px BX AX) free) (hS : va_S A0 H0 H locs) (hA : ∀ q, q < H.size → A1 q → A0 q) (hf : ∀ q, free q → A0 q) (hAX : ∀ q, q < H.size → AX q → A0 q)
    (kx : ∀ (E : String) (ce : Cell) (q9 : Addr) (u : SX) (t : State) (H1 : Heap) (locs1 : List Loc), t.heap = H1 → s.vm.Alike t.vm → px u → BX E u t → H.size ≤ H1.size → (∀ q : Nat, q < H.size → ¬ AX q → H1[q]? = H[q]?) → va_S A0 H0 H1 locs1 → H1[q9]? = some ce → ce.vm = .none → s.vm.findClass E = some ce.cls → vx_W p l e R s m args below meth c H1 locs1 (cells + mc) (slots + ms) Q (F0 m pc ls rest) q9)
    (kk : ∀ (r : UInt64) (u : S) (t : State) (H1 : Heap) (locs1 : List Loc), t.heap = H1 → s.vm.Alike t.vm → post r u → B u t → H.size ≤ H1.size → (∀ q : Nat, q < H.size → ¬ A1 q → H1[q]? = H[q]?) → va_S A0 H0 H1 locs1 → W p l e R s m args below meth c H1 locs1 (cells + mc) (slots + ms) Q (F0 m (pc + 3) ls (.double r :: rest))) : W p l e R s m args below meth c H locs cells slots Q (F0 m pc ls st0) := by
  intro T hT X
  rcases hr T hT X with ⟨v, st₀, t, T', L, h0, X', hL, e1, e2, ⟨⟨r, u, hv, hp, hb⟩, hF⟩, st⟩ | ⟨q, st₀, t, T', L, E, ce, h0, X', hL, e1, e2, ⟨u, hp, hb, hF⟩, hce, hcv, hcl, st⟩
  · cases hv
    obtain ⟨k1, k2, k3⟩ := vx_keep h0 e1 hS hA hf hL hF
    obtain ⟨t2, a1, b1⟩ := kk r u t T'.heap (locs ++ L) e1.symm (by rw [← e2]; exact X'.warmed.alike) hp hb k1 k2 k3 T' rfl X'
    exact ⟨t2, st t2 a1, b1⟩
  · obtain ⟨k1, k2, k3⟩ := vx_keep h0 e1 hS hAX hf hL hF
    obtain ⟨t2, a1, b1⟩ := kx E ce q u t T'.heap (locs ++ L) e1.symm (by rw [← e2]; exact X'.warmed.alike) hp hb k1 k2 k3 (by rw [e1]; exact hce) hcv hcl T' rfl X'
    exact ⟨t2, st.trans a1, b1⟩
theorem vx_callv {S SX : Type} {post : S → Prop} {px : SX → Prop} {B : S → State → Prop} {BX : String → SX → State → Prop} {AX : Nat → Prop} (hr : vx_Run p l e R s m args below meth c H locs cells slots mc ms (F0 m pc ls st0) rest (va_Qv post B A1 a) (vx_X px BX AX) free) (hS : va_S A0 H0 H locs) (hA : ∀ q, q < H.size → A1 q → A0 q) (hf : ∀ q, free q → A0 q) (hAX : ∀ q, q < H.size → AX q → A0 q)
    (kx : ∀ (E : String) (ce : Cell) (q9 : Addr) (u : SX) (t : State) (H1 : Heap) (locs1 : List Loc), t.heap = H1 → s.vm.Alike t.vm → px u → BX E u t → H.size ≤ H1.size → (∀ q : Nat, q < H.size → ¬ AX q → H1[q]? = H[q]?) → va_S A0 H0 H1 locs1 → H1[q9]? = some ce → ce.vm = .none → s.vm.findClass E = some ce.cls → vx_W p l e R s m args below meth c H1 locs1 (cells + mc) (slots + ms) Q (F0 m pc ls rest) q9)
    (kk : ∀ (u : S) (t : State) (H1 : Heap) (locs1 : List Loc), t.heap = H1 → s.vm.Alike t.vm → post u → B u t → H.size ≤ H1.size → (∀ q : Nat, q < H.size → ¬ A1 q → H1[q]? = H[q]?) → va_S A0 H0 H1 locs1 → W p l e R s m args below meth c H1 locs1 (cells + mc) (slots + ms) Q (F0 m (pc + 3) ls (rest))) : W p l e R s m args below meth c H locs cells slots Q (F0 m pc ls st0) := by
  intro T hT X
  rcases hr T hT X with ⟨v, st₀, t, T', L, h0, X', hL, e1, e2, ⟨⟨u, hv, hp, hb⟩, hF⟩, st⟩ | ⟨q, st₀, t, T', L, E, ce, h0, X', hL, e1, e2, ⟨u, hp, hb, hF⟩, hce, hcv, hcl, st⟩
  · cases hv
    obtain ⟨k1, k2, k3⟩ := vx_keep h0 e1 hS hA hf hL hF
    obtain ⟨t2, a1, b1⟩ := kk u t T'.heap (locs ++ L) e1.symm (by rw [← e2]; exact X'.warmed.alike) hp hb k1 k2 k3 T' rfl X'
    exact ⟨t2, st t2 a1, b1⟩
  · obtain ⟨k1, k2, k3⟩ := vx_keep h0 e1 hS hAX hf hL hF
    obtain ⟨t2, a1, b1⟩ := kx E ce q u t T'.heap (locs ++ L) e1.symm (by rw [← e2]; exact X'.warmed.alike) hp hb k1 k2 k3 (by rw [e1]; exact hce) hcv hcl T' rfl X'
    exact ⟨t2, st.trans a1, b1⟩
/-- caught by the row x of this method's table; the rows ahead don't take it -/
theorem vx_catch {own name : String} {E : String} {ce : Cell} {q : Addr} (hown : s.vm.findClass own = some m.cls) (pre : List ExceptionTableEntry) (x : ExceptionTableEntry) (suf : List ExceptionTableEntry) (hsplit : c.exceptionTable.toList = pre ++ x :: suf)
    (hpass : ∀ z ∈ pre, covers z pc = false ∨ (z.catchType ≠ 0 ∧ ∃ nm : String, (Cond.classLink own z.catchType nm).before args s = true ∧ va_Nc E nm s)) (hx : covers x pc = true) (h0 : x.catchType ≠ 0)
    (hlink : (Cond.classLink own x.catchType name).before args s = true) (hcast : (Cond.castable E name).before args s = true) (hcell : H[q]? = some ce) (hv : ce.vm = .none) (hcl : s.vm.findClass E = some ce.cls)
    (kk : W p l e R s m args below meth c H locs cells slots Q (F0 m x.handlerPc ls [.ref q])) : vx_W p l e R s m args below meth c H locs cells slots Q (F0 m pc ls rest) q := by
  intro T hT X
  have hpl : e.platform.magicAccessors = ({} : Platform).magicAccessors := by rw [X.admits.platform]
  obtain ⟨c3, c4, hc3, hc4, hasg⟩ := Cond.castable_spec hcast
  cases Option.some.inj (hc3.symm.trans hcl)
  obtain ⟨c5, hc5, hcl5⟩ := Cond.classLink_spec hown hlink e.platform hpl
  cases Option.some.inj (hc4.symm.trans hc5)
  obtain ⟨vm', X', st⟩ := X.thenCaughtThrough q (g := F0 m pc ls rest) rfl (Steps.refl _) (by rw [hT]; exact hcell) (by rw [hv]; rfl) (by obtain ⟨k9, h9, -⟩ := Vm.findClass_spec hcl; exact ⟨k9, h9⟩) pre x suf hsplit
    (fun z hz => by
      rcases hpass z hz with h | ⟨hz0, nm, hl1, hn1⟩
      · exact Or.inl h
      · obtain ⟨c6, hc6, hcl6⟩ := Cond.classLink_spec hown hl1 e.platform hpl
        obtain ⟨a8, b8, h1, h2, h3⟩ := hn1
        cases Option.some.inj (h1.symm.trans hcl)
        cases Option.some.inj (h2.symm.trans hc6)
        exact Or.inr ⟨hz0, _, hcl6, h3⟩) hx (Or.inr ⟨h0, c4, hcl5, hasg⟩)
  obtain ⟨t, a1, b1⟩ := kk (T.setVm vm') hT X'
  exact ⟨t, st.trans a1, b1⟩
end Rows
section Ends
variable {p : Program} {l : Launch} {e : Env} {R : Room} {s : State} {m : MethodId} {args : Array Value} {below : List Frame} {meth : Method} {c : Code} {H : Heap} {locs : List Loc} {cells slots : Nat} {Q : State → Prop}
variable {mc ms : Nat} {free : Addr → Prop} {A0 A1 : Nat → Prop} {H0 : Heap} {a : Array Value} {ls : Array Slot} {st0 rest : List Value}
variable {Qc : Array Value → State → Outcome → State → Prop} {XC : String → State → State → Prop}
/-- what a body that may throw owes at its end -/
def vx_MQ (below : List Frame) (Qc : Array Value → State → Outcome → State → Prop) (XC : String → State → State → Prop) (a : Array Value) (s : State) (mc ms : Nat) (free : Addr → Prop) : State → Prop := fun t =>
  ∃ o, t.status = .running ∧ Ended t below o ∧ vx_Q Qc XC mc ms free a s o t
theorem vx_ret {g : JFrame} {mc ms : Nat} (k : W p l e R s m args below meth c H locs cells slots (MQ below Qc args s mc ms free) g) : W p l e R s m args below meth c H locs cells slots (vx_MQ below Qc XC args s mc ms free) g := by
  intro T hT X
  obtain ⟨t, a1, o, b1, b2, b3, b4⟩ := k T hT X
  exact ⟨t, a1, o, b1, b2, Or.inl ⟨b3, b4⟩⟩
/-- not caught here: it goes on to the caller -/
theorem vx_widen {g : JFrame} {q : Addr} {k n : Nat} (h1 : cells ≤ k) (h2 : slots ≤ n) (kk : vx_W p l e R s m args below meth c H locs k n Q g q) : vx_W p l e R s m args below meth c H locs cells slots Q g q := fun T hT X => kk T hT (stand_widen X h1 h2)
theorem vx_out {pc : Nat} {E : String} {ce : Cell} {q : Addr} {mc ms : Nat} (hout : ∀ x ∈ c.exceptionTable.toList, covers x pc = false) (hlocks : meth.locks = false) (hcell : H[q]? = some ce) (hv : ce.vm = .none) (hcl : s.vm.findClass E = some ce.cls)
    (hx : ∀ t : State, t.heap = H → s.vm.Alike t.vm → XC E s t) (hf : ∀ z ∈ locs, free z.base) (hc : cells ≤ mc) (hs : slots ≤ ms) :
    vx_W p l e R s m args below meth c H locs cells slots (vx_MQ below Qc XC args s mc ms free) (F0 m pc ls rest) q := by
  intro T hT X
  obtain ⟨st1, hrun, hend, hW, hsm⟩ := X.leaveThrown q (g := F0 m pc ls rest) rfl rfl rfl hout hlocks
  have hcell9 : (T.setFrames (.throwing q :: below)).heap[q]? = some ce := by
    show T.heap[q]? = some ce
    rw [hT]; exact hcell
  exact ⟨_, st1, .threw q, hrun, hend, Or.inr ⟨q, rfl, E, ce, locs, hx _ hT hW.alike, hcell9, hv, hcl, hW, hsm.mono hc hs, hf⟩⟩
theorem vx_frame {U : State} {k n : Nat} (h : s.sameButNew ({ U with vm := s.vm } : State) locs k n) : s.heap.size ≤ U.heap.size ∧ ∀ q : Nat, q < s.heap.size → (∀ z ∈ locs, z.base ≠ q) → U.heap[q]? = s.heap[q]? := by
  obtain ⟨-, h2, -, -, -, h6⟩ := h
  refine ⟨h2, fun q hq hz => ?_⟩
  obtain ⟨c9, e1, e2, e3, e4⟩ := h6 q _ (Array.getElem?_eq_getElem hq)
  have hs : c9.slots = (s.heap[q]).slots := Array.ext_getElem? fun i => e4 i fun hm => hz _ hm rfl
  have h9 : c9 = s.heap[q] := by
    rw [hs] at e2
    exact e2
  have e5 : U.heap[q]? = some c9 := e1
  rw [e5, h9, Array.getElem?_eq_getElem hq]
/-- the words of a throw but the four that speak of the heap -/
def vx_no (w : Cond) : Bool := decide (w ≠ .isRef (.static Bundle.tN "UNASSIGNED_STACK" Bundle.steD)) && decide (w ≠ .isRef (.static Bundle.tN "SUPPRESSED_SENTINEL" Bundle.listD)) && decide (w ≠ .laysStatic Bundle.tN "UNASSIGNED_STACK" Bundle.steD) && decide (w ≠ .laysStatic Bundle.tN "SUPPRESSED_SENTINEL" Bundle.listD)
def vx_at0 (own : String) (ic : Nat) (X : String) (names : List String) : List Cond := (Bundle.ownAtoms0 own ic X names).filter vx_no
def vx_atS (own : String) (ic : Nat) (X : String) (names : List String) : List Cond := (Bundle.ownAtoms own ic X names).filter vx_no
/-- a word that the tables alone decide, or a good one -/
def vx_ot (w : Cond) : Bool := w.onTables || goodWord w
theorem vx_ot_at {args a' : Array Value} {s U : State} {w : Cond} (hW : s.WarmedH U.vm) (hvm : s.vm = U.vm) (hg : vx_ot w = true) (h : w.before args s = true) : w.before a' U = true := by
  simp only [vx_ot, Bool.or_eq_true] at hg
  rcases hg with hg | hg
  · exact va_tabs hg hvm h
  · exact word_at hW (good_of_word hg) h
/-- a list's words: the good ones out of the method's own list, the others by premises of their own -/
theorem vx_hat {args : Array Value} {s : State} {L B : List Cond} (h1 : ∀ w ∈ L.filter goodWord, w.before args s = true) (h2 : ∀ w ∈ L.filter (fun w => !goodWord w), w ∈ B) (h3 : ∀ w ∈ B, w.before args s = true) : ∀ w ∈ L, w.before args s = true := by
  intro w hw
  by_cases g : goodWord w = true
  · exact h1 w (List.mem_filter.mpr ⟨hw, g⟩)
  · refine h3 w (h2 w (List.mem_filter.mpr ⟨hw, ?_⟩))
    show (!goodWord w) = true
    cases hgw : goodWord w
    · rfl
    · exact absurd hgw g
theorem vx_c {args : Array Value} {s : State} {w : Cond} {B : List Cond} (h : w.before args s = true) (t : ∀ w ∈ B, w.before args s = true) : ∀ w' ∈ w :: B, w'.before args s = true := fun w' h' => (List.mem_cons.mp h').elim (fun e => by rw [e]; exact h) (t w')
theorem vx_n {args : Array Value} {s : State} : ∀ w ∈ ([] : List Cond), w.before args s = true := fun _ h => nomatch h
theorem vx_own {args : Array Value} {s : State} {L : List Cond} (h1 : ∀ w ∈ L.filter vx_no, w.before args s = true)
    (hU : (Cond.isRef (.static Bundle.tN "UNASSIGNED_STACK" Bundle.steD)).before args s = true) (hN : (Cond.isRef (.static Bundle.tN "SUPPRESSED_SENTINEL" Bundle.listD)).before args s = true)
    (lU : (Cond.laysStatic Bundle.tN "UNASSIGNED_STACK" Bundle.steD).before args s = true) (lN : (Cond.laysStatic Bundle.tN "SUPPRESSED_SENTINEL" Bundle.listD).before args s = true) : ∀ w ∈ L, w.before args s = true := by
  intro w hw
  by_cases e1 : w = .isRef (.static Bundle.tN "UNASSIGNED_STACK" Bundle.steD)
  · rw [e1]; exact hU
  · by_cases e2 : w = .isRef (.static Bundle.tN "SUPPRESSED_SENTINEL" Bundle.listD)
    · rw [e2]; exact hN
    · by_cases e3 : w = .laysStatic Bundle.tN "UNASSIGNED_STACK" Bundle.steD
      · rw [e3]; exact lU
      · by_cases e4 : w = .laysStatic Bundle.tN "SUPPRESSED_SENTINEL" Bundle.listD
        · rw [e4]; exact lN
        · exact h1 w (List.mem_filter.mpr ⟨hw, by unfold vx_no; rw [decide_eq_true e1, decide_eq_true e2, decide_eq_true e3, decide_eq_true e4]; rfl⟩)
/-- where a static field lies, its class's statics cell in H -/
def vx_L (C n d : String) (A : Nat → Prop) (U : State) (H : Heap) : Prop := ∃ (c : ClassId) (k : Class) (i : Nat) (f : Field) (a : Nat) (cell : Cell), U.vm.findClass C = some c ∧ U.fieldFound? C n d = some (c, k, i, f) ∧ f.isStatic = true ∧ k.statics = some a ∧ H[a]? = some cell ∧ cell.vm.isStatics = true ∧ cell.cls = c ∧ f.slot < cell.slots.size ∧ k.staticTypes[f.slot]? = some f.type ∧ ¬ A a
theorem vx_L.moved {C n d : String} {A : Nat → Prop} {u U : State} {H : Heap} (hvm : u.vm.Alike U.vm) (h : vx_L C n d A u H) : vx_L C n d A U H := by
  obtain ⟨c, k, i, f, a, cell, h1, h2, h3, h4, h5, h6, h7, h8, h9, h10⟩ := h
  obtain ⟨k', hi', he⟩ := State.fieldFound?_setVm hvm h2
  exact ⟨c, k', i, f, a, cell, by rw [hvm.findClass]; exact h1, hi', h3, by rw [he]; exact h4, h5, h6, h7, h8, by rw [he]; exact h9, h10⟩
theorem vx_L.kept {C n d : String} {A : Nat → Prop} {U : State} {H H1 : Heap} (h : vx_L C n d A U H) (hq : ∀ a : Nat, a < H.size → ¬ A a → H1[a]? = H[a]?) : vx_L C n d A U H1 := by
  obtain ⟨c, k, i, f, a, cell, h1, h2, h3, h4, h5, h6, h7, h8, h9, h10⟩ := h
  exact ⟨c, k, i, f, a, cell, h1, h2, h3, h4, by rw [hq a (Array.getElem?_eq_some_iff.mp h5).1 h10]; exact h5, h6, h7, h8, h9, h10⟩
theorem vx_L.narrow {C n d : String} {A B : Nat → Prop} {U : State} {H : Heap} (h : vx_L C n d A U H) (hAB : ∀ q, B q → A q) : vx_L C n d B U H := by
  obtain ⟨c, k, i, f, a, cell, h1, h2, h3, h4, h5, h6, h7, h8, h9, h10⟩ := h
  exact ⟨c, k, i, f, a, cell, h1, h2, h3, h4, h5, h6, h7, h8, h9, fun z => h10 (hAB _ z)⟩
theorem vx_L.word {C n d : String} {A : Nat → Prop} {s : State} {args : Array Value} (h : vx_L C n d A s s.heap) : (Cond.laysStatic C n d).before args s = true := by
  obtain ⟨c, k, i, f, a, cell, h1, h2, h3, h4, h5, h6, h7, h8, h9, -⟩ := h
  show (Cond.laysStatic C n d).holds args s none s [] = true
  exact Cond.laysStatic_of h1 h2 h3 h4 h5 h6 h7 h8 h9
/-- .. and what it holds: null or some reference -/
def vx_Zq (C n d : String) (A : Nat → Prop) (U : State) (H : Heap) : Prop := va_Zq C n d A U H ∧ vx_L C n d A U H
theorem vx_Zq.moved {C n d : String} {A : Nat → Prop} {u U : State} {H : Heap} (hvm : u.vm.Alike U.vm) (h : vx_Zq C n d A u H) : vx_Zq C n d A U H := ⟨va_Zq.moved hvm h.1, vx_L.moved hvm h.2⟩
theorem vx_Zq.kept {C n d : String} {A : Nat → Prop} {U : State} {H H1 : Heap} (h : vx_Zq C n d A U H) (hq : ∀ a : Nat, a < H.size → ¬ A a → H1[a]? = H[a]?) : vx_Zq C n d A U H1 := ⟨va_Zq.kept h.1 hq, vx_L.kept h.2 hq⟩
theorem vx_Zq.narrow {C n d : String} {A B : Nat → Prop} {U : State} {H : Heap} (h : vx_Zq C n d A U H) (hAB : ∀ q, B q → A q) : vx_Zq C n d B U H := ⟨va_Zq.narrow h.1 hAB, vx_L.narrow h.2 hAB⟩
theorem vx_Zqof {args : Array Value} {s : State} {C n d : String} {A : Nat → Prop} (hl : (Cond.laysStatic C n d).before args s = true) (hini : (Cond.initialized C).before args s = true) (h : (Cond.isRef (.static C n d)).before args s = true) (hA : ∀ a : Nat, a < s.heap.size → ¬ A a) : vx_Zq C n d A s s.heap := by
  refine ⟨va_Zqof hl hini h hA, ?_⟩
  obtain ⟨c, k, i, f, a, cell, h1, h2, h3, h4, h5, h6, h7, h8, h9⟩ := Cond.laysStatic_spec hl
  exact ⟨c, k, i, f, a, cell, h1, h2, h3, h4, h5, h6, h7, h8, h9, hA a (Array.getElem?_eq_some_iff.mp h5).1⟩
theorem vx_isRef {C n d : String} {v : Value} {A : Nat → Prop} {s : State} {args : Array Value} (h : va_Z C n d v A s s.heap) (hv : v.isRef = true) : (Cond.isRef (.static C n d)).before args s = true := by
  obtain ⟨cf, kf, fi, f, a, cell, h1, h2, h3, h4, h5, h6, h7, -⟩ := h
  have he : (Term.static C n d).eval args s none [] s = some v := by
    simp [Term.eval, State.fieldNamed?, h1, h2, h4, h5, h6, h7]
  simp only [Cond.before, Cond.holds, Cond.value, he]
  cases v <;> simp_all [Value.isRef]
theorem vx_isRefq {C n d : String} {A : Nat → Prop} {s : State} {args : Array Value} (h : va_Zq C n d A s s.heap) : (Cond.isRef (.static C n d)).before args s = true := by
  rcases h with h | ⟨t, h⟩
  · exact vx_isRef h rfl
  · exact vx_isRef h rfl
/-- the same frame, seen from here: as if the method were called anew in this heap -/
theorem vx_rebase {T : State} (X : Stand p l e R s m args below meth c T locs cells slots) {R' : Room} (hf : R'.frames ≤ R.frames) (hl : R'.locals ≤ R.locals) (hc : cells + R'.cells ≤ R.cells) (hs : slots + R'.slots ≤ R.slots) :
    Stand p l e R' ((T.setVm s.vm).setFrames (.invoking m args :: below)) m args below meth c T [] 0 0 := by
  have htop : (T.setVm s.vm).topJava?.isSome := X.here.top
  have hF : ((T.setVm s.vm).setFrames (.invoking m args :: below)).frames = .invoking m args :: below := State.frames_setFrames _ (State.cur_lt_of_top htop)
  obtain ⟨g₀, hg0⟩ := Option.isSome_iff_exists.mp htop
  obtain ⟨r, hr⟩ := State.topJava?_eq_some.mp hg0
  have hl9 : e.platform.stackLimits (T.setVm s.vm).me = e.platform.stackLimits s.me := X.limits
  have hb9 : (T.setVm s.vm).me.stackBytes = s.me.stackBytes := X.bytes
  refine ⟨X.admits, X.cas, X.clock, hF, ?_, X.hears, X.method, X.code, X.here, X.tail, X.warmed, ?_, ?_, ?_⟩
  · have h := X.room
    have hU : ((T.setVm s.vm).setFrames (.invoking m args :: below)).localsInUse = s.localsInUse := by
      rw [State.localsInUse_invoking hF (meth := meth) (c := c) X.method X.code, State.localsInUse_invoking X.frames X.method X.code]
    simp only [State.hasRoom, Bool.and_eq_true, decide_eq_true_eq] at h ⊢
    obtain ⟨⟨⟨⟨h1, h2, h3, h4, h5, h6⟩, h7⟩, h8⟩, h9⟩ := h
    rw [X.frames, List.length_cons] at h2 h3
    have q1 := X.heapSize
    have q2 := X.used
    simp only [hF, hU, List.length_cons, State.stackLimits_setFrames, State.stackBytes_setFrames, hl9, hb9]
    refine ⟨⟨⟨⟨by omega, by omega, by omega, by omega, by omega, h6⟩, ?_⟩, ?_⟩, X.book⟩
    · show T.heap.size + R'.cells ≤ e.platform.maxCells
      omega
    · show T.slotsUsed + R'.slots ≤ e.platform.maxSlots
      omega
  · rw [State.stackLimits_setFrames]; rfl
  · rw [State.stackBytes_setFrames]; rfl
  · refine ⟨?_, Nat.le_refl _, Nat.le_refl _, ?_, ?_, fun a c9 h9 => ⟨c9, h9, rfl, rfl, fun _ _ => rfl⟩⟩
    · obtain ⟨t, ht, -⟩ := State.frames_cons hr
      show T.setVm s.vm = { ((T.setVm s.vm).setFrames (.invoking m args :: below)).setFrames (T.setVm s.vm).frames with heap := T.heap, slotsUsed := T.slotsUsed }
      rw [State.setFrames_setFrames, State.setFrames_self ht]
      rfl
    · show T.slotsUsed = T.slotsUsed + ((T.heap.toList.drop T.heap.size).map (·.slots.size)).sum
      rw [List.drop_eq_nil_of_le (Nat.le_of_eq Array.length_toList)]
      rfl
    · show ((T.heap.toList.drop T.heap.size).map (·.slots.size)).sum ≤ 0
      rw [List.drop_eq_nil_of_le (Nat.le_of_eq Array.length_toList)]
      exact Nat.le_refl _
/-- 'throw new E()': new; dup; invokespecial; athrow -/
theorem vx_throw0 {cc : ByteArray} {pc : Nat} (hexec : p.tables.exec = Jvm.exec) (hb : c.code = cc) (hl : l.stackTraces = false) {own cls : String} {names : List String} {ik ic mc ms : Nat} {A : Nat → Prop}
    (hown : s.vm.findClass own = some m.cls) (hcls : Bundle.fit cls = true) (hnames : ∀ n ∈ names, Bundle.fit n = true)
    (hk : (Cond.classLink own ik cls).before args s = true) (hini : (Cond.initialized cls).before args s = true) (hat : ∀ w ∈ vx_at0 own ic cls names, w.before args s = true)
    (hgood : ∀ w ∈ Cond.classLink own ik cls :: Cond.initialized cls :: vx_at0 own ic cls names, vx_ot w = true)
    (hU : vx_Zq Bundle.tN "UNASSIGNED_STACK" Bundle.steD A s s.heap) (hN : vx_Zq Bundle.tN "SUPPRESSED_SENTINEL" Bundle.listD A s s.heap) (hS : va_S A s.heap H locs) (hsize : ls.size = c.maxLocals)
    (d0 : decode cc pc = .ok (.new ik, 3)) (d3 : decode cc (pc + 3) = .ok (.dup, 1)) (d4 : decode cc (pc + 4) = .ok (.invokespecial ic, 3)) (d7 : decode cc (pc + 7) = .ok (.athrow, 1))
    (hout : ∀ x ∈ c.exceptionTable.toList, covers x (pc + 7) = false)
    (hRframes : names.length + 3 < R.frames) (hRlocals : (rest.map fun v => v.category).sum + (13 * (names.length + 1) + 42) ≤ R.locals) (hRcells : cells + 1 ≤ R.cells) (hRslots : slots + 6 ≤ R.slots) (hlocks : meth.locks = false)
    (hx : ∀ t : State, s.vm.Alike t.vm → H.size ≤ t.heap.size → (∀ q : Nat, q < H.size → t.heap[q]? = H[q]?) → XC cls s t)
    (hf : ∀ z ∈ locs, free z.base) (hc : cells + 1 ≤ mc) (hs : slots + 6 ≤ ms) :
    W p l e R s m args below meth c H locs cells slots (vx_MQ below Qc XC args s mc ms free) (F0 m pc ls rest) := by
  intro T hT X
  have htr : e.platform.stackTraces = false := (show e.platform.stackTraces = l.stackTraces by rw [X.admits.platform]).trans hl
  have Y := vx_rebase X (R' := { frames := R.frames, locals := R.locals, cells := 1, slots := 6 }) (Nat.le_refl _) (Nat.le_refl _) hRcells hRslots
  obtain ⟨s', hA⟩ : ∃ z, z = (T.setVm s.vm).setFrames (.invoking m args :: below) := ⟨_, rfl⟩
  rw [← hA] at Y
  have hvm : s'.vm = s.vm := by rw [hA]; rfl
  have hhp : s'.heap = H := by rw [hA]; exact hT
  have hW0 : s.WarmedH s'.vm := by rw [hvm]; exact State.WarmedH.refl s
  have hat' : ∀ w ∈ vx_at0 own ic cls names, w.before args s' = true := fun w hw => vx_ot_at hW0 hvm.symm (hgood w (List.mem_cons_of_mem _ (List.mem_cons_of_mem _ hw))) (hat w hw)
  have hk' : (Cond.classLink own ik cls).before args s' = true := vx_ot_at hW0 hvm.symm (hgood _ List.mem_cons_self) hk
  have hini' : (Cond.initialized cls).before args s' = true := vx_ot_at hW0 hvm.symm (hgood _ (List.mem_cons_of_mem _ List.mem_cons_self)) hini
  have hU' : vx_Zq Bundle.tN "UNASSIGNED_STACK" Bundle.steD A s' s'.heap := by rw [hhp]; exact vx_Zq.moved hW0.alike (hU.kept hS.2.1)
  have hN' : vx_Zq Bundle.tN "SUPPRESSED_SENTINEL" Bundle.listD A s' s'.heap := by rw [hhp]; exact vx_Zq.moved hW0.alike (hN.kept hS.2.1)
  have h : ∀ w ∈ Bundle.ownAtoms0 own ic cls names, w.before args s' = true := vx_own hat' (vx_isRefq hU'.1) (vx_isRefq hN'.1) hU'.2.word hN'.2.word
  have hown' : s'.vm.findClass own = some m.cls := by rw [hvm]; exact hown
  have hins : (Cond.instantiable cls 6).before args s' = true := h _ (by simp [Bundle.ownAtoms0])
  obtain ⟨vm₁, cX, kX, hfX, hkX, -, -, X₁, st1⟩ := Y.newCold hexec (own := own) (C := cls) (index := ik) (n := 6) hown' hk' hins hini'
    (g := F0 m pc ls rest) rfl (by rw [hb]; exact d0) (Nat.le_refl _) (Nat.le_refl _)
  generalize hT1 : (T.setVm vm₁).pushCell { cls := cX, slots := kX.instanceTypes.map defaultValue, vm := .none } = T1 at X₁ st1
  have hcat : (Value.ref T.heap.size).category = 1 := rfl
  have hcellA : T1.heap[T.heap.size]? = some (freshCell cX kX) := by rw [← hT1]; exact State.heap_pushCell_size _ _
  have d3' : decode c.code (pc + 3) = .ok (.dup, 1) := by rw [hb]; exact d3
  obtain ⟨U, hsteps, hrun, hend, hW, hsame, ce, hce, hO⟩ := X₁.ctorThrow0 hexec htr (own := own) (cls := cls) (names := names) (ic := ic) hown' hcls hnames h (fun x hx => nomatch hx) hfX hkX hcellA (by rw [hhp, hT]; exact Nat.le_refl _)
    (g := { method := m, pc := pc + 4, locals := ls, stack := .ref T.heap.size :: .ref T.heap.size :: rest, locked := none }) rfl hsize rfl rfl (rest := rest) rfl
    (by rw [hb]; exact d4) (by rw [hb]; exact d7) hout hRframes (by simp only [List.map_cons, List.sum_cons, hcat]; omega) hlocks
  obtain ⟨f1, f2⟩ := vx_frame hsame
  rw [hhp] at f1 f2
  have hWs : s.WarmedH U.vm := State.WarmedH.trans hW0 hW
  have hcl : s.vm.findClass cls = some ce.cls := by
    have h9 := hO.cls
    rw [hvm] at h9
    exact h9
  have hall : s.sameButNew ({ U with vm := s.vm } : State) locs mc ms := by
    subst hA
    obtain ⟨e1, e2⟩ := hsame
    rw [State.setFrames_setFrames] at e1
    have h2 : (T.setVm s.vm).sameButNew ({ U with vm := s.vm } : State) [] (0 + 1) (0 + 6) := ⟨e1, e2⟩
    have h3 := X.same.trans h2
    rw [List.append_nil] at h3
    exact h3.mono hc hs
  refine ⟨U, ?_, .threw T.heap.size, hrun, hend, Or.inr ⟨T.heap.size, rfl, cls, ce, locs, hx U hWs.alike f1 (fun q hq => f2 q hq (fun z hz => nomatch hz)), hce, hO.vm, hcl, hWs, hall, hf⟩⟩
  refine st1 _ ?_
  show Steps p.tables e below (T1.setTop { method := m, pc := pc + 3, locals := ls, stack := .ref T.heap.size :: rest, locked := none }) _
  jvm_step X₁.here [X₁.here.top, hexec, d3', Value.category]
  exact hsteps
/-- 'throw new E("text")': new; dup; ldc; invokespecial; athrow -/
theorem vx_throwS {cc : ByteArray} {pc : Nat} (hexec : p.tables.exec = Jvm.exec) (hb : c.code = cc) (hl : l.stackTraces = false) {own cls text : String} {names : List String} {ik is ic mc ms sa : Nat} {A : Nat → Prop}
    (hown : s.vm.findClass own = some m.cls) (hcls : Bundle.fit cls = true) (hnames : ∀ n ∈ names, Bundle.fit n = true)
    (hk : (Cond.classLink own ik cls).before args s = true) (hini : (Cond.initialized cls).before args s = true) (hstr : vk_R own is text sa s) (hat : ∀ w ∈ vx_atS own ic cls names, w.before args s = true)
    (hgood : ∀ w ∈ Cond.classLink own ik cls :: Cond.initialized cls :: vx_atS own ic cls names, vx_ot w = true)
    (hU : vx_Zq Bundle.tN "UNASSIGNED_STACK" Bundle.steD A s s.heap) (hN : vx_Zq Bundle.tN "SUPPRESSED_SENTINEL" Bundle.listD A s s.heap) (hS : va_S A s.heap H locs) (hsize : ls.size = c.maxLocals)
    (d0 : decode cc pc = .ok (.new ik, 3)) (d3 : decode cc (pc + 3) = .ok (.dup, 1)) (d4 : decode cc (pc + 4) = .ok (.ldc is, 2)) (d6 : decode cc (pc + 6) = .ok (.invokespecial ic, 3)) (d9 : decode cc (pc + 9) = .ok (.athrow, 1))
    (hout : ∀ x ∈ c.exceptionTable.toList, covers x (pc + 9) = false)
    (hRframes : names.length + 3 < R.frames) (hRlocals : (rest.map fun v => v.category).sum + (13 * (names.length + 1) + 43) ≤ R.locals) (hRcells : cells + 1 ≤ R.cells) (hRslots : slots + 6 ≤ R.slots) (hlocks : meth.locks = false)
    (hx : ∀ t : State, s.vm.Alike t.vm → H.size ≤ t.heap.size → (∀ q : Nat, q < H.size → t.heap[q]? = H[q]?) → XC cls s t)
    (hf : ∀ z ∈ locs, free z.base) (hc : cells + 1 ≤ mc) (hs : slots + 6 ≤ ms) :
    W p l e R s m args below meth c H locs cells slots (vx_MQ below Qc XC args s mc ms free) (F0 m pc ls rest) := by
  intro T hT X
  have htr : e.platform.stackTraces = false := (show e.platform.stackTraces = l.stackTraces by rw [X.admits.platform]).trans hl
  have Y := vx_rebase X (R' := { frames := R.frames, locals := R.locals, cells := 1, slots := 6 }) (Nat.le_refl _) (Nat.le_refl _) hRcells hRslots
  obtain ⟨s', hA⟩ : ∃ z, z = (T.setVm s.vm).setFrames (.invoking m args :: below) := ⟨_, rfl⟩
  rw [← hA] at Y
  have hvm : s'.vm = s.vm := by rw [hA]; rfl
  have hhp : s'.heap = H := by rw [hA]; exact hT
  have hW0 : s.WarmedH s'.vm := by rw [hvm]; exact State.WarmedH.refl s
  have hat' : ∀ w ∈ vx_atS own ic cls names, w.before args s' = true := fun w hw => vx_ot_at hW0 hvm.symm (hgood w (List.mem_cons_of_mem _ (List.mem_cons_of_mem _ hw))) (hat w hw)
  have hk' : (Cond.classLink own ik cls).before args s' = true := vx_ot_at hW0 hvm.symm (hgood _ List.mem_cons_self) hk
  have hini' : (Cond.initialized cls).before args s' = true := vx_ot_at hW0 hvm.symm (hgood _ (List.mem_cons_of_mem _ List.mem_cons_self)) hini
  have hU' : vx_Zq Bundle.tN "UNASSIGNED_STACK" Bundle.steD A s' s'.heap := by rw [hhp]; exact vx_Zq.moved hW0.alike (hU.kept hS.2.1)
  have hN' : vx_Zq Bundle.tN "SUPPRESSED_SENTINEL" Bundle.listD A s' s'.heap := by rw [hhp]; exact vx_Zq.moved hW0.alike (hN.kept hS.2.1)
  have h : ∀ w ∈ Bundle.ownAtoms own ic cls names, w.before args s' = true := vx_own hat' (vx_isRefq hU'.1) (vx_isRefq hN'.1) hU'.2.word hN'.2.word
  have hown' : s'.vm.findClass own = some m.cls := by rw [hvm]; exact hown
  have hins : (Cond.instantiable cls 6).before args s' = true := h _ (by simp [Bundle.ownAtoms])
  obtain ⟨vm₁, cX, kX, hfX, hkX, -, -, X₁, st1⟩ := Y.newCold hexec (own := own) (C := cls) (index := ik) (n := 6) hown' hk' hins hini'
    (g := F0 m pc ls rest) rfl (by rw [hb]; exact d0) (Nat.le_refl _) (Nat.le_refl _)
  generalize hT1 : (T.setVm vm₁).pushCell { cls := cX, slots := kX.instanceTypes.map defaultValue, vm := .none } = T1 at X₁ st1
  have hcat : (Value.ref T.heap.size).category = 1 := rfl
  have hcellA : T1.heap[T.heap.size]? = some (freshCell cX kX) := by rw [← hT1]; exact State.heap_pushCell_size _ _
  have d3' : decode c.code (pc + 3) = .ok (.dup, 1) := by rw [hb]; exact d3
  have d4' : decode c.code (pc + 4) = .ok (.ldc is, 2) := by rw [hb]; exact d4
  have hstr' : vk_R own is text sa s' := vk_R.warm hW0 hstr
  obtain ⟨U, hsteps, hrun, hend, hW, hsame, ce, hce, hO⟩ := X₁.ctorThrowS hexec htr (own := own) (cls := cls) (names := names) (ic := ic) hown' hcls hnames h (fun x hx => nomatch hx) hfX hkX hcellA (by rw [hhp, hT]; exact Nat.le_refl _) (msg := .ref sa) rfl
    (g := { method := m, pc := pc + 6, locals := ls, stack := .ref sa :: .ref T.heap.size :: .ref T.heap.size :: rest, locked := none }) rfl hsize rfl rfl (rest := rest) rfl
    (by rw [hb]; exact d6) (by rw [hb]; exact d9) hout hRframes (by simp only [List.map_cons, List.sum_cons, hcat]; omega) hlocks
  obtain ⟨f1, f2⟩ := vx_frame hsame
  rw [hhp] at f1 f2
  have hWs : s.WarmedH U.vm := State.WarmedH.trans hW0 hW
  have hcl : s.vm.findClass cls = some ce.cls := by
    have h9 := hO.cls
    rw [hvm] at h9
    exact h9
  have hall : s.sameButNew ({ U with vm := s.vm } : State) locs mc ms := by
    subst hA
    obtain ⟨e1, e2⟩ := hsame
    rw [State.setFrames_setFrames] at e1
    have h2 : (T.setVm s.vm).sameButNew ({ U with vm := s.vm } : State) [] (0 + 1) (0 + 6) := ⟨e1, e2⟩
    have h3 := X.same.trans h2
    rw [List.append_nil] at h3
    exact h3.mono hc hs
  refine ⟨U, ?_, .threw T.heap.size, hrun, hend, Or.inr ⟨T.heap.size, rfl, cls, ce, locs, hx U hWs.alike f1 (fun q hq => f2 q hq (fun z hz => nomatch hz)), hce, hO.vm, hcl, hWs, hall, hf⟩⟩
  refine st1 _ ?_
  show Steps p.tables e below (T1.setTop { method := m, pc := pc + 3, locals := ls, stack := .ref T.heap.size :: rest, locked := none }) _
  jvm_step X₁.here [X₁.here.top, hexec, d3', Value.category]
  exact X₁.ldcString hexec (own := own) (text := text) (index := is) (a := sa) hown' hstr'.1 hstr'.2
    (g := { method := m, pc := pc + 4, locals := ls, stack := .ref T.heap.size :: .ref T.heap.size :: rest, locked := none }) rfl d4' _ hsteps
/-- 'throw new E("text")', the text by a wide index -/
theorem vx_throwSW {cc : ByteArray} {pc : Nat} (hexec : p.tables.exec = Jvm.exec) (hb : c.code = cc) (hl : l.stackTraces = false) {own cls text : String} {names : List String} {ik is ic mc ms sa : Nat} {A : Nat → Prop}
    (hown : s.vm.findClass own = some m.cls) (hcls : Bundle.fit cls = true) (hnames : ∀ n ∈ names, Bundle.fit n = true)
    (hk : (Cond.classLink own ik cls).before args s = true) (hini : (Cond.initialized cls).before args s = true) (hstr : vk_R own is text sa s) (hat : ∀ w ∈ vx_atS own ic cls names, w.before args s = true)
    (hgood : ∀ w ∈ Cond.classLink own ik cls :: Cond.initialized cls :: vx_atS own ic cls names, vx_ot w = true)
    (hU : vx_Zq Bundle.tN "UNASSIGNED_STACK" Bundle.steD A s s.heap) (hN : vx_Zq Bundle.tN "SUPPRESSED_SENTINEL" Bundle.listD A s s.heap) (hS : va_S A s.heap H locs) (hsize : ls.size = c.maxLocals)
    (d0 : decode cc pc = .ok (.new ik, 3)) (d3 : decode cc (pc + 3) = .ok (.dup, 1)) (d4 : decode cc (pc + 4) = .ok (.ldc_w is, 3)) (d7 : decode cc (pc + 7) = .ok (.invokespecial ic, 3)) (d10 : decode cc (pc + 10) = .ok (.athrow, 1))
    (hout : ∀ x ∈ c.exceptionTable.toList, covers x (pc + 10) = false)
    (hRframes : names.length + 3 < R.frames) (hRlocals : (rest.map fun v => v.category).sum + (13 * (names.length + 1) + 43) ≤ R.locals) (hRcells : cells + 1 ≤ R.cells) (hRslots : slots + 6 ≤ R.slots) (hlocks : meth.locks = false)
    (hx : ∀ t : State, s.vm.Alike t.vm → H.size ≤ t.heap.size → (∀ q : Nat, q < H.size → t.heap[q]? = H[q]?) → XC cls s t)
    (hf : ∀ z ∈ locs, free z.base) (hc : cells + 1 ≤ mc) (hs : slots + 6 ≤ ms) :
    W p l e R s m args below meth c H locs cells slots (vx_MQ below Qc XC args s mc ms free) (F0 m pc ls rest) := by
  intro T hT X
  have htr : e.platform.stackTraces = false := (show e.platform.stackTraces = l.stackTraces by rw [X.admits.platform]).trans hl
  have Y := vx_rebase X (R' := { frames := R.frames, locals := R.locals, cells := 1, slots := 6 }) (Nat.le_refl _) (Nat.le_refl _) hRcells hRslots
  obtain ⟨s', hA⟩ : ∃ z, z = (T.setVm s.vm).setFrames (.invoking m args :: below) := ⟨_, rfl⟩
  rw [← hA] at Y
  have hvm : s'.vm = s.vm := by rw [hA]; rfl
  have hhp : s'.heap = H := by rw [hA]; exact hT
  have hW0 : s.WarmedH s'.vm := by rw [hvm]; exact State.WarmedH.refl s
  have hat' : ∀ w ∈ vx_atS own ic cls names, w.before args s' = true := fun w hw => vx_ot_at hW0 hvm.symm (hgood w (List.mem_cons_of_mem _ (List.mem_cons_of_mem _ hw))) (hat w hw)
  have hk' : (Cond.classLink own ik cls).before args s' = true := vx_ot_at hW0 hvm.symm (hgood _ List.mem_cons_self) hk
  have hini' : (Cond.initialized cls).before args s' = true := vx_ot_at hW0 hvm.symm (hgood _ (List.mem_cons_of_mem _ List.mem_cons_self)) hini
  have hU' : vx_Zq Bundle.tN "UNASSIGNED_STACK" Bundle.steD A s' s'.heap := by rw [hhp]; exact vx_Zq.moved hW0.alike (hU.kept hS.2.1)
  have hN' : vx_Zq Bundle.tN "SUPPRESSED_SENTINEL" Bundle.listD A s' s'.heap := by rw [hhp]; exact vx_Zq.moved hW0.alike (hN.kept hS.2.1)
  have h : ∀ w ∈ Bundle.ownAtoms own ic cls names, w.before args s' = true := vx_own hat' (vx_isRefq hU'.1) (vx_isRefq hN'.1) hU'.2.word hN'.2.word
  have hown' : s'.vm.findClass own = some m.cls := by rw [hvm]; exact hown
  have hins : (Cond.instantiable cls 6).before args s' = true := h _ (by simp [Bundle.ownAtoms])
  obtain ⟨vm₁, cX, kX, hfX, hkX, -, -, X₁, st1⟩ := Y.newCold hexec (own := own) (C := cls) (index := ik) (n := 6) hown' hk' hins hini'
    (g := F0 m pc ls rest) rfl (by rw [hb]; exact d0) (Nat.le_refl _) (Nat.le_refl _)
  generalize hT1 : (T.setVm vm₁).pushCell { cls := cX, slots := kX.instanceTypes.map defaultValue, vm := .none } = T1 at X₁ st1
  have hcat : (Value.ref T.heap.size).category = 1 := rfl
  have hcellA : T1.heap[T.heap.size]? = some (freshCell cX kX) := by rw [← hT1]; exact State.heap_pushCell_size _ _
  have d3' : decode c.code (pc + 3) = .ok (.dup, 1) := by rw [hb]; exact d3
  have d4' : decode c.code (pc + 4) = .ok (.ldc_w is, 3) := by rw [hb]; exact d4
  have hstr' : vk_R own is text sa s' := vk_R.warm hW0 hstr
  obtain ⟨U, hsteps, hrun, hend, hW, hsame, ce, hce, hO⟩ := X₁.ctorThrowS hexec htr (own := own) (cls := cls) (names := names) (ic := ic) hown' hcls hnames h (fun x hx => nomatch hx) hfX hkX hcellA (by rw [hhp, hT]; exact Nat.le_refl _) (msg := .ref sa) rfl
    (g := { method := m, pc := pc + 7, locals := ls, stack := .ref sa :: .ref T.heap.size :: .ref T.heap.size :: rest, locked := none }) rfl hsize rfl rfl (rest := rest) rfl
    (by rw [hb]; exact d7) (by rw [hb]; exact d10) hout hRframes (by simp only [List.map_cons, List.sum_cons, hcat]; omega) hlocks
  obtain ⟨f1, f2⟩ := vx_frame hsame
  rw [hhp] at f1 f2
  have hWs : s.WarmedH U.vm := State.WarmedH.trans hW0 hW
  have hcl : s.vm.findClass cls = some ce.cls := by
    have h9 := hO.cls
    rw [hvm] at h9
    exact h9
  have hall : s.sameButNew ({ U with vm := s.vm } : State) locs mc ms := by
    subst hA
    obtain ⟨e1, e2⟩ := hsame
    rw [State.setFrames_setFrames] at e1
    have h2 : (T.setVm s.vm).sameButNew ({ U with vm := s.vm } : State) [] (0 + 1) (0 + 6) := ⟨e1, e2⟩
    have h3 := X.same.trans h2
    rw [List.append_nil] at h3
    exact h3.mono hc hs
  refine ⟨U, ?_, .threw T.heap.size, hrun, hend, Or.inr ⟨T.heap.size, rfl, cls, ce, locs, hx U hWs.alike f1 (fun q hq => f2 q hq (fun z hz => nomatch hz)), hce, hO.vm, hcl, hWs, hall, hf⟩⟩
  refine st1 _ ?_
  show Steps p.tables e below (T1.setTop { method := m, pc := pc + 3, locals := ls, stack := .ref T.heap.size :: rest, locked := none }) _
  jvm_step X₁.here [X₁.here.top, hexec, d3', Value.category]
  exact X₁.ldcStringW hexec (own := own) (text := text) (index := is) (a := sa) hown' hstr'.1 hstr'.2
    (g := { method := m, pc := pc + 4, locals := ls, stack := .ref T.heap.size :: .ref T.heap.size :: rest, locked := none }) rfl d4' _ hsteps
end Ends
section Bodies
variable {l : Launch}
theorem vx_ofW {y : MethodName} {ws ws' : List Cond} {rm : Room} {Pc : Array Value → State → Prop} {Qc : Array Value → State → Outcome → State → Prop} {XC : String → State → State → Prop} {mc ms : Nat} {free : Addr → Prop} {cc : ByteArray} {maxL : Nat} {ret : Option FieldType}
    (hy : plainName y.cls = true) (hw : ws = Cond.code y cc maxL ret :: ws')
    (body : ∀ p e s m args below meth c s₁, BodyLoose p l y (headSpec ws rm) cc maxL ret e s m args below meth c s₁ → c.maxLocals = maxL → (∀ x ∈ c.exceptionTable.toList, False) → Pc args s →
      W p l e (headSpec ws rm).room s m args below meth c s.heap [] 0 0 (vx_MQ below Qc XC args s mc ms free) (entryFrame m args maxL)) : vx_Met l y ws rm Pc Qc XC mc ms free := by
  refine MetFree.of_bodyS (code := cc) (maxLocals := maxL) (ret := ret) hy ?_ ?_
  · intro args s m h hn
    obtain ⟨meth, c, h1, h2, h3, h4, h5, h6, -, -⟩ := Cond.code_spec hn (atoms_spec (ws := ws) h _ (by rw [hw]; exact List.mem_cons_self))
    exact ⟨meth, c, h1, h2, h3, h4, h5, h6⟩
  · intro p e s m args below meth c s₁ B hml hP _
    have hh0 : s₁.heap = s.heap := by rw [B.state]; rfl
    have ht : ∀ x ∈ c.exceptionTable.toList, False := by
      obtain ⟨meth9, c9, h1, h2, -, -, -, -, h7, -⟩ := Cond.code_spec B.named (atoms_spec (ws := ws) B.pre _ (by rw [hw]; exact List.mem_cons_self))
      cases Option.some.inj (h1.symm.trans B.method)
      cases Option.some.inj (h2.symm.trans (Stand.of_body B).code)
      intro x hx
      rw [Array.isEmpty_iff.mp h7] at hx
      cases hx
    obtain ⟨t, a1, o, b1, b2, b3⟩ := body p e s m args below meth c s₁ B hml ht hP s₁ hh0 (Stand.of_body B)
    exact ⟨t, o, a1, b1, b2, b3⟩
/-- the table of a body with handlers -/
theorem vx_table {p : Program} {x y : MethodName} {S : Spec} {cc bytes : ByteArray} {maxL maxL' : Nat} {ret ret' : Option FieldType} {e : Env} {s s₁ : State} {m : MethodId} {args : Array Value} {below : List Frame} {meth : Method} {c : Code} {hh : List (Nat × Nat × Nat × Nat)}
    (B : BodyLoose p l y S cc maxL ret e s m args below meth c s₁) (h : (Cond.codeWith y bytes maxL' ret' hh).before args s = true) : c.exceptionTable.toList = tableOf hh := by
  obtain ⟨m9, meth9, c9, hn9, h1, h2, -, -, h6, -⟩ := Cond.codeWith_spec h
  cases Option.some.inj (hn9.symm.trans B.named)
  cases Option.some.inj (h1.symm.trans B.method)
  cases Option.some.inj (h2.symm.trans (Stand.of_body B).code)
  rw [← h6, table_eq]
end Bodies
end VXA
/-! ===== END ===== -/
/-! ===== BEGIN a static call of a method with an exception table ===== -/
section VXS
variable {p : Program} {l : Launch} {e : Env} {R : Room} {s : State} {m : MethodId} {args : Array Value} {below : List Frame} {meth : Method} {c : Code} {T : State} {H : Heap} {locs : List Loc} {cells slots : Nat}
abbrev vx_CSW (R : Room) (s : State) (args : Array Value) (own : String) (index : Nat) (y : MethodName) (bytes : ByteArray) (maxL : Nat) (ret : Option FieldType) (hh : List (Nat × Nat × Nat × Nat)) (ws : List Cond) (rm : Room) (mc ms n : Nat) : Prop :=
  (rm.cells = mc ∧ rm.slots = ms ∧ rm.frames + 1 ≤ R.frames ∧ 8 + (maxL + 11) + rm.locals ≤ R.locals ∧ (∀ w ∈ ws, ∀ (a' : Array Value) (U : State), s.WarmedH U.vm → w.before a' U = true) ∧ Cond.codeWith y bytes maxL ret hh ∈ ws) ∧
  (Cond.codeWith y bytes maxL ret hh).before args s = true ∧ (Cond.initialized y.cls).before args s = true ∧ (y.cls ≠ "java/lang/invoke/MethodHandle" ∧ y.cls ≠ "java/lang/invoke/VarHandle") ∧
  (∀ sig, parseMethodDescriptor y.desc = some sig → n = sig.parameters.length) ∧ (Cond.methodLink own index y).before args s = true ∧ (Cond.static y).before args s = true
theorem vx_cwSW {own : String} {index maxL mc ms : Nat} {y : MethodName} {bytes : ByteArray} {ret : Option FieldType} {hh : List (Nat × Nat × Nat × Nat)} {Ts ws ws' : List Cond} {rm : Room} (n : Nat) (ht : ∀ w ∈ Ts, w.before args s = true) (hT : GoodIn Ts (va_wsS own index y ws)) (hw : ws = Cond.codeWith y bytes maxL ret hh :: ws') (hrc : rm.cells = mc) (hrs : rm.slots = ms)
    (hd : y.cls ≠ "java/lang/invoke/MethodHandle" ∧ y.cls ≠ "java/lang/invoke/VarHandle" ∧ (parseMethodDescriptor y.desc).map (fun d => d.parameters.length) = some n) (hR : rm.frames + 1 ≤ R.frames ∧ 8 + (maxL + 11) + rm.locals ≤ R.locals) :
    vx_CSW R s args own index y bytes maxL ret hh ws rm mc ms n := by
  have ok : ∀ w ∈ va_wsS own index y ws, w.before args s = true := fun w h => ht w (hT w h).1
  have hG : GoodIn Ts ws := fun w h => hT w (by unfold va_wsS; exact List.mem_append_right _ h)
  have hc : Cond.codeWith y bytes maxL ret hh ∈ ws := by rw [hw]; exact List.mem_cons_self
  refine ⟨⟨hrc, hrs, hR.1, hR.2, pay_in ht hG, hc⟩, ht _ (hG _ hc).1, ok _ (by simp [va_wsS]), ⟨hd.1, hd.2.1⟩, fun sig h => ?_, ok _ (by simp [va_wsS]), ok _ (by simp [va_wsS])⟩
  have h2 := hd.2.2
  rw [h] at h2
  exact (Option.some.inj h2).symm
theorem vx_callSW (X : Stand p l e R s m args below meth c T locs cells slots) (hexec : p.tables.exec = Jvm.exec) {own : String} {index : Nat} {y : MethodName} {bytes : ByteArray} {maxL : Nat} {ret : Option FieldType} {hh : List (Nat × Nat × Nat × Nat)}
    (hown : s.vm.findClass own = some m.cls) (hlink : (Cond.methodLink own index y).before args s = true) (hstat : (Cond.static y).before args s = true) (hinit : (Cond.initialized y.cls).before args s = true)
    (hcode : (Cond.codeWith y bytes maxL ret hh).before args s = true) (hy : y.cls ≠ "java/lang/invoke/MethodHandle" ∧ y.cls ≠ "java/lang/invoke/VarHandle")
    {W9 : Nat} {Pre : Pt → Array Value → Prop} {Post : Pt → Array Value → Option Value → Pt → Prop} (hK : Back l R p e below s args y 3 W9 Pre Post)
    {g : JFrame} (hg : g.method = m) (hsize : g.locals.size = c.maxLocals) {argsL rest : List Value} (hlen : ∀ sig, parseMethodDescriptor y.desc = some sig → argsL.length = sig.parameters.length)
    (hstack : g.stack = argsL.reverse ++ rest) (hW : 2 * g.monitorRoom + (rest.map fun v => v.category).sum ≤ W9) (hdg : decode c.code g.pc = .ok (.invokestatic index, 3))
    (hpre : ∀ vm₁, s.WarmedH vm₁ → Pre ⟨T.setVm vm₁, locs, cells, slots⟩ argsL.toArray) :
    ∃ (v : Option Value) (vm₁ : Vm) (B : Pt), s.WarmedH vm₁ ∧ Stand p l e R s m args below meth c B.U B.locs B.cells B.slots ∧ Post ⟨T.setVm vm₁, locs, cells, slots⟩ argsL.toArray v B ∧
      ∀ target, Steps p.tables e below (B.U.setTop { g with pc := g.pc + 3, stack := v.toList ++ rest }) target → Steps p.tables e below (T.setTop g) target := by
  obtain ⟨mk, methM, cM, hnamed, hmethM, -, -, -, -, -, -, hsigM⟩ := Cond.codeWith_spec hcode
  have hstatic : methM.isStatic = true := Cond.static_spec hnamed hmethM hstat
  obtain ⟨kP, hkP, -⟩ := className_of_methodNamed hnamed
  have hinitP : kP.init = .initialized := Cond.initialized_spec (findClass_of_methodNamed hnamed) hkP hinit
  obtain ⟨vm₁, X₁, hstep₁⟩ := X.invokestatic hexec hown hlink hnamed hmethM hstatic hkP hinitP hy (g := g) hg (argsL := argsL) (rest := rest) (hlen _ hsigM) hstack hdg
  obtain ⟨v, B, X', hpost, hsteps⟩ := hK m meth c ⟨T.setVm vm₁, locs, cells, slots⟩ { g with stack := rest } (.invokestatic index) mk argsL.toArray X₁ hg hsize hdg hW (X₁.named hnamed) (hpre vm₁ X₁.warmed)
  exact ⟨v, vm₁, B, X₁.warmed, X', hpost, fun target h => hstep₁ _ fun acts => by rw [doInvoke_state]; exact hsteps.trans h⟩
theorem vx_runSW {y : MethodName} {bytes cc : ByteArray} {maxL nL mc ms n index : Nat} {ret : Option FieldType} {hh : List (Nat × Nat × Nat × Nat)} {ws : List Cond} {rm : Room} {Pc : Array Value → State → Prop} {Qc : Array Value → State → Outcome → State → Prop} {free : Addr → Prop} {Ts : List Cond} {own : String} {As rest : List Value} {g : JFrame}
    (S : CallFix p m c cc nL s args Ts own) (hM : Met l y ws rm Pc Qc mc ms free) (cw : vx_CSW R s args own index y bytes maxL ret hh ws rm mc ms n) (hp : PreS s H Pc As)
    (hg : g.method = m) (hn : As.length = n) (hsize : g.locals.size = nL) (hstack : g.stack = As.reverse ++ rest) (hW : 2 * g.monitorRoom + (rest.map fun v => v.category).sum ≤ 8) (hdg : decode cc g.pc = .ok (.invokestatic index, 3)) (hf : cells + mc ≤ R.cells ∧ slots + ms ≤ R.slots) :
    va_Run p l e R s m args below meth c H locs cells slots mc ms g rest (Qc As.toArray) (free) := by
  obtain ⟨⟨hrc, hrs, hfr, hlo, hws, hcw⟩, hcode, hini, hy, hlen, hl, hstt⟩ := cw
  have hK : Back l R p e below s args y 3 8 (PreOf R mc ms Pc) (PostOf Qc mc ms free) := va_backW (hh := hh) (bytes := bytes) (maxL := maxL) (ret := ret) hM hp.1 hrc hrs hfr hlo hws hcw (fun a' U hW => word_at hW (Or.inl (by first | rfl | simp [Cond.onTables, Cond.keeps, Cond.steady])) hini)
  obtain ⟨hx, hb, hml, ho, -⟩ := S
  intro T hT X
  obtain ⟨v, vm₁, ⟨U', l2, c2, s2⟩, hW₁, X', ⟨g', mk, t, L, e1, e2, hq, h1, hL, h2, h3⟩, st⟩ := vx_callSW X hx (hh := hh) (bytes := bytes) (maxL := maxL) (ret := ret) ho hl hstt hini hcode hy hK hg (hsize.trans hml.symm) (argsL := As) (rest := rest) (fun sig h => hn.trans (hlen sig h)) hstack hW (by rw [hb]; exact hdg)
    (fun vm₁ hW₁ => ⟨hf.1, hf.2, hp.2 (T.setVm vm₁) hT hW₁⟩)
  dsimp only [Pt.U, Pt.locs, Pt.cells, Pt.slots] at X' e1 e2 h1 h2 h3 st
  subst h1; subst h2; subst h3
  exact ⟨v, (T.setVm vm₁).calling g' mk As.toArray, t, U', L, hT, X', hL, e1, e2, hq, st⟩
/-- not caught here, past rows that name other classes: it goes on to the caller -/
theorem vx_outP {p : Program} {l : Launch} {e : Env} {R : Room} {s : State} {m : MethodId} {args : Array Value} {below : List Frame} {meth : Method} {c : Code} {H : Heap} {locs : List Loc} {cells slots : Nat} {free : Addr → Prop} {ls : Array Slot} {rest : List Value} {Qc : Array Value → State → Outcome → State → Prop} {XC : String → State → State → Prop}
    {pc : Nat} {own E : String} {ce : Cell} {q : Addr} {mc ms : Nat} (hown : s.vm.findClass own = some m.cls) (hlocks : meth.locks = false)
    (hpass : ∀ z ∈ c.exceptionTable.toList, covers z pc = false ∨ (z.catchType ≠ 0 ∧ ∃ nm : String, (Cond.classLink own z.catchType nm).before args s = true ∧ va_Nc E nm s)) (hcell : H[q]? = some ce) (hv : ce.vm = .none) (hcl : s.vm.findClass E = some ce.cls)
    (hx : ∀ t : State, t.heap = H → s.vm.Alike t.vm → XC E s t) (hf : ∀ z ∈ locs, free z.base) (hc : cells ≤ mc) (hs : slots ≤ ms) :
    vx_W p l e R s m args below meth c H locs cells slots (vx_MQ below Qc XC args s mc ms free) (F0 m pc ls rest) q := by
  intro T hT X
  have hpl : e.platform.magicAccessors = ({} : Platform).magicAccessors := by rw [X.admits.platform]
  obtain ⟨vm', hW', X', st⟩ := X.outThrough hlocks q (g := F0 m pc ls rest) rfl rfl rfl (cell := ce) (by rw [hT]; exact hcell) (by rw [hv]; rfl)
    (by obtain ⟨k9, h9, -⟩ := Vm.findClass_spec hcl; exact ⟨k9, h9⟩) (fun z hz => by
      rcases hpass z hz with h | ⟨hz0, nm, hl1, hn1⟩
      · exact Or.inl h
      · obtain ⟨c6, hc6, hcl6⟩ := Cond.classLink_spec hown hl1 e.platform hpl
        obtain ⟨a8, b8, h1, h2, h3⟩ := hn1
        cases Option.some.inj (h1.symm.trans hcl)
        cases Option.some.inj (h2.symm.trans hc6)
        exact Or.inr ⟨hz0, _, hcl6, h3⟩)
  obtain ⟨g₀, hfr⟩ := X'.frames_eq
  have hcell9 : ((T.setVm vm').setFrames (.throwing q :: below)).heap[q]? = some ce := by
    show T.heap[q]? = some ce
    rw [hT]; exact hcell
  have hend : Ended ((T.setVm vm').setFrames (.throwing q :: below)) below (.threw q) := State.frames_setFrames _ (State.cur_lt_of_frames hfr)
  refine ⟨(T.setVm vm').setFrames (.throwing q :: below), ?_, .threw q, X'.here.running, hend, Or.inr ⟨q, rfl, E, ce, locs, hx _ hT (X'.ends _).1.alike, hcell9, hv, hcl, (X'.ends _).1, (X'.ends _).2.mono hc hs, hf⟩⟩
  rw [X.pushThrowing_eq]
  exact st
/-- a thing of a world lies in the heap -/
theorem vx_lt {D : va_G} {cl : List vw_C} {ws : va_W} {H1 : Heap} (h : va_P D cl ws H1) {k : Nat} {q : Nat × va_E} (hk : ws[k]? = some q) : q.1 < H1.size := (h k q hk).lt
end VXS
/-! ===== END ===== -/
/-! ===== BEGIN methods with a table of their own: called by a name, returning or throwing ===== -/
section VXH
/-! vx_backW, vx_callVX, vx_callSX, vx_callVW, vx_runVW, vx_runVX, vx_runSX, vx_ofWH follow the same proofs as their sisters above (Free/Laws.lean, Shelf42/LK1.lean); vx_outP calls Shelf42/NT130.lean (outThrough). -/
section
variable {l : Launch} {R : Room} {p : Program} {e : Env} {below : List Frame} {s : State} {sargs : Array Value} {y : MethodName} {len W9 : Nat}
theorem vx_backW {ws : List Cond} {rm : Room} {Pc : Array Value → State → Prop} {Qc : Array Value → State → Outcome → State → Prop} {XC : String → State → State → Prop} {mc ms : Nat} {free : Addr → Prop} {bytes : ByteArray} {maxL : Nat} {ret : Option FieldType} {hh : List (Nat × Nat × Nat × Nat)}
    (hM : vx_Met l y ws rm Pc Qc XC mc ms free) (hblind : FrameBlind Pc) (hrc : rm.cells = mc) (hrs : rm.slots = ms)
    (hframes : rm.frames + 1 ≤ R.frames) (hlocals : W9 + (maxL + 11) + rm.locals ≤ R.locals)
    (hws : ∀ w ∈ ws, ∀ a' U, s.WarmedH U.vm → w.before a' U = true) (hcode : Cond.codeWith y bytes maxL ret hh ∈ ws) (hinit : ∀ a' U, s.WarmedH U.vm → (Cond.initialized y.cls).before a' U = true) :
    vx_Back l R p e below s sargs y len W9 (PreOf R mc ms Pc) (PostOf Qc mc ms free) (vx_Post XC mc ms free) := by
  intro m meth c A g ig mk a X hg hsize hdg hW hn hp
  have h1 : (headSpec ws rm).pre.before a A.U = true := atoms_intro fun w hw => hws w hw _ _ X.warmed
  have h2 : (Cond.codeWith y bytes maxL ret hh).before a A.U = true := hws _ hcode _ _ X.warmed
  have h3 : (Cond.initialized y.cls).before a A.U = true := hinit _ _ X.warmed
  have h4 : A.cells + (headSpec ws rm).room.cells ≤ R.cells := by rw [show (headSpec ws rm).room.cells = mc from hrc]; exact hp.1
  have h5 : A.slots + (headSpec ws rm).room.slots ≤ R.slots := by rw [show (headSpec ws rm).room.slots = ms from hrs]; exact hp.2.1
  have hPc : Pc a (A.U.calling g mk a) := hblind _ _ _ _ hp.2.2
  obtain ⟨U, Ls, c0, s0⟩ := A
  dsimp only [Pt.U, Pt.locs, Pt.cells, Pt.slots] at h1 h2 h3 h4 h5 X hn hPc ⊢
  obtain ⟨m9, methY, cY, hn9, hmY, hcY, -, hlY, -⟩ := Cond.codeWith_spec h2
  cases Option.some.inj (hn9.symm.trans hn)
  obtain ⟨kY, hkY, -⟩ := className_of_methodNamed hn
  have hinitY : kY.init = .initialized := Cond.initialized_spec (findClass_of_methodNamed hn) hkY h3
  have h : At U g.method c below := by rw [hg]; exact X.here
  have hlocals9 : W9 + (maxL + 11) + (headSpec ws rm).room.locals ≤ R.locals := hlocals
  have happ : (headSpec ws rm).appliesLoose y e.platform (U.calling g mk a) = true :=
    Spec.appliesLoose_calling (g := g) h hdg hn hkY hinitY
      (X.room_calling (g := g) (R' := (headSpec ws rm).room) hsize hmY hcY hframes (by rw [hlY]; omega) h4 h5) h1
  obtain ⟨mid, hmid⟩ := h.above
  have hfr : (U.setTop g).frames = (.java g :: mid) ++ below := by rw [State.frames_setTop' g h.top, hmid]; rfl
  obtain ⟨o, s₂, hsteps, -, hend, hq⟩ := Steps.callFree hM p X.admits X.cas X.clock (acts := []) hfr happ hPc trivial
  have hq' : vx_Q Qc XC mc ms free a (U.calling g mk a) o s₂ := hq
  rw [State.frames_setTop' g h.top] at hend
  obtain ⟨g₀, hg0⟩ := Option.isSome_iff_exists.mp h.top
  obtain ⟨r, hr⟩ := State.topJava?_eq_some.mp hg0
  have hr' : (({ U with heap := s₂.heap, slotsUsed := s₂.slotsUsed } : State).setVm s₂.vm).frames = .java g₀ :: r := hr
  rcases hq' with ⟨hqc, L, hfe, hL⟩ | ⟨q, rfl, E, ce, L, hx, hce, hcv, hcl, hW₂, hsm, hL⟩
  · obtain ⟨⟨v, rfl⟩, hW₂, e2, q2, q3, q4, q5, q6⟩ := id hfe
    have e3 : s₂ = ({ (U.calling g mk a).setFrames s₂.frames with heap := s₂.heap, slotsUsed := s₂.slotsUsed } : State).setVm s₂.vm := by
      have : s₂ = ({ s₂ with vm := (U.calling g mk a).vm } : State).setVm s₂.vm := rfl
      rw [e2] at this
      exact this
    obtain ⟨c₂, i₂, len₂, hc₂, hd₂, hf₂⟩ := hend
    have hW' : U.WarmedH s₂.vm := hW₂
    have hcc : c₂ = c := by
      have h1 : s₂.code? g.method = U.code? g.method := by
        rw [State.code?_eq, State.code?_eq, hW'.alike.method?]
      exact Option.some.inj (hc₂.symm.trans (h1.trans h.code))
    subst hcc
    have hlen : len₂ = len := by rw [hdg] at hd₂; cases hd₂; rfl
    subst hlen
    have hs₂ : s₂ = (({ U with heap := s₂.heap, slotsUsed := s₂.slotsUsed } : State).setVm s₂.vm).setTop { g with pc := g.pc + len₂, stack := v.toList ++ g.stack } := by
      refine e3.trans ?_
      rw [hf₂, State.calling_eq h.top, State.setFrames_setFrames, State.setTop_of_frames _ hr', hr]
      rfl
    have hsame : U.sameButNew ({ U with heap := s₂.heap, slotsUsed := s₂.slotsUsed } : State) L mc ms := by
      refine ⟨?_, q2, q3, q4, q5, q6⟩
      obtain ⟨t, ht, -⟩ := State.frames_cons hr
      show ({ U with heap := s₂.heap, slotsUsed := s₂.slotsUsed } : State) = { U.setFrames U.frames with heap := s₂.heap, slotsUsed := s₂.slotsUsed }
      rw [State.setFrames_self ht]
    subst hg
    refine Or.inl ⟨v, ⟨(({ U with heap := s₂.heap, slotsUsed := s₂.slotsUsed } : State).setVm s₂.vm), Ls ++ L, c0 + mc, s0 + ms⟩,
      ⟨X.admits, X.cas, X.clock, X.frames, X.room, X.hears, X.method, X.code, (X.here.setHeapUsed s₂.heap s₂.slotsUsed).setVm hW'.alike, X.tail, State.WarmedH.trans X.warmed hW', X.limits, X.bytes, X.same.trans (hsame.setVm s.vm)⟩,
      ⟨g, mk, s₂, L, rfl, rfl, hqc, rfl, hL, rfl, rfl⟩, ?_⟩
    show Steps p.tables e below _ ((({ U with heap := s₂.heap, slotsUsed := s₂.slotsUsed } : State).setVm s₂.vm).setTop { g with pc := g.pc + len₂, stack := v.toList ++ g.stack })
    rw [← hs₂]
    exact hsteps
  · obtain ⟨e2, q2, q3, q4, q5, q6⟩ := id hsm
    have e3 : s₂ = ({ (U.calling g mk a).setFrames s₂.frames with heap := s₂.heap, slotsUsed := s₂.slotsUsed } : State).setVm s₂.vm := by
      have : s₂ = ({ s₂ with vm := (U.calling g mk a).vm } : State).setVm s₂.vm := rfl
      rw [e2] at this
      exact this
    have hf₂ : s₂.frames = .throwing q :: .java g :: U.frames.tail := hend
    have hW' : U.WarmedH s₂.vm := hW₂
    have hs₂ : s₂ = ((({ U with heap := s₂.heap, slotsUsed := s₂.slotsUsed } : State).setVm s₂.vm).setTop g).pushFrame (.throwing q) := by
      refine e3.trans ?_
      rw [hf₂, State.calling_eq h.top, State.setFrames_setFrames, State.pushFrame, State.frames_setTop _ hr', State.setTop_of_frames _ hr', State.setFrames_setFrames, hr]
      rfl
    have hsame : U.sameButNew ({ U with heap := s₂.heap, slotsUsed := s₂.slotsUsed } : State) L mc ms := by
      refine ⟨?_, q2, q3, q4, q5, q6⟩
      obtain ⟨t, ht, -⟩ := State.frames_cons hr
      show ({ U with heap := s₂.heap, slotsUsed := s₂.slotsUsed } : State) = { U.setFrames U.frames with heap := s₂.heap, slotsUsed := s₂.slotsUsed }
      rw [State.setFrames_self ht]
    subst hg
    refine Or.inr ⟨q, ⟨(({ U with heap := s₂.heap, slotsUsed := s₂.slotsUsed } : State).setVm s₂.vm), Ls ++ L, c0 + mc, s0 + ms⟩,
      ⟨X.admits, X.cas, X.clock, X.frames, X.room, X.hears, X.method, X.code, (X.here.setHeapUsed s₂.heap s₂.slotsUsed).setVm hW'.alike, X.tail, State.WarmedH.trans X.warmed hW', X.limits, X.bytes, X.same.trans (hsame.setVm s.vm)⟩,
      ⟨g, mk, s₂, L, E, ce, rfl, rfl, hx, hce, hcv, hcl, rfl, hL, rfl, rfl⟩, ?_⟩
    show Steps p.tables e below _ (((({ U with heap := s₂.heap, slotsUsed := s₂.slotsUsed } : State).setVm s₂.vm).setTop g).pushFrame (.throwing q))
    rw [← hs₂]
    exact hsteps
end
variable {p : Program} {l : Launch} {e : Env} {R : Room} {s : State} {m : MethodId} {args : Array Value} {below : List Frame} {meth : Method} {c : Code} {T : State} {H : Heap} {locs : List Loc} {cells slots : Nat}
theorem vx_callVX (X : Stand p l e R s m args below meth c T locs cells slots) (hexec : p.tables.exec = Jvm.exec) {own C : String} {index : Nat} {y : MethodName} {bytes : ByteArray} {maxL : Nat} {ret : Option FieldType} {hh : List (Nat × Nat × Nat × Nat)}
    (hown : s.vm.findClass own = some m.cls) (hlink : (Cond.methodLink own index y).before args s = true) (hinst : (Cond.instanceMethod y).before args s = true) (hsel : (Cond.selects C y y).before args s = true)
    (hcode : (Cond.codeWith y bytes maxL ret hh).before args s = true) (hy : y.cls ≠ "java/lang/invoke/MethodHandle" ∧ y.cls ≠ "java/lang/invoke/VarHandle")
    {W9 : Nat} {Pre : Pt → Array Value → Prop} {Post : Pt → Array Value → Option Value → Pt → Prop} {PostX : Pt → Array Value → Addr → Pt → Prop} (hK : vx_Back l R p e below s args y 3 W9 Pre Post PostX)
    {b : Addr} {cellB : Cell} (hcell : T.heap[b]? = some cellB) (hobj : cellB.vm.isStatics = false) (hcls : s.vm.findClass C = some cellB.cls)
    {g : JFrame} (hg : g.method = m) (hsize : g.locals.size = c.maxLocals) {argsL rest : List Value} (hlen : ∀ sig, parseMethodDescriptor y.desc = some sig → argsL.length = sig.parameters.length)
    (hstack : g.stack = argsL.reverse ++ .ref b :: rest) (hW : 2 * g.monitorRoom + (rest.map fun v => v.category).sum ≤ W9) (hdg : decode c.code g.pc = .ok (.invokevirtual index, 3))
    (hpre : ∀ vm₁, s.WarmedH vm₁ → Pre ⟨T.setVm vm₁, locs, cells, slots⟩ (Value.ref b :: argsL).toArray) :
    (∃ (v : Option Value) (vm₁ : Vm) (B : Pt), s.WarmedH vm₁ ∧ Stand p l e R s m args below meth c B.U B.locs B.cells B.slots ∧ Post ⟨T.setVm vm₁, locs, cells, slots⟩ (Value.ref b :: argsL).toArray v B ∧
      ∀ target, Steps p.tables e below (B.U.setTop { g with pc := g.pc + 3, stack := v.toList ++ rest }) target → Steps p.tables e below (T.setTop g) target) ∨
    (∃ (q : Addr) (vm₁ : Vm) (B : Pt), s.WarmedH vm₁ ∧ Stand p l e R s m args below meth c B.U B.locs B.cells B.slots ∧ PostX ⟨T.setVm vm₁, locs, cells, slots⟩ (Value.ref b :: argsL).toArray q B ∧
      Steps p.tables e below (T.setTop g) ((B.U.setTop { g with stack := rest }).pushFrame (.throwing q))) := by
  obtain ⟨mk, methM, hnamed, hmethM, hstM, habM⟩ := Cond.instanceMethod_spec hinst
  obtain ⟨m8, methM', cM, hn8, hmethM', -, -, -, -, -, -, hsigM⟩ := Cond.codeWith_spec hcode
  cases Option.some.inj (hn8.symm.trans hnamed)
  cases hmethM.symm.trans hmethM'
  obtain ⟨c2, r2, m2, q1, q2, q3, q4, kP, hkP, hkPi⟩ := Cond.selects_spec hsel
  cases hcls.symm.trans q1
  cases (State.methodFound?_of_named hnamed hy).symm.trans q2
  cases hnamed.symm.trans q3
  have hselP : selectMethod e.platform s.vm cellB.cls mk = .method mk := by rw [Launch.admits_selectMethod X.admits]; exact q4
  obtain ⟨vm₁, X₁, hstep₁⟩ := X.invokevirtual hexec hown hlink hnamed hmethM hstM hkP hkPi hy (a := b) (cell := cellB) hcell
    (fun z h => by rw [h] at hobj; cases hobj) hselP hmethM habM hkP hkPi (g := g) hg (argsL := argsL) (rest := rest) (hlen _ hsigM) hstack hdg
  rcases hK m meth c ⟨T.setVm vm₁, locs, cells, slots⟩ { g with stack := rest } (.invokevirtual index) mk (Value.ref b :: argsL).toArray X₁ hg hsize hdg hW (X₁.named hnamed) (hpre vm₁ X₁.warmed) with ⟨v, B, X', hpost, hsteps⟩ | ⟨q, B, X', hpost, hsteps⟩
  · exact Or.inl ⟨v, vm₁, B, X₁.warmed, X', hpost, fun target h => hstep₁ _ fun acts => by rw [doInvoke_state]; exact hsteps.trans h⟩
  · exact Or.inr ⟨q, vm₁, B, X₁.warmed, X', hpost, hstep₁ _ fun acts => by rw [doInvoke_state]; exact hsteps⟩
theorem vx_callSX (X : Stand p l e R s m args below meth c T locs cells slots) (hexec : p.tables.exec = Jvm.exec) {own : String} {index : Nat} {y : MethodName} {bytes : ByteArray} {maxL : Nat} {ret : Option FieldType} {hh : List (Nat × Nat × Nat × Nat)}
    (hown : s.vm.findClass own = some m.cls) (hlink : (Cond.methodLink own index y).before args s = true) (hstat : (Cond.static y).before args s = true) (hinit : (Cond.initialized y.cls).before args s = true)
    (hcode : (Cond.codeWith y bytes maxL ret hh).before args s = true) (hy : y.cls ≠ "java/lang/invoke/MethodHandle" ∧ y.cls ≠ "java/lang/invoke/VarHandle")
    {W9 : Nat} {Pre : Pt → Array Value → Prop} {Post : Pt → Array Value → Option Value → Pt → Prop} {PostX : Pt → Array Value → Addr → Pt → Prop} (hK : vx_Back l R p e below s args y 3 W9 Pre Post PostX)
    {g : JFrame} (hg : g.method = m) (hsize : g.locals.size = c.maxLocals) {argsL rest : List Value} (hlen : ∀ sig, parseMethodDescriptor y.desc = some sig → argsL.length = sig.parameters.length)
    (hstack : g.stack = argsL.reverse ++ rest) (hW : 2 * g.monitorRoom + (rest.map fun v => v.category).sum ≤ W9) (hdg : decode c.code g.pc = .ok (.invokestatic index, 3))
    (hpre : ∀ vm₁, s.WarmedH vm₁ → Pre ⟨T.setVm vm₁, locs, cells, slots⟩ argsL.toArray) :
    (∃ (v : Option Value) (vm₁ : Vm) (B : Pt), s.WarmedH vm₁ ∧ Stand p l e R s m args below meth c B.U B.locs B.cells B.slots ∧ Post ⟨T.setVm vm₁, locs, cells, slots⟩ argsL.toArray v B ∧
      ∀ target, Steps p.tables e below (B.U.setTop { g with pc := g.pc + 3, stack := v.toList ++ rest }) target → Steps p.tables e below (T.setTop g) target) ∨
    (∃ (q : Addr) (vm₁ : Vm) (B : Pt), s.WarmedH vm₁ ∧ Stand p l e R s m args below meth c B.U B.locs B.cells B.slots ∧ PostX ⟨T.setVm vm₁, locs, cells, slots⟩ argsL.toArray q B ∧
      Steps p.tables e below (T.setTop g) ((B.U.setTop { g with stack := rest }).pushFrame (.throwing q))) := by
  obtain ⟨mk, methM, cM, hnamed, hmethM, -, -, -, -, -, -, hsigM⟩ := Cond.codeWith_spec hcode
  have hstatic : methM.isStatic = true := Cond.static_spec hnamed hmethM hstat
  obtain ⟨kP, hkP, -⟩ := className_of_methodNamed hnamed
  have hinitP : kP.init = .initialized := Cond.initialized_spec (findClass_of_methodNamed hnamed) hkP hinit
  obtain ⟨vm₁, X₁, hstep₁⟩ := X.invokestatic hexec hown hlink hnamed hmethM hstatic hkP hinitP hy (g := g) hg (argsL := argsL) (rest := rest) (hlen _ hsigM) hstack hdg
  rcases hK m meth c ⟨T.setVm vm₁, locs, cells, slots⟩ { g with stack := rest } (.invokestatic index) mk argsL.toArray X₁ hg hsize hdg hW (X₁.named hnamed) (hpre vm₁ X₁.warmed) with ⟨v, B, X', hpost, hsteps⟩ | ⟨q, B, X', hpost, hsteps⟩
  · exact Or.inl ⟨v, vm₁, B, X₁.warmed, X', hpost, fun target h => hstep₁ _ fun acts => by rw [doInvoke_state]; exact hsteps.trans h⟩
  · exact Or.inr ⟨q, vm₁, B, X₁.warmed, X', hpost, hstep₁ _ fun acts => by rw [doInvoke_state]; exact hsteps⟩
theorem vx_callVW (X : Stand p l e R s m args below meth c T locs cells slots) (hexec : p.tables.exec = Jvm.exec) {own C : String} {index : Nat} {y : MethodName} {bytes : ByteArray} {maxL : Nat} {ret : Option FieldType} {hh : List (Nat × Nat × Nat × Nat)}
    (hown : s.vm.findClass own = some m.cls) (hlink : (Cond.methodLink own index y).before args s = true) (hinst : (Cond.instanceMethod y).before args s = true) (hsel : (Cond.selects C y y).before args s = true)
    (hcode : (Cond.codeWith y bytes maxL ret hh).before args s = true) (hy : y.cls ≠ "java/lang/invoke/MethodHandle" ∧ y.cls ≠ "java/lang/invoke/VarHandle")
    {W9 : Nat} {Pre : Pt → Array Value → Prop} {Post : Pt → Array Value → Option Value → Pt → Prop} (hK : Back l R p e below s args y 3 W9 Pre Post)
    {b : Addr} {cellB : Cell} (hcell : T.heap[b]? = some cellB) (hobj : cellB.vm.isStatics = false) (hcls : s.vm.findClass C = some cellB.cls)
    {g : JFrame} (hg : g.method = m) (hsize : g.locals.size = c.maxLocals) {argsL rest : List Value} (hlen : ∀ sig, parseMethodDescriptor y.desc = some sig → argsL.length = sig.parameters.length)
    (hstack : g.stack = argsL.reverse ++ .ref b :: rest) (hW : 2 * g.monitorRoom + (rest.map fun v => v.category).sum ≤ W9) (hdg : decode c.code g.pc = .ok (.invokevirtual index, 3))
    (hpre : ∀ vm₁, s.WarmedH vm₁ → Pre ⟨T.setVm vm₁, locs, cells, slots⟩ (Value.ref b :: argsL).toArray) :
    ∃ (v : Option Value) (vm₁ : Vm) (B : Pt), s.WarmedH vm₁ ∧ Stand p l e R s m args below meth c B.U B.locs B.cells B.slots ∧ Post ⟨T.setVm vm₁, locs, cells, slots⟩ (Value.ref b :: argsL).toArray v B ∧
      ∀ target, Steps p.tables e below (B.U.setTop { g with pc := g.pc + 3, stack := v.toList ++ rest }) target → Steps p.tables e below (T.setTop g) target := by
  obtain ⟨mk, methM, hnamed, hmethM, hstM, habM⟩ := Cond.instanceMethod_spec hinst
  obtain ⟨m8, methM', cM, hn8, hmethM', -, -, -, -, -, -, hsigM⟩ := Cond.codeWith_spec hcode
  cases Option.some.inj (hn8.symm.trans hnamed)
  cases hmethM.symm.trans hmethM'
  obtain ⟨c2, r2, m2, q1, q2, q3, q4, kP, hkP, hkPi⟩ := Cond.selects_spec hsel
  cases hcls.symm.trans q1
  cases (State.methodFound?_of_named hnamed hy).symm.trans q2
  cases hnamed.symm.trans q3
  have hselP : selectMethod e.platform s.vm cellB.cls mk = .method mk := by rw [Launch.admits_selectMethod X.admits]; exact q4
  obtain ⟨vm₁, X₁, hstep₁⟩ := X.invokevirtual hexec hown hlink hnamed hmethM hstM hkP hkPi hy (a := b) (cell := cellB) hcell
    (fun z h => by rw [h] at hobj; cases hobj) hselP hmethM habM hkP hkPi (g := g) hg (argsL := argsL) (rest := rest) (hlen _ hsigM) hstack hdg
  obtain ⟨v, B, X', hpost, hsteps⟩ := hK m meth c ⟨T.setVm vm₁, locs, cells, slots⟩ { g with stack := rest } (.invokevirtual index) mk (Value.ref b :: argsL).toArray X₁ hg hsize hdg hW (X₁.named hnamed) (hpre vm₁ X₁.warmed)
  exact ⟨v, vm₁, B, X₁.warmed, X', hpost, fun target h => hstep₁ _ fun acts => by rw [doInvoke_state]; exact hsteps.trans h⟩
abbrev vx_CVW (R : Room) (s : State) (args : Array Value) (own C : String) (index : Nat) (y : MethodName) (bytes : ByteArray) (maxL : Nat) (ret : Option FieldType) (hh : List (Nat × Nat × Nat × Nat)) (ws : List Cond) (rm : Room) (mc ms n : Nat) : Prop :=
  (rm.cells = mc ∧ rm.slots = ms ∧ rm.frames + 1 ≤ R.frames ∧ 8 + (maxL + 11) + rm.locals ≤ R.locals ∧ (∀ w ∈ ws, ∀ (a' : Array Value) (U : State), s.WarmedH U.vm → w.before a' U = true) ∧ Cond.codeWith y bytes maxL ret hh ∈ ws) ∧
  (Cond.codeWith y bytes maxL ret hh).before args s = true ∧ (Cond.initialized y.cls).before args s = true ∧ (y.cls ≠ "java/lang/invoke/MethodHandle" ∧ y.cls ≠ "java/lang/invoke/VarHandle") ∧
  (∀ sig, parseMethodDescriptor y.desc = some sig → n = sig.parameters.length) ∧ (Cond.methodLink own index y).before args s = true ∧ (Cond.instanceMethod y).before args s = true ∧ (Cond.selects C y y).before args s = true
theorem vx_cwVW {own C : String} {index maxL mc ms : Nat} {y : MethodName} {bytes : ByteArray} {ret : Option FieldType} {hh : List (Nat × Nat × Nat × Nat)} {Ts ws ws' : List Cond} {rm : Room} (n : Nat) (ht : ∀ w ∈ Ts, w.before args s = true) (hT : GoodIn Ts (wsV own index C y ws)) (hw : ws = Cond.codeWith y bytes maxL ret hh :: ws') (hrc : rm.cells = mc) (hrs : rm.slots = ms)
    (hd : y.cls = C ∧ y.cls ≠ "java/lang/invoke/MethodHandle" ∧ y.cls ≠ "java/lang/invoke/VarHandle" ∧ (parseMethodDescriptor y.desc).map (fun d => d.parameters.length) = some n) (hR : rm.frames + 1 ≤ R.frames ∧ 8 + (maxL + 11) + rm.locals ≤ R.locals) :
    vx_CVW R s args own C index y bytes maxL ret hh ws rm mc ms n := by
  obtain ⟨hC, hd⟩ := hd
  subst hC
  have ok : ∀ w ∈ wsV own index y.cls y ws, w.before args s = true := fun w h => ht w (hT w h).1
  have hG : GoodIn Ts ws := fun w h => hT w (by unfold wsV; exact List.mem_append_right _ h)
  have hc : Cond.codeWith y bytes maxL ret hh ∈ ws := by rw [hw]; exact List.mem_cons_self
  refine ⟨⟨hrc, hrs, hR.1, hR.2, pay_in ht hG, hc⟩, ht _ (hG _ hc).1, ok _ (by simp [wsV]), ⟨hd.1, hd.2.1⟩, fun sig h => ?_, ok _ (by simp [wsV]), ok _ (by simp [wsV]), ok _ (by simp [wsV])⟩
  have h2 := hd.2.2
  rw [h] at h2
  exact (Option.some.inj h2).symm
theorem vx_runVW {y : MethodName} {bytes cc : ByteArray} {maxL nL mc ms n index : Nat} {ret : Option FieldType} {hh : List (Nat × Nat × Nat × Nat)} {ws : List Cond} {rm : Room} {Pc : Array Value → State → Prop} {Qc : Array Value → State → Outcome → State → Prop} {free : Addr → Prop} {Ts : List Cond} {own C : String} {b : Addr} {As rest : List Value} {g : JFrame}
    (S : CallFix p m c cc nL s args Ts own) (hM : Met l y ws rm Pc Qc mc ms free) (cw : vx_CVW R s args own C index y bytes maxL ret hh ws rm mc ms n) (hp : PreV s H C b Pc As)
    (hg : g.method = m) (hn : As.length = n) (hsize : g.locals.size = nL) (hstack : g.stack = As.reverse ++ .ref b :: rest) (hW : 2 * g.monitorRoom + (rest.map fun v => v.category).sum ≤ 8) (hdg : decode cc g.pc = .ok (.invokevirtual index, 3)) (hf : cells + mc ≤ R.cells ∧ slots + ms ≤ R.slots) :
    va_Run p l e R s m args below meth c H locs cells slots mc ms g rest (Qc (Value.ref b :: As).toArray) free := by
  obtain ⟨⟨hrc, hrs, hfr, hlo, hws, hcw⟩, hcode, hini, hy, hlen, hl, hin, hse⟩ := cw
  have hK : Back l R p e below s args y 3 8 (PreOf R mc ms Pc) (PostOf Qc mc ms free) := va_backW (hh := hh) (bytes := bytes) (maxL := maxL) (ret := ret) hM hp.1 hrc hrs hfr hlo hws hcw (fun a' U hW => word_at hW (Or.inl (by first | rfl | simp [Cond.onTables, Cond.keeps, Cond.steady])) hini)
  obtain ⟨hx, hb, hml, ho, -⟩ := S
  obtain ⟨-, ⟨cellB, hcB, hoB, hclB⟩, hPc⟩ := hp
  intro T hT X
  obtain ⟨v, vm₁, ⟨U', l2, c2, s2⟩, hW₁, X', ⟨g', mk, t, L, e1, e2, hq, h1, hL, h2, h3⟩, st⟩ := vx_callVW X hx (C := C) (hh := hh) (bytes := bytes) (maxL := maxL) (ret := ret) ho hl hin hse hcode hy hK (by rw [hT]; exact hcB) hoB hclB hg (hsize.trans hml.symm) (argsL := As) (rest := rest) (fun sig h => hn.trans (hlen sig h)) hstack hW (by rw [hb]; exact hdg)
    (fun vm₁ hW₁ => ⟨hf.1, hf.2, hPc (T.setVm vm₁) hT hW₁⟩)
  dsimp only [Pt.U, Pt.locs, Pt.cells, Pt.slots] at X' e1 e2 h1 h2 h3 st
  subst h1; subst h2; subst h3
  exact ⟨v, (T.setVm vm₁).calling g' mk (Value.ref b :: As).toArray, t, U', L, hT, X', hL, e1, e2, hq, st⟩
section
variable {y : MethodName} {bytes cc : ByteArray} {maxL nL mc ms n index : Nat} {ret : Option FieldType} {ws : List Cond} {rm : Room} {Pc : Array Value → State → Prop} {Qc : Array Value → State → Outcome → State → Prop} {XC : String → State → State → Prop} {free : Addr → Prop} {Ts : List Cond} {own C : String} {b : Addr} {As rest : List Value} {g : JFrame}
theorem vx_runVX {hh : List (Nat × Nat × Nat × Nat)} (S : CallFix p m c cc nL s args Ts own) (hM : vx_Met l y ws rm Pc Qc XC mc ms free) (cw : vx_CVW R s args own C index y bytes maxL ret hh ws rm mc ms n) (hp : PreV s H C b Pc As)
    (hg : g.method = m) (hn : As.length = n) (hsize : g.locals.size = nL) (hstack : g.stack = As.reverse ++ .ref b :: rest) (hW : 2 * g.monitorRoom + (rest.map fun v => v.category).sum ≤ 8) (hdg : decode cc g.pc = .ok (.invokevirtual index, 3)) (hf : cells + mc ≤ R.cells ∧ slots + ms ≤ R.slots) :
    vx_Run p l e R s m args below meth c H locs cells slots mc ms g rest (Qc (Value.ref b :: As).toArray) XC free := by
  obtain ⟨⟨hrc, hrs, hfr, hlo, hws, hcw⟩, hcode, hini, hy, hlen, hl, hin, hse⟩ := cw
  have hK : vx_Back l R p e below s args y 3 8 (PreOf R mc ms Pc) (PostOf Qc mc ms free) (vx_Post XC mc ms free) := vx_backW (hh := hh) (bytes := bytes) (maxL := maxL) (ret := ret) hM hp.1 hrc hrs hfr hlo hws hcw (fun a' U hW => word_at hW (Or.inl (by first | rfl | simp [Cond.onTables, Cond.keeps, Cond.steady])) hini)
  obtain ⟨hx, hb, hml, ho, -⟩ := S
  obtain ⟨-, ⟨cellB, hcB, hoB, hclB⟩, hPc⟩ := hp
  intro T hT X
  rcases vx_callVX X hx (C := C) (hh := hh) (bytes := bytes) (maxL := maxL) (ret := ret) ho hl hin hse hcode hy hK (by rw [hT]; exact hcB) hoB hclB hg (hsize.trans hml.symm) (argsL := As) (rest := rest) (fun sig h => hn.trans (hlen sig h)) hstack hW (by rw [hb]; exact hdg)
    (fun vm₁ hW₁ => ⟨hf.1, hf.2, hPc (T.setVm vm₁) hT hW₁⟩) with ⟨v, vm₁, ⟨U', l2, c2, s2⟩, hW₁, X', ⟨g', mk, t, L, e1, e2, hq, h1, hL, h2, h3⟩, st⟩ | ⟨q, vm₁, ⟨U', l2, c2, s2⟩, hW₁, X', ⟨g', mk, t, L, E, ce, e1, e2, hq, hce, hcv, hcl, h1, hL, h2, h3⟩, st⟩
  · dsimp only [Pt.U, Pt.locs, Pt.cells, Pt.slots] at X' e1 e2 h1 h2 h3 st
    subst h1; subst h2; subst h3
    exact Or.inl ⟨v, (T.setVm vm₁).calling g' mk (Value.ref b :: As).toArray, t, U', L, hT, X', hL, e1, e2, hq, st⟩
  · dsimp only [Pt.U, Pt.locs, Pt.cells, Pt.slots] at X' e1 e2 h1 h2 h3 st hcl
    subst h1; subst h2; subst h3
    exact Or.inr ⟨q, (T.setVm vm₁).calling g' mk (Value.ref b :: As).toArray, t, U', L, E, ce, hT, X', hL, e1, e2, hq, hce, hcv, vx_cls hW₁ hcl, st⟩
theorem vx_runSX {hh : List (Nat × Nat × Nat × Nat)} (S : CallFix p m c cc nL s args Ts own) (hM : vx_Met l y ws rm Pc Qc XC mc ms free) (cw : vx_CSW R s args own index y bytes maxL ret hh ws rm mc ms n) (hp : PreS s H Pc As)
    (hg : g.method = m) (hn : As.length = n) (hsize : g.locals.size = nL) (hstack : g.stack = As.reverse ++ rest) (hW : 2 * g.monitorRoom + (rest.map fun v => v.category).sum ≤ 8) (hdg : decode cc g.pc = .ok (.invokestatic index, 3)) (hf : cells + mc ≤ R.cells ∧ slots + ms ≤ R.slots) :
    vx_Run p l e R s m args below meth c H locs cells slots mc ms g rest (Qc As.toArray) XC free := by
  obtain ⟨⟨hrc, hrs, hfr, hlo, hws, hcw⟩, hcode, hini, hy, hlen, hl, hstt⟩ := cw
  have hK : vx_Back l R p e below s args y 3 8 (PreOf R mc ms Pc) (PostOf Qc mc ms free) (vx_Post XC mc ms free) := vx_backW (hh := hh) (bytes := bytes) (maxL := maxL) (ret := ret) hM hp.1 hrc hrs hfr hlo hws hcw (fun a' U hW => word_at hW (Or.inl (by first | rfl | simp [Cond.onTables, Cond.keeps, Cond.steady])) hini)
  obtain ⟨hx, hb, hml, ho, -⟩ := S
  intro T hT X
  rcases vx_callSX X hx (hh := hh) (bytes := bytes) (maxL := maxL) (ret := ret) ho hl hstt hini hcode hy hK hg (hsize.trans hml.symm) (argsL := As) (rest := rest) (fun sig h => hn.trans (hlen sig h)) hstack hW (by rw [hb]; exact hdg)
    (fun vm₁ hW₁ => ⟨hf.1, hf.2, hp.2 (T.setVm vm₁) hT hW₁⟩) with ⟨v, vm₁, ⟨U', l2, c2, s2⟩, hW₁, X', ⟨g', mk, t, L, e1, e2, hq, h1, hL, h2, h3⟩, st⟩ | ⟨q, vm₁, ⟨U', l2, c2, s2⟩, hW₁, X', ⟨g', mk, t, L, E, ce, e1, e2, hq, hce, hcv, hcl, h1, hL, h2, h3⟩, st⟩
  · dsimp only [Pt.U, Pt.locs, Pt.cells, Pt.slots] at X' e1 e2 h1 h2 h3 st
    subst h1; subst h2; subst h3
    exact Or.inl ⟨v, (T.setVm vm₁).calling g' mk As.toArray, t, U', L, hT, X', hL, e1, e2, hq, st⟩
  · dsimp only [Pt.U, Pt.locs, Pt.cells, Pt.slots] at X' e1 e2 h1 h2 h3 st hcl
    subst h1; subst h2; subst h3
    exact Or.inr ⟨q, (T.setVm vm₁).calling g' mk As.toArray, t, U', L, E, ce, hT, X', hL, e1, e2, hq, hce, hcv, vx_cls hW₁ hcl, st⟩
end
end VXH
theorem vx_ofWH {l : Launch} {y : MethodName} {ws ws' : List Cond} {rm : Room} {Pc : Array Value → State → Prop} {Qc : Array Value → State → Outcome → State → Prop} {XC : String → State → State → Prop} {mc ms : Nat} {free : Addr → Prop} {cc : ByteArray} {maxL : Nat} {ret : Option FieldType} {hh : List (Nat × Nat × Nat × Nat)}
    (hy : plainName y.cls = true) (hw : ws = Cond.codeWith y cc maxL ret hh :: ws')
    (body : ∀ p e s m args below meth c s₁, BodyLoose p l y (headSpec ws rm) cc maxL ret e s m args below meth c s₁ → c.maxLocals = maxL → Pc args s →
      W p l e (headSpec ws rm).room s m args below meth c s.heap [] 0 0 (vx_MQ below Qc XC args s mc ms free) (entryFrame m args maxL)) : vx_Met l y ws rm Pc Qc XC mc ms free := by
  refine MetFree.of_bodyS (code := cc) (maxLocals := maxL) (ret := ret) hy ?_ ?_
  · intro args s m h hn
    obtain ⟨m9, meth, c, hn9, h1, h2, h3, h4, -, h5, h6, -⟩ := Cond.codeWith_spec (atoms_spec (ws := ws) h _ (by rw [hw]; exact List.mem_cons_self))
    cases hn.symm.trans hn9
    exact ⟨meth, c, h1, h2, h3, h4, h5, h6⟩
  · intro p e s m args below meth c s₁ B hml hP _
    have hh0 : s₁.heap = s.heap := by rw [B.state]; rfl
    obtain ⟨t, a1, o, b1, b2, b3⟩ := body p e s m args below meth c s₁ B hml hP s₁ hh0 (Stand.of_body B)
    exact ⟨t, o, a1, b1, b2, b3⟩
/-! ===== END ===== -/
end
section
/-! ===== BEGIN printed: names, fields, word lists, decode rows ===== -/
def RX0 : String := "SkittleStrings$Alley"
def TX0 : u_T := fun k => match k with
  | 0 => ("SkittleStrings$Alley", "wears", "[I", true)
  | 1 => ("SkittleStrings$Alley", "standing", "I", false)
  | _ => ("SkittleStrings$Alley", "spares", "I", false)
def tyX0 : Nat → FieldType := fun k => match k with
  | 0 => .array .int
  | 1 => .int
  | _ => .int
abbrev wsX00 : List Cond := u_ws RX0 TX0 3
theorem nmX0 : ∀ a, a < 3 → ∀ b, b < 3 → a ≠ b → (TX0 a).2.1 ≠ (TX0 b).2.1 := by decide +kernel
theorem tyX0_ok : ∀ k, k < 3 → parseFieldDescriptor (TX0 k).2.2.1 = some (tyX0 k) := by decide +kernel
abbrev cX0_init : ByteArray := prog_2_method_1_code
def yX0_init : MethodName := ⟨RX0, "<init>", "()V"⟩
abbrev cX0_standingPins : ByteArray := prog_2_method_2_code
def yX0_standingPins : MethodName := ⟨RX0, "standingPins", "()I"⟩
abbrev cX0_spares : ByteArray := prog_2_method_3_code
def yX0_spares : MethodName := ⟨RX0, "spares", "()I"⟩
abbrev cX0_wear : ByteArray := prog_2_method_4_code
def yX0_wear : MethodName := ⟨RX0, "wear", "(I)I"⟩
abbrev cX0_broken : ByteArray := prog_2_method_5_code
def yX0_broken : MethodName := ⟨RX0, "broken", "(I)Z"⟩
abbrev cX0_setUp : ByteArray := prog_2_method_6_code
def yX0_setUp : MethodName := ⟨RX0, "setUp", "()V"⟩
abbrev cX0_roll : ByteArray := prog_2_method_7_code
def yX0_roll : MethodName := ⟨RX0, "roll", "(II)I"⟩
abbrev cX0_replace : ByteArray := prog_2_method_8_code
def yX0_replace : MethodName := ⟨RX0, "replace", "(I)V"⟩
abbrev cX0_stock : ByteArray := prog_2_method_9_code
def yX0_stock : MethodName := ⟨RX0, "stock", "(I)V"⟩
abbrev cX0_brokenCount : ByteArray := prog_2_method_10_code
def yX0_brokenCount : MethodName := ⟨RX0, "brokenCount", "()I"⟩
abbrev cX0_brokenIfAllFell : ByteArray := prog_2_method_11_code
def yX0_brokenIfAllFell : MethodName := ⟨RX0, "brokenIfAllFell", "()I"⟩
abbrev cX0_mostWornPin : ByteArray := prog_2_method_12_code
def yX0_mostWornPin : MethodName := ⟨RX0, "mostWornPin", "()I"⟩
abbrev cX0_digestOn : ByteArray := prog_2_method_13_code
def yX0_digestOn : MethodName := ⟨RX0, "digestOn", "(J)J"⟩
def RX1 : String := "SkittleStrings$Pins"
def TX1 : u_T := fun k => match k with
  | _ => ("", "", "", false)
def tyX1 : Nat → FieldType := fun k => match k with
  | _ => .int
abbrev wsX10 : List Cond := u_ws RX1 TX1 0
theorem nmX1 : ∀ a, a < 0 → ∀ b, b < 0 → a ≠ b → (TX1 a).2.1 ≠ (TX1 b).2.1 := by decide +kernel
theorem tyX1_ok : ∀ k, k < 0 → parseFieldDescriptor (TX1 k).2.2.1 = some (tyX1 k) := by decide +kernel
abbrev cX1_holds : ByteArray := prog_3_method_2_code
def yX1_holds : MethodName := ⟨RX1, "holds", "(II)Z"⟩
abbrev cX1_last : ByteArray := prog_3_method_3_code
def yX1_last : MethodName := ⟨RX1, "last", "(I)I"⟩
abbrev cX1_felled : ByteArray := prog_3_method_4_code
def yX1_felled : MethodName := ⟨RX1, "felled", "(III)I"⟩
abbrev cX1_afterHit : ByteArray := prog_3_method_5_code
def yX1_afterHit : MethodName := ⟨RX1, "afterHit", "(IIII)I"⟩
abbrev cX1_canClear : ByteArray := prog_3_method_6_code
def yX1_canClear : MethodName := ⟨RX1, "canClear", "(III)Z"⟩
abbrev cX1_pinAt : ByteArray := prog_3_method_7_code
def yX1_pinAt : MethodName := ⟨RX1, "pinAt", "(II)I"⟩
def RX2 : String := "SkittleStrings$Rack"
def TX2 : u_T := fun k => match k with
  | _ => ("SkittleStrings$Rack", "away", "[I", true)
def tyX2 : Nat → FieldType := fun k => match k with
  | _ => .array .int
abbrev wsX20 : List Cond := u_ws RX2 TX2 1
theorem nmX2 : ∀ a, a < 1 → ∀ b, b < 1 → a ≠ b → (TX2 a).2.1 ≠ (TX2 b).2.1 := by decide +kernel
theorem tyX2_ok : ∀ k, k < 1 → parseFieldDescriptor (TX2 k).2.2.1 = some (tyX2 k) := by decide +kernel
abbrev cX2_init : ByteArray := prog_4_method_1_code
def yX2_init : MethodName := ⟨RX2, "<init>", "()V"⟩
abbrev cX2_throwsAway : ByteArray := prog_4_method_2_code
def yX2_throwsAway : MethodName := ⟨RX2, "throwsAway", "(I)I"⟩
abbrev cX2_send : ByteArray := prog_4_method_3_code
def yX2_send : MethodName := ⟨RX2, "send", "(I)V"⟩
abbrev cX2_returnAll : ByteArray := prog_4_method_4_code
def yX2_returnAll : MethodName := ⟨RX2, "returnAll", "()V"⟩
abbrev cX2_digestOn : ByteArray := prog_4_method_5_code
def yX2_digestOn : MethodName := ⟨RX2, "digestOn", "(J)J"⟩
def RX3 : String := "SkittleStrings$Sheet"
def TX3 : u_T := fun k => match k with
  | 0 => ("SkittleStrings$Sheet", "pinsOfThrow", "[I", true)
  | 1 => ("SkittleStrings$Sheet", "firstThrow", "[I", true)
  | 2 => ("SkittleStrings$Sheet", "throwsIn", "[I", true)
  | 3 => ("SkittleStrings$Sheet", "bonusThrows", "[I", true)
  | _ => ("SkittleStrings$Sheet", "thrown", "I", false)
def tyX3 : Nat → FieldType := fun k => match k with
  | 0 => .array .int
  | 1 => .array .int
  | 2 => .array .int
  | 3 => .array .int
  | _ => .int
abbrev wsX30 : List Cond := u_ws RX3 TX3 5
theorem nmX3 : ∀ a, a < 5 → ∀ b, b < 5 → a ≠ b → (TX3 a).2.1 ≠ (TX3 b).2.1 := by decide +kernel
theorem tyX3_ok : ∀ k, k < 5 → parseFieldDescriptor (TX3 k).2.2.1 = some (tyX3 k) := by decide +kernel
abbrev cX3_init : ByteArray := prog_5_method_1_code
def yX3_init : MethodName := ⟨RX3, "<init>", "()V"⟩
abbrev cX3_thrown : ByteArray := prog_5_method_2_code
def yX3_thrown : MethodName := ⟨RX3, "thrown", "()I"⟩
abbrev cX3_clear : ByteArray := prog_5_method_3_code
def yX3_clear : MethodName := ⟨RX3, "clear", "()V"⟩
abbrev cX3_enter : ByteArray := prog_5_method_4_code
def yX3_enter : MethodName := ⟨RX3, "enter", "(IIZ)V"⟩
abbrev cX3_points : ByteArray := prog_5_method_5_code
def yX3_points : MethodName := ⟨RX3, "points", "(I)I"⟩
abbrev cX3_score : ByteArray := prog_5_method_6_code
def yX3_score : MethodName := ⟨RX3, "score", "()I"⟩
abbrev cX3_strikes : ByteArray := prog_5_method_7_code
def yX3_strikes : MethodName := ⟨RX3, "strikes", "()I"⟩
abbrev cX3_spares : ByteArray := prog_5_method_8_code
def yX3_spares : MethodName := ⟨RX3, "spares", "()I"⟩
abbrev cX3_digestOn : ByteArray := prog_5_method_9_code
def yX3_digestOn : MethodName := ⟨RX3, "digestOn", "(J)J"⟩
abbrev cX3_framesWithBonus : ByteArray := prog_5_method_10_code
def yX3_framesWithBonus : MethodName := ⟨RX3, "framesWithBonus", "(I)I"⟩
def RX4 : String := "SkittleStrings"
def TX4 : u_T := fun k => match k with
  | 0 => ("SkittleStrings", "alley", "LSkittleStrings$Alley;", true)
  | 1 => ("SkittleStrings", "rack", "LSkittleStrings$Rack;", true)
  | 2 => ("SkittleStrings", "sheets", "[LSkittleStrings$Sheet;", true)
  | 3 => ("SkittleStrings", "playerCount", "I", false)
  | 4 => ("SkittleStrings", "turn", "I", false)
  | 5 => ("SkittleStrings", "frameNow", "I", false)
  | _ => ("SkittleStrings", "throwsNow", "I", false)
def tyX4 : Nat → FieldType := fun k => match k with
  | 0 => .object "SkittleStrings$Alley"
  | 1 => .object "SkittleStrings$Rack"
  | 2 => .array (.object "SkittleStrings$Sheet")
  | 3 => .int
  | 4 => .int
  | 5 => .int
  | _ => .int
abbrev wsX40 : List Cond := u_ws RX4 TX4 7
theorem nmX4 : ∀ a, a < 7 → ∀ b, b < 7 → a ≠ b → (TX4 a).2.1 ≠ (TX4 b).2.1 := by decide +kernel
theorem tyX4_ok : ∀ k, k < 7 → parseFieldDescriptor (TX4 k).2.2.1 = some (tyX4 k) := by decide +kernel
abbrev cX4_init : ByteArray := prog_1_method_1_code
def yX4_init : MethodName := ⟨RX4, "<init>", "()V"⟩
abbrev cX4_addPlayer : ByteArray := prog_1_method_2_code
def yX4_addPlayer : MethodName := ⟨RX4, "addPlayer", "()I"⟩
abbrev cX4_throwBall : ByteArray := prog_1_method_3_code
def yX4_throwBall : MethodName := ⟨RX4, "throwBall", "(II)I"⟩
abbrev cX4_replaceString : ByteArray := prog_1_method_4_code
def yX4_replaceString : MethodName := ⟨RX4, "replaceString", "(I)I"⟩
abbrev cX4_buyStrings : ByteArray := prog_1_method_5_code
def yX4_buyStrings : MethodName := ⟨RX4, "buyStrings", "(I)I"⟩
abbrev cX4_newGame : ByteArray := prog_1_method_6_code
def yX4_newGame : MethodName := ⟨RX4, "newGame", "()I"⟩
abbrev cX4_isStanding : ByteArray := prog_1_method_7_code
def yX4_isStanding : MethodName := ⟨RX4, "isStanding", "(I)Z"⟩
abbrev cX4_standing : ByteArray := prog_1_method_8_code
def yX4_standing : MethodName := ⟨RX4, "standing", "()I"⟩
abbrev cX4_wearOf : ByteArray := prog_1_method_9_code
def yX4_wearOf : MethodName := ⟨RX4, "wearOf", "(I)I"⟩
abbrev cX4_isBroken : ByteArray := prog_1_method_10_code
def yX4_isBroken : MethodName := ⟨RX4, "isBroken", "(I)Z"⟩
abbrev cX4_brokenStrings : ByteArray := prog_1_method_11_code
def yX4_brokenStrings : MethodName := ⟨RX4, "brokenStrings", "()I"⟩
abbrev cX4_mostWorn : ByteArray := prog_1_method_12_code
def yX4_mostWorn : MethodName := ⟨RX4, "mostWorn", "()I"⟩
abbrev cX4_spareStrings : ByteArray := prog_1_method_13_code
def yX4_spareStrings : MethodName := ⟨RX4, "spareStrings", "()I"⟩
abbrev cX4_awayFor : ByteArray := prog_1_method_14_code
def yX4_awayFor : MethodName := ⟨RX4, "awayFor", "(I)I"⟩
abbrev cX4_players : ByteArray := prog_1_method_15_code
def yX4_players : MethodName := ⟨RX4, "players", "()I"⟩
abbrev cX4_playerInTurn : ByteArray := prog_1_method_16_code
def yX4_playerInTurn : MethodName := ⟨RX4, "playerInTurn", "()I"⟩
abbrev cX4_frame : ByteArray := prog_1_method_17_code
def yX4_frame : MethodName := ⟨RX4, "frame", "()I"⟩
abbrev cX4_throwsInFrame : ByteArray := prog_1_method_18_code
def yX4_throwsInFrame : MethodName := ⟨RX4, "throwsInFrame", "()I"⟩
abbrev cX4_isOver : ByteArray := prog_1_method_19_code
def yX4_isOver : MethodName := ⟨RX4, "isOver", "()Z"⟩
abbrev cX4_throwsOf : ByteArray := prog_1_method_20_code
def yX4_throwsOf : MethodName := ⟨RX4, "throwsOf", "(I)I"⟩
abbrev cX4_scoreOf : ByteArray := prog_1_method_21_code
def yX4_scoreOf : MethodName := ⟨RX4, "scoreOf", "(I)I"⟩
abbrev cX4_pointsOf : ByteArray := prog_1_method_22_code
def yX4_pointsOf : MethodName := ⟨RX4, "pointsOf", "(II)I"⟩
abbrev cX4_strikesOf : ByteArray := prog_1_method_23_code
def yX4_strikesOf : MethodName := ⟨RX4, "strikesOf", "(I)I"⟩
abbrev cX4_sparesOf : ByteArray := prog_1_method_24_code
def yX4_sparesOf : MethodName := ⟨RX4, "sparesOf", "(I)I"⟩
abbrev cX4_leader : ByteArray := prog_1_method_25_code
def yX4_leader : MethodName := ⟨RX4, "leader", "()I"⟩
abbrev cX4_wouldFall : ByteArray := prog_1_method_26_code
def yX4_wouldFall : MethodName := ⟨RX4, "wouldFall", "(II)I"⟩
abbrev cX4_lastToFall : ByteArray := prog_1_method_27_code
def yX4_lastToFall : MethodName := ⟨RX4, "lastToFall", "(II)I"⟩
abbrev cX4_bestThrow : ByteArray := prog_1_method_28_code
def yX4_bestThrow : MethodName := ⟨RX4, "bestThrow", "()I"⟩
abbrev cX4_throwsToClear : ByteArray := prog_1_method_29_code
def yX4_throwsToClear : MethodName := ⟨RX4, "throwsToClear", "()I"⟩
abbrev cX4_wouldBreak : ByteArray := prog_1_method_30_code
def yX4_wouldBreak : MethodName := ⟨RX4, "wouldBreak", "()I"⟩
abbrev cX4_meanScore : ByteArray := prog_1_method_31_code
def yX4_meanScore : MethodName := ⟨RX4, "meanScore", "()D"⟩
abbrev cX4_digest : ByteArray := prog_1_method_32_code
def yX4_digest : MethodName := ⟨RX4, "digest", "()J"⟩
abbrev cX4_somethingThrown : ByteArray := prog_1_method_33_code
def yX4_somethingThrown : MethodName := ⟨RX4, "somethingThrown", "()Z"⟩
abbrev cX4_endFrame : ByteArray := prog_1_method_34_code
def yX4_endFrame : MethodName := ⟨RX4, "endFrame", "()V"⟩
abbrev cX4_checkPlayer : ByteArray := prog_1_method_35_code
def yX4_checkPlayer : MethodName := ⟨RX4, "checkPlayer", "(I)V"⟩
abbrev cX4_checkPin : ByteArray := prog_1_method_36_code
def yX4_checkPin : MethodName := ⟨RX4, "checkPin", "(I)V"⟩
abbrev cX4_checkBall : ByteArray := prog_1_method_37_code
def yX4_checkBall : MethodName := ⟨RX4, "checkBall", "(I)V"⟩
abbrev cX4_checkThrow : ByteArray := prog_1_method_38_code
def yX4_checkThrow : MethodName := ⟨RX4, "checkThrow", "(II)V"⟩
abbrev cX4_checkIndex : ByteArray := prog_1_method_39_code
def yX4_checkIndex : MethodName := ⟨RX4, "checkIndex", "(II)V"⟩
def RX5 : String := "SkittleStringsModel"
def TX5 : u_T := fun k => match k with
  | 0 => ("SkittleStringsModel", "thrown", "I", false)
  | 1 => ("SkittleStringsModel", "standing", "I", false)
  | 2 => ("SkittleStringsModel", "wear", "[I", true)
  | 3 => ("SkittleStringsModel", "away", "[I", true)
  | 4 => ("SkittleStringsModel", "spares", "I", false)
  | 5 => ("SkittleStringsModel", "players", "I", false)
  | 6 => ("SkittleStringsModel", "turn", "I", false)
  | 7 => ("SkittleStringsModel", "frame", "I", false)
  | 8 => ("SkittleStringsModel", "inFrame", "I", false)
  | 9 => ("SkittleStringsModel", "many", "[I", true)
  | 10 => ("SkittleStringsModel", "fell", "[I", true)
  | 11 => ("SkittleStringsModel", "begins", "[I", true)
  | 12 => ("SkittleStringsModel", "strikes", "[I", true)
  | 13 => ("SkittleStringsModel", "closed", "[I", true)
  | _ => ("SkittleStringsModel", "extra", "[I", true)
def tyX5 : Nat → FieldType := fun k => match k with
  | 0 => .int
  | 1 => .int
  | 2 => .array .int
  | 3 => .array .int
  | 4 => .int
  | 5 => .int
  | 6 => .int
  | 7 => .int
  | 8 => .int
  | 9 => .array .int
  | 10 => .array .int
  | 11 => .array .int
  | 12 => .array .int
  | 13 => .array .int
  | _ => .array .int
abbrev wsX50 : List Cond := u_ws RX5 TX5 15
theorem nmX5 : ∀ a, a < 15 → ∀ b, b < 15 → a ≠ b → (TX5 a).2.1 ≠ (TX5 b).2.1 := by decide +kernel
theorem tyX5_ok : ∀ k, k < 15 → parseFieldDescriptor (TX5 k).2.2.1 = some (tyX5 k) := by decide +kernel
abbrev cX5_init : ByteArray := prog_7_method_1_code
def yX5_init : MethodName := ⟨RX5, "<init>", "()V"⟩
abbrev cX5_thrown : ByteArray := prog_7_method_2_code
def yX5_thrown : MethodName := ⟨RX5, "thrown", "()I"⟩
abbrev cX5_no : ByteArray := prog_7_method_3_code
def yX5_no : MethodName := ⟨RX5, "no", "(I)I"⟩
abbrev cX5_isNot : ByteArray := prog_7_method_4_code
def yX5_isNot : MethodName := ⟨RX5, "isNot", "(I)Z"⟩
abbrev cX5_ok : ByteArray := prog_7_method_5_code
def yX5_ok : MethodName := ⟨RX5, "ok", "(I)I"⟩
abbrev cX5_isIn : ByteArray := prog_7_method_6_code
def yX5_isIn : MethodName := ⟨RX5, "isIn", "(III)Z"⟩
abbrev cX5_isPin : ByteArray := prog_7_method_7_code
def yX5_isPin : MethodName := ⟨RX5, "isPin", "(I)Z"⟩
abbrev cX5_isThrow : ByteArray := prog_7_method_8_code
def yX5_isThrow : MethodName := ⟨RX5, "isThrow", "(II)Z"⟩
abbrev cX5_isPlayer : ByteArray := prog_7_method_9_code
def yX5_isPlayer : MethodName := ⟨RX5, "isPlayer", "(I)Z"⟩
abbrev cX5_pinAt : ByteArray := prog_7_method_10_code
def yX5_pinAt : MethodName := ⟨RX5, "pinAt", "(II)I"⟩
abbrev cX5_hit : ByteArray := prog_7_method_11_code
def yX5_hit : MethodName := ⟨RX5, "hit", "(III)I"⟩
abbrev cX5_roll : ByteArray := prog_7_method_12_code
def yX5_roll : MethodName := ⟨RX5, "roll", "(III)I"⟩
abbrev cX5_broken : ByteArray := prog_7_method_13_code
def yX5_broken : MethodName := ⟨RX5, "broken", "(I)Z"⟩
abbrev cX5_putUp : ByteArray := prog_7_method_14_code
def yX5_putUp : MethodName := ⟨RX5, "putUp", "()V"⟩
abbrev cX5_over : ByteArray := prog_7_method_15_code
def yX5_over : MethodName := ⟨RX5, "over", "()Z"⟩
abbrev cX5_throwsOfAll : ByteArray := prog_7_method_16_code
def yX5_throwsOfAll : MethodName := ⟨RX5, "throwsOfAll", "()I"⟩
abbrev cX5_addPlayer : ByteArray := prog_7_method_17_code
def yX5_addPlayer : MethodName := ⟨RX5, "addPlayer", "()I"⟩
abbrev cX5_sum : ByteArray := prog_7_method_18_code
def yX5_sum : MethodName := ⟨RX5, "sum", "(III)I"⟩
abbrev cX5_begin : ByteArray := prog_7_method_19_code
def yX5_begin : MethodName := ⟨RX5, "begin", "(II)I"⟩
abbrev cX5_endFrame : ByteArray := prog_7_method_20_code
def yX5_endFrame : MethodName := ⟨RX5, "endFrame", "()V"⟩
abbrev cX5_play : ByteArray := prog_7_method_21_code
def yX5_play : MethodName := ⟨RX5, "play", "(II)I"⟩
abbrev cX5_throwBall : ByteArray := prog_7_method_22_code
def yX5_throwBall : MethodName := ⟨RX5, "throwBall", "(II)I"⟩
abbrev cX5_replaceString : ByteArray := prog_7_method_23_code
def yX5_replaceString : MethodName := ⟨RX5, "replaceString", "(I)I"⟩
abbrev cX5_buyStrings : ByteArray := prog_7_method_24_code
def yX5_buyStrings : MethodName := ⟨RX5, "buyStrings", "(I)I"⟩
abbrev cX5_points : ByteArray := prog_7_method_25_code
def yX5_points : MethodName := ⟨RX5, "points", "(II)I"⟩
abbrev cX5_score : ByteArray := prog_7_method_26_code
def yX5_score : MethodName := ⟨RX5, "score", "(I)I"⟩
abbrev cX5_first : ByteArray := prog_7_method_27_code
def yX5_first : MethodName := ⟨RX5, "first", "()I"⟩
abbrev cX5_newGame : ByteArray := prog_7_method_28_code
def yX5_newGame : MethodName := ⟨RX5, "newGame", "()I"⟩
abbrev cX5_isStanding : ByteArray := prog_7_method_29_code
def yX5_isStanding : MethodName := ⟨RX5, "isStanding", "(I)Z"⟩
abbrev cX5_standing : ByteArray := prog_7_method_30_code
def yX5_standing : MethodName := ⟨RX5, "standing", "()I"⟩
abbrev cX5_wearOf : ByteArray := prog_7_method_31_code
def yX5_wearOf : MethodName := ⟨RX5, "wearOf", "(I)I"⟩
abbrev cX5_isBroken : ByteArray := prog_7_method_32_code
def yX5_isBroken : MethodName := ⟨RX5, "isBroken", "(I)Z"⟩
abbrev cX5_brokenNow : ByteArray := prog_7_method_33_code
def yX5_brokenNow : MethodName := ⟨RX5, "brokenNow", "()I"⟩
abbrev cX5_brokenStrings : ByteArray := prog_7_method_34_code
def yX5_brokenStrings : MethodName := ⟨RX5, "brokenStrings", "()I"⟩
abbrev cX5_mostWorn : ByteArray := prog_7_method_35_code
def yX5_mostWorn : MethodName := ⟨RX5, "mostWorn", "()I"⟩
abbrev cX5_spareStrings : ByteArray := prog_7_method_36_code
def yX5_spareStrings : MethodName := ⟨RX5, "spareStrings", "()I"⟩
abbrev cX5_awayFor : ByteArray := prog_7_method_37_code
def yX5_awayFor : MethodName := ⟨RX5, "awayFor", "(I)I"⟩
abbrev cX5_players : ByteArray := prog_7_method_38_code
def yX5_players : MethodName := ⟨RX5, "players", "()I"⟩
abbrev cX5_turnNow : ByteArray := prog_7_method_39_code
def yX5_turnNow : MethodName := ⟨RX5, "turnNow", "()I"⟩
abbrev cX5_playerInTurn : ByteArray := prog_7_method_40_code
def yX5_playerInTurn : MethodName := ⟨RX5, "playerInTurn", "()I"⟩
abbrev cX5_frame : ByteArray := prog_7_method_41_code
def yX5_frame : MethodName := ⟨RX5, "frame", "()I"⟩
abbrev cX5_throwsInFrame : ByteArray := prog_7_method_42_code
def yX5_throwsInFrame : MethodName := ⟨RX5, "throwsInFrame", "()I"⟩
abbrev cX5_isOver : ByteArray := prog_7_method_43_code
def yX5_isOver : MethodName := ⟨RX5, "isOver", "()Z"⟩
abbrev cX5_of : ByteArray := prog_7_method_44_code
def yX5_of : MethodName := ⟨RX5, "of", "(I[I)I"⟩
abbrev cX5_throwsOf : ByteArray := prog_7_method_45_code
def yX5_throwsOf : MethodName := ⟨RX5, "throwsOf", "(I)I"⟩
abbrev cX5_scoreOf : ByteArray := prog_7_method_46_code
def yX5_scoreOf : MethodName := ⟨RX5, "scoreOf", "(I)I"⟩
abbrev cX5_pointsOf : ByteArray := prog_7_method_47_code
def yX5_pointsOf : MethodName := ⟨RX5, "pointsOf", "(II)I"⟩
abbrev cX5_strikesOf : ByteArray := prog_7_method_48_code
def yX5_strikesOf : MethodName := ⟨RX5, "strikesOf", "(I)I"⟩
abbrev cX5_sparesOf : ByteArray := prog_7_method_49_code
def yX5_sparesOf : MethodName := ⟨RX5, "sparesOf", "(I)I"⟩
abbrev cX5_leader : ByteArray := prog_7_method_50_code
def yX5_leader : MethodName := ⟨RX5, "leader", "()I"⟩
abbrev cX5_wouldFall : ByteArray := prog_7_method_51_code
def yX5_wouldFall : MethodName := ⟨RX5, "wouldFall", "(II)I"⟩
abbrev cX5_lastToFall : ByteArray := prog_7_method_52_code
def yX5_lastToFall : MethodName := ⟨RX5, "lastToFall", "(II)I"⟩
abbrev cX5_best : ByteArray := prog_7_method_53_code
def yX5_best : MethodName := ⟨RX5, "best", "()I"⟩
abbrev cX5_bestThrow : ByteArray := prog_7_method_54_code
def yX5_bestThrow : MethodName := ⟨RX5, "bestThrow", "()I"⟩
abbrev cX5_isCleared : ByteArray := prog_7_method_55_code
def yX5_isCleared : MethodName := ⟨RX5, "isCleared", "(III)Z"⟩
abbrev cX5_clear : ByteArray := prog_7_method_56_code
def yX5_clear : MethodName := ⟨RX5, "clear", "()I"⟩
abbrev cX5_throwsToClear : ByteArray := prog_7_method_57_code
def yX5_throwsToClear : MethodName := ⟨RX5, "throwsToClear", "()I"⟩
abbrev cX5_wouldBreak : ByteArray := prog_7_method_58_code
def yX5_wouldBreak : MethodName := ⟨RX5, "wouldBreak", "()I"⟩
abbrev cX5_meanScore : ByteArray := prog_7_method_59_code
def yX5_meanScore : MethodName := ⟨RX5, "meanScore", "()D"⟩
abbrev cX5_digest : ByteArray := prog_7_method_60_code
def yX5_digest : MethodName := ⟨RX5, "digest", "()J"⟩
def RJ6 : String := "java/lang/Integer"
def TJ6 : u_T := fun k => match k with
  | _ => ("", "", "", false)
def tyJ6 : Nat → FieldType := fun k => match k with
  | _ => .int
abbrev wsJ60 : List Cond := u_ws RJ6 TJ6 0
theorem nmJ6 : ∀ a, a < 0 → ∀ b, b < 0 → a ≠ b → (TJ6 a).2.1 ≠ (TJ6 b).2.1 := by decide +kernel
theorem tyJ6_ok : ∀ k, k < 0 → parseFieldDescriptor (TJ6 k).2.2.1 = some (tyJ6 k) := by decide +kernel
abbrev cJ6_numberOfLeadingZeros_0f7a4 : ByteArray := prog_12_method_47_code
def yJ6_numberOfLeadingZeros_0f7a4 : MethodName := ⟨RJ6, "numberOfLeadingZeros", "(I)I"⟩
abbrev cJ6_bitCount_0f7a4 : ByteArray := prog_12_method_49_code
def yJ6_bitCount_0f7a4 : MethodName := ⟨RJ6, "bitCount", "(I)I"⟩
def RJ9 : String := "java/lang/Math"
def TJ9 : u_T := fun k => match k with
  | _ => ("", "", "", false)
def tyJ9 : Nat → FieldType := fun k => match k with
  | _ => .int
abbrev wsJ90 : List Cond := u_ws RJ9 TJ9 0
theorem nmJ9 : ∀ a, a < 0 → ∀ b, b < 0 → a ≠ b → (TJ9 a).2.1 ≠ (TJ9 b).2.1 := by decide +kernel
theorem tyJ9_ok : ∀ k, k < 0 → parseFieldDescriptor (TJ9 k).2.2.1 = some (tyJ9 k) := by decide +kernel
abbrev cJ9_max_7cf53 : ByteArray := prog_13_method_65_code
def yJ9_max_7cf53 : MethodName := ⟨RJ9, "max", "(II)I"⟩
abbrev cJ9_min_7cf53 : ByteArray := prog_13_method_69_code
def yJ9_min_7cf53 : MethodName := ⟨RJ9, "min", "(II)I"⟩
def RJ0 : String := "java/lang/String"
def TJ0 : u_T := fun k => match k with
  | _ => ("", "", "", false)
def tyJ0 : Nat → FieldType := fun k => match k with
  | _ => .int
abbrev wsJ00 : List Cond := u_ws RJ0 TJ0 0
theorem nmJ0 : ∀ a, a < 0 → ∀ b, b < 0 → a ≠ b → (TJ0 a).2.1 ≠ (TJ0 b).2.1 := by decide +kernel
theorem tyJ0_ok : ∀ k, k < 0 → parseFieldDescriptor (TJ0 k).2.2.1 = some (tyJ0 k) := by decide +kernel
def RL : String := "SkittleStringsLaw"
abbrev cL_addPlayer : ByteArray := method_3_code
def yL_addPlayer : MethodName := ⟨RL, "addPlayer", "(LSkittleStrings;[J)I"⟩
abbrev cL_throwBall : ByteArray := method_4_code
def yL_throwBall : MethodName := ⟨RL, "throwBall", "(LSkittleStrings;II[J)I"⟩
abbrev cL_replaceString : ByteArray := method_5_code
def yL_replaceString : MethodName := ⟨RL, "replaceString", "(LSkittleStrings;I[J)I"⟩
abbrev cL_buyStrings : ByteArray := method_6_code
def yL_buyStrings : MethodName := ⟨RL, "buyStrings", "(LSkittleStrings;I[J)I"⟩
abbrev cL_isStanding : ByteArray := method_7_code
def yL_isStanding : MethodName := ⟨RL, "isStanding", "(LSkittleStrings;I[J)I"⟩
abbrev cL_wearOf : ByteArray := method_8_code
def yL_wearOf : MethodName := ⟨RL, "wearOf", "(LSkittleStrings;I[J)I"⟩
abbrev cL_isBroken : ByteArray := method_9_code
def yL_isBroken : MethodName := ⟨RL, "isBroken", "(LSkittleStrings;I[J)I"⟩
abbrev cL_awayFor : ByteArray := method_10_code
def yL_awayFor : MethodName := ⟨RL, "awayFor", "(LSkittleStrings;I[J)I"⟩
abbrev cL_throwsOf : ByteArray := method_11_code
def yL_throwsOf : MethodName := ⟨RL, "throwsOf", "(LSkittleStrings;I[J)I"⟩
abbrev cL_scoreOf : ByteArray := method_12_code
def yL_scoreOf : MethodName := ⟨RL, "scoreOf", "(LSkittleStrings;I[J)I"⟩
abbrev cL_pointsOf : ByteArray := method_13_code
def yL_pointsOf : MethodName := ⟨RL, "pointsOf", "(LSkittleStrings;II[J)I"⟩
abbrev cL_strikesOf : ByteArray := method_14_code
def yL_strikesOf : MethodName := ⟨RL, "strikesOf", "(LSkittleStrings;I[J)I"⟩
abbrev cL_sparesOf : ByteArray := method_15_code
def yL_sparesOf : MethodName := ⟨RL, "sparesOf", "(LSkittleStrings;I[J)I"⟩
abbrev cL_wouldFall : ByteArray := method_16_code
def yL_wouldFall : MethodName := ⟨RL, "wouldFall", "(LSkittleStrings;II[J)I"⟩
abbrev cL_lastToFall : ByteArray := method_17_code
def yL_lastToFall : MethodName := ⟨RL, "lastToFall", "(LSkittleStrings;II[J)I"⟩
abbrev cL_law : ByteArray := code
def yL_law : MethodName := ⟨RL, "law", "([I)Z"⟩
def wsX0_init : List Cond := .code yX0_init cX0_init 1 none :: ([.methodLink RX0 3 objectInit, .instanceMethod objectInit, .code objectInit ⟨#[0xb1]⟩ 1 none, .arrayClass .int, .fieldLink RX0 9 "SkittleStrings$Alley" "wears" "[I", .fieldLink RX0 17 "SkittleStrings$Alley" "standing" "I", .fieldLink RX0 21 "SkittleStrings$Alley" "spares" "I"] ++ wsX00)
def wsX0_standingPins : List Cond := .code yX0_standingPins cX0_standingPins 1 (some .int) :: ([.fieldLink RX0 17 "SkittleStrings$Alley" "standing" "I"] ++ wsX00)
def wsX0_spares : List Cond := .code yX0_spares cX0_spares 1 (some .int) :: ([.fieldLink RX0 21 "SkittleStrings$Alley" "spares" "I"] ++ wsX00)
def wsX0_wear : List Cond := .code yX0_wear cX0_wear 2 (some .int) :: ([.fieldLink RX0 9 "SkittleStrings$Alley" "wears" "[I"] ++ wsX00)
def wsX0_broken : List Cond := .code yX0_broken cX0_broken 2 (some .boolean) :: ([.fieldLink RX0 9 "SkittleStrings$Alley" "wears" "[I"] ++ wsX00)
def wsX0_setUp : List Cond := .code yX0_setUp cX0_setUp 2 none :: ([.fieldLink RX0 17 "SkittleStrings$Alley" "standing" "I", .methodLink RX0 24 yX0_broken, .instanceMethod yX0_broken, .selects RX0 yX0_broken yX0_broken, .initialized RX0, .code yX0_broken cX0_broken 2 (some .boolean), .fieldLink RX0 9 "SkittleStrings$Alley" "wears" "[I"] ++ wsX00)
def wsX1_pinAt : List Cond := .code yX1_pinAt cX1_pinAt 2 (some .int) :: ([.fieldLink RX1 31 "SkittleStrings$Pins" "PLACES" "[I"])
def wsX1_holds : List Cond := .code yX1_holds cX1_holds 2 (some .boolean) :: ([])
def wsX1_afterHit : List Cond := .code yX1_afterHit cX1_afterHit 6 (some .int) :: ([.methodLink RX1 19 yX1_pinAt, .static yX1_pinAt, .initialized RX1, .code yX1_pinAt cX1_pinAt 2 (some .int), .fieldLink RX1 31 "SkittleStrings$Pins" "PLACES" "[I", .methodLink RX1 9 yX1_holds, .static yX1_holds, .code yX1_holds cX1_holds 2 (some .boolean), .methodLink RX1 15 yX1_afterHit, .static yX1_afterHit])
def wsX1_felled : List Cond := .code yX1_felled cX1_felled 7 (some .int) :: ([.methodLink RX1 15 yX1_afterHit, .static yX1_afterHit, .initialized RX1, .code yX1_afterHit cX1_afterHit 6 (some .int), .methodLink RX1 19 yX1_pinAt, .static yX1_pinAt, .code yX1_pinAt cX1_pinAt 2 (some .int), .fieldLink RX1 31 "SkittleStrings$Pins" "PLACES" "[I", .methodLink RX1 9 yX1_holds, .static yX1_holds, .code yX1_holds cX1_holds 2 (some .boolean)])
def wsJ6_bitCount_0f7a4 : List Cond := .code yJ6_bitCount_0f7a4 cJ6_bitCount_0f7a4 1 (some .int) :: ([.constant RJ6 265 (1431655765), .constant RJ6 266 (858993459), .constant RJ6 267 (252645135)])
def wsX0_roll : List Cond := .code yX0_roll cX0_roll 5 (some .int) :: ([.fieldLink RX0 17 "SkittleStrings$Alley" "standing" "I", .fieldLink RX0 9 "SkittleStrings$Alley" "wears" "[I", .methodLink RX0 28 yX1_felled, .static yX1_felled, .initialized RX1, .code yX1_felled cX1_felled 7 (some .int), .methodLink RX1 15 yX1_afterHit, .static yX1_afterHit, .code yX1_afterHit cX1_afterHit 6 (some .int), .methodLink RX1 19 yX1_pinAt, .static yX1_pinAt, .code yX1_pinAt cX1_pinAt 2 (some .int), .fieldLink RX1 31 "SkittleStrings$Pins" "PLACES" "[I", .methodLink RX1 9 yX1_holds, .static yX1_holds, .code yX1_holds cX1_holds 2 (some .boolean), .methodLink RX0 32 yX1_holds, .methodLink RX0 36 yJ6_bitCount_0f7a4, .static yJ6_bitCount_0f7a4, .initialized RJ6, .code yJ6_bitCount_0f7a4 cJ6_bitCount_0f7a4 1 (some .int), .constant RJ6 265 (1431655765), .constant RJ6 266 (858993459), .constant RJ6 267 (252645135)] ++ wsX00)
def wsX0_replace : List Cond := .code yX0_replace cX0_replace 2 none :: ([.fieldLink RX0 21 "SkittleStrings$Alley" "spares" "I", .fieldLink RX0 9 "SkittleStrings$Alley" "wears" "[I"] ++ wsX00)
def wsX0_stock : List Cond := .code yX0_stock cX0_stock 2 none :: ([.fieldLink RX0 21 "SkittleStrings$Alley" "spares" "I"] ++ wsX00)
def wsX0_brokenCount : List Cond := .code yX0_brokenCount cX0_brokenCount 3 (some .int) :: ([.methodLink RX0 24 yX0_broken, .instanceMethod yX0_broken, .selects RX0 yX0_broken yX0_broken, .initialized RX0, .code yX0_broken cX0_broken 2 (some .boolean), .fieldLink RX0 9 "SkittleStrings$Alley" "wears" "[I"] ++ wsX00)
def wsX0_brokenIfAllFell : List Cond := .code yX0_brokenIfAllFell cX0_brokenIfAllFell 4 (some .int) :: ([.fieldLink RX0 17 "SkittleStrings$Alley" "standing" "I", .fieldLink RX0 9 "SkittleStrings$Alley" "wears" "[I", .methodLink RX0 32 yX1_holds, .static yX1_holds, .initialized RX1, .code yX1_holds cX1_holds 2 (some .boolean)] ++ wsX00)
def wsX0_mostWornPin : List Cond := .code yX0_mostWornPin cX0_mostWornPin 4 (some .int) :: ([.fieldLink RX0 9 "SkittleStrings$Alley" "wears" "[I", .methodLink RX0 24 yX0_broken, .instanceMethod yX0_broken, .selects RX0 yX0_broken yX0_broken, .initialized RX0, .code yX0_broken cX0_broken 2 (some .boolean)] ++ wsX00)
def wsX0_digestOn : List Cond := .code yX0_digestOn cX0_digestOn 6 (some .long) :: ([.constantLong RX0 42 (31), .fieldLink RX0 17 "SkittleStrings$Alley" "standing" "I", .fieldLink RX0 9 "SkittleStrings$Alley" "wears" "[I", .methodLink RX0 32 yX1_holds, .static yX1_holds, .initialized RX1, .code yX1_holds cX1_holds 2 (some .boolean)] ++ wsX00)
def wsX1_last : List Cond := .code yX1_last cX1_last 2 (some .int) :: ([.methodLink RX1 9 yX1_holds, .static yX1_holds, .initialized RX1, .code yX1_holds cX1_holds 2 (some .boolean)])
def wsX1_canClear : List Cond := .code yX1_canClear cX1_canClear 6 (some .boolean) :: ([.methodLink RX1 9 yX1_holds, .static yX1_holds, .initialized RX1, .code yX1_holds cX1_holds 2 (some .boolean), .methodLink RX1 23 yX1_felled, .static yX1_felled, .code yX1_felled cX1_felled 7 (some .int), .methodLink RX1 15 yX1_afterHit, .static yX1_afterHit, .code yX1_afterHit cX1_afterHit 6 (some .int), .methodLink RX1 19 yX1_pinAt, .static yX1_pinAt, .code yX1_pinAt cX1_pinAt 2 (some .int), .fieldLink RX1 31 "SkittleStrings$Pins" "PLACES" "[I", .methodLink RX1 27 yX1_canClear, .static yX1_canClear])
def wsX2_init : List Cond := .code yX2_init cX2_init 1 none :: ([.methodLink RX2 3 objectInit, .instanceMethod objectInit, .code objectInit ⟨#[0xb1]⟩ 1 none, .arrayClass .int, .fieldLink RX2 9 "SkittleStrings$Rack" "away" "[I"] ++ wsX20)
def wsX2_throwsAway : List Cond := .code yX2_throwsAway cX2_throwsAway 2 (some .int) :: ([.fieldLink RX2 9 "SkittleStrings$Rack" "away" "[I"] ++ wsX20)
def wsX2_send : List Cond := .code yX2_send cX2_send 3 none :: ([.fieldLink RX2 9 "SkittleStrings$Rack" "away" "[I", .methodLink RX2 15 Lib.Math.max.name, .static Lib.Math.max.name, .initialized "java/lang/Math", .code Lib.Math.max.name Lib.Math.max.code 2 (some .int)] ++ wsX20)
def wsX2_returnAll : List Cond := .code yX2_returnAll cX2_returnAll 2 none :: ([.fieldLink RX2 9 "SkittleStrings$Rack" "away" "[I"] ++ wsX20)
def wsX2_digestOn : List Cond := .code yX2_digestOn cX2_digestOn 6 (some .long) :: ([.constantLong RX2 21 (31), .fieldLink RX2 9 "SkittleStrings$Rack" "away" "[I"] ++ wsX20)
def wsX3_init : List Cond := .code yX3_init cX3_init 1 none :: ([.methodLink RX3 3 objectInit, .instanceMethod objectInit, .code objectInit ⟨#[0xb1]⟩ 1 none, .arrayClass .int, .fieldLink RX3 9 "SkittleStrings$Sheet" "pinsOfThrow" "[I", .fieldLink RX3 15 "SkittleStrings$Sheet" "firstThrow" "[I", .fieldLink RX3 18 "SkittleStrings$Sheet" "throwsIn" "[I", .fieldLink RX3 21 "SkittleStrings$Sheet" "bonusThrows" "[I"] ++ wsX30)
def wsX3_thrown : List Cond := .code yX3_thrown cX3_thrown 1 (some .int) :: ([.fieldLink RX3 24 "SkittleStrings$Sheet" "thrown" "I"] ++ wsX30)
def wsX3_clear : List Cond := .code yX3_clear cX3_clear 2 none :: ([.fieldLink RX3 24 "SkittleStrings$Sheet" "thrown" "I", .fieldLink RX3 15 "SkittleStrings$Sheet" "firstThrow" "[I", .fieldLink RX3 18 "SkittleStrings$Sheet" "throwsIn" "[I", .fieldLink RX3 21 "SkittleStrings$Sheet" "bonusThrows" "[I"] ++ wsX30)
def wsX3_enter : List Cond := .code yX3_enter cX3_enter 4 none :: ([.fieldLink RX3 24 "SkittleStrings$Sheet" "thrown" "I", .fieldLink RX3 9 "SkittleStrings$Sheet" "pinsOfThrow" "[I", .fieldLink RX3 18 "SkittleStrings$Sheet" "throwsIn" "[I", .fieldLink RX3 15 "SkittleStrings$Sheet" "firstThrow" "[I", .fieldLink RX3 21 "SkittleStrings$Sheet" "bonusThrows" "[I"] ++ wsX30)
def wsX3_points : List Cond := .code yX3_points cX3_points 5 (some .int) :: ([.fieldLink RX3 24 "SkittleStrings$Sheet" "thrown" "I", .fieldLink RX3 15 "SkittleStrings$Sheet" "firstThrow" "[I", .fieldLink RX3 18 "SkittleStrings$Sheet" "throwsIn" "[I", .fieldLink RX3 21 "SkittleStrings$Sheet" "bonusThrows" "[I", .methodLink RX3 28 Lib.Math.min.name, .static Lib.Math.min.name, .initialized "java/lang/Math", .code Lib.Math.min.name Lib.Math.min.code 2 (some .int), .fieldLink RX3 9 "SkittleStrings$Sheet" "pinsOfThrow" "[I"] ++ wsX30)
def wsX3_score : List Cond := .code yX3_score cX3_score 3 (some .int) :: ([.methodLink RX3 34 yX3_points, .instanceMethod yX3_points, .selects RX3 yX3_points yX3_points, .initialized RX3, .code yX3_points cX3_points 5 (some .int), .fieldLink RX3 24 "SkittleStrings$Sheet" "thrown" "I", .fieldLink RX3 15 "SkittleStrings$Sheet" "firstThrow" "[I", .fieldLink RX3 18 "SkittleStrings$Sheet" "throwsIn" "[I", .fieldLink RX3 21 "SkittleStrings$Sheet" "bonusThrows" "[I", .methodLink RX3 28 Lib.Math.min.name, .static Lib.Math.min.name, .initialized "java/lang/Math", .code Lib.Math.min.name Lib.Math.min.code 2 (some .int), .fieldLink RX3 9 "SkittleStrings$Sheet" "pinsOfThrow" "[I"] ++ wsX30)
def wsX3_framesWithBonus : List Cond := .code yX3_framesWithBonus cX3_framesWithBonus 4 (some .int) :: ([.fieldLink RX3 21 "SkittleStrings$Sheet" "bonusThrows" "[I"] ++ wsX30)
def wsX3_strikes : List Cond := .code yX3_strikes cX3_strikes 1 (some .int) :: ([.methodLink RX3 38 yX3_framesWithBonus, .instanceMethod yX3_framesWithBonus, .selects RX3 yX3_framesWithBonus yX3_framesWithBonus, .initialized RX3, .code yX3_framesWithBonus cX3_framesWithBonus 4 (some .int), .fieldLink RX3 21 "SkittleStrings$Sheet" "bonusThrows" "[I"] ++ wsX30)
def wsX3_spares : List Cond := .code yX3_spares cX3_spares 1 (some .int) :: ([.methodLink RX3 38 yX3_framesWithBonus, .instanceMethod yX3_framesWithBonus, .selects RX3 yX3_framesWithBonus yX3_framesWithBonus, .initialized RX3, .code yX3_framesWithBonus cX3_framesWithBonus 4 (some .int), .fieldLink RX3 21 "SkittleStrings$Sheet" "bonusThrows" "[I"] ++ wsX30)
def wsX3_digestOn_r1 : List Cond := [Cond.constantLong RX3 41 (31), Cond.fieldLink RX3 24 "SkittleStrings$Sheet" "thrown" "I", Cond.methodLink RX3 43 yX3_score, Cond.instanceMethod yX3_score, Cond.selects RX3 yX3_score yX3_score, Cond.initialized RX3, Cond.code yX3_score cX3_score 3 (some .int), Cond.methodLink RX3 34 yX3_points, Cond.instanceMethod yX3_points, Cond.selects RX3 yX3_points yX3_points, Cond.code yX3_points cX3_points 5 (some .int), Cond.fieldLink RX3 15 "SkittleStrings$Sheet" "firstThrow" "[I", Cond.fieldLink RX3 18 "SkittleStrings$Sheet" "throwsIn" "[I", Cond.fieldLink RX3 21 "SkittleStrings$Sheet" "bonusThrows" "[I", Cond.methodLink RX3 28 Lib.Math.min.name, Cond.static Lib.Math.min.name, Cond.initialized "java/lang/Math", Cond.code Lib.Math.min.name Lib.Math.min.code 2 (some .int), Cond.fieldLink RX3 9 "SkittleStrings$Sheet" "pinsOfThrow" "[I", Cond.methodLink RX3 47 yX3_strikes, Cond.instanceMethod yX3_strikes, Cond.selects RX3 yX3_strikes yX3_strikes, Cond.code yX3_strikes cX3_strikes 1 (some .int), Cond.methodLink RX3 38 yX3_framesWithBonus]
def wsX3_digestOn_r2 : List Cond := [Cond.instanceMethod yX3_framesWithBonus, Cond.selects RX3 yX3_framesWithBonus yX3_framesWithBonus, Cond.code yX3_framesWithBonus cX3_framesWithBonus 4 (some .int), Cond.methodLink RX3 50 yX3_spares, Cond.instanceMethod yX3_spares, Cond.selects RX3 yX3_spares yX3_spares, Cond.code yX3_spares cX3_spares 1 (some .int)]
def wsX3_digestOn : List Cond := .code yX3_digestOn cX3_digestOn 6 (some .long) :: ((wsX3_digestOn_r1 ++ wsX3_digestOn_r2) ++ wsX30)
def wsX4_init_r1 : List Cond := [Cond.methodLink RX4 1 objectInit, Cond.instanceMethod objectInit, Cond.code objectInit ⟨#[0xb1]⟩ 1 none, Cond.classLink RX4 7 RX0, Cond.instantiable RX0 3, Cond.initialized RX0, Cond.fieldLink RX4 10 "SkittleStrings" "alley" "LSkittleStrings$Alley;", Cond.classLink RX4 16 RX2, Cond.instantiable RX2 1, Cond.initialized RX2, Cond.fieldLink RX4 19 "SkittleStrings" "rack" "LSkittleStrings$Rack;", Cond.classLink RX4 23 RX3, Cond.fieldLink RX4 25 "SkittleStrings" "sheets" "[LSkittleStrings$Sheet;", Cond.instantiable RX3 5, Cond.initialized RX3, Cond.instanceMethod yX0_init, Cond.code yX0_init cX0_init 1 none, Cond.methodLink RX0 3 objectInit, Cond.arrayClass .int, Cond.fieldLink RX0 9 "SkittleStrings$Alley" "wears" "[I", Cond.fieldLink RX0 17 "SkittleStrings$Alley" "standing" "I", Cond.fieldLink RX0 21 "SkittleStrings$Alley" "spares" "I", Cond.instanceMethod yX2_init, Cond.code yX2_init cX2_init 1 none]
def wsX4_init_r2 : List Cond := [Cond.methodLink RX2 3 objectInit, Cond.fieldLink RX2 9 "SkittleStrings$Rack" "away" "[I", Cond.instanceMethod yX3_init, Cond.code yX3_init cX3_init 1 none, Cond.methodLink RX3 3 objectInit, Cond.fieldLink RX3 9 "SkittleStrings$Sheet" "pinsOfThrow" "[I", Cond.fieldLink RX3 15 "SkittleStrings$Sheet" "firstThrow" "[I", Cond.fieldLink RX3 18 "SkittleStrings$Sheet" "throwsIn" "[I", Cond.fieldLink RX3 21 "SkittleStrings$Sheet" "bonusThrows" "[I"]
def wsX4_init : List Cond := .code yX4_init cX4_init 2 none :: ((wsX4_init_r1 ++ wsX4_init_r2) ++ wsX00 ++ wsX40 ++ wsX20 ++ wsX30)
def wsX4_somethingThrown : List Cond := .code yX4_somethingThrown cX4_somethingThrown 1 (some .boolean) :: ([.fieldLink RX4 25 "SkittleStrings" "sheets" "[LSkittleStrings$Sheet;", .methodLink RX4 150 yX3_thrown, .instanceMethod yX3_thrown, .selects RX3 yX3_thrown yX3_thrown, .initialized RX3, .code yX3_thrown cX3_thrown 1 (some .int), .fieldLink RX3 24 "SkittleStrings$Sheet" "thrown" "I"] ++ wsX40 ++ wsX30)
def wsX4_addPlayer : List Cond := .code yX4_addPlayer cX4_addPlayer 2 (some .int) :: ([.classLink RX4 38 "java/lang/IllegalStateException", .initialized "java/lang/IllegalStateException", .fieldLink RX4 30 "SkittleStrings" "playerCount" "I", .methodLink RX4 34 yX4_somethingThrown, .instanceMethod yX4_somethingThrown, .selects RX4 yX4_somethingThrown yX4_somethingThrown, .initialized RX4, .code yX4_somethingThrown cX4_somethingThrown 1 (some .boolean), .fieldLink RX4 25 "SkittleStrings" "sheets" "[LSkittleStrings$Sheet;", .methodLink RX4 150 yX3_thrown, .instanceMethod yX3_thrown, .selects RX3 yX3_thrown yX3_thrown, .initialized RX3, .code yX3_thrown cX3_thrown 1 (some .int), .fieldLink RX3 24 "SkittleStrings$Sheet" "thrown" "I"] ++ wsX40 ++ wsX30 ++ (vx_atS RX4 42 "java/lang/IllegalStateException" ["java/lang/RuntimeException", "java/lang/Exception"]).filter goodWord)
def wsX4_checkIndex : List Cond := .code yX4_checkIndex cX4_checkIndex 2 none :: ([.classLink RX4 196 "java/lang/IndexOutOfBoundsException", .initialized "java/lang/IndexOutOfBoundsException"] ++ (vx_atS RX4 200 "java/lang/IndexOutOfBoundsException" ["java/lang/RuntimeException", "java/lang/Exception"]).filter goodWord)
def wsX4_checkBall : List Cond := .code yX4_checkBall cX4_checkBall 1 none :: ([.methodLink RX4 156 yX4_checkIndex, .static yX4_checkIndex, .initialized RX4, .code yX4_checkIndex cX4_checkIndex 2 none, .classLink RX4 196 "java/lang/IndexOutOfBoundsException", .initialized "java/lang/IndexOutOfBoundsException"] ++ (vx_atS RX4 200 "java/lang/IndexOutOfBoundsException" ["java/lang/RuntimeException", "java/lang/Exception"]).filter goodWord)
def wsX4_checkThrow : List Cond := .code yX4_checkThrow cX4_checkThrow 2 none :: ([.methodLink RX4 141 yX4_checkBall, .static yX4_checkBall, .initialized RX4, .code yX4_checkBall cX4_checkBall 1 none, .methodLink RX4 156 yX4_checkIndex, .static yX4_checkIndex, .code yX4_checkIndex cX4_checkIndex 2 none, .classLink RX4 196 "java/lang/IndexOutOfBoundsException", .initialized "java/lang/IndexOutOfBoundsException"] ++ (vx_atS RX4 200 "java/lang/IndexOutOfBoundsException" ["java/lang/RuntimeException", "java/lang/Exception"]).filter goodWord)
def wsX4_isOver : List Cond := .code yX4_isOver cX4_isOver 1 (some .boolean) :: ([.fieldLink RX4 70 "SkittleStrings" "frameNow" "I"] ++ wsX40)
def wsX4_playerInTurn : List Cond := .code yX4_playerInTurn cX4_playerInTurn 1 (some .int) :: ([.fieldLink RX4 30 "SkittleStrings" "playerCount" "I", .fieldLink RX4 108 "SkittleStrings" "turn" "I", .methodLink RX4 144 yX4_isOver, .instanceMethod yX4_isOver, .selects RX4 yX4_isOver yX4_isOver, .initialized RX4, .code yX4_isOver cX4_isOver 1 (some .boolean), .fieldLink RX4 70 "SkittleStrings" "frameNow" "I"] ++ wsX40)
def wsX4_endFrame : List Cond := .code yX4_endFrame cX4_endFrame 1 none :: ([.fieldLink RX4 77 "SkittleStrings" "throwsNow" "I", .fieldLink RX4 108 "SkittleStrings" "turn" "I", .fieldLink RX4 30 "SkittleStrings" "playerCount" "I", .fieldLink RX4 70 "SkittleStrings" "frameNow" "I", .fieldLink RX4 10 "SkittleStrings" "alley" "LSkittleStrings$Alley;", .methodLink RX4 144 yX4_isOver, .instanceMethod yX4_isOver, .selects RX4 yX4_isOver yX4_isOver, .initialized RX4, .code yX4_isOver cX4_isOver 1 (some .boolean), .methodLink RX4 114 yX0_setUp, .instanceMethod yX0_setUp, .selects RX0 yX0_setUp yX0_setUp, .initialized RX0, .code yX0_setUp cX0_setUp 2 none, .fieldLink RX0 17 "SkittleStrings$Alley" "standing" "I", .methodLink RX0 24 yX0_broken, .instanceMethod yX0_broken, .selects RX0 yX0_broken yX0_broken, .code yX0_broken cX0_broken 2 (some .boolean), .fieldLink RX0 9 "SkittleStrings$Alley" "wears" "[I"] ++ wsX40 ++ wsX00)
def wsX4_throwBall_r1 : List Cond := [Cond.classLink RX4 38 "java/lang/IllegalStateException", Cond.initialized "java/lang/IllegalStateException", Cond.fieldLink RX4 19 "SkittleStrings" "rack" "LSkittleStrings$Rack;", Cond.fieldLink RX4 10 "SkittleStrings" "alley" "LSkittleStrings$Alley;", Cond.fieldLink RX4 25 "SkittleStrings" "sheets" "[LSkittleStrings$Sheet;", Cond.fieldLink RX4 70 "SkittleStrings" "frameNow" "I", Cond.fieldLink RX4 77 "SkittleStrings" "throwsNow" "I", Cond.methodLink RX4 45 yX4_checkThrow, Cond.static yX4_checkThrow, Cond.initialized RX4, Cond.code yX4_checkThrow cX4_checkThrow 2 none, Cond.methodLink RX4 141 yX4_checkBall, Cond.static yX4_checkBall, Cond.code yX4_checkBall cX4_checkBall 1 none, Cond.methodLink RX4 156 yX4_checkIndex, Cond.static yX4_checkIndex, Cond.code yX4_checkIndex cX4_checkIndex 2 none, Cond.classLink RX4 196 "java/lang/IndexOutOfBoundsException", Cond.initialized "java/lang/IndexOutOfBoundsException", Cond.methodLink RX4 49 yX4_playerInTurn, Cond.instanceMethod yX4_playerInTurn, Cond.selects RX4 yX4_playerInTurn yX4_playerInTurn, Cond.code yX4_playerInTurn cX4_playerInTurn 1 (some .int), Cond.fieldLink RX4 30 "SkittleStrings" "playerCount" "I"]
def wsX4_throwBall_r2 : List Cond := [Cond.fieldLink RX4 108 "SkittleStrings" "turn" "I", Cond.methodLink RX4 144 yX4_isOver, Cond.instanceMethod yX4_isOver, Cond.selects RX4 yX4_isOver yX4_isOver, Cond.code yX4_isOver cX4_isOver 1 (some .boolean), Cond.methodLink RX4 53 yX2_throwsAway, Cond.instanceMethod yX2_throwsAway, Cond.selects RX2 yX2_throwsAway yX2_throwsAway, Cond.initialized RX2, Cond.code yX2_throwsAway cX2_throwsAway 2 (some .int), Cond.fieldLink RX2 9 "SkittleStrings$Rack" "away" "[I", Cond.methodLink RX4 59 yX0_roll, Cond.instanceMethod yX0_roll, Cond.selects RX0 yX0_roll yX0_roll, Cond.initialized RX0, Cond.code yX0_roll cX0_roll 5 (some .int), Cond.fieldLink RX0 17 "SkittleStrings$Alley" "standing" "I", Cond.fieldLink RX0 9 "SkittleStrings$Alley" "wears" "[I", Cond.methodLink RX0 28 yX1_felled, Cond.static yX1_felled, Cond.initialized RX1, Cond.code yX1_felled cX1_felled 7 (some .int), Cond.methodLink RX1 15 yX1_afterHit, Cond.static yX1_afterHit]
def wsX4_throwBall_r3 : List Cond := [Cond.code yX1_afterHit cX1_afterHit 6 (some .int), Cond.methodLink RX1 19 yX1_pinAt, Cond.static yX1_pinAt, Cond.code yX1_pinAt cX1_pinAt 2 (some .int), Cond.fieldLink RX1 31 "SkittleStrings$Pins" "PLACES" "[I", Cond.methodLink RX1 9 yX1_holds, Cond.static yX1_holds, Cond.code yX1_holds cX1_holds 2 (some .boolean), Cond.methodLink RX0 32 yX1_holds, Cond.methodLink RX0 36 yJ6_bitCount_0f7a4, Cond.static yJ6_bitCount_0f7a4, Cond.initialized RJ6, Cond.code yJ6_bitCount_0f7a4 cJ6_bitCount_0f7a4 1 (some .int), Cond.constant RJ6 265 (1431655765), Cond.constant RJ6 266 (858993459), Cond.constant RJ6 267 (252645135), Cond.methodLink RX4 63 yX2_send, Cond.instanceMethod yX2_send, Cond.selects RX2 yX2_send yX2_send, Cond.code yX2_send cX2_send 3 none, Cond.methodLink RX2 15 Lib.Math.max.name, Cond.static Lib.Math.max.name, Cond.initialized "java/lang/Math", Cond.code Lib.Math.max.name Lib.Math.max.code 2 (some .int)]
def wsX4_throwBall_r4 : List Cond := [Cond.methodLink RX4 67 yX0_standingPins, Cond.instanceMethod yX0_standingPins, Cond.selects RX0 yX0_standingPins yX0_standingPins, Cond.code yX0_standingPins cX0_standingPins 1 (some .int), Cond.methodLink RX4 73 yX3_enter, Cond.instanceMethod yX3_enter, Cond.selects RX3 yX3_enter yX3_enter, Cond.initialized RX3, Cond.code yX3_enter cX3_enter 4 none, Cond.fieldLink RX3 24 "SkittleStrings$Sheet" "thrown" "I", Cond.fieldLink RX3 9 "SkittleStrings$Sheet" "pinsOfThrow" "[I", Cond.fieldLink RX3 18 "SkittleStrings$Sheet" "throwsIn" "[I", Cond.fieldLink RX3 15 "SkittleStrings$Sheet" "firstThrow" "[I", Cond.fieldLink RX3 21 "SkittleStrings$Sheet" "bonusThrows" "[I", Cond.methodLink RX4 80 yX4_endFrame, Cond.instanceMethod yX4_endFrame, Cond.selects RX4 yX4_endFrame yX4_endFrame, Cond.code yX4_endFrame cX4_endFrame 1 none, Cond.methodLink RX4 114 yX0_setUp, Cond.instanceMethod yX0_setUp, Cond.selects RX0 yX0_setUp yX0_setUp, Cond.code yX0_setUp cX0_setUp 2 none, Cond.methodLink RX0 24 yX0_broken, Cond.instanceMethod yX0_broken]
def wsX4_throwBall_r5 : List Cond := [Cond.selects RX0 yX0_broken yX0_broken, Cond.code yX0_broken cX0_broken 2 (some .boolean)]
def wsX4_throwBall : List Cond := .code yX4_throwBall cX4_throwBall 6 (some .int) :: ((wsX4_throwBall_r1 ++ (wsX4_throwBall_r2 ++ (wsX4_throwBall_r3 ++ (wsX4_throwBall_r4 ++ wsX4_throwBall_r5)))) ++ wsX40 ++ wsX20 ++ wsX00 ++ wsX30 ++ (vx_atS RX4 42 "java/lang/IllegalStateException" ["java/lang/RuntimeException", "java/lang/Exception"]).filter goodWord ++ (vx_atS RX4 200 "java/lang/IndexOutOfBoundsException" ["java/lang/RuntimeException", "java/lang/Exception"]).filter goodWord)
def wsX4_checkPin : List Cond := .code yX4_checkPin cX4_checkPin 1 none :: ([.methodLink RX4 156 yX4_checkIndex, .static yX4_checkIndex, .initialized RX4, .code yX4_checkIndex cX4_checkIndex 2 none, .classLink RX4 196 "java/lang/IndexOutOfBoundsException", .initialized "java/lang/IndexOutOfBoundsException"] ++ (vx_atS RX4 200 "java/lang/IndexOutOfBoundsException" ["java/lang/RuntimeException", "java/lang/Exception"]).filter goodWord)
def wsX4_replaceString : List Cond := .code yX4_replaceString cX4_replaceString 2 (some .int) :: ([.classLink RX4 38 "java/lang/IllegalStateException", .initialized "java/lang/IllegalStateException", .fieldLink RX4 10 "SkittleStrings" "alley" "LSkittleStrings$Alley;", .methodLink RX4 83 yX4_checkPin, .static yX4_checkPin, .initialized RX4, .code yX4_checkPin cX4_checkPin 1 none, .methodLink RX4 156 yX4_checkIndex, .static yX4_checkIndex, .code yX4_checkIndex cX4_checkIndex 2 none, .classLink RX4 196 "java/lang/IndexOutOfBoundsException", .initialized "java/lang/IndexOutOfBoundsException", .methodLink RX4 86 yX0_spares, .instanceMethod yX0_spares, .selects RX0 yX0_spares yX0_spares, .initialized RX0, .code yX0_spares cX0_spares 1 (some .int), .fieldLink RX0 21 "SkittleStrings$Alley" "spares" "I", .methodLink RX4 91 yX0_replace, .instanceMethod yX0_replace, .selects RX0 yX0_replace yX0_replace, .code yX0_replace cX0_replace 2 none, .fieldLink RX0 9 "SkittleStrings$Alley" "wears" "[I"] ++ wsX40 ++ wsX00 ++ (vx_atS RX4 42 "java/lang/IllegalStateException" ["java/lang/RuntimeException", "java/lang/Exception"]).filter goodWord ++ (vx_atS RX4 200 "java/lang/IndexOutOfBoundsException" ["java/lang/RuntimeException", "java/lang/Exception"]).filter goodWord)
def wsX4_buyStrings : List Cond := .code yX4_buyStrings cX4_buyStrings 2 (some .int) :: ([.classLink RX4 94 "java/lang/IllegalArgumentException", .initialized "java/lang/IllegalArgumentException", .fieldLink RX4 10 "SkittleStrings" "alley" "LSkittleStrings$Alley;", .methodLink RX4 99 yX0_stock, .instanceMethod yX0_stock, .selects RX0 yX0_stock yX0_stock, .initialized RX0, .code yX0_stock cX0_stock 2 none, .fieldLink RX0 21 "SkittleStrings$Alley" "spares" "I", .methodLink RX4 86 yX0_spares, .instanceMethod yX0_spares, .selects RX0 yX0_spares yX0_spares, .code yX0_spares cX0_spares 1 (some .int)] ++ wsX40 ++ wsX00 ++ (vx_atS RX4 98 "java/lang/IllegalArgumentException" ["java/lang/RuntimeException", "java/lang/Exception"]).filter goodWord)
def wsX4_leader : List Cond := .code yX4_leader cX4_leader 5 (some .int) :: ([.fieldLink RX4 30 "SkittleStrings" "playerCount" "I", .fieldLink RX4 25 "SkittleStrings" "sheets" "[LSkittleStrings$Sheet;", .methodLink RX4 153 yX3_score, .instanceMethod yX3_score, .selects RX3 yX3_score yX3_score, .initialized RX3, .code yX3_score cX3_score 3 (some .int), .methodLink RX3 34 yX3_points, .instanceMethod yX3_points, .selects RX3 yX3_points yX3_points, .code yX3_points cX3_points 5 (some .int), .fieldLink RX3 24 "SkittleStrings$Sheet" "thrown" "I", .fieldLink RX3 15 "SkittleStrings$Sheet" "firstThrow" "[I", .fieldLink RX3 18 "SkittleStrings$Sheet" "throwsIn" "[I", .fieldLink RX3 21 "SkittleStrings$Sheet" "bonusThrows" "[I", .methodLink RX3 28 Lib.Math.min.name, .static Lib.Math.min.name, .initialized "java/lang/Math", .code Lib.Math.min.name Lib.Math.min.code 2 (some .int), .fieldLink RX3 9 "SkittleStrings$Sheet" "pinsOfThrow" "[I"] ++ wsX40 ++ wsX30)
def wsX4_newGame_r1 : List Cond := [Cond.fieldLink RX4 25 "SkittleStrings" "sheets" "[LSkittleStrings$Sheet;", Cond.fieldLink RX4 108 "SkittleStrings" "turn" "I", Cond.fieldLink RX4 70 "SkittleStrings" "frameNow" "I", Cond.fieldLink RX4 77 "SkittleStrings" "throwsNow" "I", Cond.fieldLink RX4 19 "SkittleStrings" "rack" "LSkittleStrings$Rack;", Cond.fieldLink RX4 10 "SkittleStrings" "alley" "LSkittleStrings$Alley;", Cond.methodLink RX4 102 yX4_leader, Cond.instanceMethod yX4_leader, Cond.selects RX4 yX4_leader yX4_leader, Cond.initialized RX4, Cond.code yX4_leader cX4_leader 5 (some .int), Cond.fieldLink RX4 30 "SkittleStrings" "playerCount" "I", Cond.methodLink RX4 153 yX3_score, Cond.instanceMethod yX3_score, Cond.selects RX3 yX3_score yX3_score, Cond.initialized RX3, Cond.code yX3_score cX3_score 3 (some .int), Cond.methodLink RX3 34 yX3_points, Cond.instanceMethod yX3_points, Cond.selects RX3 yX3_points yX3_points, Cond.code yX3_points cX3_points 5 (some .int), Cond.fieldLink RX3 24 "SkittleStrings$Sheet" "thrown" "I", Cond.fieldLink RX3 15 "SkittleStrings$Sheet" "firstThrow" "[I", Cond.fieldLink RX3 18 "SkittleStrings$Sheet" "throwsIn" "[I"]
def wsX4_newGame_r2 : List Cond := [Cond.fieldLink RX3 21 "SkittleStrings$Sheet" "bonusThrows" "[I", Cond.methodLink RX3 28 Lib.Math.min.name, Cond.static Lib.Math.min.name, Cond.initialized "java/lang/Math", Cond.code Lib.Math.min.name Lib.Math.min.code 2 (some .int), Cond.fieldLink RX3 9 "SkittleStrings$Sheet" "pinsOfThrow" "[I", Cond.methodLink RX4 105 yX3_clear, Cond.instanceMethod yX3_clear, Cond.selects RX3 yX3_clear yX3_clear, Cond.code yX3_clear cX3_clear 2 none, Cond.methodLink RX4 111 yX2_returnAll, Cond.instanceMethod yX2_returnAll, Cond.selects RX2 yX2_returnAll yX2_returnAll, Cond.initialized RX2, Cond.code yX2_returnAll cX2_returnAll 2 none, Cond.fieldLink RX2 9 "SkittleStrings$Rack" "away" "[I", Cond.methodLink RX4 114 yX0_setUp, Cond.instanceMethod yX0_setUp, Cond.selects RX0 yX0_setUp yX0_setUp, Cond.initialized RX0, Cond.code yX0_setUp cX0_setUp 2 none, Cond.fieldLink RX0 17 "SkittleStrings$Alley" "standing" "I", Cond.methodLink RX0 24 yX0_broken, Cond.instanceMethod yX0_broken]
def wsX4_newGame_r3 : List Cond := [Cond.selects RX0 yX0_broken yX0_broken, Cond.code yX0_broken cX0_broken 2 (some .boolean), Cond.fieldLink RX0 9 "SkittleStrings$Alley" "wears" "[I"]
def wsX4_newGame : List Cond := .code yX4_newGame cX4_newGame 3 (some .int) :: ((wsX4_newGame_r1 ++ (wsX4_newGame_r2 ++ wsX4_newGame_r3)) ++ wsX40 ++ wsX30 ++ wsX20 ++ wsX00)
def wsX4_isStanding : List Cond := .code yX4_isStanding cX4_isStanding 2 (some .boolean) :: ([.fieldLink RX4 10 "SkittleStrings" "alley" "LSkittleStrings$Alley;", .methodLink RX4 83 yX4_checkPin, .static yX4_checkPin, .initialized RX4, .code yX4_checkPin cX4_checkPin 1 none, .methodLink RX4 156 yX4_checkIndex, .static yX4_checkIndex, .code yX4_checkIndex cX4_checkIndex 2 none, .classLink RX4 196 "java/lang/IndexOutOfBoundsException", .initialized "java/lang/IndexOutOfBoundsException", .methodLink RX4 67 yX0_standingPins, .instanceMethod yX0_standingPins, .selects RX0 yX0_standingPins yX0_standingPins, .initialized RX0, .code yX0_standingPins cX0_standingPins 1 (some .int), .fieldLink RX0 17 "SkittleStrings$Alley" "standing" "I", .methodLink RX4 117 yX1_holds, .static yX1_holds, .initialized RX1, .code yX1_holds cX1_holds 2 (some .boolean)] ++ wsX40 ++ wsX00 ++ (vx_atS RX4 200 "java/lang/IndexOutOfBoundsException" ["java/lang/RuntimeException", "java/lang/Exception"]).filter goodWord)
def wsX4_standing : List Cond := .code yX4_standing cX4_standing 1 (some .int) :: ([.fieldLink RX4 10 "SkittleStrings" "alley" "LSkittleStrings$Alley;", .methodLink RX4 67 yX0_standingPins, .instanceMethod yX0_standingPins, .selects RX0 yX0_standingPins yX0_standingPins, .initialized RX0, .code yX0_standingPins cX0_standingPins 1 (some .int), .fieldLink RX0 17 "SkittleStrings$Alley" "standing" "I", .methodLink RX4 123 yJ6_bitCount_0f7a4, .static yJ6_bitCount_0f7a4, .initialized RJ6, .code yJ6_bitCount_0f7a4 cJ6_bitCount_0f7a4 1 (some .int), .constant RJ6 265 (1431655765), .constant RJ6 266 (858993459), .constant RJ6 267 (252645135)] ++ wsX40 ++ wsX00)
def wsX4_wearOf : List Cond := .code yX4_wearOf cX4_wearOf 2 (some .int) :: ([.fieldLink RX4 10 "SkittleStrings" "alley" "LSkittleStrings$Alley;", .methodLink RX4 83 yX4_checkPin, .static yX4_checkPin, .initialized RX4, .code yX4_checkPin cX4_checkPin 1 none, .methodLink RX4 156 yX4_checkIndex, .static yX4_checkIndex, .code yX4_checkIndex cX4_checkIndex 2 none, .classLink RX4 196 "java/lang/IndexOutOfBoundsException", .initialized "java/lang/IndexOutOfBoundsException", .methodLink RX4 128 yX0_wear, .instanceMethod yX0_wear, .selects RX0 yX0_wear yX0_wear, .initialized RX0, .code yX0_wear cX0_wear 2 (some .int), .fieldLink RX0 9 "SkittleStrings$Alley" "wears" "[I"] ++ wsX40 ++ wsX00 ++ (vx_atS RX4 200 "java/lang/IndexOutOfBoundsException" ["java/lang/RuntimeException", "java/lang/Exception"]).filter goodWord)
def wsX4_isBroken : List Cond := .code yX4_isBroken cX4_isBroken 2 (some .boolean) :: ([.fieldLink RX4 10 "SkittleStrings" "alley" "LSkittleStrings$Alley;", .methodLink RX4 83 yX4_checkPin, .static yX4_checkPin, .initialized RX4, .code yX4_checkPin cX4_checkPin 1 none, .methodLink RX4 156 yX4_checkIndex, .static yX4_checkIndex, .code yX4_checkIndex cX4_checkIndex 2 none, .classLink RX4 196 "java/lang/IndexOutOfBoundsException", .initialized "java/lang/IndexOutOfBoundsException", .methodLink RX4 131 yX0_broken, .instanceMethod yX0_broken, .selects RX0 yX0_broken yX0_broken, .initialized RX0, .code yX0_broken cX0_broken 2 (some .boolean), .fieldLink RX0 9 "SkittleStrings$Alley" "wears" "[I"] ++ wsX40 ++ wsX00 ++ (vx_atS RX4 200 "java/lang/IndexOutOfBoundsException" ["java/lang/RuntimeException", "java/lang/Exception"]).filter goodWord)
def wsX4_brokenStrings : List Cond := .code yX4_brokenStrings cX4_brokenStrings 1 (some .int) :: ([.fieldLink RX4 10 "SkittleStrings" "alley" "LSkittleStrings$Alley;", .methodLink RX4 135 yX0_brokenCount, .instanceMethod yX0_brokenCount, .selects RX0 yX0_brokenCount yX0_brokenCount, .initialized RX0, .code yX0_brokenCount cX0_brokenCount 3 (some .int), .methodLink RX0 24 yX0_broken, .instanceMethod yX0_broken, .selects RX0 yX0_broken yX0_broken, .code yX0_broken cX0_broken 2 (some .boolean), .fieldLink RX0 9 "SkittleStrings$Alley" "wears" "[I"] ++ wsX40 ++ wsX00)
def wsX4_mostWorn : List Cond := .code yX4_mostWorn cX4_mostWorn 1 (some .int) :: ([.fieldLink RX4 10 "SkittleStrings" "alley" "LSkittleStrings$Alley;", .methodLink RX4 138 yX0_mostWornPin, .instanceMethod yX0_mostWornPin, .selects RX0 yX0_mostWornPin yX0_mostWornPin, .initialized RX0, .code yX0_mostWornPin cX0_mostWornPin 4 (some .int), .fieldLink RX0 9 "SkittleStrings$Alley" "wears" "[I", .methodLink RX0 24 yX0_broken, .instanceMethod yX0_broken, .selects RX0 yX0_broken yX0_broken, .code yX0_broken cX0_broken 2 (some .boolean)] ++ wsX40 ++ wsX00)
def wsX4_spareStrings : List Cond := .code yX4_spareStrings cX4_spareStrings 1 (some .int) :: ([.fieldLink RX4 10 "SkittleStrings" "alley" "LSkittleStrings$Alley;", .methodLink RX4 86 yX0_spares, .instanceMethod yX0_spares, .selects RX0 yX0_spares yX0_spares, .initialized RX0, .code yX0_spares cX0_spares 1 (some .int), .fieldLink RX0 21 "SkittleStrings$Alley" "spares" "I"] ++ wsX40 ++ wsX00)
def wsX4_awayFor : List Cond := .code yX4_awayFor cX4_awayFor 2 (some .int) :: ([.fieldLink RX4 19 "SkittleStrings" "rack" "LSkittleStrings$Rack;", .methodLink RX4 141 yX4_checkBall, .static yX4_checkBall, .initialized RX4, .code yX4_checkBall cX4_checkBall 1 none, .methodLink RX4 156 yX4_checkIndex, .static yX4_checkIndex, .code yX4_checkIndex cX4_checkIndex 2 none, .classLink RX4 196 "java/lang/IndexOutOfBoundsException", .initialized "java/lang/IndexOutOfBoundsException", .methodLink RX4 53 yX2_throwsAway, .instanceMethod yX2_throwsAway, .selects RX2 yX2_throwsAway yX2_throwsAway, .initialized RX2, .code yX2_throwsAway cX2_throwsAway 2 (some .int), .fieldLink RX2 9 "SkittleStrings$Rack" "away" "[I"] ++ wsX40 ++ wsX20 ++ (vx_atS RX4 200 "java/lang/IndexOutOfBoundsException" ["java/lang/RuntimeException", "java/lang/Exception"]).filter goodWord)
def wsX4_players : List Cond := .code yX4_players cX4_players 1 (some .int) :: ([.fieldLink RX4 30 "SkittleStrings" "playerCount" "I"] ++ wsX40)
def wsX4_frame : List Cond := .code yX4_frame cX4_frame 1 (some .int) :: ([.fieldLink RX4 70 "SkittleStrings" "frameNow" "I"] ++ wsX40)
def wsX4_throwsInFrame : List Cond := .code yX4_throwsInFrame cX4_throwsInFrame 1 (some .int) :: ([.fieldLink RX4 77 "SkittleStrings" "throwsNow" "I"] ++ wsX40)
def wsX4_checkPlayer : List Cond := .code yX4_checkPlayer cX4_checkPlayer 2 none :: ([.fieldLink RX4 30 "SkittleStrings" "playerCount" "I", .methodLink RX4 156 yX4_checkIndex, .static yX4_checkIndex, .initialized RX4, .code yX4_checkIndex cX4_checkIndex 2 none, .classLink RX4 196 "java/lang/IndexOutOfBoundsException", .initialized "java/lang/IndexOutOfBoundsException"] ++ wsX40 ++ (vx_atS RX4 200 "java/lang/IndexOutOfBoundsException" ["java/lang/RuntimeException", "java/lang/Exception"]).filter goodWord)
def wsX4_throwsOf : List Cond := .code yX4_throwsOf cX4_throwsOf 2 (some .int) :: ([.fieldLink RX4 25 "SkittleStrings" "sheets" "[LSkittleStrings$Sheet;", .methodLink RX4 147 yX4_checkPlayer, .instanceMethod yX4_checkPlayer, .selects RX4 yX4_checkPlayer yX4_checkPlayer, .initialized RX4, .code yX4_checkPlayer cX4_checkPlayer 2 none, .fieldLink RX4 30 "SkittleStrings" "playerCount" "I", .methodLink RX4 156 yX4_checkIndex, .static yX4_checkIndex, .code yX4_checkIndex cX4_checkIndex 2 none, .classLink RX4 196 "java/lang/IndexOutOfBoundsException", .initialized "java/lang/IndexOutOfBoundsException", .methodLink RX4 150 yX3_thrown, .instanceMethod yX3_thrown, .selects RX3 yX3_thrown yX3_thrown, .initialized RX3, .code yX3_thrown cX3_thrown 1 (some .int), .fieldLink RX3 24 "SkittleStrings$Sheet" "thrown" "I"] ++ wsX40 ++ wsX30 ++ (vx_atS RX4 200 "java/lang/IndexOutOfBoundsException" ["java/lang/RuntimeException", "java/lang/Exception"]).filter goodWord)
def wsX4_scoreOf_r1 : List Cond := [Cond.fieldLink RX4 25 "SkittleStrings" "sheets" "[LSkittleStrings$Sheet;", Cond.methodLink RX4 147 yX4_checkPlayer, Cond.instanceMethod yX4_checkPlayer, Cond.selects RX4 yX4_checkPlayer yX4_checkPlayer, Cond.initialized RX4, Cond.code yX4_checkPlayer cX4_checkPlayer 2 none, Cond.fieldLink RX4 30 "SkittleStrings" "playerCount" "I", Cond.methodLink RX4 156 yX4_checkIndex, Cond.static yX4_checkIndex, Cond.code yX4_checkIndex cX4_checkIndex 2 none, Cond.classLink RX4 196 "java/lang/IndexOutOfBoundsException", Cond.initialized "java/lang/IndexOutOfBoundsException", Cond.methodLink RX4 153 yX3_score, Cond.instanceMethod yX3_score, Cond.selects RX3 yX3_score yX3_score, Cond.initialized RX3, Cond.code yX3_score cX3_score 3 (some .int), Cond.methodLink RX3 34 yX3_points, Cond.instanceMethod yX3_points, Cond.selects RX3 yX3_points yX3_points, Cond.code yX3_points cX3_points 5 (some .int), Cond.fieldLink RX3 24 "SkittleStrings$Sheet" "thrown" "I", Cond.fieldLink RX3 15 "SkittleStrings$Sheet" "firstThrow" "[I", Cond.fieldLink RX3 18 "SkittleStrings$Sheet" "throwsIn" "[I"]
def wsX4_scoreOf_r2 : List Cond := [Cond.fieldLink RX3 21 "SkittleStrings$Sheet" "bonusThrows" "[I", Cond.methodLink RX3 28 Lib.Math.min.name, Cond.static Lib.Math.min.name, Cond.initialized "java/lang/Math", Cond.code Lib.Math.min.name Lib.Math.min.code 2 (some .int), Cond.fieldLink RX3 9 "SkittleStrings$Sheet" "pinsOfThrow" "[I"]
def wsX4_scoreOf : List Cond := .code yX4_scoreOf cX4_scoreOf 2 (some .int) :: ((wsX4_scoreOf_r1 ++ wsX4_scoreOf_r2) ++ wsX40 ++ wsX30 ++ (vx_atS RX4 200 "java/lang/IndexOutOfBoundsException" ["java/lang/RuntimeException", "java/lang/Exception"]).filter goodWord)
def wsX4_pointsOf_r1 : List Cond := [Cond.fieldLink RX4 25 "SkittleStrings" "sheets" "[LSkittleStrings$Sheet;", Cond.methodLink RX4 147 yX4_checkPlayer, Cond.instanceMethod yX4_checkPlayer, Cond.selects RX4 yX4_checkPlayer yX4_checkPlayer, Cond.initialized RX4, Cond.code yX4_checkPlayer cX4_checkPlayer 2 none, Cond.fieldLink RX4 30 "SkittleStrings" "playerCount" "I", Cond.methodLink RX4 156 yX4_checkIndex, Cond.static yX4_checkIndex, Cond.code yX4_checkIndex cX4_checkIndex 2 none, Cond.classLink RX4 196 "java/lang/IndexOutOfBoundsException", Cond.initialized "java/lang/IndexOutOfBoundsException", Cond.methodLink RX4 159 yX3_points, Cond.instanceMethod yX3_points, Cond.selects RX3 yX3_points yX3_points, Cond.initialized RX3, Cond.code yX3_points cX3_points 5 (some .int), Cond.fieldLink RX3 24 "SkittleStrings$Sheet" "thrown" "I", Cond.fieldLink RX3 15 "SkittleStrings$Sheet" "firstThrow" "[I", Cond.fieldLink RX3 18 "SkittleStrings$Sheet" "throwsIn" "[I", Cond.fieldLink RX3 21 "SkittleStrings$Sheet" "bonusThrows" "[I", Cond.methodLink RX3 28 Lib.Math.min.name, Cond.static Lib.Math.min.name, Cond.initialized "java/lang/Math"]
def wsX4_pointsOf_r2 : List Cond := [Cond.code Lib.Math.min.name Lib.Math.min.code 2 (some .int), Cond.fieldLink RX3 9 "SkittleStrings$Sheet" "pinsOfThrow" "[I"]
def wsX4_pointsOf : List Cond := .code yX4_pointsOf cX4_pointsOf 3 (some .int) :: ((wsX4_pointsOf_r1 ++ wsX4_pointsOf_r2) ++ wsX40 ++ wsX30 ++ (vx_atS RX4 200 "java/lang/IndexOutOfBoundsException" ["java/lang/RuntimeException", "java/lang/Exception"]).filter goodWord)
def wsX4_strikesOf : List Cond := .code yX4_strikesOf cX4_strikesOf 2 (some .int) :: ([.fieldLink RX4 25 "SkittleStrings" "sheets" "[LSkittleStrings$Sheet;", .methodLink RX4 147 yX4_checkPlayer, .instanceMethod yX4_checkPlayer, .selects RX4 yX4_checkPlayer yX4_checkPlayer, .initialized RX4, .code yX4_checkPlayer cX4_checkPlayer 2 none, .fieldLink RX4 30 "SkittleStrings" "playerCount" "I", .methodLink RX4 156 yX4_checkIndex, .static yX4_checkIndex, .code yX4_checkIndex cX4_checkIndex 2 none, .classLink RX4 196 "java/lang/IndexOutOfBoundsException", .initialized "java/lang/IndexOutOfBoundsException", .methodLink RX4 162 yX3_strikes, .instanceMethod yX3_strikes, .selects RX3 yX3_strikes yX3_strikes, .initialized RX3, .code yX3_strikes cX3_strikes 1 (some .int), .methodLink RX3 38 yX3_framesWithBonus, .instanceMethod yX3_framesWithBonus, .selects RX3 yX3_framesWithBonus yX3_framesWithBonus, .code yX3_framesWithBonus cX3_framesWithBonus 4 (some .int), .fieldLink RX3 21 "SkittleStrings$Sheet" "bonusThrows" "[I"] ++ wsX40 ++ wsX30 ++ (vx_atS RX4 200 "java/lang/IndexOutOfBoundsException" ["java/lang/RuntimeException", "java/lang/Exception"]).filter goodWord)
def wsX4_sparesOf : List Cond := .code yX4_sparesOf cX4_sparesOf 2 (some .int) :: ([.fieldLink RX4 25 "SkittleStrings" "sheets" "[LSkittleStrings$Sheet;", .methodLink RX4 147 yX4_checkPlayer, .instanceMethod yX4_checkPlayer, .selects RX4 yX4_checkPlayer yX4_checkPlayer, .initialized RX4, .code yX4_checkPlayer cX4_checkPlayer 2 none, .fieldLink RX4 30 "SkittleStrings" "playerCount" "I", .methodLink RX4 156 yX4_checkIndex, .static yX4_checkIndex, .code yX4_checkIndex cX4_checkIndex 2 none, .classLink RX4 196 "java/lang/IndexOutOfBoundsException", .initialized "java/lang/IndexOutOfBoundsException", .methodLink RX4 165 yX3_spares, .instanceMethod yX3_spares, .selects RX3 yX3_spares yX3_spares, .initialized RX3, .code yX3_spares cX3_spares 1 (some .int), .methodLink RX3 38 yX3_framesWithBonus, .instanceMethod yX3_framesWithBonus, .selects RX3 yX3_framesWithBonus yX3_framesWithBonus, .code yX3_framesWithBonus cX3_framesWithBonus 4 (some .int), .fieldLink RX3 21 "SkittleStrings$Sheet" "bonusThrows" "[I"] ++ wsX40 ++ wsX30 ++ (vx_atS RX4 200 "java/lang/IndexOutOfBoundsException" ["java/lang/RuntimeException", "java/lang/Exception"]).filter goodWord)
def wsX4_wouldFall_r1 : List Cond := [Cond.fieldLink RX4 10 "SkittleStrings" "alley" "LSkittleStrings$Alley;", Cond.methodLink RX4 45 yX4_checkThrow, Cond.static yX4_checkThrow, Cond.initialized RX4, Cond.code yX4_checkThrow cX4_checkThrow 2 none, Cond.methodLink RX4 141 yX4_checkBall, Cond.static yX4_checkBall, Cond.code yX4_checkBall cX4_checkBall 1 none, Cond.methodLink RX4 156 yX4_checkIndex, Cond.static yX4_checkIndex, Cond.code yX4_checkIndex cX4_checkIndex 2 none, Cond.classLink RX4 196 "java/lang/IndexOutOfBoundsException", Cond.initialized "java/lang/IndexOutOfBoundsException", Cond.methodLink RX4 67 yX0_standingPins, Cond.instanceMethod yX0_standingPins, Cond.selects RX0 yX0_standingPins yX0_standingPins, Cond.initialized RX0, Cond.code yX0_standingPins cX0_standingPins 1 (some .int), Cond.fieldLink RX0 17 "SkittleStrings$Alley" "standing" "I", Cond.methodLink RX4 166 yX1_felled, Cond.static yX1_felled, Cond.initialized RX1, Cond.code yX1_felled cX1_felled 7 (some .int), Cond.methodLink RX1 15 yX1_afterHit]
def wsX4_wouldFall_r2 : List Cond := [Cond.static yX1_afterHit, Cond.code yX1_afterHit cX1_afterHit 6 (some .int), Cond.methodLink RX1 19 yX1_pinAt, Cond.static yX1_pinAt, Cond.code yX1_pinAt cX1_pinAt 2 (some .int), Cond.fieldLink RX1 31 "SkittleStrings$Pins" "PLACES" "[I", Cond.methodLink RX1 9 yX1_holds, Cond.static yX1_holds, Cond.code yX1_holds cX1_holds 2 (some .boolean), Cond.methodLink RX4 123 yJ6_bitCount_0f7a4, Cond.static yJ6_bitCount_0f7a4, Cond.initialized RJ6, Cond.code yJ6_bitCount_0f7a4 cJ6_bitCount_0f7a4 1 (some .int), Cond.constant RJ6 265 (1431655765), Cond.constant RJ6 266 (858993459), Cond.constant RJ6 267 (252645135)]
def wsX4_wouldFall : List Cond := .code yX4_wouldFall cX4_wouldFall 3 (some .int) :: ((wsX4_wouldFall_r1 ++ wsX4_wouldFall_r2) ++ wsX40 ++ wsX00 ++ (vx_atS RX4 200 "java/lang/IndexOutOfBoundsException" ["java/lang/RuntimeException", "java/lang/Exception"]).filter goodWord)
def wsX4_lastToFall_r1 : List Cond := [Cond.fieldLink RX4 10 "SkittleStrings" "alley" "LSkittleStrings$Alley;", Cond.methodLink RX4 45 yX4_checkThrow, Cond.static yX4_checkThrow, Cond.initialized RX4, Cond.code yX4_checkThrow cX4_checkThrow 2 none, Cond.methodLink RX4 141 yX4_checkBall, Cond.static yX4_checkBall, Cond.code yX4_checkBall cX4_checkBall 1 none, Cond.methodLink RX4 156 yX4_checkIndex, Cond.static yX4_checkIndex, Cond.code yX4_checkIndex cX4_checkIndex 2 none, Cond.classLink RX4 196 "java/lang/IndexOutOfBoundsException", Cond.initialized "java/lang/IndexOutOfBoundsException", Cond.methodLink RX4 67 yX0_standingPins, Cond.instanceMethod yX0_standingPins, Cond.selects RX0 yX0_standingPins yX0_standingPins, Cond.initialized RX0, Cond.code yX0_standingPins cX0_standingPins 1 (some .int), Cond.fieldLink RX0 17 "SkittleStrings$Alley" "standing" "I", Cond.methodLink RX4 166 yX1_felled, Cond.static yX1_felled, Cond.initialized RX1, Cond.code yX1_felled cX1_felled 7 (some .int), Cond.methodLink RX1 15 yX1_afterHit]
def wsX4_lastToFall_r2 : List Cond := [Cond.static yX1_afterHit, Cond.code yX1_afterHit cX1_afterHit 6 (some .int), Cond.methodLink RX1 19 yX1_pinAt, Cond.static yX1_pinAt, Cond.code yX1_pinAt cX1_pinAt 2 (some .int), Cond.fieldLink RX1 31 "SkittleStrings$Pins" "PLACES" "[I", Cond.methodLink RX1 9 yX1_holds, Cond.static yX1_holds, Cond.code yX1_holds cX1_holds 2 (some .boolean), Cond.methodLink RX4 170 yX1_last, Cond.static yX1_last, Cond.code yX1_last cX1_last 2 (some .int)]
def wsX4_lastToFall : List Cond := .code yX4_lastToFall cX4_lastToFall 3 (some .int) :: ((wsX4_lastToFall_r1 ++ wsX4_lastToFall_r2) ++ wsX40 ++ wsX00 ++ (vx_atS RX4 200 "java/lang/IndexOutOfBoundsException" ["java/lang/RuntimeException", "java/lang/Exception"]).filter goodWord)
def wsX4_bestThrow_r1 : List Cond := [Cond.fieldLink RX4 19 "SkittleStrings" "rack" "LSkittleStrings$Rack;", Cond.fieldLink RX4 10 "SkittleStrings" "alley" "LSkittleStrings$Alley;", Cond.methodLink RX4 53 yX2_throwsAway, Cond.instanceMethod yX2_throwsAway, Cond.selects RX2 yX2_throwsAway yX2_throwsAway, Cond.initialized RX2, Cond.code yX2_throwsAway cX2_throwsAway 2 (some .int), Cond.fieldLink RX2 9 "SkittleStrings$Rack" "away" "[I", Cond.methodLink RX4 67 yX0_standingPins, Cond.instanceMethod yX0_standingPins, Cond.selects RX0 yX0_standingPins yX0_standingPins, Cond.initialized RX0, Cond.code yX0_standingPins cX0_standingPins 1 (some .int), Cond.fieldLink RX0 17 "SkittleStrings$Alley" "standing" "I", Cond.methodLink RX4 166 yX1_felled, Cond.static yX1_felled, Cond.initialized RX1, Cond.code yX1_felled cX1_felled 7 (some .int), Cond.methodLink RX1 15 yX1_afterHit, Cond.static yX1_afterHit, Cond.code yX1_afterHit cX1_afterHit 6 (some .int), Cond.methodLink RX1 19 yX1_pinAt, Cond.static yX1_pinAt, Cond.code yX1_pinAt cX1_pinAt 2 (some .int)]
def wsX4_bestThrow_r2 : List Cond := [Cond.fieldLink RX1 31 "SkittleStrings$Pins" "PLACES" "[I", Cond.methodLink RX1 9 yX1_holds, Cond.static yX1_holds, Cond.code yX1_holds cX1_holds 2 (some .boolean), Cond.methodLink RX4 123 yJ6_bitCount_0f7a4, Cond.static yJ6_bitCount_0f7a4, Cond.initialized RJ6, Cond.code yJ6_bitCount_0f7a4 cJ6_bitCount_0f7a4 1 (some .int), Cond.constant RJ6 265 (1431655765), Cond.constant RJ6 266 (858993459), Cond.constant RJ6 267 (252645135)]
def wsX4_bestThrow : List Cond := .code yX4_bestThrow cX4_bestThrow 6 (some .int) :: ((wsX4_bestThrow_r1 ++ wsX4_bestThrow_r2) ++ wsX40 ++ wsX20 ++ wsX00)
def wsX4_throwsToClear : List Cond := .code yX4_throwsToClear cX4_throwsToClear 2 (some .int) :: ([.fieldLink RX4 10 "SkittleStrings" "alley" "LSkittleStrings$Alley;", .methodLink RX4 67 yX0_standingPins, .instanceMethod yX0_standingPins, .selects RX0 yX0_standingPins yX0_standingPins, .initialized RX0, .code yX0_standingPins cX0_standingPins 1 (some .int), .fieldLink RX0 17 "SkittleStrings$Alley" "standing" "I", .static yX1_canClear, .initialized RX1, .code yX1_canClear cX1_canClear 6 (some .boolean), .methodLink RX1 9 yX1_holds, .static yX1_holds, .code yX1_holds cX1_holds 2 (some .boolean), .methodLink RX1 23 yX1_felled, .static yX1_felled, .code yX1_felled cX1_felled 7 (some .int), .methodLink RX1 15 yX1_afterHit, .static yX1_afterHit, .code yX1_afterHit cX1_afterHit 6 (some .int), .methodLink RX1 19 yX1_pinAt, .static yX1_pinAt, .code yX1_pinAt cX1_pinAt 2 (some .int), .fieldLink RX1 31 "SkittleStrings$Pins" "PLACES" "[I", .methodLink RX1 27 yX1_canClear] ++ wsX40 ++ wsX00)
def wsX4_wouldBreak : List Cond := .code yX4_wouldBreak cX4_wouldBreak 1 (some .int) :: ([.fieldLink RX4 10 "SkittleStrings" "alley" "LSkittleStrings$Alley;", .methodLink RX4 177 yX0_brokenIfAllFell, .instanceMethod yX0_brokenIfAllFell, .selects RX0 yX0_brokenIfAllFell yX0_brokenIfAllFell, .initialized RX0, .code yX0_brokenIfAllFell cX0_brokenIfAllFell 4 (some .int), .fieldLink RX0 17 "SkittleStrings$Alley" "standing" "I", .fieldLink RX0 9 "SkittleStrings$Alley" "wears" "[I", .methodLink RX0 32 yX1_holds, .static yX1_holds, .initialized RX1, .code yX1_holds cX1_holds 2 (some .boolean)] ++ wsX40 ++ wsX00)
def wsX4_meanScore : List Cond := .code yX4_meanScore cX4_meanScore 3 (some .double) :: ([.fieldLink RX4 30 "SkittleStrings" "playerCount" "I", .fieldLink RX4 25 "SkittleStrings" "sheets" "[LSkittleStrings$Sheet;", .methodLink RX4 153 yX3_score, .instanceMethod yX3_score, .selects RX3 yX3_score yX3_score, .initialized RX3, .code yX3_score cX3_score 3 (some .int), .methodLink RX3 34 yX3_points, .instanceMethod yX3_points, .selects RX3 yX3_points yX3_points, .code yX3_points cX3_points 5 (some .int), .fieldLink RX3 24 "SkittleStrings$Sheet" "thrown" "I", .fieldLink RX3 15 "SkittleStrings$Sheet" "firstThrow" "[I", .fieldLink RX3 18 "SkittleStrings$Sheet" "throwsIn" "[I", .fieldLink RX3 21 "SkittleStrings$Sheet" "bonusThrows" "[I", .methodLink RX3 28 Lib.Math.min.name, .static Lib.Math.min.name, .initialized "java/lang/Math", .code Lib.Math.min.name Lib.Math.min.code 2 (some .int), .fieldLink RX3 9 "SkittleStrings$Sheet" "pinsOfThrow" "[I"] ++ wsX40 ++ wsX30)
def wsX4_digest_r1 : List Cond := [Cond.constantLong RX4 180 (1999), Cond.constantLong RX4 182 (31), Cond.fieldLink RX4 30 "SkittleStrings" "playerCount" "I", Cond.fieldLink RX4 70 "SkittleStrings" "frameNow" "I", Cond.fieldLink RX4 77 "SkittleStrings" "throwsNow" "I", Cond.fieldLink RX4 10 "SkittleStrings" "alley" "LSkittleStrings$Alley;", Cond.fieldLink RX4 19 "SkittleStrings" "rack" "LSkittleStrings$Rack;", Cond.fieldLink RX4 25 "SkittleStrings" "sheets" "[LSkittleStrings$Sheet;", Cond.methodLink RX4 49 yX4_playerInTurn, Cond.instanceMethod yX4_playerInTurn, Cond.selects RX4 yX4_playerInTurn yX4_playerInTurn, Cond.initialized RX4, Cond.code yX4_playerInTurn cX4_playerInTurn 1 (some .int), Cond.fieldLink RX4 108 "SkittleStrings" "turn" "I", Cond.methodLink RX4 144 yX4_isOver, Cond.instanceMethod yX4_isOver, Cond.selects RX4 yX4_isOver yX4_isOver, Cond.code yX4_isOver cX4_isOver 1 (some .boolean), Cond.methodLink RX4 86 yX0_spares, Cond.instanceMethod yX0_spares, Cond.selects RX0 yX0_spares yX0_spares, Cond.initialized RX0, Cond.code yX0_spares cX0_spares 1 (some .int), Cond.fieldLink RX0 21 "SkittleStrings$Alley" "spares" "I"]
def wsX4_digest_r2 : List Cond := [Cond.methodLink RX4 184 yX4_bestThrow, Cond.instanceMethod yX4_bestThrow, Cond.selects RX4 yX4_bestThrow yX4_bestThrow, Cond.code yX4_bestThrow cX4_bestThrow 6 (some .int), Cond.methodLink RX4 53 yX2_throwsAway, Cond.instanceMethod yX2_throwsAway, Cond.selects RX2 yX2_throwsAway yX2_throwsAway, Cond.initialized RX2, Cond.code yX2_throwsAway cX2_throwsAway 2 (some .int), Cond.fieldLink RX2 9 "SkittleStrings$Rack" "away" "[I", Cond.methodLink RX4 67 yX0_standingPins, Cond.instanceMethod yX0_standingPins, Cond.selects RX0 yX0_standingPins yX0_standingPins, Cond.code yX0_standingPins cX0_standingPins 1 (some .int), Cond.fieldLink RX0 17 "SkittleStrings$Alley" "standing" "I", Cond.methodLink RX4 166 yX1_felled, Cond.static yX1_felled, Cond.initialized RX1, Cond.code yX1_felled cX1_felled 7 (some .int), Cond.methodLink RX1 15 yX1_afterHit, Cond.static yX1_afterHit, Cond.code yX1_afterHit cX1_afterHit 6 (some .int), Cond.methodLink RX1 19 yX1_pinAt, Cond.static yX1_pinAt]
def wsX4_digest_r3 : List Cond := [Cond.code yX1_pinAt cX1_pinAt 2 (some .int), Cond.fieldLink RX1 31 "SkittleStrings$Pins" "PLACES" "[I", Cond.methodLink RX1 9 yX1_holds, Cond.static yX1_holds, Cond.code yX1_holds cX1_holds 2 (some .boolean), Cond.methodLink RX4 123 yJ6_bitCount_0f7a4, Cond.static yJ6_bitCount_0f7a4, Cond.initialized RJ6, Cond.code yJ6_bitCount_0f7a4 cJ6_bitCount_0f7a4 1 (some .int), Cond.constant RJ6 265 (1431655765), Cond.constant RJ6 266 (858993459), Cond.constant RJ6 267 (252645135), Cond.methodLink RX4 187 yX4_throwsToClear, Cond.instanceMethod yX4_throwsToClear, Cond.selects RX4 yX4_throwsToClear yX4_throwsToClear, Cond.code yX4_throwsToClear cX4_throwsToClear 2 (some .int), Cond.static yX1_canClear, Cond.code yX1_canClear cX1_canClear 6 (some .boolean), Cond.methodLink RX1 23 yX1_felled, Cond.methodLink RX1 27 yX1_canClear, Cond.methodLink RX4 190 yX0_digestOn, Cond.instanceMethod yX0_digestOn, Cond.selects RX0 yX0_digestOn yX0_digestOn, Cond.code yX0_digestOn cX0_digestOn 6 (some .long)]
def wsX4_digest_r4 : List Cond := [Cond.constantLong RX0 42 (31), Cond.fieldLink RX0 9 "SkittleStrings$Alley" "wears" "[I", Cond.methodLink RX0 32 yX1_holds, Cond.methodLink RX4 194 yX2_digestOn, Cond.instanceMethod yX2_digestOn, Cond.selects RX2 yX2_digestOn yX2_digestOn, Cond.code yX2_digestOn cX2_digestOn 6 (some .long), Cond.constantLong RX2 21 (31), Cond.methodLink RX4 195 yX3_digestOn, Cond.instanceMethod yX3_digestOn, Cond.selects RX3 yX3_digestOn yX3_digestOn, Cond.initialized RX3, Cond.code yX3_digestOn cX3_digestOn 6 (some .long), Cond.constantLong RX3 41 (31), Cond.fieldLink RX3 24 "SkittleStrings$Sheet" "thrown" "I", Cond.methodLink RX3 43 yX3_score, Cond.instanceMethod yX3_score, Cond.selects RX3 yX3_score yX3_score, Cond.code yX3_score cX3_score 3 (some .int), Cond.methodLink RX3 34 yX3_points, Cond.instanceMethod yX3_points, Cond.selects RX3 yX3_points yX3_points, Cond.code yX3_points cX3_points 5 (some .int), Cond.fieldLink RX3 15 "SkittleStrings$Sheet" "firstThrow" "[I"]
def wsX4_digest_r5 : List Cond := [Cond.fieldLink RX3 18 "SkittleStrings$Sheet" "throwsIn" "[I", Cond.fieldLink RX3 21 "SkittleStrings$Sheet" "bonusThrows" "[I", Cond.methodLink RX3 28 Lib.Math.min.name, Cond.static Lib.Math.min.name, Cond.initialized "java/lang/Math", Cond.code Lib.Math.min.name Lib.Math.min.code 2 (some .int), Cond.fieldLink RX3 9 "SkittleStrings$Sheet" "pinsOfThrow" "[I", Cond.methodLink RX3 47 yX3_strikes, Cond.instanceMethod yX3_strikes, Cond.selects RX3 yX3_strikes yX3_strikes, Cond.code yX3_strikes cX3_strikes 1 (some .int), Cond.methodLink RX3 38 yX3_framesWithBonus, Cond.instanceMethod yX3_framesWithBonus, Cond.selects RX3 yX3_framesWithBonus yX3_framesWithBonus, Cond.code yX3_framesWithBonus cX3_framesWithBonus 4 (some .int), Cond.methodLink RX3 50 yX3_spares, Cond.instanceMethod yX3_spares, Cond.selects RX3 yX3_spares yX3_spares, Cond.code yX3_spares cX3_spares 1 (some .int)]
def wsX4_digest : List Cond := .code yX4_digest cX4_digest 4 (some .long) :: ((wsX4_digest_r1 ++ (wsX4_digest_r2 ++ (wsX4_digest_r3 ++ (wsX4_digest_r4 ++ wsX4_digest_r5)))) ++ wsX40 ++ wsX00 ++ wsX20 ++ wsX30)
def wsX5_init : List Cond := .code yX5_init cX5_init 1 none :: ([.methodLink RX5 1 objectInit, .instanceMethod objectInit, .code objectInit ⟨#[0xb1]⟩ 1 none, .fieldLink RX5 9 "SkittleStringsModel" "standing" "I", .arrayClass .int, .fieldLink RX5 13 "SkittleStringsModel" "wear" "[I", .fieldLink RX5 17 "SkittleStringsModel" "away" "[I", .fieldLink RX5 20 "SkittleStringsModel" "spares" "I", .fieldLink RX5 23 "SkittleStringsModel" "many" "[I", .fieldLink RX5 26 "SkittleStringsModel" "fell" "[I", .fieldLink RX5 29 "SkittleStringsModel" "begins" "[I", .fieldLink RX5 32 "SkittleStringsModel" "strikes" "[I", .fieldLink RX5 35 "SkittleStringsModel" "closed" "[I", .fieldLink RX5 38 "SkittleStringsModel" "extra" "[I"] ++ wsX50)
def wsX5_thrown : List Cond := .code yX5_thrown cX5_thrown 1 (some .int) :: ([.fieldLink RX5 41 "SkittleStringsModel" "thrown" "I"] ++ wsX50)
def wsX5_no : List Cond := .code yX5_no cX5_no 2 (some .int) :: ([.fieldLink RX5 41 "SkittleStringsModel" "thrown" "I"] ++ wsX50)
def wsX5_isNot : List Cond := .code yX5_isNot cX5_isNot 2 (some .boolean) :: ([.fieldLink RX5 41 "SkittleStringsModel" "thrown" "I"] ++ wsX50)
def wsX5_ok : List Cond := .code yX5_ok cX5_ok 2 (some .int) :: ([.fieldLink RX5 41 "SkittleStringsModel" "thrown" "I"] ++ wsX50)
def wsX5_isIn : List Cond := .code yX5_isIn cX5_isIn 3 (some .boolean) :: ([])
def wsX5_isPin : List Cond := .code yX5_isPin cX5_isPin 1 (some .boolean) :: ([.methodLink RX5 44 yX5_isIn, .static yX5_isIn, .initialized RX5, .code yX5_isIn cX5_isIn 3 (some .boolean)])
def wsX5_isThrow : List Cond := .code yX5_isThrow cX5_isThrow 2 (some .boolean) :: ([.methodLink RX5 44 yX5_isIn, .static yX5_isIn, .initialized RX5, .code yX5_isIn cX5_isIn 3 (some .boolean)])
def wsX5_isPlayer : List Cond := .code yX5_isPlayer cX5_isPlayer 2 (some .boolean) :: ([.fieldLink RX5 48 "SkittleStringsModel" "players" "I", .methodLink RX5 44 yX5_isIn, .static yX5_isIn, .initialized RX5, .code yX5_isIn cX5_isIn 3 (some .boolean)] ++ wsX50)
def wsX5_pinAt : List Cond := .code yX5_pinAt cX5_pinAt 2 (some .int) :: ([.fieldLink RX5 51 "SkittleStringsModel" "PIN" "[I", .methodLink RX5 44 yX5_isIn, .static yX5_isIn, .initialized RX5, .code yX5_isIn cX5_isIn 3 (some .boolean)])
def wsX5_hit : List Cond := .code yX5_hit cX5_hit 4 (some .int) :: ([.fieldLink RX5 54 "SkittleStringsModel" "ROW" "[I", .fieldLink RX5 57 "SkittleStringsModel" "LANE" "[I", .methodLink RX5 60 yX5_pinAt, .static yX5_pinAt, .initialized RX5, .code yX5_pinAt cX5_pinAt 2 (some .int), .fieldLink RX5 51 "SkittleStringsModel" "PIN" "[I", .methodLink RX5 44 yX5_isIn, .static yX5_isIn, .code yX5_isIn cX5_isIn 3 (some .boolean), .methodLink RX5 64 yX5_hit, .static yX5_hit])
def wsX5_roll : List Cond := .code yX5_roll cX5_roll 7 (some .int) :: ([.methodLink RX5 60 yX5_pinAt, .static yX5_pinAt, .initialized RX5, .code yX5_pinAt cX5_pinAt 2 (some .int), .fieldLink RX5 51 "SkittleStringsModel" "PIN" "[I", .methodLink RX5 44 yX5_isIn, .static yX5_isIn, .code yX5_isIn cX5_isIn 3 (some .boolean), .methodLink RX5 64 yX5_hit, .static yX5_hit, .code yX5_hit cX5_hit 4 (some .int), .fieldLink RX5 54 "SkittleStringsModel" "ROW" "[I", .fieldLink RX5 57 "SkittleStringsModel" "LANE" "[I"])
def wsX5_broken : List Cond := .code yX5_broken cX5_broken 2 (some .boolean) :: ([.fieldLink RX5 13 "SkittleStringsModel" "wear" "[I"] ++ wsX50)
def wsX5_putUp : List Cond := .code yX5_putUp cX5_putUp 2 none :: ([.fieldLink RX5 9 "SkittleStringsModel" "standing" "I", .methodLink RX5 68 yX5_broken, .instanceMethod yX5_broken, .selects RX5 yX5_broken yX5_broken, .initialized RX5, .code yX5_broken cX5_broken 2 (some .boolean), .fieldLink RX5 13 "SkittleStringsModel" "wear" "[I"] ++ wsX50)
def wsX5_over : List Cond := .code yX5_over cX5_over 1 (some .boolean) :: ([.fieldLink RX5 72 "SkittleStringsModel" "frame" "I"] ++ wsX50)
def wsX5_throwsOfAll : List Cond := .code yX5_throwsOfAll cX5_throwsOfAll 3 (some .int) :: ([.fieldLink RX5 48 "SkittleStringsModel" "players" "I", .fieldLink RX5 23 "SkittleStringsModel" "many" "[I"] ++ wsX50)
def wsX5_addPlayer : List Cond := .code yX5_addPlayer cX5_addPlayer 1 (some .int) :: ([.fieldLink RX5 41 "SkittleStringsModel" "thrown" "I", .fieldLink RX5 48 "SkittleStringsModel" "players" "I", .methodLink RX5 75 yX5_throwsOfAll, .instanceMethod yX5_throwsOfAll, .selects RX5 yX5_throwsOfAll yX5_throwsOfAll, .initialized RX5, .code yX5_throwsOfAll cX5_throwsOfAll 3 (some .int), .fieldLink RX5 23 "SkittleStringsModel" "many" "[I", .methodLink RX5 79 yX5_no, .instanceMethod yX5_no, .selects RX5 yX5_no yX5_no, .code yX5_no cX5_no 2 (some .int)] ++ wsX50)
def wsX5_sum : List Cond := .code yX5_sum cX5_sum 6 (some .int) :: ([.fieldLink RX5 23 "SkittleStringsModel" "many" "[I", .methodLink RX5 83 Lib.Math.min.name, .static Lib.Math.min.name, .initialized "java/lang/Math", .code Lib.Math.min.name Lib.Math.min.code 2 (some .int), .fieldLink RX5 26 "SkittleStringsModel" "fell" "[I"] ++ wsX50)
def wsX5_begin : List Cond := .code yX5_begin cX5_begin 3 (some .int) :: ([.fieldLink RX5 29 "SkittleStringsModel" "begins" "[I"] ++ wsX50)
def wsX5_endFrame_r1 : List Cond := [Cond.fieldLink RX5 88 "SkittleStringsModel" "turn" "I", Cond.fieldLink RX5 72 "SkittleStringsModel" "frame" "I", Cond.fieldLink RX5 23 "SkittleStringsModel" "many" "[I", Cond.fieldLink RX5 9 "SkittleStringsModel" "standing" "I", Cond.fieldLink RX5 97 "SkittleStringsModel" "inFrame" "I", Cond.fieldLink RX5 32 "SkittleStringsModel" "strikes" "[I", Cond.fieldLink RX5 38 "SkittleStringsModel" "extra" "[I", Cond.fieldLink RX5 35 "SkittleStringsModel" "closed" "[I", Cond.fieldLink RX5 29 "SkittleStringsModel" "begins" "[I", Cond.fieldLink RX5 48 "SkittleStringsModel" "players" "I", Cond.methodLink RX5 91 yX5_begin, Cond.instanceMethod yX5_begin, Cond.selects RX5 yX5_begin yX5_begin, Cond.initialized RX5, Cond.code yX5_begin cX5_begin 3 (some .int), Cond.methodLink RX5 94 yX5_sum, Cond.instanceMethod yX5_sum, Cond.selects RX5 yX5_sum yX5_sum, Cond.code yX5_sum cX5_sum 6 (some .int), Cond.methodLink RX5 83 Lib.Math.min.name, Cond.static Lib.Math.min.name, Cond.initialized "java/lang/Math", Cond.code Lib.Math.min.name Lib.Math.min.code 2 (some .int), Cond.fieldLink RX5 26 "SkittleStringsModel" "fell" "[I"]
def wsX5_endFrame_r2 : List Cond := [Cond.methodLink RX5 100 yX5_over, Cond.instanceMethod yX5_over, Cond.selects RX5 yX5_over yX5_over, Cond.code yX5_over cX5_over 1 (some .boolean), Cond.methodLink RX5 104 yX5_putUp, Cond.instanceMethod yX5_putUp, Cond.selects RX5 yX5_putUp yX5_putUp, Cond.code yX5_putUp cX5_putUp 2 none, Cond.methodLink RX5 68 yX5_broken, Cond.instanceMethod yX5_broken, Cond.selects RX5 yX5_broken yX5_broken, Cond.code yX5_broken cX5_broken 2 (some .boolean), Cond.fieldLink RX5 13 "SkittleStringsModel" "wear" "[I"]
def wsX5_endFrame : List Cond := .code yX5_endFrame cX5_endFrame 2 none :: ((wsX5_endFrame_r1 ++ wsX5_endFrame_r2) ++ wsX50)
def wsX5_play_r1 : List Cond := [Cond.fieldLink RX5 9 "SkittleStringsModel" "standing" "I", Cond.fieldLink RX5 13 "SkittleStringsModel" "wear" "[I", Cond.fieldLink RX5 17 "SkittleStringsModel" "away" "[I", Cond.methodLink RX5 115 Lib.Math.max.name, Cond.static Lib.Math.max.name, Cond.initialized "java/lang/Math", Cond.code Lib.Math.max.name Lib.Math.max.code 2 (some .int), Cond.fieldLink RX5 26 "SkittleStringsModel" "fell" "[I", Cond.fieldLink RX5 88 "SkittleStringsModel" "turn" "I", Cond.fieldLink RX5 23 "SkittleStringsModel" "many" "[I", Cond.fieldLink RX5 97 "SkittleStringsModel" "inFrame" "I", Cond.methodLink RX5 107 yX5_roll, Cond.static yX5_roll, Cond.initialized RX5, Cond.code yX5_roll cX5_roll 7 (some .int), Cond.methodLink RX5 60 yX5_pinAt, Cond.static yX5_pinAt, Cond.code yX5_pinAt cX5_pinAt 2 (some .int), Cond.fieldLink RX5 51 "SkittleStringsModel" "PIN" "[I", Cond.methodLink RX5 44 yX5_isIn, Cond.static yX5_isIn, Cond.code yX5_isIn cX5_isIn 3 (some .boolean), Cond.methodLink RX5 64 yX5_hit, Cond.static yX5_hit]
def wsX5_play_r2 : List Cond := [Cond.code yX5_hit cX5_hit 4 (some .int), Cond.fieldLink RX5 54 "SkittleStringsModel" "ROW" "[I", Cond.fieldLink RX5 57 "SkittleStringsModel" "LANE" "[I", Cond.methodLink RX5 110 yJ6_bitCount_0f7a4, Cond.static yJ6_bitCount_0f7a4, Cond.initialized RJ6, Cond.code yJ6_bitCount_0f7a4 cJ6_bitCount_0f7a4 1 (some .int), Cond.constant RJ6 265 (1431655765), Cond.constant RJ6 266 (858993459), Cond.constant RJ6 267 (252645135), Cond.methodLink RX5 118 yX5_endFrame, Cond.instanceMethod yX5_endFrame, Cond.selects RX5 yX5_endFrame yX5_endFrame, Cond.code yX5_endFrame cX5_endFrame 2 none, Cond.fieldLink RX5 72 "SkittleStringsModel" "frame" "I", Cond.fieldLink RX5 32 "SkittleStringsModel" "strikes" "[I", Cond.fieldLink RX5 38 "SkittleStringsModel" "extra" "[I", Cond.fieldLink RX5 35 "SkittleStringsModel" "closed" "[I", Cond.fieldLink RX5 29 "SkittleStringsModel" "begins" "[I", Cond.fieldLink RX5 48 "SkittleStringsModel" "players" "I", Cond.methodLink RX5 91 yX5_begin, Cond.instanceMethod yX5_begin, Cond.selects RX5 yX5_begin yX5_begin, Cond.code yX5_begin cX5_begin 3 (some .int)]
def wsX5_play_r3 : List Cond := [Cond.methodLink RX5 94 yX5_sum, Cond.instanceMethod yX5_sum, Cond.selects RX5 yX5_sum yX5_sum, Cond.code yX5_sum cX5_sum 6 (some .int), Cond.methodLink RX5 83 Lib.Math.min.name, Cond.static Lib.Math.min.name, Cond.code Lib.Math.min.name Lib.Math.min.code 2 (some .int), Cond.methodLink RX5 100 yX5_over, Cond.instanceMethod yX5_over, Cond.selects RX5 yX5_over yX5_over, Cond.code yX5_over cX5_over 1 (some .boolean), Cond.methodLink RX5 104 yX5_putUp, Cond.instanceMethod yX5_putUp, Cond.selects RX5 yX5_putUp yX5_putUp, Cond.code yX5_putUp cX5_putUp 2 none, Cond.methodLink RX5 68 yX5_broken, Cond.instanceMethod yX5_broken, Cond.selects RX5 yX5_broken yX5_broken, Cond.code yX5_broken cX5_broken 2 (some .boolean)]
def wsX5_play : List Cond := .code yX5_play cX5_play 6 (some .int) :: ((wsX5_play_r1 ++ (wsX5_play_r2 ++ wsX5_play_r3)) ++ wsX50)
def wsX5_throwBall_r1 : List Cond := [Cond.fieldLink RX5 41 "SkittleStringsModel" "thrown" "I", Cond.fieldLink RX5 48 "SkittleStringsModel" "players" "I", Cond.fieldLink RX5 17 "SkittleStringsModel" "away" "[I", Cond.methodLink RX5 121 yX5_isThrow, Cond.static yX5_isThrow, Cond.initialized RX5, Cond.code yX5_isThrow cX5_isThrow 2 (some .boolean), Cond.methodLink RX5 44 yX5_isIn, Cond.static yX5_isIn, Cond.code yX5_isIn cX5_isIn 3 (some .boolean), Cond.methodLink RX5 79 yX5_no, Cond.instanceMethod yX5_no, Cond.selects RX5 yX5_no yX5_no, Cond.code yX5_no cX5_no 2 (some .int), Cond.methodLink RX5 100 yX5_over, Cond.instanceMethod yX5_over, Cond.selects RX5 yX5_over yX5_over, Cond.code yX5_over cX5_over 1 (some .boolean), Cond.fieldLink RX5 72 "SkittleStringsModel" "frame" "I", Cond.methodLink RX5 125 yX5_play, Cond.instanceMethod yX5_play, Cond.selects RX5 yX5_play yX5_play, Cond.code yX5_play cX5_play 6 (some .int), Cond.fieldLink RX5 9 "SkittleStringsModel" "standing" "I"]
def wsX5_throwBall_r2 : List Cond := [Cond.fieldLink RX5 13 "SkittleStringsModel" "wear" "[I", Cond.methodLink RX5 115 Lib.Math.max.name, Cond.static Lib.Math.max.name, Cond.initialized "java/lang/Math", Cond.code Lib.Math.max.name Lib.Math.max.code 2 (some .int), Cond.fieldLink RX5 26 "SkittleStringsModel" "fell" "[I", Cond.fieldLink RX5 88 "SkittleStringsModel" "turn" "I", Cond.fieldLink RX5 23 "SkittleStringsModel" "many" "[I", Cond.fieldLink RX5 97 "SkittleStringsModel" "inFrame" "I", Cond.methodLink RX5 107 yX5_roll, Cond.static yX5_roll, Cond.code yX5_roll cX5_roll 7 (some .int), Cond.methodLink RX5 60 yX5_pinAt, Cond.static yX5_pinAt, Cond.code yX5_pinAt cX5_pinAt 2 (some .int), Cond.fieldLink RX5 51 "SkittleStringsModel" "PIN" "[I", Cond.methodLink RX5 64 yX5_hit, Cond.static yX5_hit, Cond.code yX5_hit cX5_hit 4 (some .int), Cond.fieldLink RX5 54 "SkittleStringsModel" "ROW" "[I", Cond.fieldLink RX5 57 "SkittleStringsModel" "LANE" "[I", Cond.methodLink RX5 110 yJ6_bitCount_0f7a4, Cond.static yJ6_bitCount_0f7a4, Cond.initialized RJ6]
def wsX5_throwBall_r3 : List Cond := [Cond.code yJ6_bitCount_0f7a4 cJ6_bitCount_0f7a4 1 (some .int), Cond.constant RJ6 265 (1431655765), Cond.constant RJ6 266 (858993459), Cond.constant RJ6 267 (252645135), Cond.methodLink RX5 118 yX5_endFrame, Cond.instanceMethod yX5_endFrame, Cond.selects RX5 yX5_endFrame yX5_endFrame, Cond.code yX5_endFrame cX5_endFrame 2 none, Cond.fieldLink RX5 32 "SkittleStringsModel" "strikes" "[I", Cond.fieldLink RX5 38 "SkittleStringsModel" "extra" "[I", Cond.fieldLink RX5 35 "SkittleStringsModel" "closed" "[I", Cond.fieldLink RX5 29 "SkittleStringsModel" "begins" "[I", Cond.methodLink RX5 91 yX5_begin, Cond.instanceMethod yX5_begin, Cond.selects RX5 yX5_begin yX5_begin, Cond.code yX5_begin cX5_begin 3 (some .int), Cond.methodLink RX5 94 yX5_sum, Cond.instanceMethod yX5_sum, Cond.selects RX5 yX5_sum yX5_sum, Cond.code yX5_sum cX5_sum 6 (some .int), Cond.methodLink RX5 83 Lib.Math.min.name, Cond.static Lib.Math.min.name, Cond.code Lib.Math.min.name Lib.Math.min.code 2 (some .int), Cond.methodLink RX5 104 yX5_putUp]
def wsX5_throwBall_r4 : List Cond := [Cond.instanceMethod yX5_putUp, Cond.selects RX5 yX5_putUp yX5_putUp, Cond.code yX5_putUp cX5_putUp 2 none, Cond.methodLink RX5 68 yX5_broken, Cond.instanceMethod yX5_broken, Cond.selects RX5 yX5_broken yX5_broken, Cond.code yX5_broken cX5_broken 2 (some .boolean)]
def wsX5_throwBall : List Cond := .code yX5_throwBall cX5_throwBall 3 (some .int) :: ((wsX5_throwBall_r1 ++ (wsX5_throwBall_r2 ++ (wsX5_throwBall_r3 ++ wsX5_throwBall_r4))) ++ wsX50)
def wsX5_replaceString : List Cond := .code yX5_replaceString cX5_replaceString 2 (some .int) :: ([.fieldLink RX5 41 "SkittleStringsModel" "thrown" "I", .fieldLink RX5 20 "SkittleStringsModel" "spares" "I", .fieldLink RX5 13 "SkittleStringsModel" "wear" "[I", .methodLink RX5 128 yX5_isPin, .static yX5_isPin, .initialized RX5, .code yX5_isPin cX5_isPin 1 (some .boolean), .methodLink RX5 44 yX5_isIn, .static yX5_isIn, .code yX5_isIn cX5_isIn 3 (some .boolean), .methodLink RX5 79 yX5_no, .instanceMethod yX5_no, .selects RX5 yX5_no yX5_no, .code yX5_no cX5_no 2 (some .int)] ++ wsX50)
def wsX5_buyStrings : List Cond := .code yX5_buyStrings cX5_buyStrings 2 (some .int) :: ([.fieldLink RX5 41 "SkittleStringsModel" "thrown" "I", .fieldLink RX5 20 "SkittleStringsModel" "spares" "I", .methodLink RX5 44 yX5_isIn, .static yX5_isIn, .initialized RX5, .code yX5_isIn cX5_isIn 3 (some .boolean), .methodLink RX5 79 yX5_no, .instanceMethod yX5_no, .selects RX5 yX5_no yX5_no, .code yX5_no cX5_no 2 (some .int)] ++ wsX50)
def wsX5_points : List Cond := .code yX5_points cX5_points 5 (some .int) :: ([.fieldLink RX5 72 "SkittleStringsModel" "frame" "I", .fieldLink RX5 88 "SkittleStringsModel" "turn" "I", .fieldLink RX5 23 "SkittleStringsModel" "many" "[I", .fieldLink RX5 38 "SkittleStringsModel" "extra" "[I", .methodLink RX5 91 yX5_begin, .instanceMethod yX5_begin, .selects RX5 yX5_begin yX5_begin, .initialized RX5, .code yX5_begin cX5_begin 3 (some .int), .fieldLink RX5 29 "SkittleStringsModel" "begins" "[I", .methodLink RX5 94 yX5_sum, .instanceMethod yX5_sum, .selects RX5 yX5_sum yX5_sum, .code yX5_sum cX5_sum 6 (some .int), .methodLink RX5 83 Lib.Math.min.name, .static Lib.Math.min.name, .initialized "java/lang/Math", .code Lib.Math.min.name Lib.Math.min.code 2 (some .int), .fieldLink RX5 26 "SkittleStringsModel" "fell" "[I"] ++ wsX50)
def wsX5_score : List Cond := .code yX5_score cX5_score 4 (some .int) :: ([.methodLink RX5 131 yX5_points, .instanceMethod yX5_points, .selects RX5 yX5_points yX5_points, .initialized RX5, .code yX5_points cX5_points 5 (some .int), .fieldLink RX5 72 "SkittleStringsModel" "frame" "I", .fieldLink RX5 88 "SkittleStringsModel" "turn" "I", .fieldLink RX5 23 "SkittleStringsModel" "many" "[I", .fieldLink RX5 38 "SkittleStringsModel" "extra" "[I", .methodLink RX5 91 yX5_begin, .instanceMethod yX5_begin, .selects RX5 yX5_begin yX5_begin, .code yX5_begin cX5_begin 3 (some .int), .fieldLink RX5 29 "SkittleStringsModel" "begins" "[I", .methodLink RX5 94 yX5_sum, .instanceMethod yX5_sum, .selects RX5 yX5_sum yX5_sum, .code yX5_sum cX5_sum 6 (some .int), .methodLink RX5 83 Lib.Math.min.name, .static Lib.Math.min.name, .initialized "java/lang/Math", .code Lib.Math.min.name Lib.Math.min.code 2 (some .int), .fieldLink RX5 26 "SkittleStringsModel" "fell" "[I"] ++ wsX50)
def wsX5_first_r1 : List Cond := [Cond.fieldLink RX5 48 "SkittleStringsModel" "players" "I", Cond.methodLink RX5 134 yX5_score, Cond.instanceMethod yX5_score, Cond.selects RX5 yX5_score yX5_score, Cond.initialized RX5, Cond.code yX5_score cX5_score 4 (some .int), Cond.methodLink RX5 131 yX5_points, Cond.instanceMethod yX5_points, Cond.selects RX5 yX5_points yX5_points, Cond.code yX5_points cX5_points 5 (some .int), Cond.fieldLink RX5 72 "SkittleStringsModel" "frame" "I", Cond.fieldLink RX5 88 "SkittleStringsModel" "turn" "I", Cond.fieldLink RX5 23 "SkittleStringsModel" "many" "[I", Cond.fieldLink RX5 38 "SkittleStringsModel" "extra" "[I", Cond.methodLink RX5 91 yX5_begin, Cond.instanceMethod yX5_begin, Cond.selects RX5 yX5_begin yX5_begin, Cond.code yX5_begin cX5_begin 3 (some .int), Cond.fieldLink RX5 29 "SkittleStringsModel" "begins" "[I", Cond.methodLink RX5 94 yX5_sum, Cond.instanceMethod yX5_sum, Cond.selects RX5 yX5_sum yX5_sum, Cond.code yX5_sum cX5_sum 6 (some .int), Cond.methodLink RX5 83 Lib.Math.min.name]
def wsX5_first_r2 : List Cond := [Cond.static Lib.Math.min.name, Cond.initialized "java/lang/Math", Cond.code Lib.Math.min.name Lib.Math.min.code 2 (some .int), Cond.fieldLink RX5 26 "SkittleStringsModel" "fell" "[I"]
def wsX5_first : List Cond := .code yX5_first cX5_first 3 (some .int) :: ((wsX5_first_r1 ++ wsX5_first_r2) ++ wsX50)
def wsX5_newGame_r1 : List Cond := [Cond.fieldLink RX5 41 "SkittleStringsModel" "thrown" "I", Cond.fieldLink RX5 17 "SkittleStringsModel" "away" "[I", Cond.fieldLink RX5 23 "SkittleStringsModel" "many" "[I", Cond.fieldLink RX5 32 "SkittleStringsModel" "strikes" "[I", Cond.fieldLink RX5 35 "SkittleStringsModel" "closed" "[I", Cond.fieldLink RX5 29 "SkittleStringsModel" "begins" "[I", Cond.fieldLink RX5 38 "SkittleStringsModel" "extra" "[I", Cond.fieldLink RX5 88 "SkittleStringsModel" "turn" "I", Cond.fieldLink RX5 72 "SkittleStringsModel" "frame" "I", Cond.fieldLink RX5 97 "SkittleStringsModel" "inFrame" "I", Cond.methodLink RX5 137 yX5_first, Cond.instanceMethod yX5_first, Cond.selects RX5 yX5_first yX5_first, Cond.initialized RX5, Cond.code yX5_first cX5_first 3 (some .int), Cond.fieldLink RX5 48 "SkittleStringsModel" "players" "I", Cond.methodLink RX5 134 yX5_score, Cond.instanceMethod yX5_score, Cond.selects RX5 yX5_score yX5_score, Cond.code yX5_score cX5_score 4 (some .int), Cond.methodLink RX5 131 yX5_points, Cond.instanceMethod yX5_points, Cond.selects RX5 yX5_points yX5_points, Cond.code yX5_points cX5_points 5 (some .int)]
def wsX5_newGame_r2 : List Cond := [Cond.methodLink RX5 91 yX5_begin, Cond.instanceMethod yX5_begin, Cond.selects RX5 yX5_begin yX5_begin, Cond.code yX5_begin cX5_begin 3 (some .int), Cond.methodLink RX5 94 yX5_sum, Cond.instanceMethod yX5_sum, Cond.selects RX5 yX5_sum yX5_sum, Cond.code yX5_sum cX5_sum 6 (some .int), Cond.methodLink RX5 83 Lib.Math.min.name, Cond.static Lib.Math.min.name, Cond.initialized "java/lang/Math", Cond.code Lib.Math.min.name Lib.Math.min.code 2 (some .int), Cond.fieldLink RX5 26 "SkittleStringsModel" "fell" "[I", Cond.methodLink RX5 104 yX5_putUp, Cond.instanceMethod yX5_putUp, Cond.selects RX5 yX5_putUp yX5_putUp, Cond.code yX5_putUp cX5_putUp 2 none, Cond.fieldLink RX5 9 "SkittleStringsModel" "standing" "I", Cond.methodLink RX5 68 yX5_broken, Cond.instanceMethod yX5_broken, Cond.selects RX5 yX5_broken yX5_broken, Cond.code yX5_broken cX5_broken 2 (some .boolean), Cond.fieldLink RX5 13 "SkittleStringsModel" "wear" "[I"]
def wsX5_newGame : List Cond := .code yX5_newGame cX5_newGame 3 (some .int) :: ((wsX5_newGame_r1 ++ wsX5_newGame_r2) ++ wsX50)
def wsX5_isStanding : List Cond := .code yX5_isStanding cX5_isStanding 2 (some .boolean) :: ([.fieldLink RX5 41 "SkittleStringsModel" "thrown" "I", .fieldLink RX5 9 "SkittleStringsModel" "standing" "I", .methodLink RX5 128 yX5_isPin, .static yX5_isPin, .initialized RX5, .code yX5_isPin cX5_isPin 1 (some .boolean), .methodLink RX5 44 yX5_isIn, .static yX5_isIn, .code yX5_isIn cX5_isIn 3 (some .boolean), .methodLink RX5 140 yX5_isNot, .instanceMethod yX5_isNot, .selects RX5 yX5_isNot yX5_isNot, .code yX5_isNot cX5_isNot 2 (some .boolean)] ++ wsX50)
def wsX5_standing : List Cond := .code yX5_standing cX5_standing 1 (some .int) :: ([.fieldLink RX5 9 "SkittleStringsModel" "standing" "I", .methodLink RX5 110 yJ6_bitCount_0f7a4, .static yJ6_bitCount_0f7a4, .initialized RJ6, .code yJ6_bitCount_0f7a4 cJ6_bitCount_0f7a4 1 (some .int), .constant RJ6 265 (1431655765), .constant RJ6 266 (858993459), .constant RJ6 267 (252645135), .methodLink RX5 143 yX5_ok, .instanceMethod yX5_ok, .selects RX5 yX5_ok yX5_ok, .initialized RX5, .code yX5_ok cX5_ok 2 (some .int), .fieldLink RX5 41 "SkittleStringsModel" "thrown" "I"] ++ wsX50)
def wsX5_wearOf : List Cond := .code yX5_wearOf cX5_wearOf 2 (some .int) :: ([.fieldLink RX5 41 "SkittleStringsModel" "thrown" "I", .fieldLink RX5 13 "SkittleStringsModel" "wear" "[I", .methodLink RX5 128 yX5_isPin, .static yX5_isPin, .initialized RX5, .code yX5_isPin cX5_isPin 1 (some .boolean), .methodLink RX5 44 yX5_isIn, .static yX5_isIn, .code yX5_isIn cX5_isIn 3 (some .boolean), .methodLink RX5 79 yX5_no, .instanceMethod yX5_no, .selects RX5 yX5_no yX5_no, .code yX5_no cX5_no 2 (some .int)] ++ wsX50)
def wsX5_isBroken : List Cond := .code yX5_isBroken cX5_isBroken 2 (some .boolean) :: ([.fieldLink RX5 41 "SkittleStringsModel" "thrown" "I", .methodLink RX5 128 yX5_isPin, .static yX5_isPin, .initialized RX5, .code yX5_isPin cX5_isPin 1 (some .boolean), .methodLink RX5 44 yX5_isIn, .static yX5_isIn, .code yX5_isIn cX5_isIn 3 (some .boolean), .methodLink RX5 68 yX5_broken, .instanceMethod yX5_broken, .selects RX5 yX5_broken yX5_broken, .code yX5_broken cX5_broken 2 (some .boolean), .fieldLink RX5 13 "SkittleStringsModel" "wear" "[I", .methodLink RX5 140 yX5_isNot, .instanceMethod yX5_isNot, .selects RX5 yX5_isNot yX5_isNot, .code yX5_isNot cX5_isNot 2 (some .boolean)] ++ wsX50)
def wsX5_brokenNow : List Cond := .code yX5_brokenNow cX5_brokenNow 3 (some .int) :: ([.methodLink RX5 68 yX5_broken, .instanceMethod yX5_broken, .selects RX5 yX5_broken yX5_broken, .initialized RX5, .code yX5_broken cX5_broken 2 (some .boolean), .fieldLink RX5 13 "SkittleStringsModel" "wear" "[I"] ++ wsX50)
def wsX5_brokenStrings : List Cond := .code yX5_brokenStrings cX5_brokenStrings 1 (some .int) :: ([.methodLink RX5 146 yX5_brokenNow, .instanceMethod yX5_brokenNow, .selects RX5 yX5_brokenNow yX5_brokenNow, .initialized RX5, .code yX5_brokenNow cX5_brokenNow 3 (some .int), .methodLink RX5 68 yX5_broken, .instanceMethod yX5_broken, .selects RX5 yX5_broken yX5_broken, .code yX5_broken cX5_broken 2 (some .boolean), .fieldLink RX5 13 "SkittleStringsModel" "wear" "[I", .methodLink RX5 143 yX5_ok, .instanceMethod yX5_ok, .selects RX5 yX5_ok yX5_ok, .code yX5_ok cX5_ok 2 (some .int), .fieldLink RX5 41 "SkittleStringsModel" "thrown" "I"] ++ wsX50)
def wsX5_mostWorn : List Cond := .code yX5_mostWorn cX5_mostWorn 3 (some .int) :: ([.fieldLink RX5 41 "SkittleStringsModel" "thrown" "I", .fieldLink RX5 13 "SkittleStringsModel" "wear" "[I", .methodLink RX5 68 yX5_broken, .instanceMethod yX5_broken, .selects RX5 yX5_broken yX5_broken, .initialized RX5, .code yX5_broken cX5_broken 2 (some .boolean)] ++ wsX50)
def wsX5_spareStrings : List Cond := .code yX5_spareStrings cX5_spareStrings 1 (some .int) :: ([.fieldLink RX5 20 "SkittleStringsModel" "spares" "I", .methodLink RX5 143 yX5_ok, .instanceMethod yX5_ok, .selects RX5 yX5_ok yX5_ok, .initialized RX5, .code yX5_ok cX5_ok 2 (some .int), .fieldLink RX5 41 "SkittleStringsModel" "thrown" "I"] ++ wsX50)
def wsX5_awayFor : List Cond := .code yX5_awayFor cX5_awayFor 2 (some .int) :: ([.fieldLink RX5 41 "SkittleStringsModel" "thrown" "I", .fieldLink RX5 17 "SkittleStringsModel" "away" "[I", .methodLink RX5 44 yX5_isIn, .static yX5_isIn, .initialized RX5, .code yX5_isIn cX5_isIn 3 (some .boolean), .methodLink RX5 79 yX5_no, .instanceMethod yX5_no, .selects RX5 yX5_no yX5_no, .code yX5_no cX5_no 2 (some .int)] ++ wsX50)
def wsX5_players : List Cond := .code yX5_players cX5_players 1 (some .int) :: ([.fieldLink RX5 48 "SkittleStringsModel" "players" "I", .methodLink RX5 143 yX5_ok, .instanceMethod yX5_ok, .selects RX5 yX5_ok yX5_ok, .initialized RX5, .code yX5_ok cX5_ok 2 (some .int), .fieldLink RX5 41 "SkittleStringsModel" "thrown" "I"] ++ wsX50)
def wsX5_turnNow : List Cond := .code yX5_turnNow cX5_turnNow 1 (some .int) :: ([.fieldLink RX5 48 "SkittleStringsModel" "players" "I", .fieldLink RX5 88 "SkittleStringsModel" "turn" "I", .methodLink RX5 100 yX5_over, .instanceMethod yX5_over, .selects RX5 yX5_over yX5_over, .initialized RX5, .code yX5_over cX5_over 1 (some .boolean), .fieldLink RX5 72 "SkittleStringsModel" "frame" "I"] ++ wsX50)
def wsX5_playerInTurn : List Cond := .code yX5_playerInTurn cX5_playerInTurn 1 (some .int) :: ([.methodLink RX5 149 yX5_turnNow, .instanceMethod yX5_turnNow, .selects RX5 yX5_turnNow yX5_turnNow, .initialized RX5, .code yX5_turnNow cX5_turnNow 1 (some .int), .fieldLink RX5 48 "SkittleStringsModel" "players" "I", .fieldLink RX5 88 "SkittleStringsModel" "turn" "I", .methodLink RX5 100 yX5_over, .instanceMethod yX5_over, .selects RX5 yX5_over yX5_over, .code yX5_over cX5_over 1 (some .boolean), .fieldLink RX5 72 "SkittleStringsModel" "frame" "I", .methodLink RX5 143 yX5_ok, .instanceMethod yX5_ok, .selects RX5 yX5_ok yX5_ok, .code yX5_ok cX5_ok 2 (some .int), .fieldLink RX5 41 "SkittleStringsModel" "thrown" "I"] ++ wsX50)
def wsX5_frame : List Cond := .code yX5_frame cX5_frame 1 (some .int) :: ([.fieldLink RX5 72 "SkittleStringsModel" "frame" "I", .methodLink RX5 143 yX5_ok, .instanceMethod yX5_ok, .selects RX5 yX5_ok yX5_ok, .initialized RX5, .code yX5_ok cX5_ok 2 (some .int), .fieldLink RX5 41 "SkittleStringsModel" "thrown" "I"] ++ wsX50)
def wsX5_throwsInFrame : List Cond := .code yX5_throwsInFrame cX5_throwsInFrame 1 (some .int) :: ([.fieldLink RX5 97 "SkittleStringsModel" "inFrame" "I", .methodLink RX5 143 yX5_ok, .instanceMethod yX5_ok, .selects RX5 yX5_ok yX5_ok, .initialized RX5, .code yX5_ok cX5_ok 2 (some .int), .fieldLink RX5 41 "SkittleStringsModel" "thrown" "I"] ++ wsX50)
def wsX5_isOver : List Cond := .code yX5_isOver cX5_isOver 1 (some .boolean) :: ([.fieldLink RX5 41 "SkittleStringsModel" "thrown" "I", .methodLink RX5 100 yX5_over, .instanceMethod yX5_over, .selects RX5 yX5_over yX5_over, .initialized RX5, .code yX5_over cX5_over 1 (some .boolean), .fieldLink RX5 72 "SkittleStringsModel" "frame" "I"] ++ wsX50)
def wsX5_of : List Cond := .code yX5_of cX5_of 3 (some .int) :: ([.fieldLink RX5 41 "SkittleStringsModel" "thrown" "I", .methodLink RX5 152 yX5_isPlayer, .instanceMethod yX5_isPlayer, .selects RX5 yX5_isPlayer yX5_isPlayer, .initialized RX5, .code yX5_isPlayer cX5_isPlayer 2 (some .boolean), .fieldLink RX5 48 "SkittleStringsModel" "players" "I", .methodLink RX5 44 yX5_isIn, .static yX5_isIn, .code yX5_isIn cX5_isIn 3 (some .boolean), .methodLink RX5 79 yX5_no, .instanceMethod yX5_no, .selects RX5 yX5_no yX5_no, .code yX5_no cX5_no 2 (some .int)] ++ wsX50)
def wsX5_throwsOf : List Cond := .code yX5_throwsOf cX5_throwsOf 2 (some .int) :: ([.fieldLink RX5 23 "SkittleStringsModel" "many" "[I", .methodLink RX5 155 yX5_of, .instanceMethod yX5_of, .selects RX5 yX5_of yX5_of, .initialized RX5, .code yX5_of cX5_of 3 (some .int), .fieldLink RX5 41 "SkittleStringsModel" "thrown" "I", .methodLink RX5 152 yX5_isPlayer, .instanceMethod yX5_isPlayer, .selects RX5 yX5_isPlayer yX5_isPlayer, .code yX5_isPlayer cX5_isPlayer 2 (some .boolean), .fieldLink RX5 48 "SkittleStringsModel" "players" "I", .methodLink RX5 44 yX5_isIn, .static yX5_isIn, .code yX5_isIn cX5_isIn 3 (some .boolean), .methodLink RX5 79 yX5_no, .instanceMethod yX5_no, .selects RX5 yX5_no yX5_no, .code yX5_no cX5_no 2 (some .int)] ++ wsX50)
def wsX5_scoreOf_r1 : List Cond := [Cond.fieldLink RX5 41 "SkittleStringsModel" "thrown" "I", Cond.methodLink RX5 152 yX5_isPlayer, Cond.instanceMethod yX5_isPlayer, Cond.selects RX5 yX5_isPlayer yX5_isPlayer, Cond.initialized RX5, Cond.code yX5_isPlayer cX5_isPlayer 2 (some .boolean), Cond.fieldLink RX5 48 "SkittleStringsModel" "players" "I", Cond.methodLink RX5 44 yX5_isIn, Cond.static yX5_isIn, Cond.code yX5_isIn cX5_isIn 3 (some .boolean), Cond.methodLink RX5 134 yX5_score, Cond.instanceMethod yX5_score, Cond.selects RX5 yX5_score yX5_score, Cond.code yX5_score cX5_score 4 (some .int), Cond.methodLink RX5 131 yX5_points, Cond.instanceMethod yX5_points, Cond.selects RX5 yX5_points yX5_points, Cond.code yX5_points cX5_points 5 (some .int), Cond.fieldLink RX5 72 "SkittleStringsModel" "frame" "I", Cond.fieldLink RX5 88 "SkittleStringsModel" "turn" "I", Cond.fieldLink RX5 23 "SkittleStringsModel" "many" "[I", Cond.fieldLink RX5 38 "SkittleStringsModel" "extra" "[I", Cond.methodLink RX5 91 yX5_begin, Cond.instanceMethod yX5_begin]
def wsX5_scoreOf_r2 : List Cond := [Cond.selects RX5 yX5_begin yX5_begin, Cond.code yX5_begin cX5_begin 3 (some .int), Cond.fieldLink RX5 29 "SkittleStringsModel" "begins" "[I", Cond.methodLink RX5 94 yX5_sum, Cond.instanceMethod yX5_sum, Cond.selects RX5 yX5_sum yX5_sum, Cond.code yX5_sum cX5_sum 6 (some .int), Cond.methodLink RX5 83 Lib.Math.min.name, Cond.static Lib.Math.min.name, Cond.initialized "java/lang/Math", Cond.code Lib.Math.min.name Lib.Math.min.code 2 (some .int), Cond.fieldLink RX5 26 "SkittleStringsModel" "fell" "[I", Cond.methodLink RX5 79 yX5_no, Cond.instanceMethod yX5_no, Cond.selects RX5 yX5_no yX5_no, Cond.code yX5_no cX5_no 2 (some .int)]
def wsX5_scoreOf : List Cond := .code yX5_scoreOf cX5_scoreOf 2 (some .int) :: ((wsX5_scoreOf_r1 ++ wsX5_scoreOf_r2) ++ wsX50)
def wsX5_pointsOf_r1 : List Cond := [Cond.fieldLink RX5 41 "SkittleStringsModel" "thrown" "I", Cond.methodLink RX5 152 yX5_isPlayer, Cond.instanceMethod yX5_isPlayer, Cond.selects RX5 yX5_isPlayer yX5_isPlayer, Cond.initialized RX5, Cond.code yX5_isPlayer cX5_isPlayer 2 (some .boolean), Cond.fieldLink RX5 48 "SkittleStringsModel" "players" "I", Cond.methodLink RX5 44 yX5_isIn, Cond.static yX5_isIn, Cond.code yX5_isIn cX5_isIn 3 (some .boolean), Cond.methodLink RX5 131 yX5_points, Cond.instanceMethod yX5_points, Cond.selects RX5 yX5_points yX5_points, Cond.code yX5_points cX5_points 5 (some .int), Cond.fieldLink RX5 72 "SkittleStringsModel" "frame" "I", Cond.fieldLink RX5 88 "SkittleStringsModel" "turn" "I", Cond.fieldLink RX5 23 "SkittleStringsModel" "many" "[I", Cond.fieldLink RX5 38 "SkittleStringsModel" "extra" "[I", Cond.methodLink RX5 91 yX5_begin, Cond.instanceMethod yX5_begin, Cond.selects RX5 yX5_begin yX5_begin, Cond.code yX5_begin cX5_begin 3 (some .int), Cond.fieldLink RX5 29 "SkittleStringsModel" "begins" "[I", Cond.methodLink RX5 94 yX5_sum]
def wsX5_pointsOf_r2 : List Cond := [Cond.instanceMethod yX5_sum, Cond.selects RX5 yX5_sum yX5_sum, Cond.code yX5_sum cX5_sum 6 (some .int), Cond.methodLink RX5 83 Lib.Math.min.name, Cond.static Lib.Math.min.name, Cond.initialized "java/lang/Math", Cond.code Lib.Math.min.name Lib.Math.min.code 2 (some .int), Cond.fieldLink RX5 26 "SkittleStringsModel" "fell" "[I", Cond.methodLink RX5 79 yX5_no, Cond.instanceMethod yX5_no, Cond.selects RX5 yX5_no yX5_no, Cond.code yX5_no cX5_no 2 (some .int)]
def wsX5_pointsOf : List Cond := .code yX5_pointsOf cX5_pointsOf 3 (some .int) :: ((wsX5_pointsOf_r1 ++ wsX5_pointsOf_r2) ++ wsX50)
def wsX5_strikesOf : List Cond := .code yX5_strikesOf cX5_strikesOf 2 (some .int) :: ([.fieldLink RX5 32 "SkittleStringsModel" "strikes" "[I", .methodLink RX5 155 yX5_of, .instanceMethod yX5_of, .selects RX5 yX5_of yX5_of, .initialized RX5, .code yX5_of cX5_of 3 (some .int), .fieldLink RX5 41 "SkittleStringsModel" "thrown" "I", .methodLink RX5 152 yX5_isPlayer, .instanceMethod yX5_isPlayer, .selects RX5 yX5_isPlayer yX5_isPlayer, .code yX5_isPlayer cX5_isPlayer 2 (some .boolean), .fieldLink RX5 48 "SkittleStringsModel" "players" "I", .methodLink RX5 44 yX5_isIn, .static yX5_isIn, .code yX5_isIn cX5_isIn 3 (some .boolean), .methodLink RX5 79 yX5_no, .instanceMethod yX5_no, .selects RX5 yX5_no yX5_no, .code yX5_no cX5_no 2 (some .int)] ++ wsX50)
def wsX5_sparesOf : List Cond := .code yX5_sparesOf cX5_sparesOf 2 (some .int) :: ([.fieldLink RX5 35 "SkittleStringsModel" "closed" "[I", .methodLink RX5 155 yX5_of, .instanceMethod yX5_of, .selects RX5 yX5_of yX5_of, .initialized RX5, .code yX5_of cX5_of 3 (some .int), .fieldLink RX5 41 "SkittleStringsModel" "thrown" "I", .methodLink RX5 152 yX5_isPlayer, .instanceMethod yX5_isPlayer, .selects RX5 yX5_isPlayer yX5_isPlayer, .code yX5_isPlayer cX5_isPlayer 2 (some .boolean), .fieldLink RX5 48 "SkittleStringsModel" "players" "I", .methodLink RX5 44 yX5_isIn, .static yX5_isIn, .code yX5_isIn cX5_isIn 3 (some .boolean), .methodLink RX5 79 yX5_no, .instanceMethod yX5_no, .selects RX5 yX5_no yX5_no, .code yX5_no cX5_no 2 (some .int)] ++ wsX50)
def wsX5_leader_r1 : List Cond := [Cond.methodLink RX5 137 yX5_first, Cond.instanceMethod yX5_first, Cond.selects RX5 yX5_first yX5_first, Cond.initialized RX5, Cond.code yX5_first cX5_first 3 (some .int), Cond.fieldLink RX5 48 "SkittleStringsModel" "players" "I", Cond.methodLink RX5 134 yX5_score, Cond.instanceMethod yX5_score, Cond.selects RX5 yX5_score yX5_score, Cond.code yX5_score cX5_score 4 (some .int), Cond.methodLink RX5 131 yX5_points, Cond.instanceMethod yX5_points, Cond.selects RX5 yX5_points yX5_points, Cond.code yX5_points cX5_points 5 (some .int), Cond.fieldLink RX5 72 "SkittleStringsModel" "frame" "I", Cond.fieldLink RX5 88 "SkittleStringsModel" "turn" "I", Cond.fieldLink RX5 23 "SkittleStringsModel" "many" "[I", Cond.fieldLink RX5 38 "SkittleStringsModel" "extra" "[I", Cond.methodLink RX5 91 yX5_begin, Cond.instanceMethod yX5_begin, Cond.selects RX5 yX5_begin yX5_begin, Cond.code yX5_begin cX5_begin 3 (some .int), Cond.fieldLink RX5 29 "SkittleStringsModel" "begins" "[I", Cond.methodLink RX5 94 yX5_sum]
def wsX5_leader_r2 : List Cond := [Cond.instanceMethod yX5_sum, Cond.selects RX5 yX5_sum yX5_sum, Cond.code yX5_sum cX5_sum 6 (some .int), Cond.methodLink RX5 83 Lib.Math.min.name, Cond.static Lib.Math.min.name, Cond.initialized "java/lang/Math", Cond.code Lib.Math.min.name Lib.Math.min.code 2 (some .int), Cond.fieldLink RX5 26 "SkittleStringsModel" "fell" "[I", Cond.methodLink RX5 143 yX5_ok, Cond.instanceMethod yX5_ok, Cond.selects RX5 yX5_ok yX5_ok, Cond.code yX5_ok cX5_ok 2 (some .int), Cond.fieldLink RX5 41 "SkittleStringsModel" "thrown" "I"]
def wsX5_leader : List Cond := .code yX5_leader cX5_leader 1 (some .int) :: ((wsX5_leader_r1 ++ wsX5_leader_r2) ++ wsX50)
def wsX5_wouldFall_r1 : List Cond := [Cond.fieldLink RX5 41 "SkittleStringsModel" "thrown" "I", Cond.fieldLink RX5 9 "SkittleStringsModel" "standing" "I", Cond.methodLink RX5 121 yX5_isThrow, Cond.static yX5_isThrow, Cond.initialized RX5, Cond.code yX5_isThrow cX5_isThrow 2 (some .boolean), Cond.methodLink RX5 44 yX5_isIn, Cond.static yX5_isIn, Cond.code yX5_isIn cX5_isIn 3 (some .boolean), Cond.methodLink RX5 107 yX5_roll, Cond.static yX5_roll, Cond.code yX5_roll cX5_roll 7 (some .int), Cond.methodLink RX5 60 yX5_pinAt, Cond.static yX5_pinAt, Cond.code yX5_pinAt cX5_pinAt 2 (some .int), Cond.fieldLink RX5 51 "SkittleStringsModel" "PIN" "[I", Cond.methodLink RX5 64 yX5_hit, Cond.static yX5_hit, Cond.code yX5_hit cX5_hit 4 (some .int), Cond.fieldLink RX5 54 "SkittleStringsModel" "ROW" "[I", Cond.fieldLink RX5 57 "SkittleStringsModel" "LANE" "[I", Cond.methodLink RX5 110 yJ6_bitCount_0f7a4, Cond.static yJ6_bitCount_0f7a4, Cond.initialized RJ6]
def wsX5_wouldFall_r2 : List Cond := [Cond.code yJ6_bitCount_0f7a4 cJ6_bitCount_0f7a4 1 (some .int), Cond.constant RJ6 265 (1431655765), Cond.constant RJ6 266 (858993459), Cond.constant RJ6 267 (252645135), Cond.methodLink RX5 79 yX5_no, Cond.instanceMethod yX5_no, Cond.selects RX5 yX5_no yX5_no, Cond.code yX5_no cX5_no 2 (some .int)]
def wsX5_wouldFall : List Cond := .code yX5_wouldFall cX5_wouldFall 3 (some .int) :: ((wsX5_wouldFall_r1 ++ wsX5_wouldFall_r2) ++ wsX50)
def wsJ6_numberOfLeadingZeros_0f7a4 : List Cond := .code yJ6_numberOfLeadingZeros_0f7a4 cJ6_numberOfLeadingZeros_0f7a4 2 (some .int) :: ([.constant RJ6 264 (65536)])
def wsX5_lastToFall_r1 : List Cond := [Cond.fieldLink RX5 41 "SkittleStringsModel" "thrown" "I", Cond.fieldLink RX5 9 "SkittleStringsModel" "standing" "I", Cond.methodLink RX5 121 yX5_isThrow, Cond.static yX5_isThrow, Cond.initialized RX5, Cond.code yX5_isThrow cX5_isThrow 2 (some .boolean), Cond.methodLink RX5 44 yX5_isIn, Cond.static yX5_isIn, Cond.code yX5_isIn cX5_isIn 3 (some .boolean), Cond.methodLink RX5 79 yX5_no, Cond.instanceMethod yX5_no, Cond.selects RX5 yX5_no yX5_no, Cond.code yX5_no cX5_no 2 (some .int), Cond.methodLink RX5 107 yX5_roll, Cond.static yX5_roll, Cond.code yX5_roll cX5_roll 7 (some .int), Cond.methodLink RX5 60 yX5_pinAt, Cond.static yX5_pinAt, Cond.code yX5_pinAt cX5_pinAt 2 (some .int), Cond.fieldLink RX5 51 "SkittleStringsModel" "PIN" "[I", Cond.methodLink RX5 64 yX5_hit, Cond.static yX5_hit, Cond.code yX5_hit cX5_hit 4 (some .int), Cond.fieldLink RX5 54 "SkittleStringsModel" "ROW" "[I"]
def wsX5_lastToFall_r2 : List Cond := [Cond.fieldLink RX5 57 "SkittleStringsModel" "LANE" "[I", Cond.methodLink RX5 159 yJ6_numberOfLeadingZeros_0f7a4, Cond.static yJ6_numberOfLeadingZeros_0f7a4, Cond.initialized RJ6, Cond.code yJ6_numberOfLeadingZeros_0f7a4 cJ6_numberOfLeadingZeros_0f7a4 2 (some .int), Cond.constant RJ6 264 (65536)]
def wsX5_lastToFall : List Cond := .code yX5_lastToFall cX5_lastToFall 4 (some .int) :: ((wsX5_lastToFall_r1 ++ wsX5_lastToFall_r2) ++ wsX50)
def wsX5_best_r1 : List Cond := [Cond.fieldLink RX5 17 "SkittleStringsModel" "away" "[I", Cond.fieldLink RX5 9 "SkittleStringsModel" "standing" "I", Cond.methodLink RX5 107 yX5_roll, Cond.static yX5_roll, Cond.initialized RX5, Cond.code yX5_roll cX5_roll 7 (some .int), Cond.methodLink RX5 60 yX5_pinAt, Cond.static yX5_pinAt, Cond.code yX5_pinAt cX5_pinAt 2 (some .int), Cond.fieldLink RX5 51 "SkittleStringsModel" "PIN" "[I", Cond.methodLink RX5 44 yX5_isIn, Cond.static yX5_isIn, Cond.code yX5_isIn cX5_isIn 3 (some .boolean), Cond.methodLink RX5 64 yX5_hit, Cond.static yX5_hit, Cond.code yX5_hit cX5_hit 4 (some .int), Cond.fieldLink RX5 54 "SkittleStringsModel" "ROW" "[I", Cond.fieldLink RX5 57 "SkittleStringsModel" "LANE" "[I", Cond.methodLink RX5 110 yJ6_bitCount_0f7a4, Cond.static yJ6_bitCount_0f7a4, Cond.initialized RJ6, Cond.code yJ6_bitCount_0f7a4 cJ6_bitCount_0f7a4 1 (some .int), Cond.constant RJ6 265 (1431655765), Cond.constant RJ6 266 (858993459)]
def wsX5_best_r2 : List Cond := [Cond.constant RJ6 267 (252645135)]
def wsX5_best : List Cond := .code yX5_best cX5_best 6 (some .int) :: ((wsX5_best_r1 ++ wsX5_best_r2) ++ wsX50)
def wsX5_bestThrow_r1 : List Cond := [Cond.methodLink RX5 162 yX5_best, Cond.instanceMethod yX5_best, Cond.selects RX5 yX5_best yX5_best, Cond.initialized RX5, Cond.code yX5_best cX5_best 6 (some .int), Cond.fieldLink RX5 17 "SkittleStringsModel" "away" "[I", Cond.fieldLink RX5 9 "SkittleStringsModel" "standing" "I", Cond.methodLink RX5 107 yX5_roll, Cond.static yX5_roll, Cond.code yX5_roll cX5_roll 7 (some .int), Cond.methodLink RX5 60 yX5_pinAt, Cond.static yX5_pinAt, Cond.code yX5_pinAt cX5_pinAt 2 (some .int), Cond.fieldLink RX5 51 "SkittleStringsModel" "PIN" "[I", Cond.methodLink RX5 44 yX5_isIn, Cond.static yX5_isIn, Cond.code yX5_isIn cX5_isIn 3 (some .boolean), Cond.methodLink RX5 64 yX5_hit, Cond.static yX5_hit, Cond.code yX5_hit cX5_hit 4 (some .int), Cond.fieldLink RX5 54 "SkittleStringsModel" "ROW" "[I", Cond.fieldLink RX5 57 "SkittleStringsModel" "LANE" "[I", Cond.methodLink RX5 110 yJ6_bitCount_0f7a4, Cond.static yJ6_bitCount_0f7a4]
def wsX5_bestThrow_r2 : List Cond := [Cond.initialized RJ6, Cond.code yJ6_bitCount_0f7a4 cJ6_bitCount_0f7a4 1 (some .int), Cond.constant RJ6 265 (1431655765), Cond.constant RJ6 266 (858993459), Cond.constant RJ6 267 (252645135), Cond.methodLink RX5 143 yX5_ok, Cond.instanceMethod yX5_ok, Cond.selects RX5 yX5_ok yX5_ok, Cond.code yX5_ok cX5_ok 2 (some .int), Cond.fieldLink RX5 41 "SkittleStringsModel" "thrown" "I"]
def wsX5_bestThrow : List Cond := .code yX5_bestThrow cX5_bestThrow 1 (some .int) :: ((wsX5_bestThrow_r1 ++ wsX5_bestThrow_r2) ++ wsX50)
def wsX5_isCleared : List Cond := .code yX5_isCleared cX5_isCleared 6 (some .boolean) :: ([.methodLink RX5 107 yX5_roll, .static yX5_roll, .initialized RX5, .code yX5_roll cX5_roll 7 (some .int), .methodLink RX5 60 yX5_pinAt, .static yX5_pinAt, .code yX5_pinAt cX5_pinAt 2 (some .int), .fieldLink RX5 51 "SkittleStringsModel" "PIN" "[I", .methodLink RX5 44 yX5_isIn, .static yX5_isIn, .code yX5_isIn cX5_isIn 3 (some .boolean), .methodLink RX5 64 yX5_hit, .static yX5_hit, .code yX5_hit cX5_hit 4 (some .int), .fieldLink RX5 54 "SkittleStringsModel" "ROW" "[I", .fieldLink RX5 57 "SkittleStringsModel" "LANE" "[I", .methodLink RX5 165 yX5_isCleared, .static yX5_isCleared])
def wsX5_clear : List Cond := .code yX5_clear cX5_clear 2 (some .int) :: ([.fieldLink RX5 9 "SkittleStringsModel" "standing" "I", .methodLink RX5 165 yX5_isCleared, .static yX5_isCleared, .initialized RX5, .code yX5_isCleared cX5_isCleared 6 (some .boolean), .methodLink RX5 107 yX5_roll, .static yX5_roll, .code yX5_roll cX5_roll 7 (some .int), .methodLink RX5 60 yX5_pinAt, .static yX5_pinAt, .code yX5_pinAt cX5_pinAt 2 (some .int), .fieldLink RX5 51 "SkittleStringsModel" "PIN" "[I", .methodLink RX5 44 yX5_isIn, .static yX5_isIn, .code yX5_isIn cX5_isIn 3 (some .boolean), .methodLink RX5 64 yX5_hit, .static yX5_hit, .code yX5_hit cX5_hit 4 (some .int), .fieldLink RX5 54 "SkittleStringsModel" "ROW" "[I", .fieldLink RX5 57 "SkittleStringsModel" "LANE" "[I"] ++ wsX50)
def wsX5_throwsToClear_r1 : List Cond := [Cond.methodLink RX5 168 yX5_clear, Cond.instanceMethod yX5_clear, Cond.selects RX5 yX5_clear yX5_clear, Cond.initialized RX5, Cond.code yX5_clear cX5_clear 2 (some .int), Cond.fieldLink RX5 9 "SkittleStringsModel" "standing" "I", Cond.methodLink RX5 165 yX5_isCleared, Cond.static yX5_isCleared, Cond.code yX5_isCleared cX5_isCleared 6 (some .boolean), Cond.methodLink RX5 107 yX5_roll, Cond.static yX5_roll, Cond.code yX5_roll cX5_roll 7 (some .int), Cond.methodLink RX5 60 yX5_pinAt, Cond.static yX5_pinAt, Cond.code yX5_pinAt cX5_pinAt 2 (some .int), Cond.fieldLink RX5 51 "SkittleStringsModel" "PIN" "[I", Cond.methodLink RX5 44 yX5_isIn, Cond.static yX5_isIn, Cond.code yX5_isIn cX5_isIn 3 (some .boolean), Cond.methodLink RX5 64 yX5_hit, Cond.static yX5_hit, Cond.code yX5_hit cX5_hit 4 (some .int), Cond.fieldLink RX5 54 "SkittleStringsModel" "ROW" "[I", Cond.fieldLink RX5 57 "SkittleStringsModel" "LANE" "[I"]
def wsX5_throwsToClear_r2 : List Cond := [Cond.methodLink RX5 143 yX5_ok, Cond.instanceMethod yX5_ok, Cond.selects RX5 yX5_ok yX5_ok, Cond.code yX5_ok cX5_ok 2 (some .int), Cond.fieldLink RX5 41 "SkittleStringsModel" "thrown" "I"]
def wsX5_throwsToClear : List Cond := .code yX5_throwsToClear cX5_throwsToClear 1 (some .int) :: ((wsX5_throwsToClear_r1 ++ wsX5_throwsToClear_r2) ++ wsX50)
def wsX5_wouldBreak : List Cond := .code yX5_wouldBreak cX5_wouldBreak 3 (some .int) :: ([.fieldLink RX5 41 "SkittleStringsModel" "thrown" "I", .fieldLink RX5 13 "SkittleStringsModel" "wear" "[I", .fieldLink RX5 9 "SkittleStringsModel" "standing" "I"] ++ wsX50)
def wsX5_meanScore_r1 : List Cond := [Cond.fieldLink RX5 41 "SkittleStringsModel" "thrown" "I", Cond.fieldLink RX5 48 "SkittleStringsModel" "players" "I", Cond.methodLink RX5 134 yX5_score, Cond.instanceMethod yX5_score, Cond.selects RX5 yX5_score yX5_score, Cond.initialized RX5, Cond.code yX5_score cX5_score 4 (some .int), Cond.methodLink RX5 131 yX5_points, Cond.instanceMethod yX5_points, Cond.selects RX5 yX5_points yX5_points, Cond.code yX5_points cX5_points 5 (some .int), Cond.fieldLink RX5 72 "SkittleStringsModel" "frame" "I", Cond.fieldLink RX5 88 "SkittleStringsModel" "turn" "I", Cond.fieldLink RX5 23 "SkittleStringsModel" "many" "[I", Cond.fieldLink RX5 38 "SkittleStringsModel" "extra" "[I", Cond.methodLink RX5 91 yX5_begin, Cond.instanceMethod yX5_begin, Cond.selects RX5 yX5_begin yX5_begin, Cond.code yX5_begin cX5_begin 3 (some .int), Cond.fieldLink RX5 29 "SkittleStringsModel" "begins" "[I", Cond.methodLink RX5 94 yX5_sum, Cond.instanceMethod yX5_sum, Cond.selects RX5 yX5_sum yX5_sum, Cond.code yX5_sum cX5_sum 6 (some .int)]
def wsX5_meanScore_r2 : List Cond := [Cond.methodLink RX5 83 Lib.Math.min.name, Cond.static Lib.Math.min.name, Cond.initialized "java/lang/Math", Cond.code Lib.Math.min.name Lib.Math.min.code 2 (some .int), Cond.fieldLink RX5 26 "SkittleStringsModel" "fell" "[I"]
def wsX5_meanScore : List Cond := .code yX5_meanScore cX5_meanScore 3 (some .double) :: ((wsX5_meanScore_r1 ++ wsX5_meanScore_r2) ++ wsX50)
def wsX5_digest_r1 : List Cond := [Cond.fieldLink RX5 41 "SkittleStringsModel" "thrown" "I", Cond.arrayClass .int, Cond.fieldLink RX5 48 "SkittleStringsModel" "players" "I", Cond.fieldLink RX5 72 "SkittleStringsModel" "frame" "I", Cond.fieldLink RX5 97 "SkittleStringsModel" "inFrame" "I", Cond.fieldLink RX5 20 "SkittleStringsModel" "spares" "I", Cond.constantLong RX5 171 (1999), Cond.constantLong RX5 173 (31), Cond.fieldLink RX5 9 "SkittleStringsModel" "standing" "I", Cond.fieldLink RX5 13 "SkittleStringsModel" "wear" "[I", Cond.fieldLink RX5 17 "SkittleStringsModel" "away" "[I", Cond.fieldLink RX5 23 "SkittleStringsModel" "many" "[I", Cond.fieldLink RX5 32 "SkittleStringsModel" "strikes" "[I", Cond.fieldLink RX5 35 "SkittleStringsModel" "closed" "[I", Cond.methodLink RX5 149 yX5_turnNow, Cond.instanceMethod yX5_turnNow, Cond.selects RX5 yX5_turnNow yX5_turnNow, Cond.initialized RX5, Cond.code yX5_turnNow cX5_turnNow 1 (some .int), Cond.fieldLink RX5 88 "SkittleStringsModel" "turn" "I", Cond.methodLink RX5 100 yX5_over, Cond.instanceMethod yX5_over, Cond.selects RX5 yX5_over yX5_over, Cond.code yX5_over cX5_over 1 (some .boolean)]
def wsX5_digest_r2 : List Cond := [Cond.methodLink RX5 162 yX5_best, Cond.instanceMethod yX5_best, Cond.selects RX5 yX5_best yX5_best, Cond.code yX5_best cX5_best 6 (some .int), Cond.methodLink RX5 107 yX5_roll, Cond.static yX5_roll, Cond.code yX5_roll cX5_roll 7 (some .int), Cond.methodLink RX5 60 yX5_pinAt, Cond.static yX5_pinAt, Cond.code yX5_pinAt cX5_pinAt 2 (some .int), Cond.fieldLink RX5 51 "SkittleStringsModel" "PIN" "[I", Cond.methodLink RX5 44 yX5_isIn, Cond.static yX5_isIn, Cond.code yX5_isIn cX5_isIn 3 (some .boolean), Cond.methodLink RX5 64 yX5_hit, Cond.static yX5_hit, Cond.code yX5_hit cX5_hit 4 (some .int), Cond.fieldLink RX5 54 "SkittleStringsModel" "ROW" "[I", Cond.fieldLink RX5 57 "SkittleStringsModel" "LANE" "[I", Cond.methodLink RX5 110 yJ6_bitCount_0f7a4, Cond.static yJ6_bitCount_0f7a4, Cond.initialized RJ6, Cond.code yJ6_bitCount_0f7a4 cJ6_bitCount_0f7a4 1 (some .int), Cond.constant RJ6 265 (1431655765)]
def wsX5_digest_r3 : List Cond := [Cond.constant RJ6 266 (858993459), Cond.constant RJ6 267 (252645135), Cond.methodLink RX5 168 yX5_clear, Cond.instanceMethod yX5_clear, Cond.selects RX5 yX5_clear yX5_clear, Cond.code yX5_clear cX5_clear 2 (some .int), Cond.methodLink RX5 165 yX5_isCleared, Cond.static yX5_isCleared, Cond.code yX5_isCleared cX5_isCleared 6 (some .boolean), Cond.methodLink RX5 134 yX5_score, Cond.instanceMethod yX5_score, Cond.selects RX5 yX5_score yX5_score, Cond.code yX5_score cX5_score 4 (some .int), Cond.methodLink RX5 131 yX5_points, Cond.instanceMethod yX5_points, Cond.selects RX5 yX5_points yX5_points, Cond.code yX5_points cX5_points 5 (some .int), Cond.fieldLink RX5 38 "SkittleStringsModel" "extra" "[I", Cond.methodLink RX5 91 yX5_begin, Cond.instanceMethod yX5_begin, Cond.selects RX5 yX5_begin yX5_begin, Cond.code yX5_begin cX5_begin 3 (some .int), Cond.fieldLink RX5 29 "SkittleStringsModel" "begins" "[I", Cond.methodLink RX5 94 yX5_sum]
def wsX5_digest_r4 : List Cond := [Cond.instanceMethod yX5_sum, Cond.selects RX5 yX5_sum yX5_sum, Cond.code yX5_sum cX5_sum 6 (some .int), Cond.methodLink RX5 83 Lib.Math.min.name, Cond.static Lib.Math.min.name, Cond.initialized "java/lang/Math", Cond.code Lib.Math.min.name Lib.Math.min.code 2 (some .int), Cond.fieldLink RX5 26 "SkittleStringsModel" "fell" "[I"]
def wsX5_digest : List Cond := .code yX5_digest cX5_digest 8 (some .long) :: ((wsX5_digest_r1 ++ (wsX5_digest_r2 ++ (wsX5_digest_r3 ++ wsX5_digest_r4))) ++ wsX50)
def wsJ9_max_7cf53 : List Cond := .code yJ9_max_7cf53 cJ9_max_7cf53 2 (some .int) :: ([])
def wsJ9_min_7cf53 : List Cond := .code yJ9_min_7cf53 cJ9_min_7cf53 2 (some .int) :: ([])
def wsL_addPlayer : List Cond := .codeWith yL_addPlayer cL_addPlayer 3 (some .int) [(0, 8, 11, 13)] :: ([.classLink RL 13 "java/lang/IllegalStateException", .methodLink RL 7 yX4_addPlayer, .instanceMethod yX4_addPlayer, .selects RX4 yX4_addPlayer yX4_addPlayer, .initialized RX4, .code yX4_addPlayer cX4_addPlayer 2 (some .int), .classLink RX4 38 "java/lang/IllegalStateException", .initialized "java/lang/IllegalStateException", .fieldLink RX4 30 "SkittleStrings" "playerCount" "I", .methodLink RX4 34 yX4_somethingThrown, .instanceMethod yX4_somethingThrown, .selects RX4 yX4_somethingThrown yX4_somethingThrown, .code yX4_somethingThrown cX4_somethingThrown 1 (some .boolean), .fieldLink RX4 25 "SkittleStrings" "sheets" "[LSkittleStrings$Sheet;", .methodLink RX4 150 yX3_thrown, .instanceMethod yX3_thrown, .selects RX3 yX3_thrown yX3_thrown, .initialized RX3, .code yX3_thrown cX3_thrown 1 (some .int), .fieldLink RX3 24 "SkittleStrings$Sheet" "thrown" "I"] ++ wsX40 ++ wsX30 ++ (vx_atS RX4 42 "java/lang/IllegalStateException" ["java/lang/RuntimeException", "java/lang/Exception"]).filter goodWord)
def wsL_throwBall_r1 : List Cond := [Cond.classLink RL 19 "java/lang/IndexOutOfBoundsException", Cond.classLink RL 13 "java/lang/IllegalStateException", Cond.methodLink RL 15 yX4_throwBall, Cond.instanceMethod yX4_throwBall, Cond.selects RX4 yX4_throwBall yX4_throwBall, Cond.initialized RX4, Cond.code yX4_throwBall cX4_throwBall 6 (some .int), Cond.classLink RX4 38 "java/lang/IllegalStateException", Cond.initialized "java/lang/IllegalStateException", Cond.fieldLink RX4 19 "SkittleStrings" "rack" "LSkittleStrings$Rack;", Cond.fieldLink RX4 10 "SkittleStrings" "alley" "LSkittleStrings$Alley;", Cond.fieldLink RX4 25 "SkittleStrings" "sheets" "[LSkittleStrings$Sheet;", Cond.fieldLink RX4 70 "SkittleStrings" "frameNow" "I", Cond.fieldLink RX4 77 "SkittleStrings" "throwsNow" "I", Cond.methodLink RX4 45 yX4_checkThrow, Cond.static yX4_checkThrow, Cond.code yX4_checkThrow cX4_checkThrow 2 none, Cond.methodLink RX4 141 yX4_checkBall, Cond.static yX4_checkBall, Cond.code yX4_checkBall cX4_checkBall 1 none, Cond.methodLink RX4 156 yX4_checkIndex, Cond.static yX4_checkIndex, Cond.code yX4_checkIndex cX4_checkIndex 2 none, Cond.classLink RX4 196 "java/lang/IndexOutOfBoundsException"]
def wsL_throwBall_r2 : List Cond := [Cond.initialized "java/lang/IndexOutOfBoundsException", Cond.methodLink RX4 49 yX4_playerInTurn, Cond.instanceMethod yX4_playerInTurn, Cond.selects RX4 yX4_playerInTurn yX4_playerInTurn, Cond.code yX4_playerInTurn cX4_playerInTurn 1 (some .int), Cond.fieldLink RX4 30 "SkittleStrings" "playerCount" "I", Cond.fieldLink RX4 108 "SkittleStrings" "turn" "I", Cond.methodLink RX4 144 yX4_isOver, Cond.instanceMethod yX4_isOver, Cond.selects RX4 yX4_isOver yX4_isOver, Cond.code yX4_isOver cX4_isOver 1 (some .boolean), Cond.methodLink RX4 53 yX2_throwsAway, Cond.instanceMethod yX2_throwsAway, Cond.selects RX2 yX2_throwsAway yX2_throwsAway, Cond.initialized RX2, Cond.code yX2_throwsAway cX2_throwsAway 2 (some .int), Cond.fieldLink RX2 9 "SkittleStrings$Rack" "away" "[I", Cond.methodLink RX4 59 yX0_roll, Cond.instanceMethod yX0_roll, Cond.selects RX0 yX0_roll yX0_roll, Cond.initialized RX0, Cond.code yX0_roll cX0_roll 5 (some .int), Cond.fieldLink RX0 17 "SkittleStrings$Alley" "standing" "I", Cond.fieldLink RX0 9 "SkittleStrings$Alley" "wears" "[I"]
def wsL_throwBall_r3 : List Cond := [Cond.methodLink RX0 28 yX1_felled, Cond.static yX1_felled, Cond.initialized RX1, Cond.code yX1_felled cX1_felled 7 (some .int), Cond.methodLink RX1 15 yX1_afterHit, Cond.static yX1_afterHit, Cond.code yX1_afterHit cX1_afterHit 6 (some .int), Cond.methodLink RX1 19 yX1_pinAt, Cond.static yX1_pinAt, Cond.code yX1_pinAt cX1_pinAt 2 (some .int), Cond.fieldLink RX1 31 "SkittleStrings$Pins" "PLACES" "[I", Cond.methodLink RX1 9 yX1_holds, Cond.static yX1_holds, Cond.code yX1_holds cX1_holds 2 (some .boolean), Cond.methodLink RX0 32 yX1_holds, Cond.methodLink RX0 36 yJ6_bitCount_0f7a4, Cond.static yJ6_bitCount_0f7a4, Cond.initialized RJ6, Cond.code yJ6_bitCount_0f7a4 cJ6_bitCount_0f7a4 1 (some .int), Cond.constant RJ6 265 (1431655765), Cond.constant RJ6 266 (858993459), Cond.constant RJ6 267 (252645135), Cond.methodLink RX4 63 yX2_send, Cond.instanceMethod yX2_send]
def wsL_throwBall_r4 : List Cond := [Cond.selects RX2 yX2_send yX2_send, Cond.code yX2_send cX2_send 3 none, Cond.methodLink RX2 15 Lib.Math.max.name, Cond.static Lib.Math.max.name, Cond.initialized "java/lang/Math", Cond.code Lib.Math.max.name Lib.Math.max.code 2 (some .int), Cond.methodLink RX4 67 yX0_standingPins, Cond.instanceMethod yX0_standingPins, Cond.selects RX0 yX0_standingPins yX0_standingPins, Cond.code yX0_standingPins cX0_standingPins 1 (some .int), Cond.methodLink RX4 73 yX3_enter, Cond.instanceMethod yX3_enter, Cond.selects RX3 yX3_enter yX3_enter, Cond.initialized RX3, Cond.code yX3_enter cX3_enter 4 none, Cond.fieldLink RX3 24 "SkittleStrings$Sheet" "thrown" "I", Cond.fieldLink RX3 9 "SkittleStrings$Sheet" "pinsOfThrow" "[I", Cond.fieldLink RX3 18 "SkittleStrings$Sheet" "throwsIn" "[I", Cond.fieldLink RX3 15 "SkittleStrings$Sheet" "firstThrow" "[I", Cond.fieldLink RX3 21 "SkittleStrings$Sheet" "bonusThrows" "[I", Cond.methodLink RX4 80 yX4_endFrame, Cond.instanceMethod yX4_endFrame, Cond.selects RX4 yX4_endFrame yX4_endFrame, Cond.code yX4_endFrame cX4_endFrame 1 none]
def wsL_throwBall_r5 : List Cond := [Cond.methodLink RX4 114 yX0_setUp, Cond.instanceMethod yX0_setUp, Cond.selects RX0 yX0_setUp yX0_setUp, Cond.code yX0_setUp cX0_setUp 2 none, Cond.methodLink RX0 24 yX0_broken, Cond.instanceMethod yX0_broken, Cond.selects RX0 yX0_broken yX0_broken, Cond.code yX0_broken cX0_broken 2 (some .boolean)]
def wsL_throwBall : List Cond := .codeWith yL_throwBall cL_throwBall 5 (some .int) [(0, 10, 13, 19), (0, 10, 17, 13)] :: ((wsL_throwBall_r1 ++ (wsL_throwBall_r2 ++ (wsL_throwBall_r3 ++ (wsL_throwBall_r4 ++ wsL_throwBall_r5)))) ++ wsX40 ++ wsX20 ++ wsX00 ++ wsX30 ++ (vx_atS RX4 42 "java/lang/IllegalStateException" ["java/lang/RuntimeException", "java/lang/Exception"]).filter goodWord ++ (vx_atS RX4 200 "java/lang/IndexOutOfBoundsException" ["java/lang/RuntimeException", "java/lang/Exception"]).filter goodWord)
def wsL_replaceString_r1 : List Cond := [Cond.classLink RL 19 "java/lang/IndexOutOfBoundsException", Cond.classLink RL 13 "java/lang/IllegalStateException", Cond.methodLink RL 21 yX4_replaceString, Cond.instanceMethod yX4_replaceString, Cond.selects RX4 yX4_replaceString yX4_replaceString, Cond.initialized RX4, Cond.code yX4_replaceString cX4_replaceString 2 (some .int), Cond.classLink RX4 38 "java/lang/IllegalStateException", Cond.initialized "java/lang/IllegalStateException", Cond.fieldLink RX4 10 "SkittleStrings" "alley" "LSkittleStrings$Alley;", Cond.methodLink RX4 83 yX4_checkPin, Cond.static yX4_checkPin, Cond.code yX4_checkPin cX4_checkPin 1 none, Cond.methodLink RX4 156 yX4_checkIndex, Cond.static yX4_checkIndex, Cond.code yX4_checkIndex cX4_checkIndex 2 none, Cond.classLink RX4 196 "java/lang/IndexOutOfBoundsException", Cond.initialized "java/lang/IndexOutOfBoundsException", Cond.methodLink RX4 86 yX0_spares, Cond.instanceMethod yX0_spares, Cond.selects RX0 yX0_spares yX0_spares, Cond.initialized RX0, Cond.code yX0_spares cX0_spares 1 (some .int), Cond.fieldLink RX0 21 "SkittleStrings$Alley" "spares" "I"]
def wsL_replaceString_r2 : List Cond := [Cond.methodLink RX4 91 yX0_replace, Cond.instanceMethod yX0_replace, Cond.selects RX0 yX0_replace yX0_replace, Cond.code yX0_replace cX0_replace 2 none, Cond.fieldLink RX0 9 "SkittleStrings$Alley" "wears" "[I"]
def wsL_replaceString : List Cond := .codeWith yL_replaceString cL_replaceString 4 (some .int) [(0, 9, 12, 19), (0, 9, 15, 13)] :: ((wsL_replaceString_r1 ++ wsL_replaceString_r2) ++ wsX40 ++ wsX00 ++ (vx_atS RX4 42 "java/lang/IllegalStateException" ["java/lang/RuntimeException", "java/lang/Exception"]).filter goodWord ++ (vx_atS RX4 200 "java/lang/IndexOutOfBoundsException" ["java/lang/RuntimeException", "java/lang/Exception"]).filter goodWord)
def wsL_buyStrings : List Cond := .codeWith yL_buyStrings cL_buyStrings 4 (some .int) [(0, 9, 12, 28)] :: ([.classLink RL 28 "java/lang/IllegalArgumentException", .methodLink RL 25 yX4_buyStrings, .instanceMethod yX4_buyStrings, .selects RX4 yX4_buyStrings yX4_buyStrings, .initialized RX4, .code yX4_buyStrings cX4_buyStrings 2 (some .int), .classLink RX4 94 "java/lang/IllegalArgumentException", .initialized "java/lang/IllegalArgumentException", .fieldLink RX4 10 "SkittleStrings" "alley" "LSkittleStrings$Alley;", .methodLink RX4 99 yX0_stock, .instanceMethod yX0_stock, .selects RX0 yX0_stock yX0_stock, .initialized RX0, .code yX0_stock cX0_stock 2 none, .fieldLink RX0 21 "SkittleStrings$Alley" "spares" "I", .methodLink RX4 86 yX0_spares, .instanceMethod yX0_spares, .selects RX0 yX0_spares yX0_spares, .code yX0_spares cX0_spares 1 (some .int)] ++ wsX40 ++ wsX00 ++ (vx_atS RX4 98 "java/lang/IllegalArgumentException" ["java/lang/RuntimeException", "java/lang/Exception"]).filter goodWord)
def wsL_isStanding_r1 : List Cond := [Cond.classLink RL 19 "java/lang/IndexOutOfBoundsException", Cond.methodLink RL 30 yX4_isStanding, Cond.instanceMethod yX4_isStanding, Cond.selects RX4 yX4_isStanding yX4_isStanding, Cond.initialized RX4, Cond.code yX4_isStanding cX4_isStanding 2 (some .boolean), Cond.fieldLink RX4 10 "SkittleStrings" "alley" "LSkittleStrings$Alley;", Cond.methodLink RX4 83 yX4_checkPin, Cond.static yX4_checkPin, Cond.code yX4_checkPin cX4_checkPin 1 none, Cond.methodLink RX4 156 yX4_checkIndex, Cond.static yX4_checkIndex, Cond.code yX4_checkIndex cX4_checkIndex 2 none, Cond.classLink RX4 196 "java/lang/IndexOutOfBoundsException", Cond.initialized "java/lang/IndexOutOfBoundsException", Cond.methodLink RX4 67 yX0_standingPins, Cond.instanceMethod yX0_standingPins, Cond.selects RX0 yX0_standingPins yX0_standingPins, Cond.initialized RX0, Cond.code yX0_standingPins cX0_standingPins 1 (some .int), Cond.fieldLink RX0 17 "SkittleStrings$Alley" "standing" "I", Cond.methodLink RX4 117 yX1_holds, Cond.static yX1_holds, Cond.initialized RX1]
def wsL_isStanding_r2 : List Cond := [Cond.code yX1_holds cX1_holds 2 (some .boolean)]
def wsL_isStanding : List Cond := .codeWith yL_isStanding cL_isStanding 4 (some .int) [(0, 16, 19, 19)] :: ((wsL_isStanding_r1 ++ wsL_isStanding_r2) ++ wsX40 ++ wsX00 ++ (vx_atS RX4 200 "java/lang/IndexOutOfBoundsException" ["java/lang/RuntimeException", "java/lang/Exception"]).filter goodWord)
def wsL_wearOf : List Cond := .codeWith yL_wearOf cL_wearOf 4 (some .int) [(0, 9, 12, 19)] :: ([.classLink RL 19 "java/lang/IndexOutOfBoundsException", .methodLink RL 34 yX4_wearOf, .instanceMethod yX4_wearOf, .selects RX4 yX4_wearOf yX4_wearOf, .initialized RX4, .code yX4_wearOf cX4_wearOf 2 (some .int), .fieldLink RX4 10 "SkittleStrings" "alley" "LSkittleStrings$Alley;", .methodLink RX4 83 yX4_checkPin, .static yX4_checkPin, .code yX4_checkPin cX4_checkPin 1 none, .methodLink RX4 156 yX4_checkIndex, .static yX4_checkIndex, .code yX4_checkIndex cX4_checkIndex 2 none, .classLink RX4 196 "java/lang/IndexOutOfBoundsException", .initialized "java/lang/IndexOutOfBoundsException", .methodLink RX4 128 yX0_wear, .instanceMethod yX0_wear, .selects RX0 yX0_wear yX0_wear, .initialized RX0, .code yX0_wear cX0_wear 2 (some .int), .fieldLink RX0 9 "SkittleStrings$Alley" "wears" "[I"] ++ wsX40 ++ wsX00 ++ (vx_atS RX4 200 "java/lang/IndexOutOfBoundsException" ["java/lang/RuntimeException", "java/lang/Exception"]).filter goodWord)
def wsL_isBroken : List Cond := .codeWith yL_isBroken cL_isBroken 4 (some .int) [(0, 16, 19, 19)] :: ([.classLink RL 19 "java/lang/IndexOutOfBoundsException", .methodLink RL 37 yX4_isBroken, .instanceMethod yX4_isBroken, .selects RX4 yX4_isBroken yX4_isBroken, .initialized RX4, .code yX4_isBroken cX4_isBroken 2 (some .boolean), .fieldLink RX4 10 "SkittleStrings" "alley" "LSkittleStrings$Alley;", .methodLink RX4 83 yX4_checkPin, .static yX4_checkPin, .code yX4_checkPin cX4_checkPin 1 none, .methodLink RX4 156 yX4_checkIndex, .static yX4_checkIndex, .code yX4_checkIndex cX4_checkIndex 2 none, .classLink RX4 196 "java/lang/IndexOutOfBoundsException", .initialized "java/lang/IndexOutOfBoundsException", .methodLink RX4 131 yX0_broken, .instanceMethod yX0_broken, .selects RX0 yX0_broken yX0_broken, .initialized RX0, .code yX0_broken cX0_broken 2 (some .boolean), .fieldLink RX0 9 "SkittleStrings$Alley" "wears" "[I"] ++ wsX40 ++ wsX00 ++ (vx_atS RX4 200 "java/lang/IndexOutOfBoundsException" ["java/lang/RuntimeException", "java/lang/Exception"]).filter goodWord)
def wsL_awayFor : List Cond := .codeWith yL_awayFor cL_awayFor 4 (some .int) [(0, 9, 12, 19)] :: ([.classLink RL 19 "java/lang/IndexOutOfBoundsException", .methodLink RL 40 yX4_awayFor, .instanceMethod yX4_awayFor, .selects RX4 yX4_awayFor yX4_awayFor, .initialized RX4, .code yX4_awayFor cX4_awayFor 2 (some .int), .fieldLink RX4 19 "SkittleStrings" "rack" "LSkittleStrings$Rack;", .methodLink RX4 141 yX4_checkBall, .static yX4_checkBall, .code yX4_checkBall cX4_checkBall 1 none, .methodLink RX4 156 yX4_checkIndex, .static yX4_checkIndex, .code yX4_checkIndex cX4_checkIndex 2 none, .classLink RX4 196 "java/lang/IndexOutOfBoundsException", .initialized "java/lang/IndexOutOfBoundsException", .methodLink RX4 53 yX2_throwsAway, .instanceMethod yX2_throwsAway, .selects RX2 yX2_throwsAway yX2_throwsAway, .initialized RX2, .code yX2_throwsAway cX2_throwsAway 2 (some .int), .fieldLink RX2 9 "SkittleStrings$Rack" "away" "[I"] ++ wsX40 ++ wsX20 ++ (vx_atS RX4 200 "java/lang/IndexOutOfBoundsException" ["java/lang/RuntimeException", "java/lang/Exception"]).filter goodWord)
def wsL_throwsOf : List Cond := .codeWith yL_throwsOf cL_throwsOf 4 (some .int) [(0, 9, 12, 19)] :: ([.classLink RL 19 "java/lang/IndexOutOfBoundsException", .methodLink RL 43 yX4_throwsOf, .instanceMethod yX4_throwsOf, .selects RX4 yX4_throwsOf yX4_throwsOf, .initialized RX4, .code yX4_throwsOf cX4_throwsOf 2 (some .int), .fieldLink RX4 25 "SkittleStrings" "sheets" "[LSkittleStrings$Sheet;", .methodLink RX4 147 yX4_checkPlayer, .instanceMethod yX4_checkPlayer, .selects RX4 yX4_checkPlayer yX4_checkPlayer, .code yX4_checkPlayer cX4_checkPlayer 2 none, .fieldLink RX4 30 "SkittleStrings" "playerCount" "I", .methodLink RX4 156 yX4_checkIndex, .static yX4_checkIndex, .code yX4_checkIndex cX4_checkIndex 2 none, .classLink RX4 196 "java/lang/IndexOutOfBoundsException", .initialized "java/lang/IndexOutOfBoundsException", .methodLink RX4 150 yX3_thrown, .instanceMethod yX3_thrown, .selects RX3 yX3_thrown yX3_thrown, .initialized RX3, .code yX3_thrown cX3_thrown 1 (some .int), .fieldLink RX3 24 "SkittleStrings$Sheet" "thrown" "I"] ++ wsX40 ++ wsX30 ++ (vx_atS RX4 200 "java/lang/IndexOutOfBoundsException" ["java/lang/RuntimeException", "java/lang/Exception"]).filter goodWord)
def wsL_scoreOf_r1 : List Cond := [Cond.classLink RL 19 "java/lang/IndexOutOfBoundsException", Cond.methodLink RL 46 yX4_scoreOf, Cond.instanceMethod yX4_scoreOf, Cond.selects RX4 yX4_scoreOf yX4_scoreOf, Cond.initialized RX4, Cond.code yX4_scoreOf cX4_scoreOf 2 (some .int), Cond.fieldLink RX4 25 "SkittleStrings" "sheets" "[LSkittleStrings$Sheet;", Cond.methodLink RX4 147 yX4_checkPlayer, Cond.instanceMethod yX4_checkPlayer, Cond.selects RX4 yX4_checkPlayer yX4_checkPlayer, Cond.code yX4_checkPlayer cX4_checkPlayer 2 none, Cond.fieldLink RX4 30 "SkittleStrings" "playerCount" "I", Cond.methodLink RX4 156 yX4_checkIndex, Cond.static yX4_checkIndex, Cond.code yX4_checkIndex cX4_checkIndex 2 none, Cond.classLink RX4 196 "java/lang/IndexOutOfBoundsException", Cond.initialized "java/lang/IndexOutOfBoundsException", Cond.methodLink RX4 153 yX3_score, Cond.instanceMethod yX3_score, Cond.selects RX3 yX3_score yX3_score, Cond.initialized RX3, Cond.code yX3_score cX3_score 3 (some .int), Cond.methodLink RX3 34 yX3_points, Cond.instanceMethod yX3_points]
def wsL_scoreOf_r2 : List Cond := [Cond.selects RX3 yX3_points yX3_points, Cond.code yX3_points cX3_points 5 (some .int), Cond.fieldLink RX3 24 "SkittleStrings$Sheet" "thrown" "I", Cond.fieldLink RX3 15 "SkittleStrings$Sheet" "firstThrow" "[I", Cond.fieldLink RX3 18 "SkittleStrings$Sheet" "throwsIn" "[I", Cond.fieldLink RX3 21 "SkittleStrings$Sheet" "bonusThrows" "[I", Cond.methodLink RX3 28 Lib.Math.min.name, Cond.static Lib.Math.min.name, Cond.initialized "java/lang/Math", Cond.code Lib.Math.min.name Lib.Math.min.code 2 (some .int), Cond.fieldLink RX3 9 "SkittleStrings$Sheet" "pinsOfThrow" "[I"]
def wsL_scoreOf : List Cond := .codeWith yL_scoreOf cL_scoreOf 4 (some .int) [(0, 9, 12, 19)] :: ((wsL_scoreOf_r1 ++ wsL_scoreOf_r2) ++ wsX40 ++ wsX30 ++ (vx_atS RX4 200 "java/lang/IndexOutOfBoundsException" ["java/lang/RuntimeException", "java/lang/Exception"]).filter goodWord)
def wsL_pointsOf_r1 : List Cond := [Cond.classLink RL 19 "java/lang/IndexOutOfBoundsException", Cond.methodLink RL 49 yX4_pointsOf, Cond.instanceMethod yX4_pointsOf, Cond.selects RX4 yX4_pointsOf yX4_pointsOf, Cond.initialized RX4, Cond.code yX4_pointsOf cX4_pointsOf 3 (some .int), Cond.fieldLink RX4 25 "SkittleStrings" "sheets" "[LSkittleStrings$Sheet;", Cond.methodLink RX4 147 yX4_checkPlayer, Cond.instanceMethod yX4_checkPlayer, Cond.selects RX4 yX4_checkPlayer yX4_checkPlayer, Cond.code yX4_checkPlayer cX4_checkPlayer 2 none, Cond.fieldLink RX4 30 "SkittleStrings" "playerCount" "I", Cond.methodLink RX4 156 yX4_checkIndex, Cond.static yX4_checkIndex, Cond.code yX4_checkIndex cX4_checkIndex 2 none, Cond.classLink RX4 196 "java/lang/IndexOutOfBoundsException", Cond.initialized "java/lang/IndexOutOfBoundsException", Cond.methodLink RX4 159 yX3_points, Cond.instanceMethod yX3_points, Cond.selects RX3 yX3_points yX3_points, Cond.initialized RX3, Cond.code yX3_points cX3_points 5 (some .int), Cond.fieldLink RX3 24 "SkittleStrings$Sheet" "thrown" "I", Cond.fieldLink RX3 15 "SkittleStrings$Sheet" "firstThrow" "[I"]
def wsL_pointsOf_r2 : List Cond := [Cond.fieldLink RX3 18 "SkittleStrings$Sheet" "throwsIn" "[I", Cond.fieldLink RX3 21 "SkittleStrings$Sheet" "bonusThrows" "[I", Cond.methodLink RX3 28 Lib.Math.min.name, Cond.static Lib.Math.min.name, Cond.initialized "java/lang/Math", Cond.code Lib.Math.min.name Lib.Math.min.code 2 (some .int), Cond.fieldLink RX3 9 "SkittleStrings$Sheet" "pinsOfThrow" "[I"]
def wsL_pointsOf : List Cond := .codeWith yL_pointsOf cL_pointsOf 5 (some .int) [(0, 10, 13, 19)] :: ((wsL_pointsOf_r1 ++ wsL_pointsOf_r2) ++ wsX40 ++ wsX30 ++ (vx_atS RX4 200 "java/lang/IndexOutOfBoundsException" ["java/lang/RuntimeException", "java/lang/Exception"]).filter goodWord)
def wsL_strikesOf_r1 : List Cond := [Cond.classLink RL 19 "java/lang/IndexOutOfBoundsException", Cond.methodLink RL 52 yX4_strikesOf, Cond.instanceMethod yX4_strikesOf, Cond.selects RX4 yX4_strikesOf yX4_strikesOf, Cond.initialized RX4, Cond.code yX4_strikesOf cX4_strikesOf 2 (some .int), Cond.fieldLink RX4 25 "SkittleStrings" "sheets" "[LSkittleStrings$Sheet;", Cond.methodLink RX4 147 yX4_checkPlayer, Cond.instanceMethod yX4_checkPlayer, Cond.selects RX4 yX4_checkPlayer yX4_checkPlayer, Cond.code yX4_checkPlayer cX4_checkPlayer 2 none, Cond.fieldLink RX4 30 "SkittleStrings" "playerCount" "I", Cond.methodLink RX4 156 yX4_checkIndex, Cond.static yX4_checkIndex, Cond.code yX4_checkIndex cX4_checkIndex 2 none, Cond.classLink RX4 196 "java/lang/IndexOutOfBoundsException", Cond.initialized "java/lang/IndexOutOfBoundsException", Cond.methodLink RX4 162 yX3_strikes, Cond.instanceMethod yX3_strikes, Cond.selects RX3 yX3_strikes yX3_strikes, Cond.initialized RX3, Cond.code yX3_strikes cX3_strikes 1 (some .int), Cond.methodLink RX3 38 yX3_framesWithBonus, Cond.instanceMethod yX3_framesWithBonus]
def wsL_strikesOf_r2 : List Cond := [Cond.selects RX3 yX3_framesWithBonus yX3_framesWithBonus, Cond.code yX3_framesWithBonus cX3_framesWithBonus 4 (some .int), Cond.fieldLink RX3 21 "SkittleStrings$Sheet" "bonusThrows" "[I"]
def wsL_strikesOf : List Cond := .codeWith yL_strikesOf cL_strikesOf 4 (some .int) [(0, 9, 12, 19)] :: ((wsL_strikesOf_r1 ++ wsL_strikesOf_r2) ++ wsX40 ++ wsX30 ++ (vx_atS RX4 200 "java/lang/IndexOutOfBoundsException" ["java/lang/RuntimeException", "java/lang/Exception"]).filter goodWord)
def wsL_sparesOf_r1 : List Cond := [Cond.classLink RL 19 "java/lang/IndexOutOfBoundsException", Cond.methodLink RL 55 yX4_sparesOf, Cond.instanceMethod yX4_sparesOf, Cond.selects RX4 yX4_sparesOf yX4_sparesOf, Cond.initialized RX4, Cond.code yX4_sparesOf cX4_sparesOf 2 (some .int), Cond.fieldLink RX4 25 "SkittleStrings" "sheets" "[LSkittleStrings$Sheet;", Cond.methodLink RX4 147 yX4_checkPlayer, Cond.instanceMethod yX4_checkPlayer, Cond.selects RX4 yX4_checkPlayer yX4_checkPlayer, Cond.code yX4_checkPlayer cX4_checkPlayer 2 none, Cond.fieldLink RX4 30 "SkittleStrings" "playerCount" "I", Cond.methodLink RX4 156 yX4_checkIndex, Cond.static yX4_checkIndex, Cond.code yX4_checkIndex cX4_checkIndex 2 none, Cond.classLink RX4 196 "java/lang/IndexOutOfBoundsException", Cond.initialized "java/lang/IndexOutOfBoundsException", Cond.methodLink RX4 165 yX3_spares, Cond.instanceMethod yX3_spares, Cond.selects RX3 yX3_spares yX3_spares, Cond.initialized RX3, Cond.code yX3_spares cX3_spares 1 (some .int), Cond.methodLink RX3 38 yX3_framesWithBonus, Cond.instanceMethod yX3_framesWithBonus]
def wsL_sparesOf_r2 : List Cond := [Cond.selects RX3 yX3_framesWithBonus yX3_framesWithBonus, Cond.code yX3_framesWithBonus cX3_framesWithBonus 4 (some .int), Cond.fieldLink RX3 21 "SkittleStrings$Sheet" "bonusThrows" "[I"]
def wsL_sparesOf : List Cond := .codeWith yL_sparesOf cL_sparesOf 4 (some .int) [(0, 9, 12, 19)] :: ((wsL_sparesOf_r1 ++ wsL_sparesOf_r2) ++ wsX40 ++ wsX30 ++ (vx_atS RX4 200 "java/lang/IndexOutOfBoundsException" ["java/lang/RuntimeException", "java/lang/Exception"]).filter goodWord)
def wsL_wouldFall_r1 : List Cond := [Cond.classLink RL 19 "java/lang/IndexOutOfBoundsException", Cond.methodLink RL 58 yX4_wouldFall, Cond.instanceMethod yX4_wouldFall, Cond.selects RX4 yX4_wouldFall yX4_wouldFall, Cond.initialized RX4, Cond.code yX4_wouldFall cX4_wouldFall 3 (some .int), Cond.fieldLink RX4 10 "SkittleStrings" "alley" "LSkittleStrings$Alley;", Cond.methodLink RX4 45 yX4_checkThrow, Cond.static yX4_checkThrow, Cond.code yX4_checkThrow cX4_checkThrow 2 none, Cond.methodLink RX4 141 yX4_checkBall, Cond.static yX4_checkBall, Cond.code yX4_checkBall cX4_checkBall 1 none, Cond.methodLink RX4 156 yX4_checkIndex, Cond.static yX4_checkIndex, Cond.code yX4_checkIndex cX4_checkIndex 2 none, Cond.classLink RX4 196 "java/lang/IndexOutOfBoundsException", Cond.initialized "java/lang/IndexOutOfBoundsException", Cond.methodLink RX4 67 yX0_standingPins, Cond.instanceMethod yX0_standingPins, Cond.selects RX0 yX0_standingPins yX0_standingPins, Cond.initialized RX0, Cond.code yX0_standingPins cX0_standingPins 1 (some .int), Cond.fieldLink RX0 17 "SkittleStrings$Alley" "standing" "I"]
def wsL_wouldFall_r2 : List Cond := [Cond.methodLink RX4 166 yX1_felled, Cond.static yX1_felled, Cond.initialized RX1, Cond.code yX1_felled cX1_felled 7 (some .int), Cond.methodLink RX1 15 yX1_afterHit, Cond.static yX1_afterHit, Cond.code yX1_afterHit cX1_afterHit 6 (some .int), Cond.methodLink RX1 19 yX1_pinAt, Cond.static yX1_pinAt, Cond.code yX1_pinAt cX1_pinAt 2 (some .int), Cond.fieldLink RX1 31 "SkittleStrings$Pins" "PLACES" "[I", Cond.methodLink RX1 9 yX1_holds, Cond.static yX1_holds, Cond.code yX1_holds cX1_holds 2 (some .boolean), Cond.methodLink RX4 123 yJ6_bitCount_0f7a4, Cond.static yJ6_bitCount_0f7a4, Cond.initialized RJ6, Cond.code yJ6_bitCount_0f7a4 cJ6_bitCount_0f7a4 1 (some .int), Cond.constant RJ6 265 (1431655765), Cond.constant RJ6 266 (858993459), Cond.constant RJ6 267 (252645135)]
def wsL_wouldFall : List Cond := .codeWith yL_wouldFall cL_wouldFall 5 (some .int) [(0, 10, 13, 19)] :: ((wsL_wouldFall_r1 ++ wsL_wouldFall_r2) ++ wsX40 ++ wsX00 ++ (vx_atS RX4 200 "java/lang/IndexOutOfBoundsException" ["java/lang/RuntimeException", "java/lang/Exception"]).filter goodWord)
def wsL_lastToFall_r1 : List Cond := [Cond.classLink RL 19 "java/lang/IndexOutOfBoundsException", Cond.methodLink RL 61 yX4_lastToFall, Cond.instanceMethod yX4_lastToFall, Cond.selects RX4 yX4_lastToFall yX4_lastToFall, Cond.initialized RX4, Cond.code yX4_lastToFall cX4_lastToFall 3 (some .int), Cond.fieldLink RX4 10 "SkittleStrings" "alley" "LSkittleStrings$Alley;", Cond.methodLink RX4 45 yX4_checkThrow, Cond.static yX4_checkThrow, Cond.code yX4_checkThrow cX4_checkThrow 2 none, Cond.methodLink RX4 141 yX4_checkBall, Cond.static yX4_checkBall, Cond.code yX4_checkBall cX4_checkBall 1 none, Cond.methodLink RX4 156 yX4_checkIndex, Cond.static yX4_checkIndex, Cond.code yX4_checkIndex cX4_checkIndex 2 none, Cond.classLink RX4 196 "java/lang/IndexOutOfBoundsException", Cond.initialized "java/lang/IndexOutOfBoundsException", Cond.methodLink RX4 67 yX0_standingPins, Cond.instanceMethod yX0_standingPins, Cond.selects RX0 yX0_standingPins yX0_standingPins, Cond.initialized RX0, Cond.code yX0_standingPins cX0_standingPins 1 (some .int), Cond.fieldLink RX0 17 "SkittleStrings$Alley" "standing" "I"]
def wsL_lastToFall_r2 : List Cond := [Cond.methodLink RX4 166 yX1_felled, Cond.static yX1_felled, Cond.initialized RX1, Cond.code yX1_felled cX1_felled 7 (some .int), Cond.methodLink RX1 15 yX1_afterHit, Cond.static yX1_afterHit, Cond.code yX1_afterHit cX1_afterHit 6 (some .int), Cond.methodLink RX1 19 yX1_pinAt, Cond.static yX1_pinAt, Cond.code yX1_pinAt cX1_pinAt 2 (some .int), Cond.fieldLink RX1 31 "SkittleStrings$Pins" "PLACES" "[I", Cond.methodLink RX1 9 yX1_holds, Cond.static yX1_holds, Cond.code yX1_holds cX1_holds 2 (some .boolean), Cond.methodLink RX4 170 yX1_last, Cond.static yX1_last, Cond.code yX1_last cX1_last 2 (some .int)]
def wsL_lastToFall : List Cond := .codeWith yL_lastToFall cL_lastToFall 5 (some .int) [(0, 10, 13, 19)] :: ((wsL_lastToFall_r1 ++ wsL_lastToFall_r2) ++ wsX40 ++ wsX00 ++ (vx_atS RX4 200 "java/lang/IndexOutOfBoundsException" ["java/lang/RuntimeException", "java/lang/Exception"]).filter goodWord)
def wsL_law0_r1 : List Cond := [Cond.classLink RL 8 RX4, Cond.instantiable RX4 7, Cond.initialized RX4, Cond.classLink RL 65 RX5, Cond.instantiable RX5 15, Cond.initialized RX5, Cond.arrayClass .long, Cond.methodLink RL 64 yX4_init, Cond.instanceMethod yX4_init, Cond.code yX4_init cX4_init 2 none, Cond.methodLink RX4 1 objectInit, Cond.instanceMethod objectInit, Cond.code objectInit ⟨#[0xb1]⟩ 1 none, Cond.classLink RX4 7 RX0, Cond.instantiable RX0 3, Cond.initialized RX0, Cond.fieldLink RX4 10 "SkittleStrings" "alley" "LSkittleStrings$Alley;", Cond.classLink RX4 16 RX2, Cond.instantiable RX2 1, Cond.initialized RX2, Cond.fieldLink RX4 19 "SkittleStrings" "rack" "LSkittleStrings$Rack;", Cond.classLink RX4 23 RX3, Cond.fieldLink RX4 25 "SkittleStrings" "sheets" "[LSkittleStrings$Sheet;", Cond.instantiable RX3 5]
def wsL_law0_r2 : List Cond := [Cond.initialized RX3, Cond.instanceMethod yX0_init, Cond.code yX0_init cX0_init 1 none, Cond.methodLink RX0 3 objectInit, Cond.arrayClass .int, Cond.fieldLink RX0 9 "SkittleStrings$Alley" "wears" "[I", Cond.fieldLink RX0 17 "SkittleStrings$Alley" "standing" "I", Cond.fieldLink RX0 21 "SkittleStrings$Alley" "spares" "I", Cond.instanceMethod yX2_init, Cond.code yX2_init cX2_init 1 none, Cond.methodLink RX2 3 objectInit, Cond.fieldLink RX2 9 "SkittleStrings$Rack" "away" "[I", Cond.instanceMethod yX3_init, Cond.code yX3_init cX3_init 1 none, Cond.methodLink RX3 3 objectInit, Cond.fieldLink RX3 9 "SkittleStrings$Sheet" "pinsOfThrow" "[I", Cond.fieldLink RX3 15 "SkittleStrings$Sheet" "firstThrow" "[I", Cond.fieldLink RX3 18 "SkittleStrings$Sheet" "throwsIn" "[I", Cond.fieldLink RX3 21 "SkittleStrings$Sheet" "bonusThrows" "[I", Cond.methodLink RL 67 yX5_init, Cond.instanceMethod yX5_init, Cond.code yX5_init cX5_init 1 none, Cond.methodLink RX5 1 objectInit, Cond.fieldLink RX5 9 "SkittleStringsModel" "standing" "I"]
def wsL_law0_r3 : List Cond := [Cond.fieldLink RX5 13 "SkittleStringsModel" "wear" "[I", Cond.fieldLink RX5 17 "SkittleStringsModel" "away" "[I", Cond.fieldLink RX5 20 "SkittleStringsModel" "spares" "I", Cond.fieldLink RX5 23 "SkittleStringsModel" "many" "[I", Cond.fieldLink RX5 26 "SkittleStringsModel" "fell" "[I", Cond.fieldLink RX5 29 "SkittleStringsModel" "begins" "[I", Cond.fieldLink RX5 32 "SkittleStringsModel" "strikes" "[I", Cond.fieldLink RX5 35 "SkittleStringsModel" "closed" "[I", Cond.fieldLink RX5 38 "SkittleStringsModel" "extra" "[I", Cond.methodLink RL 68 yL_addPlayer, Cond.static yL_addPlayer, Cond.initialized RL, Cond.codeWith yL_addPlayer cL_addPlayer 3 (some .int) [(0, 8, 11, 13)], Cond.classLink RL 13 "java/lang/IllegalStateException", Cond.methodLink RL 7 yX4_addPlayer, Cond.instanceMethod yX4_addPlayer, Cond.selects RX4 yX4_addPlayer yX4_addPlayer, Cond.code yX4_addPlayer cX4_addPlayer 2 (some .int), Cond.classLink RX4 38 "java/lang/IllegalStateException", Cond.initialized "java/lang/IllegalStateException", Cond.fieldLink RX4 30 "SkittleStrings" "playerCount" "I", Cond.methodLink RX4 34 yX4_somethingThrown, Cond.instanceMethod yX4_somethingThrown, Cond.selects RX4 yX4_somethingThrown yX4_somethingThrown]
def wsL_law0_r4 : List Cond := [Cond.code yX4_somethingThrown cX4_somethingThrown 1 (some .boolean), Cond.methodLink RX4 150 yX3_thrown, Cond.instanceMethod yX3_thrown, Cond.selects RX3 yX3_thrown yX3_thrown, Cond.code yX3_thrown cX3_thrown 1 (some .int), Cond.fieldLink RX3 24 "SkittleStrings$Sheet" "thrown" "I", Cond.methodLink RL 73 yX5_addPlayer, Cond.instanceMethod yX5_addPlayer, Cond.selects RX5 yX5_addPlayer yX5_addPlayer, Cond.code yX5_addPlayer cX5_addPlayer 1 (some .int), Cond.fieldLink RX5 41 "SkittleStringsModel" "thrown" "I", Cond.fieldLink RX5 48 "SkittleStringsModel" "players" "I", Cond.methodLink RX5 75 yX5_throwsOfAll, Cond.instanceMethod yX5_throwsOfAll, Cond.selects RX5 yX5_throwsOfAll yX5_throwsOfAll, Cond.code yX5_throwsOfAll cX5_throwsOfAll 3 (some .int), Cond.methodLink RX5 79 yX5_no, Cond.instanceMethod yX5_no, Cond.selects RX5 yX5_no yX5_no, Cond.code yX5_no cX5_no 2 (some .int), Cond.methodLink RL 74 yX5_thrown, Cond.instanceMethod yX5_thrown, Cond.selects RX5 yX5_thrown yX5_thrown, Cond.code yX5_thrown cX5_thrown 1 (some .int)]
def wsL_law0_r5 : List Cond := [Cond.methodLink RL 77 yL_throwBall, Cond.static yL_throwBall, Cond.codeWith yL_throwBall cL_throwBall 5 (some .int) [(0, 10, 13, 19), (0, 10, 17, 13)], Cond.classLink RL 19 "java/lang/IndexOutOfBoundsException", Cond.methodLink RL 15 yX4_throwBall, Cond.instanceMethod yX4_throwBall, Cond.selects RX4 yX4_throwBall yX4_throwBall, Cond.code yX4_throwBall cX4_throwBall 6 (some .int), Cond.fieldLink RX4 70 "SkittleStrings" "frameNow" "I", Cond.fieldLink RX4 77 "SkittleStrings" "throwsNow" "I", Cond.methodLink RX4 45 yX4_checkThrow, Cond.static yX4_checkThrow, Cond.code yX4_checkThrow cX4_checkThrow 2 none, Cond.methodLink RX4 141 yX4_checkBall, Cond.static yX4_checkBall, Cond.code yX4_checkBall cX4_checkBall 1 none, Cond.methodLink RX4 156 yX4_checkIndex, Cond.static yX4_checkIndex, Cond.code yX4_checkIndex cX4_checkIndex 2 none, Cond.classLink RX4 196 "java/lang/IndexOutOfBoundsException", Cond.initialized "java/lang/IndexOutOfBoundsException", Cond.methodLink RX4 49 yX4_playerInTurn, Cond.instanceMethod yX4_playerInTurn, Cond.selects RX4 yX4_playerInTurn yX4_playerInTurn]
def wsL_law0_r6 : List Cond := [Cond.code yX4_playerInTurn cX4_playerInTurn 1 (some .int), Cond.fieldLink RX4 108 "SkittleStrings" "turn" "I", Cond.methodLink RX4 144 yX4_isOver, Cond.instanceMethod yX4_isOver, Cond.selects RX4 yX4_isOver yX4_isOver, Cond.code yX4_isOver cX4_isOver 1 (some .boolean), Cond.methodLink RX4 53 yX2_throwsAway, Cond.instanceMethod yX2_throwsAway, Cond.selects RX2 yX2_throwsAway yX2_throwsAway, Cond.code yX2_throwsAway cX2_throwsAway 2 (some .int), Cond.methodLink RX4 59 yX0_roll, Cond.instanceMethod yX0_roll, Cond.selects RX0 yX0_roll yX0_roll, Cond.code yX0_roll cX0_roll 5 (some .int), Cond.methodLink RX0 28 yX1_felled, Cond.static yX1_felled, Cond.initialized RX1, Cond.code yX1_felled cX1_felled 7 (some .int), Cond.methodLink RX1 15 yX1_afterHit, Cond.static yX1_afterHit, Cond.code yX1_afterHit cX1_afterHit 6 (some .int), Cond.methodLink RX1 19 yX1_pinAt, Cond.static yX1_pinAt, Cond.code yX1_pinAt cX1_pinAt 2 (some .int)]
def wsL_law0_r7 : List Cond := [Cond.fieldLink RX1 31 "SkittleStrings$Pins" "PLACES" "[I", Cond.methodLink RX1 9 yX1_holds, Cond.static yX1_holds, Cond.code yX1_holds cX1_holds 2 (some .boolean), Cond.methodLink RX0 32 yX1_holds, Cond.methodLink RX0 36 yJ6_bitCount_0f7a4, Cond.static yJ6_bitCount_0f7a4, Cond.initialized RJ6, Cond.code yJ6_bitCount_0f7a4 cJ6_bitCount_0f7a4 1 (some .int), Cond.constant RJ6 265 (1431655765), Cond.constant RJ6 266 (858993459), Cond.constant RJ6 267 (252645135), Cond.methodLink RX4 63 yX2_send, Cond.instanceMethod yX2_send, Cond.selects RX2 yX2_send yX2_send, Cond.code yX2_send cX2_send 3 none, Cond.methodLink RX2 15 Lib.Math.max.name, Cond.static Lib.Math.max.name, Cond.initialized "java/lang/Math", Cond.code Lib.Math.max.name Lib.Math.max.code 2 (some .int), Cond.methodLink RX4 67 yX0_standingPins, Cond.instanceMethod yX0_standingPins, Cond.selects RX0 yX0_standingPins yX0_standingPins, Cond.code yX0_standingPins cX0_standingPins 1 (some .int)]
def wsL_law0_r8 : List Cond := [Cond.methodLink RX4 73 yX3_enter, Cond.instanceMethod yX3_enter, Cond.selects RX3 yX3_enter yX3_enter, Cond.code yX3_enter cX3_enter 4 none, Cond.methodLink RX4 80 yX4_endFrame, Cond.instanceMethod yX4_endFrame, Cond.selects RX4 yX4_endFrame yX4_endFrame, Cond.code yX4_endFrame cX4_endFrame 1 none, Cond.methodLink RX4 114 yX0_setUp, Cond.instanceMethod yX0_setUp, Cond.selects RX0 yX0_setUp yX0_setUp, Cond.code yX0_setUp cX0_setUp 2 none, Cond.methodLink RX0 24 yX0_broken, Cond.instanceMethod yX0_broken, Cond.selects RX0 yX0_broken yX0_broken, Cond.code yX0_broken cX0_broken 2 (some .boolean), Cond.methodLink RL 80 yX5_throwBall, Cond.instanceMethod yX5_throwBall, Cond.selects RX5 yX5_throwBall yX5_throwBall, Cond.code yX5_throwBall cX5_throwBall 3 (some .int), Cond.methodLink RX5 121 yX5_isThrow, Cond.static yX5_isThrow, Cond.code yX5_isThrow cX5_isThrow 2 (some .boolean), Cond.methodLink RX5 44 yX5_isIn]
def wsL_law0_r9 : List Cond := [Cond.static yX5_isIn, Cond.code yX5_isIn cX5_isIn 3 (some .boolean), Cond.methodLink RX5 100 yX5_over, Cond.instanceMethod yX5_over, Cond.selects RX5 yX5_over yX5_over, Cond.code yX5_over cX5_over 1 (some .boolean), Cond.fieldLink RX5 72 "SkittleStringsModel" "frame" "I", Cond.methodLink RX5 125 yX5_play, Cond.instanceMethod yX5_play, Cond.selects RX5 yX5_play yX5_play, Cond.code yX5_play cX5_play 6 (some .int), Cond.methodLink RX5 115 Lib.Math.max.name, Cond.fieldLink RX5 88 "SkittleStringsModel" "turn" "I", Cond.fieldLink RX5 97 "SkittleStringsModel" "inFrame" "I", Cond.methodLink RX5 107 yX5_roll, Cond.static yX5_roll, Cond.code yX5_roll cX5_roll 7 (some .int), Cond.methodLink RX5 60 yX5_pinAt, Cond.static yX5_pinAt, Cond.code yX5_pinAt cX5_pinAt 2 (some .int), Cond.fieldLink RX5 51 "SkittleStringsModel" "PIN" "[I", Cond.methodLink RX5 64 yX5_hit, Cond.static yX5_hit, Cond.code yX5_hit cX5_hit 4 (some .int)]
def wsL_law0_r10 : List Cond := [Cond.fieldLink RX5 54 "SkittleStringsModel" "ROW" "[I", Cond.fieldLink RX5 57 "SkittleStringsModel" "LANE" "[I", Cond.methodLink RX5 110 yJ6_bitCount_0f7a4, Cond.methodLink RX5 118 yX5_endFrame, Cond.instanceMethod yX5_endFrame, Cond.selects RX5 yX5_endFrame yX5_endFrame, Cond.code yX5_endFrame cX5_endFrame 2 none, Cond.methodLink RX5 91 yX5_begin, Cond.instanceMethod yX5_begin, Cond.selects RX5 yX5_begin yX5_begin, Cond.code yX5_begin cX5_begin 3 (some .int), Cond.methodLink RX5 94 yX5_sum, Cond.instanceMethod yX5_sum, Cond.selects RX5 yX5_sum yX5_sum, Cond.code yX5_sum cX5_sum 6 (some .int), Cond.methodLink RX5 83 Lib.Math.min.name, Cond.static Lib.Math.min.name, Cond.code Lib.Math.min.name Lib.Math.min.code 2 (some .int), Cond.methodLink RX5 104 yX5_putUp, Cond.instanceMethod yX5_putUp, Cond.selects RX5 yX5_putUp yX5_putUp, Cond.code yX5_putUp cX5_putUp 2 none, Cond.methodLink RX5 68 yX5_broken, Cond.instanceMethod yX5_broken]
def wsL_law0_r11 : List Cond := [Cond.selects RX5 yX5_broken yX5_broken, Cond.code yX5_broken cX5_broken 2 (some .boolean), Cond.methodLink RL 81 yL_replaceString, Cond.static yL_replaceString, Cond.codeWith yL_replaceString cL_replaceString 4 (some .int) [(0, 9, 12, 19), (0, 9, 15, 13)], Cond.methodLink RL 21 yX4_replaceString, Cond.instanceMethod yX4_replaceString, Cond.selects RX4 yX4_replaceString yX4_replaceString, Cond.code yX4_replaceString cX4_replaceString 2 (some .int), Cond.methodLink RX4 83 yX4_checkPin, Cond.static yX4_checkPin, Cond.code yX4_checkPin cX4_checkPin 1 none, Cond.methodLink RX4 86 yX0_spares, Cond.instanceMethod yX0_spares, Cond.selects RX0 yX0_spares yX0_spares, Cond.code yX0_spares cX0_spares 1 (some .int), Cond.methodLink RX4 91 yX0_replace, Cond.instanceMethod yX0_replace, Cond.selects RX0 yX0_replace yX0_replace, Cond.code yX0_replace cX0_replace 2 none, Cond.methodLink RL 84 yX5_replaceString, Cond.instanceMethod yX5_replaceString, Cond.selects RX5 yX5_replaceString yX5_replaceString, Cond.code yX5_replaceString cX5_replaceString 2 (some .int)]
def wsL_law0_r12 : List Cond := [Cond.methodLink RX5 128 yX5_isPin, Cond.static yX5_isPin, Cond.code yX5_isPin cX5_isPin 1 (some .boolean), Cond.methodLink RL 85 yL_buyStrings, Cond.static yL_buyStrings, Cond.codeWith yL_buyStrings cL_buyStrings 4 (some .int) [(0, 9, 12, 28)], Cond.classLink RL 28 "java/lang/IllegalArgumentException", Cond.methodLink RL 25 yX4_buyStrings, Cond.instanceMethod yX4_buyStrings, Cond.selects RX4 yX4_buyStrings yX4_buyStrings, Cond.code yX4_buyStrings cX4_buyStrings 2 (some .int), Cond.classLink RX4 94 "java/lang/IllegalArgumentException", Cond.initialized "java/lang/IllegalArgumentException", Cond.methodLink RX4 99 yX0_stock, Cond.instanceMethod yX0_stock, Cond.selects RX0 yX0_stock yX0_stock, Cond.code yX0_stock cX0_stock 2 none, Cond.methodLink RL 87 yX5_buyStrings, Cond.instanceMethod yX5_buyStrings, Cond.selects RX5 yX5_buyStrings yX5_buyStrings, Cond.code yX5_buyStrings cX5_buyStrings 2 (some .int), Cond.methodLink RL 88 yX4_newGame, Cond.instanceMethod yX4_newGame, Cond.selects RX4 yX4_newGame yX4_newGame]
def wsL_law0_r13 : List Cond := [Cond.code yX4_newGame cX4_newGame 3 (some .int), Cond.methodLink RX4 102 yX4_leader, Cond.instanceMethod yX4_leader, Cond.selects RX4 yX4_leader yX4_leader, Cond.code yX4_leader cX4_leader 5 (some .int), Cond.methodLink RX4 153 yX3_score, Cond.instanceMethod yX3_score, Cond.selects RX3 yX3_score yX3_score, Cond.code yX3_score cX3_score 3 (some .int), Cond.methodLink RX3 34 yX3_points, Cond.instanceMethod yX3_points, Cond.selects RX3 yX3_points yX3_points, Cond.code yX3_points cX3_points 5 (some .int), Cond.methodLink RX3 28 Lib.Math.min.name, Cond.methodLink RX4 105 yX3_clear, Cond.instanceMethod yX3_clear, Cond.selects RX3 yX3_clear yX3_clear, Cond.code yX3_clear cX3_clear 2 none, Cond.methodLink RX4 111 yX2_returnAll, Cond.instanceMethod yX2_returnAll, Cond.selects RX2 yX2_returnAll yX2_returnAll, Cond.code yX2_returnAll cX2_returnAll 2 none, Cond.methodLink RL 91 yX5_newGame, Cond.instanceMethod yX5_newGame]
def wsL_law0_r14 : List Cond := [Cond.selects RX5 yX5_newGame yX5_newGame, Cond.code yX5_newGame cX5_newGame 3 (some .int), Cond.methodLink RX5 137 yX5_first, Cond.instanceMethod yX5_first, Cond.selects RX5 yX5_first yX5_first, Cond.code yX5_first cX5_first 3 (some .int), Cond.methodLink RX5 134 yX5_score, Cond.instanceMethod yX5_score, Cond.selects RX5 yX5_score yX5_score, Cond.code yX5_score cX5_score 4 (some .int), Cond.methodLink RX5 131 yX5_points, Cond.instanceMethod yX5_points, Cond.selects RX5 yX5_points yX5_points, Cond.code yX5_points cX5_points 5 (some .int), Cond.methodLink RL 92 yL_isStanding, Cond.static yL_isStanding, Cond.codeWith yL_isStanding cL_isStanding 4 (some .int) [(0, 16, 19, 19)], Cond.methodLink RL 30 yX4_isStanding, Cond.instanceMethod yX4_isStanding, Cond.selects RX4 yX4_isStanding yX4_isStanding, Cond.code yX4_isStanding cX4_isStanding 2 (some .boolean), Cond.methodLink RX4 117 yX1_holds, Cond.methodLink RL 94 yX5_isStanding, Cond.instanceMethod yX5_isStanding]
def wsL_law0_r15 : List Cond := [Cond.selects RX5 yX5_isStanding yX5_isStanding, Cond.code yX5_isStanding cX5_isStanding 2 (some .boolean), Cond.methodLink RX5 140 yX5_isNot, Cond.instanceMethod yX5_isNot, Cond.selects RX5 yX5_isNot yX5_isNot, Cond.code yX5_isNot cX5_isNot 2 (some .boolean), Cond.methodLink RL 95 yX4_standing, Cond.instanceMethod yX4_standing, Cond.selects RX4 yX4_standing yX4_standing, Cond.code yX4_standing cX4_standing 1 (some .int), Cond.methodLink RX4 123 yJ6_bitCount_0f7a4, Cond.methodLink RL 98 yX5_standing, Cond.instanceMethod yX5_standing, Cond.selects RX5 yX5_standing yX5_standing, Cond.code yX5_standing cX5_standing 1 (some .int), Cond.methodLink RX5 143 yX5_ok, Cond.instanceMethod yX5_ok, Cond.selects RX5 yX5_ok yX5_ok, Cond.code yX5_ok cX5_ok 2 (some .int), Cond.methodLink RL 99 yL_wearOf, Cond.static yL_wearOf, Cond.codeWith yL_wearOf cL_wearOf 4 (some .int) [(0, 9, 12, 19)], Cond.methodLink RL 34 yX4_wearOf, Cond.instanceMethod yX4_wearOf]
def wsL_law0_r16 : List Cond := [Cond.selects RX4 yX4_wearOf yX4_wearOf, Cond.code yX4_wearOf cX4_wearOf 2 (some .int), Cond.methodLink RX4 128 yX0_wear, Cond.instanceMethod yX0_wear, Cond.selects RX0 yX0_wear yX0_wear, Cond.code yX0_wear cX0_wear 2 (some .int), Cond.methodLink RL 101 yX5_wearOf, Cond.instanceMethod yX5_wearOf, Cond.selects RX5 yX5_wearOf yX5_wearOf, Cond.code yX5_wearOf cX5_wearOf 2 (some .int), Cond.methodLink RL 102 yL_isBroken, Cond.static yL_isBroken, Cond.codeWith yL_isBroken cL_isBroken 4 (some .int) [(0, 16, 19, 19)], Cond.methodLink RL 37 yX4_isBroken, Cond.instanceMethod yX4_isBroken, Cond.selects RX4 yX4_isBroken yX4_isBroken, Cond.code yX4_isBroken cX4_isBroken 2 (some .boolean), Cond.methodLink RX4 131 yX0_broken, Cond.methodLink RL 104 yX5_isBroken, Cond.instanceMethod yX5_isBroken, Cond.selects RX5 yX5_isBroken yX5_isBroken, Cond.code yX5_isBroken cX5_isBroken 2 (some .boolean), Cond.methodLink RL 105 yX4_brokenStrings, Cond.instanceMethod yX4_brokenStrings]
def wsL_law0_r17 : List Cond := [Cond.selects RX4 yX4_brokenStrings yX4_brokenStrings, Cond.code yX4_brokenStrings cX4_brokenStrings 1 (some .int), Cond.methodLink RX4 135 yX0_brokenCount, Cond.instanceMethod yX0_brokenCount, Cond.selects RX0 yX0_brokenCount yX0_brokenCount, Cond.code yX0_brokenCount cX0_brokenCount 3 (some .int), Cond.methodLink RL 108 yX5_brokenStrings, Cond.instanceMethod yX5_brokenStrings, Cond.selects RX5 yX5_brokenStrings yX5_brokenStrings, Cond.code yX5_brokenStrings cX5_brokenStrings 1 (some .int), Cond.methodLink RX5 146 yX5_brokenNow, Cond.instanceMethod yX5_brokenNow, Cond.selects RX5 yX5_brokenNow yX5_brokenNow, Cond.code yX5_brokenNow cX5_brokenNow 3 (some .int), Cond.methodLink RL 109 yX4_mostWorn, Cond.instanceMethod yX4_mostWorn, Cond.selects RX4 yX4_mostWorn yX4_mostWorn, Cond.code yX4_mostWorn cX4_mostWorn 1 (some .int), Cond.methodLink RX4 138 yX0_mostWornPin, Cond.instanceMethod yX0_mostWornPin, Cond.selects RX0 yX0_mostWornPin yX0_mostWornPin, Cond.code yX0_mostWornPin cX0_mostWornPin 4 (some .int), Cond.methodLink RL 112 yX5_mostWorn, Cond.instanceMethod yX5_mostWorn]
def wsL_law0_r18 : List Cond := [Cond.selects RX5 yX5_mostWorn yX5_mostWorn, Cond.code yX5_mostWorn cX5_mostWorn 3 (some .int), Cond.methodLink RL 113 yX4_spareStrings, Cond.instanceMethod yX4_spareStrings, Cond.selects RX4 yX4_spareStrings yX4_spareStrings, Cond.code yX4_spareStrings cX4_spareStrings 1 (some .int), Cond.methodLink RL 116 yX5_spareStrings, Cond.instanceMethod yX5_spareStrings, Cond.selects RX5 yX5_spareStrings yX5_spareStrings, Cond.code yX5_spareStrings cX5_spareStrings 1 (some .int), Cond.methodLink RL 117 yL_awayFor, Cond.static yL_awayFor, Cond.codeWith yL_awayFor cL_awayFor 4 (some .int) [(0, 9, 12, 19)], Cond.methodLink RL 40 yX4_awayFor, Cond.instanceMethod yX4_awayFor, Cond.selects RX4 yX4_awayFor yX4_awayFor, Cond.code yX4_awayFor cX4_awayFor 2 (some .int), Cond.methodLink RL 119 yX5_awayFor, Cond.instanceMethod yX5_awayFor, Cond.selects RX5 yX5_awayFor yX5_awayFor, Cond.code yX5_awayFor cX5_awayFor 2 (some .int), Cond.methodLink RL 120 yX4_players, Cond.instanceMethod yX4_players, Cond.selects RX4 yX4_players yX4_players]
def wsL_law0_r19 : List Cond := [Cond.code yX4_players cX4_players 1 (some .int), Cond.methodLink RL 123 yX5_players, Cond.instanceMethod yX5_players, Cond.selects RX5 yX5_players yX5_players, Cond.code yX5_players cX5_players 1 (some .int), Cond.methodLink RL 124 yX4_playerInTurn, Cond.methodLink RL 127 yX5_playerInTurn, Cond.instanceMethod yX5_playerInTurn, Cond.selects RX5 yX5_playerInTurn yX5_playerInTurn, Cond.code yX5_playerInTurn cX5_playerInTurn 1 (some .int), Cond.methodLink RX5 149 yX5_turnNow, Cond.instanceMethod yX5_turnNow, Cond.selects RX5 yX5_turnNow yX5_turnNow, Cond.code yX5_turnNow cX5_turnNow 1 (some .int), Cond.methodLink RL 128 yX4_frame, Cond.instanceMethod yX4_frame, Cond.selects RX4 yX4_frame yX4_frame, Cond.code yX4_frame cX4_frame 1 (some .int), Cond.methodLink RL 131 yX5_frame, Cond.instanceMethod yX5_frame, Cond.selects RX5 yX5_frame yX5_frame, Cond.code yX5_frame cX5_frame 1 (some .int), Cond.methodLink RL 132 yX4_throwsInFrame, Cond.instanceMethod yX4_throwsInFrame]
def wsL_law0_r20 : List Cond := [Cond.selects RX4 yX4_throwsInFrame yX4_throwsInFrame, Cond.code yX4_throwsInFrame cX4_throwsInFrame 1 (some .int), Cond.methodLink RL 135 yX5_throwsInFrame, Cond.instanceMethod yX5_throwsInFrame, Cond.selects RX5 yX5_throwsInFrame yX5_throwsInFrame, Cond.code yX5_throwsInFrame cX5_throwsInFrame 1 (some .int), Cond.methodLink RL 136 yX4_isOver, Cond.methodLink RL 140 yX5_isOver, Cond.instanceMethod yX5_isOver, Cond.selects RX5 yX5_isOver yX5_isOver, Cond.code yX5_isOver cX5_isOver 1 (some .boolean), Cond.methodLink RL 141 yL_throwsOf, Cond.static yL_throwsOf, Cond.codeWith yL_throwsOf cL_throwsOf 4 (some .int) [(0, 9, 12, 19)], Cond.methodLink RL 43 yX4_throwsOf, Cond.instanceMethod yX4_throwsOf, Cond.selects RX4 yX4_throwsOf yX4_throwsOf, Cond.code yX4_throwsOf cX4_throwsOf 2 (some .int), Cond.methodLink RX4 147 yX4_checkPlayer, Cond.instanceMethod yX4_checkPlayer, Cond.selects RX4 yX4_checkPlayer yX4_checkPlayer, Cond.code yX4_checkPlayer cX4_checkPlayer 2 none, Cond.methodLink RL 143 yX5_throwsOf, Cond.instanceMethod yX5_throwsOf]
def wsL_law0_r21 : List Cond := [Cond.selects RX5 yX5_throwsOf yX5_throwsOf, Cond.code yX5_throwsOf cX5_throwsOf 2 (some .int), Cond.methodLink RX5 155 yX5_of, Cond.instanceMethod yX5_of, Cond.selects RX5 yX5_of yX5_of, Cond.code yX5_of cX5_of 3 (some .int), Cond.methodLink RX5 152 yX5_isPlayer, Cond.instanceMethod yX5_isPlayer, Cond.selects RX5 yX5_isPlayer yX5_isPlayer, Cond.code yX5_isPlayer cX5_isPlayer 2 (some .boolean), Cond.methodLink RL 144 yL_scoreOf, Cond.static yL_scoreOf, Cond.codeWith yL_scoreOf cL_scoreOf 4 (some .int) [(0, 9, 12, 19)], Cond.methodLink RL 46 yX4_scoreOf, Cond.instanceMethod yX4_scoreOf, Cond.selects RX4 yX4_scoreOf yX4_scoreOf, Cond.code yX4_scoreOf cX4_scoreOf 2 (some .int), Cond.methodLink RL 146 yX5_scoreOf, Cond.instanceMethod yX5_scoreOf, Cond.selects RX5 yX5_scoreOf yX5_scoreOf, Cond.code yX5_scoreOf cX5_scoreOf 2 (some .int), Cond.methodLink RL 147 yL_pointsOf, Cond.static yL_pointsOf, Cond.codeWith yL_pointsOf cL_pointsOf 5 (some .int) [(0, 10, 13, 19)]]
def wsL_law0_r22 : List Cond := [Cond.methodLink RL 49 yX4_pointsOf, Cond.instanceMethod yX4_pointsOf, Cond.selects RX4 yX4_pointsOf yX4_pointsOf, Cond.code yX4_pointsOf cX4_pointsOf 3 (some .int), Cond.methodLink RX4 159 yX3_points, Cond.methodLink RL 149 yX5_pointsOf, Cond.instanceMethod yX5_pointsOf, Cond.selects RX5 yX5_pointsOf yX5_pointsOf, Cond.code yX5_pointsOf cX5_pointsOf 3 (some .int), Cond.methodLink RL 150 yL_strikesOf, Cond.static yL_strikesOf, Cond.codeWith yL_strikesOf cL_strikesOf 4 (some .int) [(0, 9, 12, 19)], Cond.methodLink RL 52 yX4_strikesOf, Cond.instanceMethod yX4_strikesOf, Cond.selects RX4 yX4_strikesOf yX4_strikesOf, Cond.code yX4_strikesOf cX4_strikesOf 2 (some .int), Cond.methodLink RX4 162 yX3_strikes, Cond.instanceMethod yX3_strikes, Cond.selects RX3 yX3_strikes yX3_strikes, Cond.code yX3_strikes cX3_strikes 1 (some .int), Cond.methodLink RX3 38 yX3_framesWithBonus, Cond.instanceMethod yX3_framesWithBonus, Cond.selects RX3 yX3_framesWithBonus yX3_framesWithBonus, Cond.code yX3_framesWithBonus cX3_framesWithBonus 4 (some .int)]
def wsL_law0_r23 : List Cond := [Cond.methodLink RL 152 yX5_strikesOf, Cond.instanceMethod yX5_strikesOf, Cond.selects RX5 yX5_strikesOf yX5_strikesOf, Cond.code yX5_strikesOf cX5_strikesOf 2 (some .int), Cond.methodLink RL 153 yL_sparesOf, Cond.static yL_sparesOf, Cond.codeWith yL_sparesOf cL_sparesOf 4 (some .int) [(0, 9, 12, 19)], Cond.methodLink RL 55 yX4_sparesOf, Cond.instanceMethod yX4_sparesOf, Cond.selects RX4 yX4_sparesOf yX4_sparesOf, Cond.code yX4_sparesOf cX4_sparesOf 2 (some .int), Cond.methodLink RX4 165 yX3_spares, Cond.instanceMethod yX3_spares, Cond.selects RX3 yX3_spares yX3_spares, Cond.code yX3_spares cX3_spares 1 (some .int), Cond.methodLink RL 155 yX5_sparesOf, Cond.instanceMethod yX5_sparesOf, Cond.selects RX5 yX5_sparesOf yX5_sparesOf, Cond.code yX5_sparesOf cX5_sparesOf 2 (some .int), Cond.methodLink RL 156 yX4_leader, Cond.methodLink RL 159 yX5_leader, Cond.instanceMethod yX5_leader, Cond.selects RX5 yX5_leader yX5_leader, Cond.code yX5_leader cX5_leader 1 (some .int)]
def wsL_law0_r24 : List Cond := [Cond.methodLink RL 160 yL_wouldFall, Cond.static yL_wouldFall, Cond.codeWith yL_wouldFall cL_wouldFall 5 (some .int) [(0, 10, 13, 19)], Cond.methodLink RL 58 yX4_wouldFall, Cond.instanceMethod yX4_wouldFall, Cond.selects RX4 yX4_wouldFall yX4_wouldFall, Cond.code yX4_wouldFall cX4_wouldFall 3 (some .int), Cond.methodLink RX4 166 yX1_felled, Cond.methodLink RL 162 yX5_wouldFall, Cond.instanceMethod yX5_wouldFall, Cond.selects RX5 yX5_wouldFall yX5_wouldFall, Cond.code yX5_wouldFall cX5_wouldFall 3 (some .int), Cond.methodLink RL 163 yL_lastToFall, Cond.static yL_lastToFall, Cond.codeWith yL_lastToFall cL_lastToFall 5 (some .int) [(0, 10, 13, 19)], Cond.methodLink RL 61 yX4_lastToFall, Cond.instanceMethod yX4_lastToFall, Cond.selects RX4 yX4_lastToFall yX4_lastToFall, Cond.code yX4_lastToFall cX4_lastToFall 3 (some .int), Cond.methodLink RX4 170 yX1_last, Cond.static yX1_last, Cond.code yX1_last cX1_last 2 (some .int), Cond.methodLink RL 165 yX5_lastToFall, Cond.instanceMethod yX5_lastToFall]
def wsL_law0_r25 : List Cond := [Cond.selects RX5 yX5_lastToFall yX5_lastToFall, Cond.code yX5_lastToFall cX5_lastToFall 4 (some .int), Cond.methodLink RX5 159 yJ6_numberOfLeadingZeros_0f7a4, Cond.static yJ6_numberOfLeadingZeros_0f7a4, Cond.code yJ6_numberOfLeadingZeros_0f7a4 cJ6_numberOfLeadingZeros_0f7a4 2 (some .int), Cond.constant RJ6 264 (65536), Cond.methodLink RL 166 yX4_bestThrow, Cond.instanceMethod yX4_bestThrow, Cond.selects RX4 yX4_bestThrow yX4_bestThrow, Cond.code yX4_bestThrow cX4_bestThrow 6 (some .int), Cond.methodLink RL 169 yX5_bestThrow, Cond.instanceMethod yX5_bestThrow, Cond.selects RX5 yX5_bestThrow yX5_bestThrow, Cond.code yX5_bestThrow cX5_bestThrow 1 (some .int), Cond.methodLink RX5 162 yX5_best, Cond.instanceMethod yX5_best, Cond.selects RX5 yX5_best yX5_best, Cond.code yX5_best cX5_best 6 (some .int), Cond.methodLink RL 170 yX4_throwsToClear, Cond.instanceMethod yX4_throwsToClear, Cond.selects RX4 yX4_throwsToClear yX4_throwsToClear, Cond.code yX4_throwsToClear cX4_throwsToClear 2 (some .int), Cond.static yX1_canClear, Cond.code yX1_canClear cX1_canClear 6 (some .boolean)]
def wsL_law0_r26 : List Cond := [Cond.methodLink RX1 23 yX1_felled, Cond.methodLink RX1 27 yX1_canClear, Cond.methodLink RL 173 yX5_throwsToClear, Cond.instanceMethod yX5_throwsToClear, Cond.selects RX5 yX5_throwsToClear yX5_throwsToClear, Cond.code yX5_throwsToClear cX5_throwsToClear 1 (some .int), Cond.methodLink RX5 168 yX5_clear, Cond.instanceMethod yX5_clear, Cond.selects RX5 yX5_clear yX5_clear, Cond.code yX5_clear cX5_clear 2 (some .int), Cond.methodLink RX5 165 yX5_isCleared, Cond.static yX5_isCleared, Cond.code yX5_isCleared cX5_isCleared 6 (some .boolean), Cond.methodLink RL 174 yX4_wouldBreak, Cond.instanceMethod yX4_wouldBreak, Cond.selects RX4 yX4_wouldBreak yX4_wouldBreak, Cond.code yX4_wouldBreak cX4_wouldBreak 1 (some .int), Cond.methodLink RX4 177 yX0_brokenIfAllFell, Cond.instanceMethod yX0_brokenIfAllFell, Cond.selects RX0 yX0_brokenIfAllFell yX0_brokenIfAllFell, Cond.code yX0_brokenIfAllFell cX0_brokenIfAllFell 4 (some .int), Cond.methodLink RL 177 yX5_wouldBreak, Cond.instanceMethod yX5_wouldBreak, Cond.selects RX5 yX5_wouldBreak yX5_wouldBreak]
def wsL_law0_r27 : List Cond := [Cond.code yX5_wouldBreak cX5_wouldBreak 3 (some .int), Cond.methodLink RL 178 yX4_meanScore, Cond.instanceMethod yX4_meanScore, Cond.selects RX4 yX4_meanScore yX4_meanScore, Cond.code yX4_meanScore cX4_meanScore 3 (some .double), Cond.methodLink RL 182 yX5_meanScore, Cond.instanceMethod yX5_meanScore, Cond.selects RX5 yX5_meanScore yX5_meanScore, Cond.code yX5_meanScore cX5_meanScore 3 (some .double), Cond.methodLink RL 183 yX4_digest, Cond.instanceMethod yX4_digest, Cond.selects RX4 yX4_digest yX4_digest, Cond.code yX4_digest cX4_digest 4 (some .long), Cond.constantLong RX4 180 (1999), Cond.constantLong RX4 182 (31), Cond.methodLink RX4 184 yX4_bestThrow, Cond.methodLink RX4 187 yX4_throwsToClear, Cond.methodLink RX4 190 yX0_digestOn, Cond.instanceMethod yX0_digestOn, Cond.selects RX0 yX0_digestOn yX0_digestOn, Cond.code yX0_digestOn cX0_digestOn 6 (some .long), Cond.constantLong RX0 42 (31), Cond.methodLink RX4 194 yX2_digestOn, Cond.instanceMethod yX2_digestOn]
def wsL_law0_r28 : List Cond := [Cond.selects RX2 yX2_digestOn yX2_digestOn, Cond.code yX2_digestOn cX2_digestOn 6 (some .long), Cond.constantLong RX2 21 (31), Cond.methodLink RX4 195 yX3_digestOn, Cond.instanceMethod yX3_digestOn, Cond.selects RX3 yX3_digestOn yX3_digestOn, Cond.code yX3_digestOn cX3_digestOn 6 (some .long), Cond.constantLong RX3 41 (31), Cond.methodLink RX3 43 yX3_score, Cond.methodLink RX3 47 yX3_strikes, Cond.methodLink RX3 50 yX3_spares, Cond.methodLink RL 187 yX5_digest, Cond.instanceMethod yX5_digest, Cond.selects RX5 yX5_digest yX5_digest, Cond.code yX5_digest cX5_digest 8 (some .long), Cond.constantLong RX5 171 (1999), Cond.constantLong RX5 173 (31)]
def wsL_law0 : List Cond := (wsL_law0_r1 ++ (wsL_law0_r2 ++ (wsL_law0_r3 ++ (wsL_law0_r4 ++ (wsL_law0_r5 ++ (wsL_law0_r6 ++ (wsL_law0_r7 ++ (wsL_law0_r8 ++ (wsL_law0_r9 ++ (wsL_law0_r10 ++ (wsL_law0_r11 ++ (wsL_law0_r12 ++ (wsL_law0_r13 ++ (wsL_law0_r14 ++ (wsL_law0_r15 ++ (wsL_law0_r16 ++ (wsL_law0_r17 ++ (wsL_law0_r18 ++ (wsL_law0_r19 ++ (wsL_law0_r20 ++ (wsL_law0_r21 ++ (wsL_law0_r22 ++ (wsL_law0_r23 ++ (wsL_law0_r24 ++ (wsL_law0_r25 ++ (wsL_law0_r26 ++ (wsL_law0_r27 ++ wsL_law0_r28))))))))))))))))))))))))))) ++ wsX40 ++ wsX50 ++ wsX00 ++ wsX20 ++ wsX30 ++ ([] : List Cond)
def wsL_law : List Cond := wsL_law0 ++ (vx_atS RX4 42 "java/lang/IllegalStateException" ["java/lang/RuntimeException", "java/lang/Exception"]).filter goodWord ++ (vx_atS RX4 200 "java/lang/IndexOutOfBoundsException" ["java/lang/RuntimeException", "java/lang/Exception"]).filter goodWord ++ (vx_atS RX4 98 "java/lang/IllegalArgumentException" ["java/lang/RuntimeException", "java/lang/Exception"]).filter goodWord
abbrev vwCl : List vw_C := [(RX0, TX0, 3), (RX2, TX2, 1), (RX3, TX3, 5), (RX4, TX4, 7), (RX5, TX5, 15)]
end
section
/-! THE WRITER'S OWN KIT, 1: worlds, facts that never change, contracts, rows -/
abbrev EV : Type := va_G × ClassId × ClassId × ClassId
abbrev eT (E : EV) : List (ClassId × FieldType) := [(E.2.1, .int), (E.2.2.1, .long), (E.2.2.2, .object "SkittleStrings$Sheet")]
def tPL : Nat → Int32 := fun j => ([-1, -1, 0, -1, -1, -1, 1, -1, 2, -1, 3, -1, 4, -1, 5, -1, 6, -1, 7, -1, -1, -1, 8, -1, -1] : List Int32).getD j 0
def tRO : Nat → Int32 := fun j => ([0, 1, 1, 2, 2, 2, 3, 3, 4] : List Int32).getD j 0
def tLA : Nat → Int32 := fun j => ([2, 1, 3, 0, 2, 4, 1, 3, 2] : List Int32).getD j 0
/-- an int array of n places that holds the numbers w -/
abbrev aI (E : EV) (n : Nat) (w : Nat → Nat) : va_E := .inl (E.2.1, n, .inl (fun j => nI (w j)))
def upN {α : Type} (w : Nat → α) (k : Nat) (v : α) : Nat → α := fun j => if j = k then v else w j
theorem upN_s {α : Type} (w : Nat → α) (k : Nat) (v : α) : upN w k v k = v := by simp [upN]
theorem upN_n {α : Type} (w : Nat → α) (k : Nat) (v : α) {j : Nat} (h : j ≠ k) : upN w k v j = w j := by simp [upN, h]
theorem upd_nI (w : Nat → Nat) (k v : Nat) : upd (fun j => nI (w j)) k (nI v) = fun j => nI (upN w k v j) := by
  funext j
  by_cases h : j = k
  · subst h; simp [upd, upN]
  · simp [upd, upN, h]
/-- a static table that nobody writes -/
def gS (C n : String) (N : Nat) (f : Nat → Int32) (A : Nat → Prop) (U : State) (H : Heap) : Prop := ∃ t : Nat, va_Z C n "[I" (.ref t) A U H ∧ va_T .int t N (fun j => .int (f j)) A U H
def gN (U : State) : Prop := va_Nw (.methodLinkNest RX4 9 yX0_init RX4) U ∧ va_Nw (.methodLinkNest RX4 18 yX2_init RX4) U ∧ va_Nw (.methodLinkNest RX4 29 yX3_init RX4) U ∧ va_Nw (.methodLinkNest RX4 173 yX1_canClear RX4) U
def gR (U : State) : Prop := (∃ a, vk_R RX4 40 "there are 4 players, or the game has begun" a U) ∧ (∃ a, vk_R RX4 57 "nobody's turn, or the ball is away" a U) ∧ (∃ a, vk_R RX4 89 "no spare string is left" a U) ∧ (∃ a, vk_R RX4 96 "strings is not 1 to 20" a U) ∧ (∃ a, vk_R RX4 198 "there is no such number" a U)
def GF (A : Nat → Prop) (U : State) (H : Heap) : Prop := gS RX1 "PLACES" 25 tPL A U H ∧ gS RX5 "PIN" 25 tPL A U H ∧ gS RX5 "ROW" 9 tRO A U H ∧ gS RX5 "LANE" 9 tLA A U H ∧ vx_Zq Bundle.tN "UNASSIGNED_STACK" Bundle.steD A U H ∧ vx_Zq Bundle.tN "SUPPRESSED_SENTINEL" Bundle.listD A U H ∧ gN U ∧ gR U
theorem gS.to {C n : String} {N : Nat} {f : Nat → Int32} {A B : Nat → Prop} {s U : State} {H : Heap} (h : gS C n N f A s s.heap) (hk : ∀ q, q < s.heap.size → ¬ A q → H[q]? = s.heap[q]?) (hB : ∀ q, B q → A q) (hW : s.WarmedH U.vm) : gS C n N f B U H := by
  obtain ⟨t, h1, h2⟩ := h
  exact ⟨t, va_Z.moved hW.alike ((h1.kept hk).narrow hB), va_T.moved hW.alike ((h2.kept hk).narrow hB)⟩
theorem GF.to {A B : Nat → Prop} {s U : State} {H : Heap} (h : GF A s s.heap) (hk : ∀ q, q < s.heap.size → ¬ A q → H[q]? = s.heap[q]?) (hB : ∀ q, B q → A q) (hW : s.WarmedH U.vm) : GF B U H := by
  obtain ⟨h1, h2, h3, h4, h5, h6, ⟨n1, n2, n3, n4⟩, ⟨a1, r1⟩, ⟨a2, r2⟩, ⟨a3, r3⟩, ⟨a4, r4⟩, ⟨a5, r5⟩⟩ := h
  exact ⟨h1.to hk hB hW, h2.to hk hB hW, h3.to hk hB hW, h4.to hk hB hW, vx_Zq.moved hW.alike ((h5.kept hk).narrow hB), vx_Zq.moved hW.alike ((h6.kept hk).narrow hB),
    ⟨va_Nw.warmM hW n1, va_Nw.warmM hW n2, va_Nw.warmM hW n3, va_Nw.warmM hW n4⟩, ⟨a1, vk_R.warm hW r1⟩, ⟨a2, vk_R.warm hW r2⟩, ⟨a3, vk_R.warm hW r3⟩, ⟨a4, vk_R.warm hW r4⟩, ⟨a5, vk_R.warm hW r5⟩⟩
/-- a method's start: its cells, and what never changes -/
def XP (E : EV) (wc : va_W) (sz : Nat) (U : State) : Prop := U.heap.size = sz ∧ va_P E.1 vwCl wc U.heap ∧ va_K E.1 vwCl (eT E) U ∧ va_D (fun _ => True) wc ∧ GF (va_A wc sz) U U.heap
def XQ (E : EV) (wc : va_W) (sz : Nat) (w1 : va_W) (t : State) : Prop := va_P E.1 vwCl w1 t.heap ∧ va_K E.1 vwCl (eT E) t ∧ va_D (va_A wc sz) w1
theorem XP.calling {E : EV} {wc : va_W} {sz : Nat} {U : State} {g : JFrame} {mk : MethodId} {a : Array Value} (h : XP E wc sz U) : XP E wc sz (U.calling g mk a) := by
  obtain ⟨h1, h2, h3, h4, h5⟩ := h
  exact ⟨h1, h2, va_K.moved (u := U) (U := U.calling g mk a) (Vm.Alike.refl U.vm) h3, h4, GF.to (U := U.calling g mk a) h5 (fun _ _ _ => rfl) (fun _ h => h) (State.WarmedH.refl U)⟩
/-- contracts: the answer and the cells behind the call, as said -/
def MI (l : Launch) (y : MethodName) (ws : List Cond) (rm : Room) (E : EV) (args : List Value) (wc : va_W) (r : Int32) (w1 : va_W) : Prop := ∀ sz, Met l y ws rm (va_Pc args (XP E wc sz)) (va_Qi (fun (r' : Int32) (_ : Unit) => r' = r) (fun _ t => XQ E wc sz w1 t) (va_A wc sz)) 0 0 (va_A wc sz)
def ML (l : Launch) (y : MethodName) (ws : List Cond) (rm : Room) (E : EV) (args : List Value) (wc : va_W) (r : Int64) (w1 : va_W) : Prop := ∀ sz, Met l y ws rm (va_Pc args (XP E wc sz)) (va_Ql (fun (r' : Int64) (_ : Unit) => r' = r) (fun _ t => XQ E wc sz w1 t) (va_A wc sz)) 0 0 (va_A wc sz)
def MD (l : Launch) (y : MethodName) (ws : List Cond) (rm : Room) (E : EV) (args : List Value) (wc : va_W) (r : UInt64) (w1 : va_W) : Prop := ∀ sz, Met l y ws rm (va_Pc args (XP E wc sz)) (va_Qd (fun (r' : UInt64) (_ : Unit) => r' = r) (fun _ t => XQ E wc sz w1 t) (va_A wc sz)) 0 0 (va_A wc sz)
def MV (l : Launch) (y : MethodName) (ws : List Cond) (rm : Room) (E : EV) (args : List Value) (wc : va_W) (w1 : va_W) : Prop := ∀ sz, Met l y ws rm (va_Pc args (XP E wc sz)) (va_Qv (fun (_ : Unit) => True) (fun _ t => XQ E wc sz w1 t) (va_A wc sz)) 0 0 (va_A wc sz)
/-- a method that makes cells -/
def MC (l : Launch) (y : MethodName) (ws : List Cond) (rm : Room) (E : EV) (args : List Value) (wc : va_W) (mc ms : Nat) (post : va_W → Prop) : Prop := ∀ sz, Met l y ws rm (va_Pc args (XP E wc sz)) (va_Qv post (fun w1 t => XQ E wc sz w1 t) (va_A wc sz)) mc ms (va_A wc sz)
/-- what a body owes at its end -/
def QI (E : EV) (wc : va_W) (r : Int32) (w1 : va_W) (below : List Frame) (args : Array Value) (s : State) : State → Prop := MQ below (va_Qi (fun (r' : Int32) (_ : Unit) => r' = r) (fun _ t => XQ E wc s.heap.size w1 t) (va_A wc s.heap.size)) args s 0 0 (va_A wc s.heap.size)
def QL (E : EV) (wc : va_W) (r : Int64) (w1 : va_W) (below : List Frame) (args : Array Value) (s : State) : State → Prop := MQ below (va_Ql (fun (r' : Int64) (_ : Unit) => r' = r) (fun _ t => XQ E wc s.heap.size w1 t) (va_A wc s.heap.size)) args s 0 0 (va_A wc s.heap.size)
def QD (E : EV) (wc : va_W) (r : UInt64) (w1 : va_W) (below : List Frame) (args : Array Value) (s : State) : State → Prop := MQ below (va_Qd (fun (r' : UInt64) (_ : Unit) => r' = r) (fun _ t => XQ E wc s.heap.size w1 t) (va_A wc s.heap.size)) args s 0 0 (va_A wc s.heap.size)
def QV (E : EV) (wc : va_W) (w1 : va_W) (below : List Frame) (args : Array Value) (s : State) : State → Prop := MQ below (va_Qv (fun (_ : Unit) => True) (fun _ t => XQ E wc s.heap.size w1 t) (va_A wc s.heap.size)) args s 0 0 (va_A wc s.heap.size)
def QC (E : EV) (wc : va_W) (mc ms : Nat) (post : va_W → Prop) (below : List Frame) (args : Array Value) (s : State) : State → Prop := MQ below (va_Qv post (fun w1 t => XQ E wc s.heap.size w1 t) (va_A wc s.heap.size)) args s mc ms (va_A wc s.heap.size)
/-- what stands all through a body -/
def CX (p : Program) (s : State) (m : MethodId) (args : Array Value) (meth : Method) (c : Code) (cc : ByteArray) (nL : Nat) (own : String) (Ts : List Cond) (ret : Option FieldType) (E : EV) (A : Nat → Prop) : Prop :=
  p.tables.exec = Jvm.exec ∧ c.code = cc ∧ c.maxLocals = nL ∧ s.vm.findClass own = some m.cls ∧ (∀ w ∈ Ts, w.before args s = true) ∧ meth.sig.returnType = ret ∧ meth.locks = false ∧ va_K E.1 vwCl (eT E) s ∧ GF A s s.heap ∧ (∀ q, s.heap.size ≤ q → A q)
/-- the cells, at some point of a body -/
def WD (E : EV) (A : Nat → Prop) (s : State) (w : va_W) (H : Heap) (locs : List Loc) : Prop := va_P E.1 vwCl w H ∧ va_D A w ∧ va_S A s.heap H locs
theorem WD.to {E : EV} {A : Nat → Prop} {s : State} {w w' : va_W} {H : Heap} {locs : List Loc} (h : WD E A s w H locs) (e : w = w') : WD E A s w' H locs := e ▸ h
theorem lv_to {ls : Array Slot} {nL : Nat} {l l' : List (Nat × Value)} (h : lv_has ls nL l) (e : l = l') : lv_has ls nL l' := e ▸ h
theorem map_fm {w wc : va_W} {is : List Nat} (h : is.map (fun i => w[i]?) = wc.map some) : is.filterMap (fun i => w[i]?) = wc := by
  have e : is.filterMap (fun i => w[i]?) = (is.map (fun i => w[i]?)).filterMap id := by
    rw [List.filterMap_map]; rfl
  rw [e, h, List.filterMap_map]
  induction wc with
  | nil => rfl
  | cons a l ih => simp
section Starts
variable {l : Launch} {y : MethodName} {ws ws' : List Cond} {rm : Room} {E : EV} {args : List Value} {wc w1 : va_W} {cc : ByteArray} {maxL : Nat} {own : String}
theorem x_start {Pq : Nat → Array Value → State → Outcome → State → Prop} {ret : Option FieldType} {mc ms : Nat} (hown : y.cls = own) (hy : plainName y.cls = true) (hw : ws = Cond.code y cc maxL ret :: ws') (hlen : (lg_sl args).length ≤ maxL)
    (body : ∀ (p : Program) (e : Env) (s : State) (m : MethodId) (below : List Frame) (meth : Method) (c : Code), CX p s m args.toArray meth c cc maxL own ws ret E (va_A wc s.heap.size) → meth.name = y.name → ∀ ls : Array Slot, lv_has ls maxL (lv_args 0 args) → WD E (va_A wc s.heap.size) s wc s.heap [] →
      W p l e rm s m args.toArray below meth c s.heap [] 0 0 (MQ below (Pq s.heap.size) args.toArray s mc ms (va_A wc s.heap.size)) (F0 m 0 ls [])) :
    ∀ sz, Met l y ws rm (va_Pc args (XP E wc sz)) (Pq sz) mc ms (va_A wc sz) := by
  intro sz
  refine Met.ofW (cc := cc) (maxL := maxL) (ret := ret) hy hw ?_
  intro p e s m args' below meth c s₁ B hml hv
  obtain ⟨rfl, hsz, hP, hK, hD0, hG⟩ := hv
  subst hsz
  have hl := lv_entry args (n := maxL) hlen
  rw [lg_entry_eq]
  exact body p e s m below meth c ⟨B.exec, B.bytes, hml, by rw [← hown]; exact findClass_of_methodNamed B.named, atoms_spec (ws := ws) B.pre, B.returns, B.notSynchronized, hK, hG, fun q h => Or.inr h⟩ (name_of_methodNamed B.named B.method).1 _ hl ⟨hP, hD0.self, va_S.rf⟩
end Starts
end
section
theorem z_and (a b : Nat) : nI a &&& nI b = nI (a &&& b) := Int32.toBitVec_inj.mp (by simp [nI])
theorem z_or (a b : Nat) : nI a ||| nI b = nI (a ||| b) := Int32.toBitVec_inj.mp (by simp [nI])
theorem z_xor (a b : Nat) : nI a ^^^ nI b = nI (a ^^^ b) := Int32.toBitVec_inj.mp (by simp [nI])
theorem z_sm : ∀ b, b < 31 → ((nI b &&& 31).toBitVec.smod 32).toNat = b := by decide +kernel
theorem z_shl {a b : Nat} (hb : b < 31) (ha : a * 2 ^ b < 2 ^ 32) : nI a <<< (nI b &&& 31) = nI (a * 2 ^ b) := pk_shlN _ b (z_sm b hb) ha
theorem z_shr {a b : Nat} (hb : b < 31) (ha : a < 2 ^ 31) : nI a >>> (nI b &&& 31) = nI (a / 2 ^ b) := pk_shrN ha _ b (z_sm b hb)
theorem z_eq0 {a : Nat} (ha : a < 2 ^ 31) : nI a = 0 ↔ a = 0 := nI_eq (b := 0) ha (by decide)
theorem z_lt0 {a : Nat} (ha : a < 2 ^ 31) : nI a < 0 ↔ a < 0 := nI_ltI (b := 0) ha (by decide)
theorem z_ge0 {a : Nat} (ha : a < 2 ^ 31) : 0 ≤ nI a ↔ 0 ≤ a := nI_leI (a := 0) (by decide) ha
theorem z_gt0 {a : Nat} (ha : a < 2 ^ 31) : 0 < nI a ↔ 0 < a := nI_ltI (a := 0) (by decide) ha
theorem z_le0 {a : Nat} (ha : a < 2 ^ 31) : nI a ≤ 0 ↔ a ≤ 0 := nI_leI (b := 0) ha (by decide)
/-! THE WRITER'S OWN KIT, 2: rows over WD -/
section XR
variable {p : Program} {l : Launch} {e : Env} {R : Room} {s : State} {m : MethodId} {args : Array Value} {below : List Frame} {meth : Method} {c : Code} {H : Heap} {locs : List Loc} {cells slots : Nat} {Q : State → Prop}
variable {cc : ByteArray} {pc nL : Nat} {ls : Array Slot} {rest st0 : List Value} {own : String} {Ts : List Cond} {ret : Option FieldType} {E : EV} {A : Nat → Prop} {w : va_W}
theorem CX.x (C : CX p s m args meth c cc nL own Ts ret E A) : p.tables.exec = Jvm.exec := C.1
theorem CX.b (C : CX p s m args meth c cc nL own Ts ret E A) : c.code = cc := C.2.1
theorem CX.fix (C : CX p s m args meth c cc nL own Ts ret E A) : CallFix p m c cc nL s args Ts own := ⟨C.1, C.2.1, C.2.2.1, C.2.2.2.1, C.2.2.2.2.1⟩
theorem CX.ow (C : CX p s m args meth c cc nL own Ts ret E A) : s.vm.findClass own = some m.cls := C.2.2.2.1
theorem CX.ts (C : CX p s m args meth c cc nL own Ts ret E A) : ∀ w ∈ Ts, w.before args s = true := C.2.2.2.2.1
theorem CX.r (C : CX p s m args meth c cc nL own Ts ret E A) : meth.sig.returnType = ret := C.2.2.2.2.2.1
theorem CX.lk (C : CX p s m args meth c cc nL own Ts ret E A) : meth.locks = false := C.2.2.2.2.2.2.1
theorem CX.K (C : CX p s m args meth c cc nL own Ts ret E A) : va_K E.1 vwCl (eT E) s := C.2.2.2.2.2.2.2.1
theorem CX.G (C : CX p s m args meth c cc nL own Ts ret E A) : GF A s s.heap := C.2.2.2.2.2.2.2.2.1
theorem CX.ar (C : CX p s m args meth c cc nL own Ts ret E A) : ∀ q, s.heap.size ≤ q → A q := C.2.2.2.2.2.2.2.2.2
/-- a field is read -/
theorem x_get (C : CX p s m args meth c cc nL own Ts ret E A) (hW : WD E A s w H locs) (q0 ci k : Nat) {a : Nat} {fs : List Value} {Cn : String} {T : u_T} {N index : Nat} {v : Value} (hc : vwCl[ci]? = some (Cn, T, N)) (he : w[q0]? = some (a, .inr (ci, fs))) (hk : k < N) (hin : ∀ w ∈ u_ws Cn T N, w ∈ Ts) (hl : Cond.fieldLink own index (T k).1 (T k).2.1 (T k).2.2.1 ∈ Ts) (hv : fs[k]? = some v) (hdg : decode cc pc = .ok (.getfield index, 3))
    (kk : W p l e R s m args below meth c H locs cells slots Q (F0 m (pc + 3) ls (v :: rest))) : W p l e R s m args below meth c H locs cells slots Q (F0 m pc ls (.ref a :: rest)) :=
  va_get C.x C.b C.ts hin C.ow C.K hW.1 q0 he hc k hk (C.ts _ hl) (fun _ h9 => h9) hv hdg kk
/-- an int field is written -/
theorem x_put (C : CX p s m args meth c cc nL own Ts ret E A) (hW : WD E A s w H locs) (q0 ci k : Nat) {a : Nat} {fs : List Value} {Cn : String} {T : u_T} {N index : Nat} {x : Int32} {w' : va_W} (ty0 : Nat → FieldType) (hty : ∀ k, k < N → parseFieldDescriptor (T k).2.2.1 = some (ty0 k)) (hnm : ∀ a, a < N → ∀ b, b < N → a ≠ b → (T a).2.1 ≠ (T b).2.1) (hc : vwCl[ci]? = some (Cn, T, N)) (he : w[q0]? = some (a, .inr (ci, fs))) (hk : k < N) (hin : ∀ w ∈ u_ws Cn T N, w ∈ Ts) (hl : Cond.fieldLink own index (T k).1 (T k).2.1 (T k).2.2.1 ∈ Ts) (hfin : (T k).2.2.2 = false) (hd : parseFieldDescriptor (T k).2.2.1 = some .int) (hlen : k < fs.length) (hdg : decode cc pc = .ok (.putfield index, 3)) (hw : w.set q0 (a, .inr (ci, fs.set k (.int x))) = w')
    (kk : ∀ (H1 : Heap) (locs1 : List Loc), WD E A s w' H1 locs1 → W p l e R s m args below meth c H1 locs1 cells slots Q (F0 m (pc + 3) ls rest)) : W p l e R s m args below meth c H locs cells slots Q (F0 m pc ls (.int x :: .ref a :: rest)) := by
  subst hw
  exact va_put C.x C.b C.ts hin ty0 hty hnm C.ow C.K hW.1 hW.2.1 hW.2.2 q0 he hc k hk (C.ts _ hl) (fun _ h9 => h9) hfin hd rfl rfl hlen hdg (fun H1 locs1 h1 h2 h3 => kk H1 locs1 ⟨h1, h2, h3⟩)
/-- a place of an int array is read -/
theorem x_ald (C : CX p s m args meth c cc nL own Ts ret E A) (hW : WD E A s w H locs) (q0 : Nat) {a n : Nat} {f : Nat → Nat} {i : Int32} (j : Nat) (he : w[q0]? = some (a, aI E n f)) (hi : i = nI j) (hj : j < n) (hn : n < 2 ^ 31) (hdg : decode cc pc = .ok (.iaload, 1))
    (kk : W p l e R s m args below meth c H locs cells slots Q (F0 m (pc + 1) ls (.int (nI (f j)) :: rest))) : W p l e R s m args below meth c H locs cells slots Q (F0 m pc ls (.int i :: .ref a :: rest)) := by
  subst hi
  have hj2 : j < 2 ^ 31 := Nat.lt_trans hj hn
  refine va_iald C.x C.b C.K hW.1 q0 0 he rfl (vp_in_nI hj hn) hdg ?_
  rw [nI_clamp hj2]
  exact kk
/-- .. and written -/
theorem x_ast (C : CX p s m args meth c cc nL own Ts ret E A) (hW : WD E A s w H locs) (q0 : Nat) {a n : Nat} {f : Nat → Nat} {i x : Int32} {w' : va_W} (j v : Nat) (he : w[q0]? = some (a, aI E n f)) (hi : i = nI j) (hx : x = nI v) (hj : j < n) (hn : n < 2 ^ 31) (hdg : decode cc pc = .ok (.iastore, 1)) (hw : w.set q0 (a, aI E n (upN f j v)) = w')
    (kk : ∀ (H1 : Heap) (locs1 : List Loc), WD E A s w' H1 locs1 → W p l e R s m args below meth c H1 locs1 cells slots Q (F0 m (pc + 1) ls rest)) : W p l e R s m args below meth c H locs cells slots Q (F0 m pc ls (.int x :: .int i :: .ref a :: rest)) := by
  subst hi; subst hx; subst hw
  have hj2 : j < 2 ^ 31 := Nat.lt_trans hj hn
  refine va_iast C.x C.b C.K hW.1 hW.2.1 hW.2.2 q0 0 he rfl (vp_in_nI hj hn) hdg (fun H1 locs1 h1 h2 h3 => ?_)
  rw [nI_clamp hj2, upd_nI] at h1 h2
  exact kk H1 locs1 ⟨h1, h2, h3⟩
/-- a static table: its reference, and a place of it -/
theorem x_gets (C : CX p s m args meth c cc nL own Ts ret E A) (hW : WD E A s w H locs) {Cn n : String} {N index : Nat} {f : Nat → Int32} (hg : gS Cn n N f A s s.heap) (hl : Cond.fieldLink own index Cn n "[I" ∈ Ts) (hdg : decode cc pc = .ok (.getstatic index, 3))
    (kk : ∀ t : Nat, va_T .int t N (fun j => .int (f j)) A s s.heap → W p l e R s m args below meth c H locs cells slots Q (F0 m (pc + 3) ls (.ref t :: rest))) : W p l e R s m args below meth c H locs cells slots Q (F0 m pc ls rest) := by
  obtain ⟨t, h1, h2⟩ := hg
  exact va_gets C.x C.b h1 hW.2.2 C.ow (C.ts _ hl) (fun _ h9 => h9) hdg (kk t h2)
theorem x_tab (C : CX p s m args meth c cc nL own Ts ret E A) (hW : WD E A s w H locs) {t N : Nat} {f : Nat → Int32} {i : Int32} (hT : va_T .int t N (fun j => .int (f j)) A s s.heap) (j : Nat) (hi : i = nI j) (hj : j < N) (hN : N < 2 ^ 31) (hdg : decode cc pc = .ok (.iaload, 1))
    (kk : W p l e R s m args below meth c H locs cells slots Q (F0 m (pc + 1) ls (.int (f j) :: rest))) : W p l e R s m args below meth c H locs cells slots Q (F0 m pc ls (.int i :: .ref t :: rest)) := by
  subst hi
  exact va_ti C.x C.b hT hW.2.2 (vp_in_nI hj hN) (by rw [nI_clamp (Nat.lt_trans hj hN)]) hdg kk
/-- the sheets' array -/
theorem x_aldq (C : CX p s m args meth c cc nL own Ts ret E A) (hW : WD E A s w H locs) (q0 : Nat) {a n : Nat} {f : Nat → Nat} {i : Int32} (j : Nat) (he : w[q0]? = some (a, .inl (E.2.2.2, n, .inr (.inr (.inr (.inr (fun k => some (f k)))))))) (hi : i = nI j) (hj : j < n) (hn : n < 2 ^ 31) (hdg : decode cc pc = .ok (.aaload, 1))
    (kk : W p l e R s m args below meth c H locs cells slots Q (F0 m (pc + 1) ls (.ref (f j) :: rest))) : W p l e R s m args below meth c H locs cells slots Q (F0 m pc ls (.int i :: .ref a :: rest)) := by
  subst hi
  have hj2 : j < 2 ^ 31 := Nat.lt_trans hj hn
  refine va_aldq C.x C.b C.K hW.1 q0 2 he rfl (vp_in_nI hj hn) hdg ?_
  rw [nI_clamp hj2]
  exact kk
theorem x_alen (C : CX p s m args meth c cc nL own Ts ret E A) (hW : WD E A s w H locs) (q0 t0 : Nat) {a : Nat} {cA : ClassId} {x : vp_A} (he : w[q0]? = some (a, .inl (cA, x))) {ty : FieldType} (ht : (eT E)[t0]? = some (cA, ty)) (hdg : decode cc pc = .ok (.arraylength, 1))
    (kk : W p l e R s m args below meth c H locs cells slots Q (F0 m (pc + 1) ls (.int (nI x.1) :: rest))) : W p l e R s m args below meth c H locs cells slots Q (F0 m pc ls (.ref a :: rest)) :=
  va_alen C.x C.b C.K hW.1 q0 t0 he ht rfl hdg kk
/-! arithmetic on numbers -/
theorem x_iadd (C : CX p s m args meth c cc nL own Ts ret E A) {a b : Nat}  (hdg : decode cc pc = .ok (.iadd, 1))
    (kk : W p l e R s m args below meth c H locs cells slots Q (F0 m (pc + 1) ls (.int (nI (a + b)) :: rest))) : W p l e R s m args below meth c H locs cells slots Q (F0 m pc ls (.int (nI b) :: .int (nI a) :: rest)) := by
  refine lv_iadd C.x C.b hdg ?_
  rw [show nI a + nI b = nI (a + b) from nI_add a b]
  exact kk
theorem x_isub (C : CX p s m args meth c cc nL own Ts ret E A) {a b : Nat} (hle : b ≤ a) (hdg : decode cc pc = .ok (.isub, 1))
    (kk : W p l e R s m args below meth c H locs cells slots Q (F0 m (pc + 1) ls (.int (nI (a - b)) :: rest))) : W p l e R s m args below meth c H locs cells slots Q (F0 m pc ls (.int (nI b) :: .int (nI a) :: rest)) := by
  refine lv_isub C.x C.b hdg ?_
  rw [show nI a - nI b = nI (a - b) from pk_sub hle]
  exact kk
theorem x_imul (C : CX p s m args meth c cc nL own Ts ret E A) {a b : Nat}  (hdg : decode cc pc = .ok (.imul, 1))
    (kk : W p l e R s m args below meth c H locs cells slots Q (F0 m (pc + 1) ls (.int (nI (a * b)) :: rest))) : W p l e R s m args below meth c H locs cells slots Q (F0 m pc ls (.int (nI b) :: .int (nI a) :: rest)) := by
  refine lv_imul C.x C.b hdg ?_
  rw [show nI a * nI b = nI (a * b) from pk_mul a b]
  exact kk
theorem x_iand (C : CX p s m args meth c cc nL own Ts ret E A) {a b : Nat}  (hdg : decode cc pc = .ok (.iand, 1))
    (kk : W p l e R s m args below meth c H locs cells slots Q (F0 m (pc + 1) ls (.int (nI (a &&& b)) :: rest))) : W p l e R s m args below meth c H locs cells slots Q (F0 m pc ls (.int (nI b) :: .int (nI a) :: rest)) := by
  refine lv_iand C.x C.b hdg ?_
  rw [show nI a &&& nI b = nI (a &&& b) from z_and a b]
  exact kk
theorem x_ior (C : CX p s m args meth c cc nL own Ts ret E A) {a b : Nat}  (hdg : decode cc pc = .ok (.ior, 1))
    (kk : W p l e R s m args below meth c H locs cells slots Q (F0 m (pc + 1) ls (.int (nI (a ||| b)) :: rest))) : W p l e R s m args below meth c H locs cells slots Q (F0 m pc ls (.int (nI b) :: .int (nI a) :: rest)) := by
  refine lv_ior C.x C.b hdg ?_
  rw [show nI a ||| nI b = nI (a ||| b) from z_or a b]
  exact kk
theorem x_ixor (C : CX p s m args meth c cc nL own Ts ret E A) {a b : Nat}  (hdg : decode cc pc = .ok (.ixor, 1))
    (kk : W p l e R s m args below meth c H locs cells slots Q (F0 m (pc + 1) ls (.int (nI (a ^^^ b)) :: rest))) : W p l e R s m args below meth c H locs cells slots Q (F0 m pc ls (.int (nI b) :: .int (nI a) :: rest)) := by
  refine lv_ixor C.x C.b hdg ?_
  rw [show nI a ^^^ nI b = nI (a ^^^ b) from z_xor a b]
  exact kk
theorem x_ishl (C : CX p s m args meth c cc nL own Ts ret E A) {a b : Nat} (hb : b < 31) (ha : a * 2 ^ b < 2 ^ 32) (hdg : decode cc pc = .ok (.ishl, 1))
    (kk : W p l e R s m args below meth c H locs cells slots Q (F0 m (pc + 1) ls (.int (nI (a * 2 ^ b)) :: rest))) : W p l e R s m args below meth c H locs cells slots Q (F0 m pc ls (.int (nI b) :: .int (nI a) :: rest)) := by
  refine lv_ishl C.x C.b hdg ?_
  rw [show nI a <<< (nI b &&& 31) = nI (a * 2 ^ b) from z_shl hb ha]
  exact kk
theorem x_ishr (C : CX p s m args meth c cc nL own Ts ret E A) {a b : Nat} (hb : b < 31) (ha : a < 2 ^ 31) (hdg : decode cc pc = .ok (.ishr, 1))
    (kk : W p l e R s m args below meth c H locs cells slots Q (F0 m (pc + 1) ls (.int (nI (a / 2 ^ b)) :: rest))) : W p l e R s m args below meth c H locs cells slots Q (F0 m pc ls (.int (nI b) :: .int (nI a) :: rest)) := by
  refine lv_ishr C.x C.b hdg ?_
  rw [show nI a >>> (nI b &&& 31) = nI (a / 2 ^ b) from z_shr hb ha]
  exact kk
theorem x_icmp_eq (C : CX p s m args meth c cc nL own Ts ret E A) {a b : Nat} (ha : a < 2 ^ 31) (hb : b < 2 ^ 31) {off : Int} {tgt : Nat} (hdg : decode cc pc = .ok (.if_icmp .eq off, 3)) (ht : (pc : Int) + off = (tgt : Int))
    (kt : a = b → W p l e R s m args below meth c H locs cells slots Q (F0 m tgt ls rest)) (kf : ¬ (a = b) → W p l e R s m args below meth c H locs cells slots Q (F0 m (pc + 3) ls rest)) : W p l e R s m args below meth c H locs cells slots Q (F0 m pc ls (.int (nI b) :: .int (nI a) :: rest)) :=
  lv_icmp_eq C.x C.b hdg ht (fun h => kt ((nI_eq ha hb).mp h)) (fun h => kf (fun q => h ((nI_eq ha hb).mpr q)))
theorem x_if_eq (C : CX p s m args meth c cc nL own Ts ret E A) {a : Nat} (ha : a < 2 ^ 31) {off : Int} {tgt : Nat} (hdg : decode cc pc = .ok (.ifCond .eq off, 3)) (ht : (pc : Int) + off = (tgt : Int))
    (kt : a = 0 → W p l e R s m args below meth c H locs cells slots Q (F0 m tgt ls rest)) (kf : ¬ (a = 0) → W p l e R s m args below meth c H locs cells slots Q (F0 m (pc + 3) ls rest)) : W p l e R s m args below meth c H locs cells slots Q (F0 m pc ls (.int (nI a) :: rest)) :=
  lv_if_eq C.x C.b hdg ht (fun h => kt ((z_eq0 ha).mp h)) (fun h => kf (fun q => h ((z_eq0 ha).mpr q)))
theorem x_icmp_ne (C : CX p s m args meth c cc nL own Ts ret E A) {a b : Nat} (ha : a < 2 ^ 31) (hb : b < 2 ^ 31) {off : Int} {tgt : Nat} (hdg : decode cc pc = .ok (.if_icmp .ne off, 3)) (ht : (pc : Int) + off = (tgt : Int))
    (kt : a ≠ b → W p l e R s m args below meth c H locs cells slots Q (F0 m tgt ls rest)) (kf : a = b → W p l e R s m args below meth c H locs cells slots Q (F0 m (pc + 3) ls rest)) : W p l e R s m args below meth c H locs cells slots Q (F0 m pc ls (.int (nI b) :: .int (nI a) :: rest)) :=
  lv_icmp_ne C.x C.b hdg ht (fun h => kt ((not_congr (nI_eq ha hb)).mp h)) (fun h => kf ((nI_eq ha hb).mp h))
theorem x_if_ne (C : CX p s m args meth c cc nL own Ts ret E A) {a : Nat} (ha : a < 2 ^ 31) {off : Int} {tgt : Nat} (hdg : decode cc pc = .ok (.ifCond .ne off, 3)) (ht : (pc : Int) + off = (tgt : Int))
    (kt : a ≠ 0 → W p l e R s m args below meth c H locs cells slots Q (F0 m tgt ls rest)) (kf : a = 0 → W p l e R s m args below meth c H locs cells slots Q (F0 m (pc + 3) ls rest)) : W p l e R s m args below meth c H locs cells slots Q (F0 m pc ls (.int (nI a) :: rest)) :=
  lv_if_ne C.x C.b hdg ht (fun h => kt ((not_congr (z_eq0 ha)).mp h)) (fun h => kf ((z_eq0 ha).mp h))
theorem x_icmp_lt (C : CX p s m args meth c cc nL own Ts ret E A) {a b : Nat} (ha : a < 2 ^ 31) (hb : b < 2 ^ 31) {off : Int} {tgt : Nat} (hdg : decode cc pc = .ok (.if_icmp .lt off, 3)) (ht : (pc : Int) + off = (tgt : Int))
    (kt : a < b → W p l e R s m args below meth c H locs cells slots Q (F0 m tgt ls rest)) (kf : ¬ (a < b) → W p l e R s m args below meth c H locs cells slots Q (F0 m (pc + 3) ls rest)) : W p l e R s m args below meth c H locs cells slots Q (F0 m pc ls (.int (nI b) :: .int (nI a) :: rest)) :=
  lv_icmp_lt C.x C.b hdg ht (fun h => kt ((nI_ltI ha hb).mp h)) (fun h => kf (fun q => h ((nI_ltI ha hb).mpr q)))
theorem x_if_lt (C : CX p s m args meth c cc nL own Ts ret E A) {a : Nat} (ha : a < 2 ^ 31) {off : Int} {tgt : Nat} (hdg : decode cc pc = .ok (.ifCond .lt off, 3)) (ht : (pc : Int) + off = (tgt : Int))
    (kt : a < 0 → W p l e R s m args below meth c H locs cells slots Q (F0 m tgt ls rest)) (kf : ¬ (a < 0) → W p l e R s m args below meth c H locs cells slots Q (F0 m (pc + 3) ls rest)) : W p l e R s m args below meth c H locs cells slots Q (F0 m pc ls (.int (nI a) :: rest)) :=
  lv_if_lt C.x C.b hdg ht (fun h => kt ((z_lt0 ha).mp h)) (fun h => kf (fun q => h ((z_lt0 ha).mpr q)))
theorem x_icmp_ge (C : CX p s m args meth c cc nL own Ts ret E A) {a b : Nat} (ha : a < 2 ^ 31) (hb : b < 2 ^ 31) {off : Int} {tgt : Nat} (hdg : decode cc pc = .ok (.if_icmp .ge off, 3)) (ht : (pc : Int) + off = (tgt : Int))
    (kt : b ≤ a → W p l e R s m args below meth c H locs cells slots Q (F0 m tgt ls rest)) (kf : ¬ (b ≤ a) → W p l e R s m args below meth c H locs cells slots Q (F0 m (pc + 3) ls rest)) : W p l e R s m args below meth c H locs cells slots Q (F0 m pc ls (.int (nI b) :: .int (nI a) :: rest)) :=
  lv_icmp_ge C.x C.b hdg ht (fun h => kt ((nI_leI hb ha).mp h)) (fun h => kf (fun q => h ((nI_leI hb ha).mpr q)))
theorem x_if_ge (C : CX p s m args meth c cc nL own Ts ret E A) {a : Nat} (ha : a < 2 ^ 31) {off : Int} {tgt : Nat} (hdg : decode cc pc = .ok (.ifCond .ge off, 3)) (ht : (pc : Int) + off = (tgt : Int))
    (kt : 0 ≤ a → W p l e R s m args below meth c H locs cells slots Q (F0 m tgt ls rest)) (kf : ¬ (0 ≤ a) → W p l e R s m args below meth c H locs cells slots Q (F0 m (pc + 3) ls rest)) : W p l e R s m args below meth c H locs cells slots Q (F0 m pc ls (.int (nI a) :: rest)) :=
  lv_if_ge C.x C.b hdg ht (fun h => kt ((z_ge0 ha).mp h)) (fun h => kf (fun q => h ((z_ge0 ha).mpr q)))
theorem x_icmp_gt (C : CX p s m args meth c cc nL own Ts ret E A) {a b : Nat} (ha : a < 2 ^ 31) (hb : b < 2 ^ 31) {off : Int} {tgt : Nat} (hdg : decode cc pc = .ok (.if_icmp .gt off, 3)) (ht : (pc : Int) + off = (tgt : Int))
    (kt : b < a → W p l e R s m args below meth c H locs cells slots Q (F0 m tgt ls rest)) (kf : ¬ (b < a) → W p l e R s m args below meth c H locs cells slots Q (F0 m (pc + 3) ls rest)) : W p l e R s m args below meth c H locs cells slots Q (F0 m pc ls (.int (nI b) :: .int (nI a) :: rest)) :=
  lv_icmp_gt C.x C.b hdg ht (fun h => kt ((nI_ltI hb ha).mp h)) (fun h => kf (fun q => h ((nI_ltI hb ha).mpr q)))
theorem x_if_gt (C : CX p s m args meth c cc nL own Ts ret E A) {a : Nat} (ha : a < 2 ^ 31) {off : Int} {tgt : Nat} (hdg : decode cc pc = .ok (.ifCond .gt off, 3)) (ht : (pc : Int) + off = (tgt : Int))
    (kt : 0 < a → W p l e R s m args below meth c H locs cells slots Q (F0 m tgt ls rest)) (kf : ¬ (0 < a) → W p l e R s m args below meth c H locs cells slots Q (F0 m (pc + 3) ls rest)) : W p l e R s m args below meth c H locs cells slots Q (F0 m pc ls (.int (nI a) :: rest)) :=
  lv_if_gt C.x C.b hdg ht (fun h => kt ((z_gt0 ha).mp h)) (fun h => kf (fun q => h ((z_gt0 ha).mpr q)))
theorem x_icmp_le (C : CX p s m args meth c cc nL own Ts ret E A) {a b : Nat} (ha : a < 2 ^ 31) (hb : b < 2 ^ 31) {off : Int} {tgt : Nat} (hdg : decode cc pc = .ok (.if_icmp .le off, 3)) (ht : (pc : Int) + off = (tgt : Int))
    (kt : a ≤ b → W p l e R s m args below meth c H locs cells slots Q (F0 m tgt ls rest)) (kf : ¬ (a ≤ b) → W p l e R s m args below meth c H locs cells slots Q (F0 m (pc + 3) ls rest)) : W p l e R s m args below meth c H locs cells slots Q (F0 m pc ls (.int (nI b) :: .int (nI a) :: rest)) :=
  lv_icmp_le C.x C.b hdg ht (fun h => kt ((nI_leI ha hb).mp h)) (fun h => kf (fun q => h ((nI_leI ha hb).mpr q)))
theorem x_if_le (C : CX p s m args meth c cc nL own Ts ret E A) {a : Nat} (ha : a < 2 ^ 31) {off : Int} {tgt : Nat} (hdg : decode cc pc = .ok (.ifCond .le off, 3)) (ht : (pc : Int) + off = (tgt : Int))
    (kt : a ≤ 0 → W p l e R s m args below meth c H locs cells slots Q (F0 m tgt ls rest)) (kf : ¬ (a ≤ 0) → W p l e R s m args below meth c H locs cells slots Q (F0 m (pc + 3) ls rest)) : W p l e R s m args below meth c H locs cells slots Q (F0 m pc ls (.int (nI a) :: rest)) :=
  lv_if_le C.x C.b hdg ht (fun h => kt ((z_le0 ha).mp h)) (fun h => kf (fun q => h ((z_le0 ha).mpr q)))
theorem x_cVI (C : CX p s m args meth c cc nL own Ts ret E A) (hW : WD E A s w H locs) {y : MethodName} {wsY wsY' : List Cond} {rm : Room} {b : Nat} {As : List Value} {wc wr w1 wn : va_W} {r : Int32} (hM : MI l y wsY rm E (.ref b :: As) wc r w1) {Cn : String} {index maxL : Nat} {bytes : ByteArray} {rty : Option FieldType} (hg : GoodIn Ts (wsV own index Cn y wsY)) (hwY : wsY = Cond.code y bytes maxL rty :: wsY') (h0 : rm.cells = 0 ∧ rm.slots = 0) (hd : y.cls = Cn ∧ y.cls ≠ "java/lang/invoke/MethodHandle" ∧ y.cls ≠ "java/lang/invoke/VarHandle" ∧ (parseMethodDescriptor y.desc).map (fun d => d.parameters.length) = some As.length) (hR : rm.frames + 1 ≤ R.frames ∧ 8 + (maxL + 11) + rm.locals ≤ R.locals)
    (isC isR isN : List Nat) (hC : isC.map (fun i => w[i]?) = wc.map some) (hCn : va_nd isC = true) (hRr : isR.map (fun i => w[i]?) = wr.map some) (hRn : va_nd isR = true) (hdis : ∀ i ∈ isR, i ∉ isC) (hN : isN.map (fun i => (wr ++ w1)[i]?) = wn.map some) (hNn : va_nd isN = true) (q0 ci : Nat) {fs : List Value} {T : u_T} {N : Nat} (hc : vwCl[ci]? = some (Cn, T, N)) (he : w[q0]? = some (b, .inr (ci, fs))) (hls : ls.size = nL) (hst : st0 = As.reverse ++ .ref b :: rest) (hrest : (rest.map fun v => v.category).sum ≤ 8) (hdg : decode cc pc = .ok (.invokevirtual index, 3)) (hf : cells + 0 ≤ R.cells ∧ slots + 0 ≤ R.slots)
    (kk : ∀ (H1 : Heap) (locs1 : List Loc), WD E A s wn H1 locs1 → W p l e R s m args below meth c H1 locs1 cells slots Q (F0 m (pc + 3) ls (.int r :: rest))) : W p l e R s m args below meth c H locs cells slots Q (F0 m pc ls st0) := by
  obtain ⟨hP, hD, hS⟩ := hW
  subst hst
  have hPc := hP.sub isC (map_fm hC)
  have hDc := hD.sub isC hCn hC
  have hFc := va_free (wc := wc) hD hS C.ar isC hC
  have hPre : ∀ U : State, U.heap = H → s.WarmedH U.vm → va_Pc (.ref b :: As) (XP E wc H.size) (Value.ref b :: As).toArray U := fun U hU hW => ⟨rfl, by rw [hU], by rw [hU]; exact hPc, va_K.moved hW.alike C.K, hDc.weaken (fun _ _ _ _ => trivial), C.G.to (by rw [hU]; exact hS.2.1) hFc hW⟩
  refine va_calli (va_runV (As := As) (rest := rest) C.fix (hM H.size) (cwV As.length C.ts hg hwY h0.1 h0.2 hd hR) ⟨fun a U g mk q => ⟨q.1, q.2.calling⟩, va_recv C.K hP hc he, hPre⟩ rfl rfl hls rfl (lv_room hrest) hdg hf) hS (fun q _ h => hFc q h) hFc (fun r2 u t H1 locs1 ht hvm hw2 hB hz1 hk1 hS1 => ?_)
  subst hw2
  obtain ⟨hP1, hK1, hD1⟩ := hB
  rw [ht] at hP1
  obtain ⟨hP2, hD2⟩ := va_join (wr := wr) (w1 := w1) hP hD isC isR hC hRr hRn hdis hk1 hFc hP1 hD1
  exact kk H1 locs1 ⟨hP2.sub isN (map_fm hN), hD2.sub isN hNn hN, hS1⟩
theorem x_cSI (C : CX p s m args meth c cc nL own Ts ret E A) (hW : WD E A s w H locs) {y : MethodName} {wsY wsY' : List Cond} {rm : Room} {As : List Value} {wc wr w1 wn : va_W} {r : Int32} (hM : MI l y wsY rm E As wc r w1) {index maxL : Nat} {bytes : ByteArray} {rty : Option FieldType} (hg : GoodIn Ts (va_wsS own index y wsY)) (hwY : wsY = Cond.code y bytes maxL rty :: wsY') (h0 : rm.cells = 0 ∧ rm.slots = 0) (hd : y.cls ≠ "java/lang/invoke/MethodHandle" ∧ y.cls ≠ "java/lang/invoke/VarHandle" ∧ (parseMethodDescriptor y.desc).map (fun d => d.parameters.length) = some As.length) (hR : rm.frames + 1 ≤ R.frames ∧ 8 + (maxL + 11) + rm.locals ≤ R.locals)
    (isC isR isN : List Nat) (hC : isC.map (fun i => w[i]?) = wc.map some) (hCn : va_nd isC = true) (hRr : isR.map (fun i => w[i]?) = wr.map some) (hRn : va_nd isR = true) (hdis : ∀ i ∈ isR, i ∉ isC) (hN : isN.map (fun i => (wr ++ w1)[i]?) = wn.map some) (hNn : va_nd isN = true)  (hls : ls.size = nL) (hst : st0 = As.reverse ++ rest) (hrest : (rest.map fun v => v.category).sum ≤ 8) (hdg : decode cc pc = .ok (.invokestatic index, 3)) (hf : cells + 0 ≤ R.cells ∧ slots + 0 ≤ R.slots)
    (kk : ∀ (H1 : Heap) (locs1 : List Loc), WD E A s wn H1 locs1 → W p l e R s m args below meth c H1 locs1 cells slots Q (F0 m (pc + 3) ls (.int r :: rest))) : W p l e R s m args below meth c H locs cells slots Q (F0 m pc ls st0) := by
  obtain ⟨hP, hD, hS⟩ := hW
  subst hst
  have hPc := hP.sub isC (map_fm hC)
  have hDc := hD.sub isC hCn hC
  have hFc := va_free (wc := wc) hD hS C.ar isC hC
  have hPre : ∀ U : State, U.heap = H → s.WarmedH U.vm → va_Pc As (XP E wc H.size) (As).toArray U := fun U hU hW => ⟨rfl, by rw [hU], by rw [hU]; exact hPc, va_K.moved hW.alike C.K, hDc.weaken (fun _ _ _ _ => trivial), C.G.to (by rw [hU]; exact hS.2.1) hFc hW⟩
  refine va_calli (va_runS (As := As) (rest := rest) C.fix (hM H.size) (va_cwS As.length C.ts hg hwY h0.1 h0.2 hd hR) ⟨fun a U g mk q => ⟨q.1, q.2.calling⟩, hPre⟩ rfl rfl hls rfl (lv_room hrest) hdg hf) hS (fun q _ h => hFc q h) hFc (fun r2 u t H1 locs1 ht hvm hw2 hB hz1 hk1 hS1 => ?_)
  subst hw2
  obtain ⟨hP1, hK1, hD1⟩ := hB
  rw [ht] at hP1
  obtain ⟨hP2, hD2⟩ := va_join (wr := wr) (w1 := w1) hP hD isC isR hC hRr hRn hdis hk1 hFc hP1 hD1
  exact kk H1 locs1 ⟨hP2.sub isN (map_fm hN), hD2.sub isN hNn hN, hS1⟩
theorem x_cSNI (C : CX p s m args meth c cc nL own Ts ret E A) (hW : WD E A s w H locs) {y : MethodName} {wsY wsY' : List Cond} {rm : Room} {As : List Value} {wc wr w1 wn : va_W} {r : Int32} (hM : MI l y wsY rm E As wc r w1) {index maxL : Nat} {bytes : ByteArray} {rty : Option FieldType} (hg : GoodIn Ts wsY) {host : String} (hnw : va_Nw (.methodLinkNest own index y host) s) (hini : Cond.initialized y.cls ∈ Ts) (hsta : Cond.static y ∈ Ts) (hwY : wsY = Cond.code y bytes maxL rty :: wsY') (h0 : rm.cells = 0 ∧ rm.slots = 0) (hd : y.cls ≠ "java/lang/invoke/MethodHandle" ∧ y.cls ≠ "java/lang/invoke/VarHandle" ∧ (parseMethodDescriptor y.desc).map (fun d => d.parameters.length) = some As.length) (hR : rm.frames + 1 ≤ R.frames ∧ 8 + (maxL + 11) + rm.locals ≤ R.locals)
    (isC isR isN : List Nat) (hC : isC.map (fun i => w[i]?) = wc.map some) (hCn : va_nd isC = true) (hRr : isR.map (fun i => w[i]?) = wr.map some) (hRn : va_nd isR = true) (hdis : ∀ i ∈ isR, i ∉ isC) (hN : isN.map (fun i => (wr ++ w1)[i]?) = wn.map some) (hNn : va_nd isN = true)  (hls : ls.size = nL) (hst : st0 = As.reverse ++ rest) (hrest : (rest.map fun v => v.category).sum ≤ 8) (hdg : decode cc pc = .ok (.invokestatic index, 3)) (hf : cells + 0 ≤ R.cells ∧ slots + 0 ≤ R.slots)
    (kk : ∀ (H1 : Heap) (locs1 : List Loc), WD E A s wn H1 locs1 → W p l e R s m args below meth c H1 locs1 cells slots Q (F0 m (pc + 3) ls (.int r :: rest))) : W p l e R s m args below meth c H locs cells slots Q (F0 m pc ls st0) := by
  obtain ⟨hP, hD, hS⟩ := hW
  subst hst
  have hPc := hP.sub isC (map_fm hC)
  have hDc := hD.sub isC hCn hC
  have hFc := va_free (wc := wc) hD hS C.ar isC hC
  have hPre : ∀ U : State, U.heap = H → s.WarmedH U.vm → va_Pc As (XP E wc H.size) (As).toArray U := fun U hU hW => ⟨rfl, by rw [hU], by rw [hU]; exact hPc, va_K.moved hW.alike C.K, hDc.weaken (fun _ _ _ _ => trivial), C.G.to (by rw [hU]; exact hS.2.1) hFc hW⟩
  refine va_calli (va_runSN (As := As) (rest := rest) C.fix (hM H.size) ⟨va_cnB As.length C.ts hg hwY h0.1 h0.2 hnw (C.ts _ hini) hd hR, C.ts _ hsta, trivial⟩ ⟨fun a U g mk q => ⟨q.1, q.2.calling⟩, hPre⟩ rfl rfl hls rfl (lv_room hrest) hdg hf) hS (fun q _ h => hFc q h) hFc (fun r2 u t H1 locs1 ht hvm hw2 hB hz1 hk1 hS1 => ?_)
  subst hw2
  obtain ⟨hP1, hK1, hD1⟩ := hB
  rw [ht] at hP1
  obtain ⟨hP2, hD2⟩ := va_join (wr := wr) (w1 := w1) hP hD isC isR hC hRr hRn hdis hk1 hFc hP1 hD1
  exact kk H1 locs1 ⟨hP2.sub isN (map_fm hN), hD2.sub isN hNn hN, hS1⟩
theorem x_cVL (C : CX p s m args meth c cc nL own Ts ret E A) (hW : WD E A s w H locs) {y : MethodName} {wsY wsY' : List Cond} {rm : Room} {b : Nat} {As : List Value} {wc wr w1 wn : va_W} {r : Int64} (hM : ML l y wsY rm E (.ref b :: As) wc r w1) {Cn : String} {index maxL : Nat} {bytes : ByteArray} {rty : Option FieldType} (hg : GoodIn Ts (wsV own index Cn y wsY)) (hwY : wsY = Cond.code y bytes maxL rty :: wsY') (h0 : rm.cells = 0 ∧ rm.slots = 0) (hd : y.cls = Cn ∧ y.cls ≠ "java/lang/invoke/MethodHandle" ∧ y.cls ≠ "java/lang/invoke/VarHandle" ∧ (parseMethodDescriptor y.desc).map (fun d => d.parameters.length) = some As.length) (hR : rm.frames + 1 ≤ R.frames ∧ 8 + (maxL + 11) + rm.locals ≤ R.locals)
    (isC isR isN : List Nat) (hC : isC.map (fun i => w[i]?) = wc.map some) (hCn : va_nd isC = true) (hRr : isR.map (fun i => w[i]?) = wr.map some) (hRn : va_nd isR = true) (hdis : ∀ i ∈ isR, i ∉ isC) (hN : isN.map (fun i => (wr ++ w1)[i]?) = wn.map some) (hNn : va_nd isN = true) (q0 ci : Nat) {fs : List Value} {T : u_T} {N : Nat} (hc : vwCl[ci]? = some (Cn, T, N)) (he : w[q0]? = some (b, .inr (ci, fs))) (hls : ls.size = nL) (hst : st0 = As.reverse ++ .ref b :: rest) (hrest : (rest.map fun v => v.category).sum ≤ 8) (hdg : decode cc pc = .ok (.invokevirtual index, 3)) (hf : cells + 0 ≤ R.cells ∧ slots + 0 ≤ R.slots)
    (kk : ∀ (H1 : Heap) (locs1 : List Loc), WD E A s wn H1 locs1 → W p l e R s m args below meth c H1 locs1 cells slots Q (F0 m (pc + 3) ls (.long r :: rest))) : W p l e R s m args below meth c H locs cells slots Q (F0 m pc ls st0) := by
  obtain ⟨hP, hD, hS⟩ := hW
  subst hst
  have hPc := hP.sub isC (map_fm hC)
  have hDc := hD.sub isC hCn hC
  have hFc := va_free (wc := wc) hD hS C.ar isC hC
  have hPre : ∀ U : State, U.heap = H → s.WarmedH U.vm → va_Pc (.ref b :: As) (XP E wc H.size) (Value.ref b :: As).toArray U := fun U hU hW => ⟨rfl, by rw [hU], by rw [hU]; exact hPc, va_K.moved hW.alike C.K, hDc.weaken (fun _ _ _ _ => trivial), C.G.to (by rw [hU]; exact hS.2.1) hFc hW⟩
  refine va_calll (va_runV (As := As) (rest := rest) C.fix (hM H.size) (cwV As.length C.ts hg hwY h0.1 h0.2 hd hR) ⟨fun a U g mk q => ⟨q.1, q.2.calling⟩, va_recv C.K hP hc he, hPre⟩ rfl rfl hls rfl (lv_room hrest) hdg hf) hS (fun q _ h => hFc q h) hFc (fun r2 u t H1 locs1 ht hvm hw2 hB hz1 hk1 hS1 => ?_)
  subst hw2
  obtain ⟨hP1, hK1, hD1⟩ := hB
  rw [ht] at hP1
  obtain ⟨hP2, hD2⟩ := va_join (wr := wr) (w1 := w1) hP hD isC isR hC hRr hRn hdis hk1 hFc hP1 hD1
  exact kk H1 locs1 ⟨hP2.sub isN (map_fm hN), hD2.sub isN hNn hN, hS1⟩
theorem x_cSL (C : CX p s m args meth c cc nL own Ts ret E A) (hW : WD E A s w H locs) {y : MethodName} {wsY wsY' : List Cond} {rm : Room} {As : List Value} {wc wr w1 wn : va_W} {r : Int64} (hM : ML l y wsY rm E As wc r w1) {index maxL : Nat} {bytes : ByteArray} {rty : Option FieldType} (hg : GoodIn Ts (va_wsS own index y wsY)) (hwY : wsY = Cond.code y bytes maxL rty :: wsY') (h0 : rm.cells = 0 ∧ rm.slots = 0) (hd : y.cls ≠ "java/lang/invoke/MethodHandle" ∧ y.cls ≠ "java/lang/invoke/VarHandle" ∧ (parseMethodDescriptor y.desc).map (fun d => d.parameters.length) = some As.length) (hR : rm.frames + 1 ≤ R.frames ∧ 8 + (maxL + 11) + rm.locals ≤ R.locals)
    (isC isR isN : List Nat) (hC : isC.map (fun i => w[i]?) = wc.map some) (hCn : va_nd isC = true) (hRr : isR.map (fun i => w[i]?) = wr.map some) (hRn : va_nd isR = true) (hdis : ∀ i ∈ isR, i ∉ isC) (hN : isN.map (fun i => (wr ++ w1)[i]?) = wn.map some) (hNn : va_nd isN = true)  (hls : ls.size = nL) (hst : st0 = As.reverse ++ rest) (hrest : (rest.map fun v => v.category).sum ≤ 8) (hdg : decode cc pc = .ok (.invokestatic index, 3)) (hf : cells + 0 ≤ R.cells ∧ slots + 0 ≤ R.slots)
    (kk : ∀ (H1 : Heap) (locs1 : List Loc), WD E A s wn H1 locs1 → W p l e R s m args below meth c H1 locs1 cells slots Q (F0 m (pc + 3) ls (.long r :: rest))) : W p l e R s m args below meth c H locs cells slots Q (F0 m pc ls st0) := by
  obtain ⟨hP, hD, hS⟩ := hW
  subst hst
  have hPc := hP.sub isC (map_fm hC)
  have hDc := hD.sub isC hCn hC
  have hFc := va_free (wc := wc) hD hS C.ar isC hC
  have hPre : ∀ U : State, U.heap = H → s.WarmedH U.vm → va_Pc As (XP E wc H.size) (As).toArray U := fun U hU hW => ⟨rfl, by rw [hU], by rw [hU]; exact hPc, va_K.moved hW.alike C.K, hDc.weaken (fun _ _ _ _ => trivial), C.G.to (by rw [hU]; exact hS.2.1) hFc hW⟩
  refine va_calll (va_runS (As := As) (rest := rest) C.fix (hM H.size) (va_cwS As.length C.ts hg hwY h0.1 h0.2 hd hR) ⟨fun a U g mk q => ⟨q.1, q.2.calling⟩, hPre⟩ rfl rfl hls rfl (lv_room hrest) hdg hf) hS (fun q _ h => hFc q h) hFc (fun r2 u t H1 locs1 ht hvm hw2 hB hz1 hk1 hS1 => ?_)
  subst hw2
  obtain ⟨hP1, hK1, hD1⟩ := hB
  rw [ht] at hP1
  obtain ⟨hP2, hD2⟩ := va_join (wr := wr) (w1 := w1) hP hD isC isR hC hRr hRn hdis hk1 hFc hP1 hD1
  exact kk H1 locs1 ⟨hP2.sub isN (map_fm hN), hD2.sub isN hNn hN, hS1⟩
theorem x_cVD (C : CX p s m args meth c cc nL own Ts ret E A) (hW : WD E A s w H locs) {y : MethodName} {wsY wsY' : List Cond} {rm : Room} {b : Nat} {As : List Value} {wc wr w1 wn : va_W} {r : UInt64} (hM : MD l y wsY rm E (.ref b :: As) wc r w1) {Cn : String} {index maxL : Nat} {bytes : ByteArray} {rty : Option FieldType} (hg : GoodIn Ts (wsV own index Cn y wsY)) (hwY : wsY = Cond.code y bytes maxL rty :: wsY') (h0 : rm.cells = 0 ∧ rm.slots = 0) (hd : y.cls = Cn ∧ y.cls ≠ "java/lang/invoke/MethodHandle" ∧ y.cls ≠ "java/lang/invoke/VarHandle" ∧ (parseMethodDescriptor y.desc).map (fun d => d.parameters.length) = some As.length) (hR : rm.frames + 1 ≤ R.frames ∧ 8 + (maxL + 11) + rm.locals ≤ R.locals)
    (isC isR isN : List Nat) (hC : isC.map (fun i => w[i]?) = wc.map some) (hCn : va_nd isC = true) (hRr : isR.map (fun i => w[i]?) = wr.map some) (hRn : va_nd isR = true) (hdis : ∀ i ∈ isR, i ∉ isC) (hN : isN.map (fun i => (wr ++ w1)[i]?) = wn.map some) (hNn : va_nd isN = true) (q0 ci : Nat) {fs : List Value} {T : u_T} {N : Nat} (hc : vwCl[ci]? = some (Cn, T, N)) (he : w[q0]? = some (b, .inr (ci, fs))) (hls : ls.size = nL) (hst : st0 = As.reverse ++ .ref b :: rest) (hrest : (rest.map fun v => v.category).sum ≤ 8) (hdg : decode cc pc = .ok (.invokevirtual index, 3)) (hf : cells + 0 ≤ R.cells ∧ slots + 0 ≤ R.slots)
    (kk : ∀ (H1 : Heap) (locs1 : List Loc), WD E A s wn H1 locs1 → W p l e R s m args below meth c H1 locs1 cells slots Q (F0 m (pc + 3) ls (.double r :: rest))) : W p l e R s m args below meth c H locs cells slots Q (F0 m pc ls st0) := by
  obtain ⟨hP, hD, hS⟩ := hW
  subst hst
  have hPc := hP.sub isC (map_fm hC)
  have hDc := hD.sub isC hCn hC
  have hFc := va_free (wc := wc) hD hS C.ar isC hC
  have hPre : ∀ U : State, U.heap = H → s.WarmedH U.vm → va_Pc (.ref b :: As) (XP E wc H.size) (Value.ref b :: As).toArray U := fun U hU hW => ⟨rfl, by rw [hU], by rw [hU]; exact hPc, va_K.moved hW.alike C.K, hDc.weaken (fun _ _ _ _ => trivial), C.G.to (by rw [hU]; exact hS.2.1) hFc hW⟩
  refine va_calld (va_runV (As := As) (rest := rest) C.fix (hM H.size) (cwV As.length C.ts hg hwY h0.1 h0.2 hd hR) ⟨fun a U g mk q => ⟨q.1, q.2.calling⟩, va_recv C.K hP hc he, hPre⟩ rfl rfl hls rfl (lv_room hrest) hdg hf) hS (fun q _ h => hFc q h) hFc (fun r2 u t H1 locs1 ht hvm hw2 hB hz1 hk1 hS1 => ?_)
  subst hw2
  obtain ⟨hP1, hK1, hD1⟩ := hB
  rw [ht] at hP1
  obtain ⟨hP2, hD2⟩ := va_join (wr := wr) (w1 := w1) hP hD isC isR hC hRr hRn hdis hk1 hFc hP1 hD1
  exact kk H1 locs1 ⟨hP2.sub isN (map_fm hN), hD2.sub isN hNn hN, hS1⟩
theorem x_cSD (C : CX p s m args meth c cc nL own Ts ret E A) (hW : WD E A s w H locs) {y : MethodName} {wsY wsY' : List Cond} {rm : Room} {As : List Value} {wc wr w1 wn : va_W} {r : UInt64} (hM : MD l y wsY rm E As wc r w1) {index maxL : Nat} {bytes : ByteArray} {rty : Option FieldType} (hg : GoodIn Ts (va_wsS own index y wsY)) (hwY : wsY = Cond.code y bytes maxL rty :: wsY') (h0 : rm.cells = 0 ∧ rm.slots = 0) (hd : y.cls ≠ "java/lang/invoke/MethodHandle" ∧ y.cls ≠ "java/lang/invoke/VarHandle" ∧ (parseMethodDescriptor y.desc).map (fun d => d.parameters.length) = some As.length) (hR : rm.frames + 1 ≤ R.frames ∧ 8 + (maxL + 11) + rm.locals ≤ R.locals)
    (isC isR isN : List Nat) (hC : isC.map (fun i => w[i]?) = wc.map some) (hCn : va_nd isC = true) (hRr : isR.map (fun i => w[i]?) = wr.map some) (hRn : va_nd isR = true) (hdis : ∀ i ∈ isR, i ∉ isC) (hN : isN.map (fun i => (wr ++ w1)[i]?) = wn.map some) (hNn : va_nd isN = true)  (hls : ls.size = nL) (hst : st0 = As.reverse ++ rest) (hrest : (rest.map fun v => v.category).sum ≤ 8) (hdg : decode cc pc = .ok (.invokestatic index, 3)) (hf : cells + 0 ≤ R.cells ∧ slots + 0 ≤ R.slots)
    (kk : ∀ (H1 : Heap) (locs1 : List Loc), WD E A s wn H1 locs1 → W p l e R s m args below meth c H1 locs1 cells slots Q (F0 m (pc + 3) ls (.double r :: rest))) : W p l e R s m args below meth c H locs cells slots Q (F0 m pc ls st0) := by
  obtain ⟨hP, hD, hS⟩ := hW
  subst hst
  have hPc := hP.sub isC (map_fm hC)
  have hDc := hD.sub isC hCn hC
  have hFc := va_free (wc := wc) hD hS C.ar isC hC
  have hPre : ∀ U : State, U.heap = H → s.WarmedH U.vm → va_Pc As (XP E wc H.size) (As).toArray U := fun U hU hW => ⟨rfl, by rw [hU], by rw [hU]; exact hPc, va_K.moved hW.alike C.K, hDc.weaken (fun _ _ _ _ => trivial), C.G.to (by rw [hU]; exact hS.2.1) hFc hW⟩
  refine va_calld (va_runS (As := As) (rest := rest) C.fix (hM H.size) (va_cwS As.length C.ts hg hwY h0.1 h0.2 hd hR) ⟨fun a U g mk q => ⟨q.1, q.2.calling⟩, hPre⟩ rfl rfl hls rfl (lv_room hrest) hdg hf) hS (fun q _ h => hFc q h) hFc (fun r2 u t H1 locs1 ht hvm hw2 hB hz1 hk1 hS1 => ?_)
  subst hw2
  obtain ⟨hP1, hK1, hD1⟩ := hB
  rw [ht] at hP1
  obtain ⟨hP2, hD2⟩ := va_join (wr := wr) (w1 := w1) hP hD isC isR hC hRr hRn hdis hk1 hFc hP1 hD1
  exact kk H1 locs1 ⟨hP2.sub isN (map_fm hN), hD2.sub isN hNn hN, hS1⟩
theorem x_cVV (C : CX p s m args meth c cc nL own Ts ret E A) (hW : WD E A s w H locs) {y : MethodName} {wsY wsY' : List Cond} {rm : Room} {b : Nat} {As : List Value} {wc wr w1 wn : va_W} (hM : MV l y wsY rm E (.ref b :: As) wc w1) {Cn : String} {index maxL : Nat} {bytes : ByteArray} {rty : Option FieldType} (hg : GoodIn Ts (wsV own index Cn y wsY)) (hwY : wsY = Cond.code y bytes maxL rty :: wsY') (h0 : rm.cells = 0 ∧ rm.slots = 0) (hd : y.cls = Cn ∧ y.cls ≠ "java/lang/invoke/MethodHandle" ∧ y.cls ≠ "java/lang/invoke/VarHandle" ∧ (parseMethodDescriptor y.desc).map (fun d => d.parameters.length) = some As.length) (hR : rm.frames + 1 ≤ R.frames ∧ 8 + (maxL + 11) + rm.locals ≤ R.locals)
    (isC isR isN : List Nat) (hC : isC.map (fun i => w[i]?) = wc.map some) (hCn : va_nd isC = true) (hRr : isR.map (fun i => w[i]?) = wr.map some) (hRn : va_nd isR = true) (hdis : ∀ i ∈ isR, i ∉ isC) (hN : isN.map (fun i => (wr ++ w1)[i]?) = wn.map some) (hNn : va_nd isN = true) (q0 ci : Nat) {fs : List Value} {T : u_T} {N : Nat} (hc : vwCl[ci]? = some (Cn, T, N)) (he : w[q0]? = some (b, .inr (ci, fs))) (hls : ls.size = nL) (hst : st0 = As.reverse ++ .ref b :: rest) (hrest : (rest.map fun v => v.category).sum ≤ 8) (hdg : decode cc pc = .ok (.invokevirtual index, 3)) (hf : cells + 0 ≤ R.cells ∧ slots + 0 ≤ R.slots)
    (kk : ∀ (H1 : Heap) (locs1 : List Loc), WD E A s wn H1 locs1 → W p l e R s m args below meth c H1 locs1 cells slots Q (F0 m (pc + 3) ls (rest))) : W p l e R s m args below meth c H locs cells slots Q (F0 m pc ls st0) := by
  obtain ⟨hP, hD, hS⟩ := hW
  subst hst
  have hPc := hP.sub isC (map_fm hC)
  have hDc := hD.sub isC hCn hC
  have hFc := va_free (wc := wc) hD hS C.ar isC hC
  have hPre : ∀ U : State, U.heap = H → s.WarmedH U.vm → va_Pc (.ref b :: As) (XP E wc H.size) (Value.ref b :: As).toArray U := fun U hU hW => ⟨rfl, by rw [hU], by rw [hU]; exact hPc, va_K.moved hW.alike C.K, hDc.weaken (fun _ _ _ _ => trivial), C.G.to (by rw [hU]; exact hS.2.1) hFc hW⟩
  refine va_callv (va_runV (As := As) (rest := rest) C.fix (hM H.size) (cwV As.length C.ts hg hwY h0.1 h0.2 hd hR) ⟨fun a U g mk q => ⟨q.1, q.2.calling⟩, va_recv C.K hP hc he, hPre⟩ rfl rfl hls rfl (lv_room hrest) hdg hf) hS (fun q _ h => hFc q h) hFc (fun u t H1 locs1 ht hvm hw2 hB hz1 hk1 hS1 => ?_)
  obtain ⟨hP1, hK1, hD1⟩ := hB
  rw [ht] at hP1
  obtain ⟨hP2, hD2⟩ := va_join (wr := wr) (w1 := w1) hP hD isC isR hC hRr hRn hdis hk1 hFc hP1 hD1
  exact kk H1 locs1 ⟨hP2.sub isN (map_fm hN), hD2.sub isN hNn hN, hS1⟩
theorem x_cSV (C : CX p s m args meth c cc nL own Ts ret E A) (hW : WD E A s w H locs) {y : MethodName} {wsY wsY' : List Cond} {rm : Room} {As : List Value} {wc wr w1 wn : va_W} (hM : MV l y wsY rm E As wc w1) {index maxL : Nat} {bytes : ByteArray} {rty : Option FieldType} (hg : GoodIn Ts (va_wsS own index y wsY)) (hwY : wsY = Cond.code y bytes maxL rty :: wsY') (h0 : rm.cells = 0 ∧ rm.slots = 0) (hd : y.cls ≠ "java/lang/invoke/MethodHandle" ∧ y.cls ≠ "java/lang/invoke/VarHandle" ∧ (parseMethodDescriptor y.desc).map (fun d => d.parameters.length) = some As.length) (hR : rm.frames + 1 ≤ R.frames ∧ 8 + (maxL + 11) + rm.locals ≤ R.locals)
    (isC isR isN : List Nat) (hC : isC.map (fun i => w[i]?) = wc.map some) (hCn : va_nd isC = true) (hRr : isR.map (fun i => w[i]?) = wr.map some) (hRn : va_nd isR = true) (hdis : ∀ i ∈ isR, i ∉ isC) (hN : isN.map (fun i => (wr ++ w1)[i]?) = wn.map some) (hNn : va_nd isN = true)  (hls : ls.size = nL) (hst : st0 = As.reverse ++ rest) (hrest : (rest.map fun v => v.category).sum ≤ 8) (hdg : decode cc pc = .ok (.invokestatic index, 3)) (hf : cells + 0 ≤ R.cells ∧ slots + 0 ≤ R.slots)
    (kk : ∀ (H1 : Heap) (locs1 : List Loc), WD E A s wn H1 locs1 → W p l e R s m args below meth c H1 locs1 cells slots Q (F0 m (pc + 3) ls (rest))) : W p l e R s m args below meth c H locs cells slots Q (F0 m pc ls st0) := by
  obtain ⟨hP, hD, hS⟩ := hW
  subst hst
  have hPc := hP.sub isC (map_fm hC)
  have hDc := hD.sub isC hCn hC
  have hFc := va_free (wc := wc) hD hS C.ar isC hC
  have hPre : ∀ U : State, U.heap = H → s.WarmedH U.vm → va_Pc As (XP E wc H.size) (As).toArray U := fun U hU hW => ⟨rfl, by rw [hU], by rw [hU]; exact hPc, va_K.moved hW.alike C.K, hDc.weaken (fun _ _ _ _ => trivial), C.G.to (by rw [hU]; exact hS.2.1) hFc hW⟩
  refine va_callv (va_runS (As := As) (rest := rest) C.fix (hM H.size) (va_cwS As.length C.ts hg hwY h0.1 h0.2 hd hR) ⟨fun a U g mk q => ⟨q.1, q.2.calling⟩, hPre⟩ rfl rfl hls rfl (lv_room hrest) hdg hf) hS (fun q _ h => hFc q h) hFc (fun u t H1 locs1 ht hvm hw2 hB hz1 hk1 hS1 => ?_)
  obtain ⟨hP1, hK1, hD1⟩ := hB
  rw [ht] at hP1
  obtain ⟨hP2, hD2⟩ := va_join (wr := wr) (w1 := w1) hP hD isC isR hC hRr hRn hdis hk1 hFc hP1 hD1
  exact kk H1 locs1 ⟨hP2.sub isN (map_fm hN), hD2.sub isN hNn hN, hS1⟩
/-! ends -/
theorem x_iret {wc w1 : va_W} {r v : Int32} {ty : FieldType} (C : CX p s m args meth c cc nL own Ts (some ty) E (va_A wc s.heap.size)) (hW : WD E (va_A wc s.heap.size) s w H locs) (hn : narrow ty (.int v) = .int v) (hv : v = r) (hw : w = w1) (hdg : decode cc pc = .ok (.ireturn, 1)) : W p l e R s m args below meth c H locs 0 0 (QI E wc r w1 below args s) (F0 m pc ls [.int v]) := by
  subst hv; subst hw
  have hlocks := C.lk
  exact W.zret C.x C.b C.r hn (fun t ht hWm => ⟨⟨v, (), rfl, rfl, by rw [ht]; exact hW.1, va_K.moved hWm.alike C.K, hW.2.1⟩, hW.2.2.F ht⟩) hW.2.2.2.2 hdg
theorem x_lret {wc w1 : va_W} {r v : Int64} (C : CX p s m args meth c cc nL own Ts (some .long) E (va_A wc s.heap.size)) (hW : WD E (va_A wc s.heap.size) s w H locs) (hv : v = r) (hw : w = w1) (hdg : decode cc pc = .ok (.lreturn, 1)) : W p l e R s m args below meth c H locs 0 0 (QL E wc r w1 below args s) (F0 m pc ls [.long v]) := by
  subst hv; subst hw
  have hlocks := C.lk
  exact W.lret C.x C.b C.r (fun t ht hWm => ⟨⟨v, (), rfl, rfl, by rw [ht]; exact hW.1, va_K.moved hWm.alike C.K, hW.2.1⟩, hW.2.2.F ht⟩) hW.2.2.2.2 hdg
theorem x_dret {wc w1 : va_W} {r v : UInt64} (C : CX p s m args meth c cc nL own Ts (some .double) E (va_A wc s.heap.size)) (hW : WD E (va_A wc s.heap.size) s w H locs) (hv : v = r) (hw : w = w1) (hdg : decode cc pc = .ok (.dreturn, 1)) : W p l e R s m args below meth c H locs 0 0 (QD E wc r w1 below args s) (F0 m pc ls [.double v]) := by
  subst hv; subst hw
  have hlocks := C.lk
  exact W.dret C.x C.b C.r (fun t ht hWm => ⟨⟨v, (), rfl, rfl, by rw [ht]; exact hW.1, va_K.moved hWm.alike C.K, hW.2.1⟩, hW.2.2.F ht⟩) hW.2.2.2.2 hdg
theorem x_vret {wc w1 : va_W} (C : CX p s m args meth c cc nL own Ts none E (va_A wc s.heap.size)) (hW : WD E (va_A wc s.heap.size) s w H locs) (hw : w = w1) (hdg : decode cc pc = .ok (.return_, 1)) : W p l e R s m args below meth c H locs 0 0 (QV E wc w1 below args s) (F0 m pc ls []) := by
  subst hw
  have hlocks := C.lk
  exact W.vret C.x C.b C.r (fun t ht hWm => ⟨⟨(), rfl, trivial, by rw [ht]; exact hW.1, va_K.moved hWm.alike C.K, hW.2.1⟩, hW.2.2.F ht⟩) hW.2.2.2.2 hdg
theorem x_vretC {wc : va_W} {mc ms : Nat} {post : va_W → Prop} (C : CX p s m args meth c cc nL own Ts none E (va_A wc s.heap.size)) (hW : WD E (va_A wc s.heap.size) s w H locs) (hp : post w) (hc : cells = mc) (hs : slots = ms) (hdg : decode cc pc = .ok (.return_, 1)) : W p l e R s m args below meth c H locs cells slots (QC E wc mc ms post below args s) (F0 m pc ls []) := by
  subst hc; subst hs
  have hlocks := C.lk
  exact W.vret C.x C.b C.r (fun t ht hWm => ⟨⟨w, rfl, hp, by rw [ht]; exact hW.1, va_K.moved hWm.alike C.K, hW.2.1⟩, hW.2.2.F ht⟩) hW.2.2.2.2 hdg
end XR
end
