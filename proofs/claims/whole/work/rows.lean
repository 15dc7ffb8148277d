section
-- ===== PART A: goes FIRST, ahead of the names: the tables' words, and 'selects' of the private methods out of them =====
/-- a private method of a class that the tables say can be made, by its rows of tables_1 -/
def lw_okq (q : MethodName × Nat) : Prop := (q.1.cls ≠ "java/lang/invoke/MethodHandle" ∧ q.1.cls ≠ "java/lang/invoke/VarHandle") ∧ Cond.instantiable q.1.cls q.2 ∈ tables_1 ∧ Cond.privateMethod q.1 ∈ tables_1 ∧ Cond.instanceMethod q.1 ∈ tables_1
theorem lw_p0 : lw_okq (⟨"SkittleStrings$Sheet", "framesWithBonus", "(I)I"⟩, 5) := ⟨⟨by decide +kernel, by decide +kernel⟩, List.mem_of_getElem? (i := 52) (by decide +kernel), List.mem_of_getElem? (i := 264) (by decide +kernel), List.mem_of_getElem? (i := 265) (by decide +kernel)⟩
theorem lw_p1 : lw_okq (⟨"SkittleStrings", "somethingThrown", "()Z"⟩, 7) := ⟨⟨by decide +kernel, by decide +kernel⟩, List.mem_of_getElem? (i := 16) (by decide +kernel), List.mem_of_getElem? (i := 280) (by decide +kernel), List.mem_of_getElem? (i := 281) (by decide +kernel)⟩
theorem lw_p2 : lw_okq (⟨"java/lang/Throwable", "fillInStackTrace", "(I)Ljava/lang/Throwable;"⟩, 6) := ⟨⟨by decide +kernel, by decide +kernel⟩, List.mem_of_getElem? (i := 326) (by decide +kernel), List.mem_of_getElem? (i := 324) (by decide +kernel), List.mem_of_getElem? (i := 325) (by decide +kernel)⟩
theorem lw_p3 : lw_okq (⟨"SkittleStrings", "endFrame", "()V"⟩, 7) := ⟨⟨by decide +kernel, by decide +kernel⟩, List.mem_of_getElem? (i := 16) (by decide +kernel), List.mem_of_getElem? (i := 407) (by decide +kernel), List.mem_of_getElem? (i := 408) (by decide +kernel)⟩
theorem lw_p4 : lw_okq (⟨"SkittleStrings", "checkPlayer", "(I)V"⟩, 7) := ⟨⟨by decide +kernel, by decide +kernel⟩, List.mem_of_getElem? (i := 16) (by decide +kernel), List.mem_of_getElem? (i := 495) (by decide +kernel), List.mem_of_getElem? (i := 496) (by decide +kernel)⟩
theorem lw_p5 : lw_okq (⟨"SkittleStringsModel", "throwsOfAll", "()I"⟩, 15) := ⟨⟨by decide +kernel, by decide +kernel⟩, List.mem_of_getElem? (i := 547) (by decide +kernel), List.mem_of_getElem? (i := 607) (by decide +kernel), List.mem_of_getElem? (i := 608) (by decide +kernel)⟩
theorem lw_p6 : lw_okq (⟨"SkittleStringsModel", "no", "(I)I"⟩, 15) := ⟨⟨by decide +kernel, by decide +kernel⟩, List.mem_of_getElem? (i := 547) (by decide +kernel), List.mem_of_getElem? (i := 611) (by decide +kernel), List.mem_of_getElem? (i := 612) (by decide +kernel)⟩
theorem lw_p7 : lw_okq (⟨"SkittleStringsModel", "over", "()Z"⟩, 15) := ⟨⟨by decide +kernel, by decide +kernel⟩, List.mem_of_getElem? (i := 547) (by decide +kernel), List.mem_of_getElem? (i := 625) (by decide +kernel), List.mem_of_getElem? (i := 626) (by decide +kernel)⟩
theorem lw_p8 : lw_okq (⟨"SkittleStringsModel", "play", "(II)I"⟩, 15) := ⟨⟨by decide +kernel, by decide +kernel⟩, List.mem_of_getElem? (i := 547) (by decide +kernel), List.mem_of_getElem? (i := 629) (by decide +kernel), List.mem_of_getElem? (i := 630) (by decide +kernel)⟩
theorem lw_p9 : lw_okq (⟨"SkittleStringsModel", "endFrame", "()V"⟩, 15) := ⟨⟨by decide +kernel, by decide +kernel⟩, List.mem_of_getElem? (i := 547) (by decide +kernel), List.mem_of_getElem? (i := 650) (by decide +kernel), List.mem_of_getElem? (i := 651) (by decide +kernel)⟩
theorem lw_p10 : lw_okq (⟨"SkittleStringsModel", "begin", "(II)I"⟩, 15) := ⟨⟨by decide +kernel, by decide +kernel⟩, List.mem_of_getElem? (i := 547) (by decide +kernel), List.mem_of_getElem? (i := 654) (by decide +kernel), List.mem_of_getElem? (i := 655) (by decide +kernel)⟩
theorem lw_p11 : lw_okq (⟨"SkittleStringsModel", "sum", "(III)I"⟩, 15) := ⟨⟨by decide +kernel, by decide +kernel⟩, List.mem_of_getElem? (i := 547) (by decide +kernel), List.mem_of_getElem? (i := 658) (by decide +kernel), List.mem_of_getElem? (i := 659) (by decide +kernel)⟩
theorem lw_p12 : lw_okq (⟨"SkittleStringsModel", "putUp", "()V"⟩, 15) := ⟨⟨by decide +kernel, by decide +kernel⟩, List.mem_of_getElem? (i := 547) (by decide +kernel), List.mem_of_getElem? (i := 663) (by decide +kernel), List.mem_of_getElem? (i := 664) (by decide +kernel)⟩
theorem lw_p13 : lw_okq (⟨"SkittleStringsModel", "broken", "(I)Z"⟩, 15) := ⟨⟨by decide +kernel, by decide +kernel⟩, List.mem_of_getElem? (i := 547) (by decide +kernel), List.mem_of_getElem? (i := 667) (by decide +kernel), List.mem_of_getElem? (i := 668) (by decide +kernel)⟩
theorem lw_p14 : lw_okq (⟨"SkittleStringsModel", "first", "()I"⟩, 15) := ⟨⟨by decide +kernel, by decide +kernel⟩, List.mem_of_getElem? (i := 547) (by decide +kernel), List.mem_of_getElem? (i := 686) (by decide +kernel), List.mem_of_getElem? (i := 687) (by decide +kernel)⟩
theorem lw_p15 : lw_okq (⟨"SkittleStringsModel", "score", "(I)I"⟩, 15) := ⟨⟨by decide +kernel, by decide +kernel⟩, List.mem_of_getElem? (i := 547) (by decide +kernel), List.mem_of_getElem? (i := 690) (by decide +kernel), List.mem_of_getElem? (i := 691) (by decide +kernel)⟩
def lw_privs_1 : List (MethodName × Nat) := [(⟨"SkittleStrings$Sheet", "framesWithBonus", "(I)I"⟩, 5), (⟨"SkittleStrings", "somethingThrown", "()Z"⟩, 7), (⟨"java/lang/Throwable", "fillInStackTrace", "(I)Ljava/lang/Throwable;"⟩, 6), (⟨"SkittleStrings", "endFrame", "()V"⟩, 7), (⟨"SkittleStrings", "checkPlayer", "(I)V"⟩, 7), (⟨"SkittleStringsModel", "throwsOfAll", "()I"⟩, 15), (⟨"SkittleStringsModel", "no", "(I)I"⟩, 15), (⟨"SkittleStringsModel", "over", "()Z"⟩, 15), (⟨"SkittleStringsModel", "play", "(II)I"⟩, 15), (⟨"SkittleStringsModel", "endFrame", "()V"⟩, 15), (⟨"SkittleStringsModel", "begin", "(II)I"⟩, 15), (⟨"SkittleStringsModel", "sum", "(III)I"⟩, 15), (⟨"SkittleStringsModel", "putUp", "()V"⟩, 15), (⟨"SkittleStringsModel", "broken", "(I)Z"⟩, 15), (⟨"SkittleStringsModel", "first", "()I"⟩, 15), (⟨"SkittleStringsModel", "score", "(I)I"⟩, 15)]
theorem lw_r1 : ∀ q ∈ lw_privs_1, lw_okq q := List.forall_mem_cons.mpr ⟨lw_p0, List.forall_mem_cons.mpr ⟨lw_p1, List.forall_mem_cons.mpr ⟨lw_p2, List.forall_mem_cons.mpr ⟨lw_p3, List.forall_mem_cons.mpr ⟨lw_p4, List.forall_mem_cons.mpr ⟨lw_p5, List.forall_mem_cons.mpr ⟨lw_p6, List.forall_mem_cons.mpr ⟨lw_p7, List.forall_mem_cons.mpr ⟨lw_p8, List.forall_mem_cons.mpr ⟨lw_p9, List.forall_mem_cons.mpr ⟨lw_p10, List.forall_mem_cons.mpr ⟨lw_p11, List.forall_mem_cons.mpr ⟨lw_p12, List.forall_mem_cons.mpr ⟨lw_p13, List.forall_mem_cons.mpr ⟨lw_p14, List.forall_mem_cons.mpr ⟨lw_p15, fun _ h => absurd h List.not_mem_nil⟩⟩⟩⟩⟩⟩⟩⟩⟩⟩⟩⟩⟩⟩⟩⟩
theorem lw_p16 : lw_okq (⟨"SkittleStringsModel", "points", "(II)I"⟩, 15) := ⟨⟨by decide +kernel, by decide +kernel⟩, List.mem_of_getElem? (i := 547) (by decide +kernel), List.mem_of_getElem? (i := 694) (by decide +kernel), List.mem_of_getElem? (i := 695) (by decide +kernel)⟩
theorem lw_p17 : lw_okq (⟨"SkittleStringsModel", "isNot", "(I)Z"⟩, 15) := ⟨⟨by decide +kernel, by decide +kernel⟩, List.mem_of_getElem? (i := 547) (by decide +kernel), List.mem_of_getElem? (i := 702) (by decide +kernel), List.mem_of_getElem? (i := 703) (by decide +kernel)⟩
theorem lw_p18 : lw_okq (⟨"SkittleStringsModel", "ok", "(I)I"⟩, 15) := ⟨⟨by decide +kernel, by decide +kernel⟩, List.mem_of_getElem? (i := 547) (by decide +kernel), List.mem_of_getElem? (i := 710) (by decide +kernel), List.mem_of_getElem? (i := 711) (by decide +kernel)⟩
theorem lw_p19 : lw_okq (⟨"SkittleStringsModel", "brokenNow", "()I"⟩, 15) := ⟨⟨by decide +kernel, by decide +kernel⟩, List.mem_of_getElem? (i := 547) (by decide +kernel), List.mem_of_getElem? (i := 726) (by decide +kernel), List.mem_of_getElem? (i := 727) (by decide +kernel)⟩
theorem lw_p20 : lw_okq (⟨"SkittleStringsModel", "turnNow", "()I"⟩, 15) := ⟨⟨by decide +kernel, by decide +kernel⟩, List.mem_of_getElem? (i := 547) (by decide +kernel), List.mem_of_getElem? (i := 750) (by decide +kernel), List.mem_of_getElem? (i := 751) (by decide +kernel)⟩
theorem lw_p21 : lw_okq (⟨"SkittleStringsModel", "of", "(I[I)I"⟩, 15) := ⟨⟨by decide +kernel, by decide +kernel⟩, List.mem_of_getElem? (i := 547) (by decide +kernel), List.mem_of_getElem? (i := 770) (by decide +kernel), List.mem_of_getElem? (i := 771) (by decide +kernel)⟩
theorem lw_p22 : lw_okq (⟨"SkittleStringsModel", "isPlayer", "(I)Z"⟩, 15) := ⟨⟨by decide +kernel, by decide +kernel⟩, List.mem_of_getElem? (i := 547) (by decide +kernel), List.mem_of_getElem? (i := 774) (by decide +kernel), List.mem_of_getElem? (i := 775) (by decide +kernel)⟩
theorem lw_p23 : lw_okq (⟨"SkittleStringsModel", "best", "()I"⟩, 15) := ⟨⟨by decide +kernel, by decide +kernel⟩, List.mem_of_getElem? (i := 547) (by decide +kernel), List.mem_of_getElem? (i := 814) (by decide +kernel), List.mem_of_getElem? (i := 815) (by decide +kernel)⟩
theorem lw_p24 : lw_okq (⟨"SkittleStringsModel", "clear", "()I"⟩, 15) := ⟨⟨by decide +kernel, by decide +kernel⟩, List.mem_of_getElem? (i := 547) (by decide +kernel), List.mem_of_getElem? (i := 822) (by decide +kernel), List.mem_of_getElem? (i := 823) (by decide +kernel)⟩
def lw_privs_2 : List (MethodName × Nat) := [(⟨"SkittleStringsModel", "points", "(II)I"⟩, 15), (⟨"SkittleStringsModel", "isNot", "(I)Z"⟩, 15), (⟨"SkittleStringsModel", "ok", "(I)I"⟩, 15), (⟨"SkittleStringsModel", "brokenNow", "()I"⟩, 15), (⟨"SkittleStringsModel", "turnNow", "()I"⟩, 15), (⟨"SkittleStringsModel", "of", "(I[I)I"⟩, 15), (⟨"SkittleStringsModel", "isPlayer", "(I)Z"⟩, 15), (⟨"SkittleStringsModel", "best", "()I"⟩, 15), (⟨"SkittleStringsModel", "clear", "()I"⟩, 15)]
theorem lw_r2 : ∀ q ∈ lw_privs_2, lw_okq q := List.forall_mem_cons.mpr ⟨lw_p16, List.forall_mem_cons.mpr ⟨lw_p17, List.forall_mem_cons.mpr ⟨lw_p18, List.forall_mem_cons.mpr ⟨lw_p19, List.forall_mem_cons.mpr ⟨lw_p20, List.forall_mem_cons.mpr ⟨lw_p21, List.forall_mem_cons.mpr ⟨lw_p22, List.forall_mem_cons.mpr ⟨lw_p23, List.forall_mem_cons.mpr ⟨lw_p24, fun _ h => absurd h List.not_mem_nil⟩⟩⟩⟩⟩⟩⟩⟩⟩
def lw_privs : List (MethodName × Nat) := lw_privs_1 ++ (lw_privs_2)
def lw_tbl : List Cond := k2_sels lw_privs ++ tables_1
theorem lw_privs_ok : ∀ q ∈ lw_privs, lw_okq q := by
  show ∀ q ∈ lw_privs_1 ++ (lw_privs_2), lw_okq q
  exact List.forall_mem_append.mpr ⟨lw_r1, lw_r2⟩
/-- the streams that the claim lets the run draw from -/
abbrev lw_cs : List Choice := [Jvm.Choice.named "NaN.bits"]
theorem lw_bits : nanBits ∈ lw_cs := by first | decide | exact List.mem_cons_self | simp [lw_cs, nanBits]
-- ===== end of PART A; then your names; then what follows =====
/-! ===== BEGIN words of one list among another's, by their places ===== -/
theorem goodIn_r {big : List Cond} (ws : List Cond) (ps : List Nat) (hp : ws = ps.filterMap (fun i => big[i]?)) (h : ws.all goodWord = true) : GoodIn big ws := by
  intro w hw
  have h1 := List.all_eq_true.mp h w hw
  rw [hp] at hw
  obtain ⟨i, -, hi⟩ := List.mem_filterMap.mp hw
  have hm : w ∈ big := by first | exact List.mem_of_getElem? hi | exact List.getElem?_mem hi
  exact ⟨hm, good_of_word h1⟩
theorem goodIn_app {big a b : List Cond} (ha : GoodIn big a) (hb : GoodIn big b) : GoodIn big (a ++ b) := fun w h => (List.mem_append.mp h).elim (ha w) (hb w)
theorem goodIn_ca {big a b : List Cond} {c : Cond} (ha : GoodIn big (c :: a)) (hb : GoodIn big b) : GoodIn big (c :: (a ++ b)) := fun w h => (List.mem_cons.mp h).elim (fun e => ha w (List.mem_cons.mpr (Or.inl e))) (fun h => (List.mem_append.mp h).elim (fun h => ha w (List.mem_cons.mpr (Or.inr h))) (hb w))
theorem goodIn_sub {big ws : List Cond} (hm : ∀ w ∈ ws, w ∈ big) (h : ws.all goodWord = true) : GoodIn big ws := fun w hw => ⟨hm w hw, good_of_word (List.all_eq_true.mp h w hw)⟩
/-! ===== END ===== -/

/-! ===== BEGIN exceptions that leave a method, and their catching by the caller (launches without stack traces) ===== -/
section VXA
/-! The laws vx_back, vx_callV, vx_callS, vx_callSW, vx_throw0, vx_throwS follow proofs of the library, with one case more: JvmDerived/Free/Laws.lean (Back.of_free), Shelf42/LK1.lean (callV, callS), Shelf/KitTraced.lean (throwNew0V, throwNewS). -/
/-- where a method has thrown q: the class by its name, the cell, what was written, the world -/
def vx_T (XC : String → State → State → Prop) (st : State) (q : Addr) (t : State) (mc ms : Nat) (free : Addr → Prop) : Prop :=
  ∃ (E : String) (ce : Cell) (L : List Loc), XC E st t ∧ t.heap[q]? = some ce ∧ ce.vm = .none ∧ st.vm.findClass E = some ce.cls ∧ st.WarmedH t.vm ∧ st.sameButNew ({ t with vm := st.vm } : State) L mc ms ∧ ∀ z ∈ L, free z.base
def vx_Q (Qc : Array Value → State → Outcome → State → Prop) (XC : String → State → State → Prop) (mc ms : Nat) (free : Addr → Prop) : Array Value → State → Outcome → State → Prop := fun a st o t =>
  (Qc a st o t ∧ ∃ L, FrameEnd st o t L mc ms ∧ ∀ q ∈ L, free q.base) ∨ ∃ q, o = .threw q ∧ vx_T XC st q t mc ms free
/-- a callee that returns or throws -/
def vx_Met (l : Launch) (y : MethodName) (ws : List Cond) (rm : Room) (Pc : Array Value → State → Prop) (Qc : Array Value → State → Outcome → State → Prop) (XC : String → State → State → Prop) (mc ms : Nat) (free : Addr → Prop) : Prop :=
  MetFree l y (headSpec ws rm) Pc (fun _ _ _ _ _ => True) (vx_Q Qc XC mc ms free)
def vx_Post (XC : String → State → State → Prop) (mc ms : Nat) (free : Addr → Prop) : Pt → Array Value → Addr → Pt → Prop := fun A a q B =>
  ∃ (g : JFrame) (mk : MethodId) (t : State) (L : List Loc) (E : String) (ce : Cell), B.U.heap = t.heap ∧ B.U.vm = t.vm ∧ XC E (A.U.calling g mk a) t ∧ t.heap[q]? = some ce ∧ ce.vm = .none ∧ A.U.vm.findClass E = some ce.cls ∧ B.locs = A.locs ++ L ∧ (∀ z ∈ L, free z.base) ∧ B.cells = A.cells + mc ∧ B.slots = A.slots + ms
def vx_Back (l : Launch) (R : Room) (p : Program) (e : Env) (below : List Frame) (s : State) (sargs : Array Value) (y : MethodName) (len W9 : Nat)
    (Pre : Pt → Array Value → Prop) (Post : Pt → Array Value → Option Value → Pt → Prop) (PostX : Pt → Array Value → Addr → Pt → Prop) : Prop :=
  ∀ (m : MethodId) (meth : Method) (c : Code) (A : Pt) (g : JFrame) (ig : Instr) (mk : MethodId) (a : Array Value),
    Stand p l e R s m sargs below meth c A.U A.locs A.cells A.slots → g.method = m → g.locals.size = c.maxLocals → decode c.code g.pc = .ok (ig, len) →
    2 * g.monitorRoom + (g.stack.map fun v => v.category).sum ≤ W9 → A.U.methodNamed? y = some mk → Pre A a →
    (∃ (v : Option Value) (B : Pt), Stand p l e R s m sargs below meth c B.U B.locs B.cells B.slots ∧ Post A a v B ∧
      Steps p.tables e below (doInvoke e (A.U.setTop g) [] mk a).1 (B.U.setTop { g with pc := g.pc + len, stack := v.toList ++ g.stack })) ∨
    (∃ (q : Addr) (B : Pt), Stand p l e R s m sargs below meth c B.U B.locs B.cells B.slots ∧ PostX A a q B ∧
      Steps p.tables e below (doInvoke e (A.U.setTop g) [] mk a).1 ((B.U.setTop g).pushFrame (.throwing q)))
section Payer
variable {l : Launch} {R : Room} {p : Program} {e : Env} {below : List Frame} {s : State} {sargs : Array Value} {y : MethodName} {len W9 : Nat}
theorem vx_back {ws : List Cond} {rm : Room} {Pc : Array Value → State → Prop} {Qc : Array Value → State → Outcome → State → Prop} {XC : String → State → State → Prop} {mc ms : Nat} {free : Addr → Prop} {bytes : ByteArray} {maxL : Nat} {ret : Option FieldType}
    (hM : vx_Met l y ws rm Pc Qc XC mc ms free) (hblind : FrameBlind Pc) (hrc : rm.cells = mc) (hrs : rm.slots = ms)
    (hframes : rm.frames + 1 ≤ R.frames) (hlocals : W9 + (maxL + 11) + rm.locals ≤ R.locals)
    (hws : ∀ w ∈ ws, ∀ a' U, s.WarmedH U.vm → w.before a' U = true) (hcode : Cond.code y bytes maxL ret ∈ ws) (hinit : ∀ a' U, s.WarmedH U.vm → (Cond.initialized y.cls).before a' U = true) :
    vx_Back l R p e below s sargs y len W9 (PreOf R mc ms Pc) (PostOf Qc mc ms free) (vx_Post XC mc ms free) := by
  intro m meth c A g ig mk a X hg hsize hdg hW hn hp
  have h1 : (headSpec ws rm).pre.before a A.U = true := atoms_intro fun w hw => hws w hw _ _ X.warmed
  have h2 : (Cond.code y bytes maxL ret).before a A.U = true := hws _ hcode _ _ X.warmed
  have h3 : (Cond.initialized y.cls).before a A.U = true := hinit _ _ X.warmed
  have h4 : A.cells + (headSpec ws rm).room.cells ≤ R.cells := by rw [show (headSpec ws rm).room.cells = mc from hrc]; exact hp.1
  have h5 : A.slots + (headSpec ws rm).room.slots ≤ R.slots := by rw [show (headSpec ws rm).room.slots = ms from hrs]; exact hp.2.1
  have hPc : Pc a (A.U.calling g mk a) := hblind _ _ _ _ hp.2.2
  obtain ⟨U, Ls, c0, s0⟩ := A
  dsimp only [Pt.U, Pt.locs, Pt.cells, Pt.slots] at h1 h2 h3 h4 h5 X hn hPc ⊢
  obtain ⟨methY, cY, hmY, hcY, -, hlY, -, -, -, -⟩ := Cond.code_spec hn h2
  obtain ⟨kY, hkY, -⟩ := className_of_methodNamed hn
  have hinitY : kY.init = .initialized := Cond.initialized_spec (findClass_of_methodNamed hn) hkY h3
  have h : At U g.method c below := by rw [hg]; exact X.here
  have hlocals9 : W9 + (maxL + 11) + (headSpec ws rm).room.locals ≤ R.locals := hlocals
  have happ : (headSpec ws rm).appliesLoose y e.platform (U.calling g mk a) = true :=
    Spec.appliesLoose_calling (g := g) h hdg hn hkY hinitY
      (X.room_calling (g := g) (R' := (headSpec ws rm).room) hsize hmY hcY hframes (by rw [hlY]; omega) h4 h5) h1
  obtain ⟨mid, hmid⟩ := h.above
  have hfr : (U.setTop g).frames = (.java g :: mid) ++ below := by rw [State.frames_setTop' g h.top, hmid]; rfl
  obtain ⟨o, s₂, hsteps, -, hend, hq⟩ := Steps.callFree hM p X.admits X.cas X.clock (acts := []) hfr happ hPc trivial
  have hq' : vx_Q Qc XC mc ms free a (U.calling g mk a) o s₂ := hq
  rw [State.frames_setTop' g h.top] at hend
  obtain ⟨g₀, hg0⟩ := Option.isSome_iff_exists.mp h.top
  obtain ⟨r, hr⟩ := State.topJava?_eq_some.mp hg0
  have hr' : (({ U with heap := s₂.heap, slotsUsed := s₂.slotsUsed } : State).setVm s₂.vm).frames = .java g₀ :: r := hr
  rcases hq' with ⟨hqc, L, hfe, hL⟩ | ⟨q, rfl, E, ce, L, hx, hce, hcv, hcl, hW₂, hsm, hL⟩
  · obtain ⟨⟨v, rfl⟩, hW₂, e2, q2, q3, q4, q5, q6⟩ := id hfe
    have e3 : s₂ = ({ (U.calling g mk a).setFrames s₂.frames with heap := s₂.heap, slotsUsed := s₂.slotsUsed } : State).setVm s₂.vm := by
      have : s₂ = ({ s₂ with vm := (U.calling g mk a).vm } : State).setVm s₂.vm := rfl
      rw [e2] at this
      exact this
    obtain ⟨c₂, i₂, len₂, hc₂, hd₂, hf₂⟩ := hend
    have hW' : U.WarmedH s₂.vm := hW₂
    have hcc : c₂ = c := by
      have h1 : s₂.code? g.method = U.code? g.method := by
        rw [State.code?_eq, State.code?_eq, hW'.alike.method?]
      exact Option.some.inj (hc₂.symm.trans (h1.trans h.code))
    subst hcc
    have hlen : len₂ = len := by rw [hdg] at hd₂; cases hd₂; rfl
    subst hlen
    have hs₂ : s₂ = (({ U with heap := s₂.heap, slotsUsed := s₂.slotsUsed } : State).setVm s₂.vm).setTop { g with pc := g.pc + len₂, stack := v.toList ++ g.stack } := by
      refine e3.trans ?_
      rw [hf₂, State.calling_eq h.top, State.setFrames_setFrames, State.setTop_of_frames _ hr', hr]
      rfl
    have hsame : U.sameButNew ({ U with heap := s₂.heap, slotsUsed := s₂.slotsUsed } : State) L mc ms := by
      refine ⟨?_, q2, q3, q4, q5, q6⟩
      obtain ⟨t, ht, -⟩ := State.frames_cons hr
      show ({ U with heap := s₂.heap, slotsUsed := s₂.slotsUsed } : State) = { U.setFrames U.frames with heap := s₂.heap, slotsUsed := s₂.slotsUsed }
      rw [State.setFrames_self ht]
    subst hg
    refine Or.inl ⟨v, ⟨(({ U with heap := s₂.heap, slotsUsed := s₂.slotsUsed } : State).setVm s₂.vm), Ls ++ L, c0 + mc, s0 + ms⟩,
      ⟨X.admits, X.cas, X.clock, X.frames, X.room, X.hears, X.method, X.code, (X.here.setHeapUsed s₂.heap s₂.slotsUsed).setVm hW'.alike, X.tail, State.WarmedH.trans X.warmed hW', X.limits, X.bytes, X.same.trans (hsame.setVm s.vm)⟩,
      ⟨g, mk, s₂, L, rfl, rfl, hqc, rfl, hL, rfl, rfl⟩, ?_⟩
    show Steps p.tables e below _ ((({ U with heap := s₂.heap, slotsUsed := s₂.slotsUsed } : State).setVm s₂.vm).setTop { g with pc := g.pc + len₂, stack := v.toList ++ g.stack })
    rw [← hs₂]
    exact hsteps
  · obtain ⟨e2, q2, q3, q4, q5, q6⟩ := id hsm
    have e3 : s₂ = ({ (U.calling g mk a).setFrames s₂.frames with heap := s₂.heap, slotsUsed := s₂.slotsUsed } : State).setVm s₂.vm := by
      have : s₂ = ({ s₂ with vm := (U.calling g mk a).vm } : State).setVm s₂.vm := rfl
      rw [e2] at this
      exact this
    have hf₂ : s₂.frames = .throwing q :: .java g :: U.frames.tail := hend
    have hW' : U.WarmedH s₂.vm := hW₂
    have hs₂ : s₂ = ((({ U with heap := s₂.heap, slotsUsed := s₂.slotsUsed } : State).setVm s₂.vm).setTop g).pushFrame (.throwing q) := by
      refine e3.trans ?_
      rw [hf₂, State.calling_eq h.top, State.setFrames_setFrames, State.pushFrame, State.frames_setTop _ hr', State.setTop_of_frames _ hr', State.setFrames_setFrames, hr]
      rfl
    have hsame : U.sameButNew ({ U with heap := s₂.heap, slotsUsed := s₂.slotsUsed } : State) L mc ms := by
      refine ⟨?_, q2, q3, q4, q5, q6⟩
      obtain ⟨t, ht, -⟩ := State.frames_cons hr
      show ({ U with heap := s₂.heap, slotsUsed := s₂.slotsUsed } : State) = { U.setFrames U.frames with heap := s₂.heap, slotsUsed := s₂.slotsUsed }
      rw [State.setFrames_self ht]
    subst hg
    refine Or.inr ⟨q, ⟨(({ U with heap := s₂.heap, slotsUsed := s₂.slotsUsed } : State).setVm s₂.vm), Ls ++ L, c0 + mc, s0 + ms⟩,
      ⟨X.admits, X.cas, X.clock, X.frames, X.room, X.hears, X.method, X.code, (X.here.setHeapUsed s₂.heap s₂.slotsUsed).setVm hW'.alike, X.tail, State.WarmedH.trans X.warmed hW', X.limits, X.bytes, X.same.trans (hsame.setVm s.vm)⟩,
      ⟨g, mk, s₂, L, E, ce, rfl, rfl, hx, hce, hcv, hcl, rfl, hL, rfl, rfl⟩, ?_⟩
    show Steps p.tables e below _ (((({ U with heap := s₂.heap, slotsUsed := s₂.slotsUsed } : State).setVm s₂.vm).setTop g).pushFrame (.throwing q))
    rw [← hs₂]
    exact hsteps
end Payer
section Calls
variable {p : Program} {l : Launch} {e : Env} {R : Room} {s : State} {m : MethodId} {args : Array Value} {below : List Frame} {meth : Method} {c : Code} {T : State} {locs : List Loc} {cells slots : Nat}
theorem vx_callV (X : Stand p l e R s m args below meth c T locs cells slots) (hexec : p.tables.exec = Jvm.exec) {own C : String} {index : Nat} {y : MethodName} {bytes : ByteArray} {maxL : Nat} {ret : Option FieldType}
    (hown : s.vm.findClass own = some m.cls) (hlink : (Cond.methodLink own index y).before args s = true) (hinst : (Cond.instanceMethod y).before args s = true) (hsel : (Cond.selects C y y).before args s = true)
    (hcode : (Cond.code y bytes maxL ret).before args s = true) (hy : y.cls ≠ "java/lang/invoke/MethodHandle" ∧ y.cls ≠ "java/lang/invoke/VarHandle")
    {W9 : Nat} {Pre : Pt → Array Value → Prop} {Post : Pt → Array Value → Option Value → Pt → Prop} {PostX : Pt → Array Value → Addr → Pt → Prop} (hK : vx_Back l R p e below s args y 3 W9 Pre Post PostX)
    {b : Addr} {cellB : Cell} (hcell : T.heap[b]? = some cellB) (hobj : cellB.vm.isStatics = false) (hcls : s.vm.findClass C = some cellB.cls)
    {g : JFrame} (hg : g.method = m) (hsize : g.locals.size = c.maxLocals) {argsL rest : List Value} (hlen : ∀ sig, parseMethodDescriptor y.desc = some sig → argsL.length = sig.parameters.length)
    (hstack : g.stack = argsL.reverse ++ .ref b :: rest) (hW : 2 * g.monitorRoom + (rest.map fun v => v.category).sum ≤ W9) (hdg : decode c.code g.pc = .ok (.invokevirtual index, 3))
    (hpre : ∀ vm₁, s.WarmedH vm₁ → Pre ⟨T.setVm vm₁, locs, cells, slots⟩ (Value.ref b :: argsL).toArray) :
    (∃ (v : Option Value) (vm₁ : Vm) (B : Pt), s.WarmedH vm₁ ∧ Stand p l e R s m args below meth c B.U B.locs B.cells B.slots ∧ Post ⟨T.setVm vm₁, locs, cells, slots⟩ (Value.ref b :: argsL).toArray v B ∧
      ∀ target, Steps p.tables e below (B.U.setTop { g with pc := g.pc + 3, stack := v.toList ++ rest }) target → Steps p.tables e below (T.setTop g) target) ∨
    (∃ (q : Addr) (vm₁ : Vm) (B : Pt), s.WarmedH vm₁ ∧ Stand p l e R s m args below meth c B.U B.locs B.cells B.slots ∧ PostX ⟨T.setVm vm₁, locs, cells, slots⟩ (Value.ref b :: argsL).toArray q B ∧
      Steps p.tables e below (T.setTop g) ((B.U.setTop { g with stack := rest }).pushFrame (.throwing q))) := by
  obtain ⟨mk, methM, hnamed, hmethM, hstM, habM⟩ := Cond.instanceMethod_spec hinst
  obtain ⟨methM', cM, hmethM', -, -, -, -, -, -, hsigM⟩ := Cond.code_spec hnamed hcode
  cases hmethM.symm.trans hmethM'
  obtain ⟨c2, r2, m2, q1, q2, q3, q4, kP, hkP, hkPi⟩ := Cond.selects_spec hsel
  cases hcls.symm.trans q1
  cases (State.methodFound?_of_named hnamed hy).symm.trans q2
  cases hnamed.symm.trans q3
  have hselP : selectMethod e.platform s.vm cellB.cls mk = .method mk := by rw [Launch.admits_selectMethod X.admits]; exact q4
  obtain ⟨vm₁, X₁, hstep₁⟩ := X.invokevirtual hexec hown hlink hnamed hmethM hstM hkP hkPi hy (a := b) (cell := cellB) hcell
    (fun z h => by rw [h] at hobj; cases hobj) hselP hmethM habM hkP hkPi (g := g) hg (argsL := argsL) (rest := rest) (hlen _ hsigM) hstack hdg
  rcases hK m meth c ⟨T.setVm vm₁, locs, cells, slots⟩ { g with stack := rest } (.invokevirtual index) mk (Value.ref b :: argsL).toArray X₁ hg hsize hdg hW (X₁.named hnamed) (hpre vm₁ X₁.warmed) with ⟨v, B, X', hpost, hsteps⟩ | ⟨q, B, X', hpost, hsteps⟩
  · exact Or.inl ⟨v, vm₁, B, X₁.warmed, X', hpost, fun target h => hstep₁ _ fun acts => by rw [doInvoke_state]; exact hsteps.trans h⟩
  · exact Or.inr ⟨q, vm₁, B, X₁.warmed, X', hpost, hstep₁ _ fun acts => by rw [doInvoke_state]; exact hsteps⟩
theorem vx_callS (X : Stand p l e R s m args below meth c T locs cells slots) (hexec : p.tables.exec = Jvm.exec) {own : String} {index : Nat} {y : MethodName} {bytes : ByteArray} {maxL : Nat} {ret : Option FieldType}
    (hown : s.vm.findClass own = some m.cls) (hlink : (Cond.methodLink own index y).before args s = true) (hstat : (Cond.static y).before args s = true) (hinit : (Cond.initialized y.cls).before args s = true)
    (hcode : (Cond.code y bytes maxL ret).before args s = true) (hy : y.cls ≠ "java/lang/invoke/MethodHandle" ∧ y.cls ≠ "java/lang/invoke/VarHandle")
    {W9 : Nat} {Pre : Pt → Array Value → Prop} {Post : Pt → Array Value → Option Value → Pt → Prop} {PostX : Pt → Array Value → Addr → Pt → Prop} (hK : vx_Back l R p e below s args y 3 W9 Pre Post PostX)
    {g : JFrame} (hg : g.method = m) (hsize : g.locals.size = c.maxLocals) {argsL rest : List Value} (hlen : ∀ sig, parseMethodDescriptor y.desc = some sig → argsL.length = sig.parameters.length)
    (hstack : g.stack = argsL.reverse ++ rest) (hW : 2 * g.monitorRoom + (rest.map fun v => v.category).sum ≤ W9) (hdg : decode c.code g.pc = .ok (.invokestatic index, 3))
    (hpre : ∀ vm₁, s.WarmedH vm₁ → Pre ⟨T.setVm vm₁, locs, cells, slots⟩ argsL.toArray) :
    (∃ (v : Option Value) (vm₁ : Vm) (B : Pt), s.WarmedH vm₁ ∧ Stand p l e R s m args below meth c B.U B.locs B.cells B.slots ∧ Post ⟨T.setVm vm₁, locs, cells, slots⟩ argsL.toArray v B ∧
      ∀ target, Steps p.tables e below (B.U.setTop { g with pc := g.pc + 3, stack := v.toList ++ rest }) target → Steps p.tables e below (T.setTop g) target) ∨
    (∃ (q : Addr) (vm₁ : Vm) (B : Pt), s.WarmedH vm₁ ∧ Stand p l e R s m args below meth c B.U B.locs B.cells B.slots ∧ PostX ⟨T.setVm vm₁, locs, cells, slots⟩ argsL.toArray q B ∧
      Steps p.tables e below (T.setTop g) ((B.U.setTop { g with stack := rest }).pushFrame (.throwing q))) := by
  obtain ⟨mk, hnamed⟩ := Cond.code_named hcode
  obtain ⟨methM, cM, hmethM, -, -, -, -, -, -, hsigM⟩ := Cond.code_spec hnamed hcode
  have hstatic : methM.isStatic = true := Cond.static_spec hnamed hmethM hstat
  obtain ⟨kP, hkP, -⟩ := className_of_methodNamed hnamed
  have hinitP : kP.init = .initialized := Cond.initialized_spec (findClass_of_methodNamed hnamed) hkP hinit
  obtain ⟨vm₁, X₁, hstep₁⟩ := X.invokestatic hexec hown hlink hnamed hmethM hstatic hkP hinitP hy (g := g) hg (argsL := argsL) (rest := rest) (hlen _ hsigM) hstack hdg
  rcases hK m meth c ⟨T.setVm vm₁, locs, cells, slots⟩ { g with stack := rest } (.invokestatic index) mk argsL.toArray X₁ hg hsize hdg hW (X₁.named hnamed) (hpre vm₁ X₁.warmed) with ⟨v, B, X', hpost, hsteps⟩ | ⟨q, B, X', hpost, hsteps⟩
  · exact Or.inl ⟨v, vm₁, B, X₁.warmed, X', hpost, fun target h => hstep₁ _ fun acts => by rw [doInvoke_state]; exact hsteps.trans h⟩
  · exact Or.inr ⟨q, vm₁, B, X₁.warmed, X', hpost, hstep₁ _ fun acts => by rw [doInvoke_state]; exact hsteps⟩
end Calls
theorem vx_cls {s : State} {T : State} {vm₁ : Vm} {E : String} {k : ClassId} (hW : s.WarmedH vm₁) (h : (T.setVm vm₁).vm.findClass E = some k) : s.vm.findClass E = some k := by
  have h1 : vm₁.findClass E = some k := h
  rw [hW.alike.findClass] at h1
  exact h1
/-- the method's frame g, with q thrown over it -/
def vx_W (p : Program) (l : Launch) (e : Env) (R : Room) (s : State) (m : MethodId) (args : Array Value) (below : List Frame) (meth : Method) (c : Code) (H : Heap) (locs : List Loc) (cells slots : Nat) (Q : State → Prop) (g : JFrame) (q : Addr) : Prop :=
  ∀ T : State, T.heap = H → Stand p l e R s m args below meth c T locs cells slots → ∃ t, Steps p.tables e below ((T.setTop g).pushFrame (.throwing q)) t ∧ Q t
def vx_Run (p : Program) (l : Launch) (e : Env) (R : Room) (s : State) (m : MethodId) (args : Array Value) (below : List Frame) (meth : Method) (c : Code) (H : Heap) (locs : List Loc) (cells slots mc ms : Nat) (g : JFrame) (rest : List Value) (Qa : State → Outcome → State → Prop) (XC : String → State → State → Prop) (free : Addr → Prop) : Prop :=
  ∀ T : State, T.heap = H → Stand p l e R s m args below meth c T locs cells slots →
    (∃ (v : Option Value) (st₀ t T' : State) (L : List Loc), st₀.heap = H ∧ Stand p l e R s m args below meth c T' (locs ++ L) (cells + mc) (slots + ms) ∧ (∀ q ∈ L, free q.base) ∧ T'.heap = t.heap ∧ T'.vm = t.vm ∧ Qa st₀ (.returned v) t ∧
      Goes p e below T g T' { g with pc := g.pc + 3, stack := v.toList ++ rest }) ∨
    (∃ (q : Addr) (st₀ t T' : State) (L : List Loc) (E : String) (ce : Cell), st₀.heap = H ∧ Stand p l e R s m args below meth c T' (locs ++ L) (cells + mc) (slots + ms) ∧ (∀ z ∈ L, free z.base) ∧ T'.heap = t.heap ∧ T'.vm = t.vm ∧ XC E st₀ t ∧ t.heap[q]? = some ce ∧ ce.vm = .none ∧ s.vm.findClass E = some ce.cls ∧
      Steps p.tables e below (T.setTop g) ((T'.setTop { g with stack := rest }).pushFrame (.throwing q)))
def vx_X {S : Type} (px : S → Prop) (B : String → S → State → Prop) (A : Nat → Prop) : String → State → State → Prop := fun E st t => ∃ u : S, px u ∧ B E u t ∧ va_F A st t
section Runs
variable {p : Program} {l : Launch} {e : Env} {R : Room} {s : State} {m : MethodId} {args : Array Value} {below : List Frame} {meth : Method} {c : Code} {H : Heap} {locs : List Loc} {cells slots : Nat}
variable {y : MethodName} {bytes cc : ByteArray} {maxL nL mc ms n index : Nat} {ret : Option FieldType} {ws : List Cond} {rm : Room} {Pc : Array Value → State → Prop} {Qc : Array Value → State → Outcome → State → Prop} {XC : String → State → State → Prop} {free : Addr → Prop} {Ts : List Cond} {own C : String} {b : Addr} {As rest : List Value} {g : JFrame}
theorem vx_callBack (cb : CallB R s args own index y bytes maxL ret ws rm mc ms n) (hM : vx_Met l y ws rm Pc Qc XC mc ms free) (hbl : FrameBlind Pc) : vx_Back l R p e below s args y 3 8 (PreOf R mc ms Pc) (PostOf Qc mc ms free) (vx_Post XC mc ms free) := by
  obtain ⟨hrc, hrs, hfr, hlo, hws, hcw, -, hini, -⟩ := cb
  exact vx_back (bytes := bytes) (maxL := maxL) (ret := ret) hM hbl hrc hrs hfr hlo hws hcw (fun a' U hW => word_at hW (Or.inl (by first | rfl | simp [Cond.onTables, Cond.keeps, Cond.steady])) hini)
theorem vx_runV (S : CallFix p m c cc nL s args Ts own) (hM : vx_Met l y ws rm Pc Qc XC mc ms free) (cw : CallW R s args own C index y bytes maxL ret ws rm mc ms n) (hp : PreV s H C b Pc As)
    (hg : g.method = m) (hn : As.length = n) (hsize : g.locals.size = nL) (hstack : g.stack = As.reverse ++ .ref b :: rest) (hW : 2 * g.monitorRoom + (rest.map fun v => v.category).sum ≤ 8) (hdg : decode cc g.pc = .ok (.invokevirtual index, 3)) (hf : cells + mc ≤ R.cells ∧ slots + ms ≤ R.slots) :
    vx_Run p l e R s m args below meth c H locs cells slots mc ms g rest (Qc (Value.ref b :: As).toArray) XC free := by
  have hK : vx_Back l R p e below s args y 3 8 (PreOf R mc ms Pc) (PostOf Qc mc ms free) (vx_Post XC mc ms free) := vx_callBack cw.1 hM hp.1
  obtain ⟨⟨-, -, -, -, -, -, hcode, -, hy, hlen, hl⟩, hin, hse⟩ := cw
  obtain ⟨hx, hb, hml, ho, -⟩ := S
  obtain ⟨-, ⟨cellB, hcB, hoB, hclB⟩, hPc⟩ := hp
  intro T hT X
  rcases vx_callV X hx (C := C) (bytes := bytes) (maxL := maxL) (ret := ret) ho hl hin hse hcode hy hK (by rw [hT]; exact hcB) hoB hclB hg (hsize.trans hml.symm) (argsL := As) (rest := rest) (fun sig h => hn.trans (hlen sig h)) hstack hW (by rw [hb]; exact hdg)
    (fun vm₁ hW₁ => ⟨hf.1, hf.2, hPc (T.setVm vm₁) hT hW₁⟩) with ⟨v, vm₁, ⟨U', l2, c2, s2⟩, hW₁, X', ⟨g', mk, t, L, e1, e2, hq, h1, hL, h2, h3⟩, st⟩ | ⟨q, vm₁, ⟨U', l2, c2, s2⟩, hW₁, X', ⟨g', mk, t, L, E, ce, e1, e2, hq, hce, hcv, hcl, h1, hL, h2, h3⟩, st⟩
  · dsimp only [Pt.U, Pt.locs, Pt.cells, Pt.slots] at X' e1 e2 h1 h2 h3 st
    subst h1; subst h2; subst h3
    exact Or.inl ⟨v, (T.setVm vm₁).calling g' mk (Value.ref b :: As).toArray, t, U', L, hT, X', hL, e1, e2, hq, st⟩
  · dsimp only [Pt.U, Pt.locs, Pt.cells, Pt.slots] at X' e1 e2 h1 h2 h3 st hcl
    subst h1; subst h2; subst h3
    exact Or.inr ⟨q, (T.setVm vm₁).calling g' mk (Value.ref b :: As).toArray, t, U', L, E, ce, hT, X', hL, e1, e2, hq, hce, hcv, vx_cls hW₁ hcl, st⟩
theorem vx_runS (S : CallFix p m c cc nL s args Ts own) (hM : vx_Met l y ws rm Pc Qc XC mc ms free) (cw : CallB R s args own index y bytes maxL ret ws rm mc ms n ∧ (Cond.static y).before args s = true) (hp : PreS s H Pc As)
    (hg : g.method = m) (hn : As.length = n) (hsize : g.locals.size = nL) (hstack : g.stack = As.reverse ++ rest) (hW : 2 * g.monitorRoom + (rest.map fun v => v.category).sum ≤ 8) (hdg : decode cc g.pc = .ok (.invokestatic index, 3)) (hf : cells + mc ≤ R.cells ∧ slots + ms ≤ R.slots) :
    vx_Run p l e R s m args below meth c H locs cells slots mc ms g rest (Qc As.toArray) XC free := by
  have hK : vx_Back l R p e below s args y 3 8 (PreOf R mc ms Pc) (PostOf Qc mc ms free) (vx_Post XC mc ms free) := vx_callBack cw.1 hM hp.1
  obtain ⟨⟨-, -, -, -, -, -, hcode, hini, hy, hlen, hl⟩, hstt⟩ := cw
  obtain ⟨hx, hb, hml, ho, -⟩ := S
  intro T hT X
  rcases vx_callS X hx (bytes := bytes) (maxL := maxL) (ret := ret) ho hl hstt hini hcode hy hK hg (hsize.trans hml.symm) (argsL := As) (rest := rest) (fun sig h => hn.trans (hlen sig h)) hstack hW (by rw [hb]; exact hdg)
    (fun vm₁ hW₁ => ⟨hf.1, hf.2, hp.2 (T.setVm vm₁) hT hW₁⟩) with ⟨v, vm₁, ⟨U', l2, c2, s2⟩, hW₁, X', ⟨g', mk, t, L, e1, e2, hq, h1, hL, h2, h3⟩, st⟩ | ⟨q, vm₁, ⟨U', l2, c2, s2⟩, hW₁, X', ⟨g', mk, t, L, E, ce, e1, e2, hq, hce, hcv, hcl, h1, hL, h2, h3⟩, st⟩
  · dsimp only [Pt.U, Pt.locs, Pt.cells, Pt.slots] at X' e1 e2 h1 h2 h3 st
    subst h1; subst h2; subst h3
    exact Or.inl ⟨v, (T.setVm vm₁).calling g' mk As.toArray, t, U', L, hT, X', hL, e1, e2, hq, st⟩
  · dsimp only [Pt.U, Pt.locs, Pt.cells, Pt.slots] at X' e1 e2 h1 h2 h3 st hcl
    subst h1; subst h2; subst h3
    exact Or.inr ⟨q, (T.setVm vm₁).calling g' mk As.toArray, t, U', L, E, ce, hT, X', hL, e1, e2, hq, hce, hcv, vx_cls hW₁ hcl, st⟩
end Runs
section Rows
variable {p : Program} {l : Launch} {e : Env} {R : Room} {s : State} {m : MethodId} {args : Array Value} {below : List Frame} {meth : Method} {c : Code} {H : Heap} {locs : List Loc} {cells slots : Nat} {Q : State → Prop}
variable {mc ms : Nat} {free : Addr → Prop} {A0 A1 : Nat → Prop} {H0 : Heap} {a : Array Value} {pc : Nat} {ls : Array Slot} {st0 rest : List Value}
theorem vx_keep {st₀ t T' : State} {L : List Loc} (h0 : st₀.heap = H) (e1 : T'.heap = t.heap) (hS : va_S A0 H0 H locs) (hA : ∀ q, q < H.size → A1 q → A0 q) (hf : ∀ q, free q → A0 q) (hL : ∀ q ∈ L, free q.base) (hF : va_F A1 st₀ t) :
    H.size ≤ T'.heap.size ∧ (∀ q : Nat, q < H.size → ¬ A1 q → T'.heap[q]? = H[q]?) ∧ va_S A0 H0 T'.heap (locs ++ L) := by
  obtain ⟨hz, hk⟩ := hF
  rw [h0] at hz hk
  exact ⟨by rw [e1]; exact hz, fun q h1 h2 => by rw [e1]; exact hk q h1 h2,
    ⟨Nat.le_trans hS.1 (by rw [e1]; exact hz), fun q h1 h2 => by rw [e1, hk q (Nat.lt_of_lt_of_le h1 hS.1) (fun z => h2 (hA q (Nat.lt_of_lt_of_le h1 hS.1) z))]; exact hS.2.1 q h1 h2, fun q hq => by
      rcases List.mem_append.mp hq with h | h
      · exact hS.2.2 q h
      · exact hf _ (hL q h)⟩⟩
theorem vx_calli {S SX : Type} {post : Int32 → S → Prop} {px : SX → Prop} {B : S → State → Prop} {BX : String → SX → State → Prop} {AX : Nat → Prop} (hr : vx_Run p l e R s m args below meth c H locs cells slots mc ms (F0 m pc ls st0) rest (va_Qi post B A1 a) (vx_X px BX AX) free) (hS : va_S A0 H0 H locs) (hA : ∀ q, q < H.size → A1 q → A0 q) (hf : ∀ q, free q → A0 q) (hAX : ∀ q, q < H.size → AX q → A0 q)
    (kx : ∀ (E : String) (ce : Cell) (q9 : Addr) (u : SX) (t : State) (H1 : Heap) (locs1 : List Loc), t.heap = H1 → s.vm.Alike t.vm → px u → BX E u t → H.size ≤ H1.size → (∀ q : Nat, q < H.size → ¬ AX q → H1[q]? = H[q]?) → va_S A0 H0 H1 locs1 → H1[q9]? = some ce → ce.vm = .none → s.vm.findClass E = some ce.cls → vx_W p l e R s m args below meth c H1 locs1 (cells + mc) (slots + ms) Q (F0 m pc ls rest) q9)
    (kk : ∀ (r : Int32) (u : S) (t : State) (H1 : Heap) (locs1 : List Loc), t.heap = H1 → s.vm.Alike t.vm → post r u → B u t → H.size ≤ H1.size → (∀ q : Nat, q < H.size → ¬ A1 q → H1[q]? = H[q]?) → va_S A0 H0 H1 locs1 → W p l e R s m args below meth c H1 locs1 (cells + mc) (slots + ms) Q (F0 m (pc + 3) ls (.int r :: rest))) : W p l e R s m args below meth c H locs cells slots Q (F0 m pc ls st0) := by
  intro T hT X
  rcases hr T hT X with ⟨v, st₀, t, T', L, h0, X', hL, e1, e2, ⟨⟨r, u, hv, hp, hb⟩, hF⟩, st⟩ | ⟨q, st₀, t, T', L, E, ce, h0, X', hL, e1, e2, ⟨u, hp, hb, hF⟩, hce, hcv, hcl, st⟩
  · cases hv
    obtain ⟨k1, k2, k3⟩ := vx_keep h0 e1 hS hA hf hL hF
    obtain ⟨t2, a1, b1⟩ := kk r u t T'.heap (locs ++ L) e1.symm (by rw [← e2]; exact X'.warmed.alike) hp hb k1 k2 k3 T' rfl X'
    exact ⟨t2, st t2 a1, b1⟩
  · obtain ⟨k1, k2, k3⟩ := vx_keep h0 e1 hS hAX hf hL hF
    obtain ⟨t2, a1, b1⟩ := kx E ce q u t T'.heap (locs ++ L) e1.symm (by rw [← e2]; exact X'.warmed.alike) hp hb k1 k2 k3 (by rw [e1]; exact hce) hcv hcl T' rfl X'
    exact ⟨t2, st.trans a1, b1⟩
theorem vx_calll {S SX : Type} {post : Int64 → S → Prop} {px : SX → Prop} {B : S → State → Prop} {BX : String → SX → State → Prop} {AX : Nat → Prop} (hr : vx_Run p l e R s m args below meth c H locs cells slots mc ms (F0 m pc ls st0) rest (va_Ql post B A1 a) (vx_X px BX AX) free) (hS : va_S A0 H0 H locs) (hA : ∀ q, q < H.size → A1 q → A0 q) (hf : ∀ q, free q → A0 q) (hAX : ∀ q, q < H.size → AX q → A0 q)
    (kx : ∀ (E : String) (ce : Cell) (q9 : Addr) (u : SX) (t : State) (H1 : Heap) (locs1 : List Loc), t.heap = H1 → s.vm.Alike t.vm → px u → BX E u t → H.size ≤ H1.size → (∀ q : Nat, q < H.size → ¬ AX q → H1[q]? = H[q]?) → va_S A0 H0 H1 locs1 → H1[q9]? = some ce → ce.vm = .none → s.vm.findClass E = some ce.cls → vx_W p l e R s m args below meth c H1 locs1 (cells + mc) (slots + ms) Q (F0 m pc ls rest) q9)
    (kk : ∀ (r : Int64) (u : S) (t : State) (H1 : Heap) (locs1 : List Loc), t.heap = H1 → s.vm.Alike t.vm → post r u → B u t → H.size ≤ H1.size → (∀ q : Nat, q < H.size → ¬ A1 q → H1[q]? = H[q]?) → va_S A0 H0 H1 locs1 → W p l e R s m args below meth c H1 locs1 (cells + mc) (slots + ms) Q (F0 m (pc + 3) ls (.long r :: rest))) : W p l e R s m args below meth c H locs cells slots Q (F0 m pc ls st0) := by
  intro T hT X
  rcases hr T hT X with ⟨v, st₀, t, T', L, h0, X', hL, e1, e2, ⟨⟨r, u, hv, hp, hb⟩, hF⟩, st⟩ | ⟨q, st₀, t, T', L, E, ce, h0, X', hL, e1, e2, ⟨u, hp, hb, hF⟩, hce, hcv, hcl, st⟩
  · cases hv
    obtain ⟨k1, k2, k3⟩ := vx_keep h0 e1 hS hA hf hL hF
    obtain ⟨t2, a1, b1⟩ := kk r u t T'.heap (locs ++ L) e1.symm (by rw [← e2]; exact X'.warmed.alike) hp hb k1 k2 k3 T' rfl X'
    exact ⟨t2, st t2 a1, b1⟩
  · obtain ⟨k1, k2, k3⟩ := vx_keep h0 e1 hS hAX hf hL hF
    obtain ⟨t2, a1, b1⟩ := kx E ce q u t T'.heap (locs ++ L) e1.symm (by rw [← e2]; exact X'.warmed.alike) hp hb k1 k2 k3 (by rw [e1]; exact hce) hcv hcl T' rfl X'
    exact ⟨t2, st.trans a1, b1⟩
theorem vx_callf {S SX : Type} {post : UInt32 → S → Prop} {px : SX → Prop} {B : S → State → Prop} {BX : String → SX → State → Prop} {AX : Nat → Prop} (hr : vx_Run p l e R s m args below meth c H locs cells slots mc ms (F0 m pc ls st0) rest (va_Qf post B A1 a) (vx_X px BX AX) free) (hS : va_S A0 H0 H locs) (hA : ∀ q, q < H.size → A1 q → A0 q) (hf : ∀ q, free q → A0 q) (hAX : ∀ q, q < H.size → AX q → A0 q)
    (kx : ∀ (E : String) (ce : Cell) (q9 : Addr) (u : SX) (t : State) (H1 : Heap) (locs1 : List Loc), t.heap = H1 → s.vm.Alike t.vm → px u → BX E u t → H.size ≤ H1.size → (∀ q : Nat, q < H.size → ¬ AX q → H1[q]? = H[q]?) → va_S A0 H0 H1 locs1 → H1[q9]? = some ce → ce.vm = .none → s.vm.findClass E = some ce.cls → vx_W p l e R s m args below meth c H1 locs1 (cells + mc) (slots + ms) Q (F0 m pc ls rest) q9)
    (kk : ∀ (r : UInt32) (u : S) (t : State) (H1 : Heap) (locs1 : List Loc), t.heap = H1 → s.vm.Alike t.vm → post r u → B u t → H.size ≤ H1.size → (∀ q : Nat, q < H.size → ¬ A1 q → H1[q]? = H[q]?) → va_S A0 H0 H1 locs1 → W p l e R s m args below meth c H1 locs1 (cells + mc) (slots + ms) Q (F0 m (pc + 3) ls (.float r :: rest))) : W p l e R s m args below meth c H locs cells slots Q (F0 m pc ls st0) := by
  intro T hT X
  rcases hr T hT X with ⟨v, st₀, t, T', L, h0, X', hL, e1, e2, ⟨⟨r, u, hv, hp, hb⟩, hF⟩, st⟩ | ⟨q, st₀, t, T', L, E, ce, h0, X', hL, e1, e2, ⟨u, hp, hb, hF⟩, hce, hcv, hcl, st⟩
  · cases hv
    obtain ⟨k1, k2, k3⟩ := vx_keep h0 e1 hS hA hf hL hF
    obtain ⟨t2, a1, b1⟩ := kk r u t T'.heap (locs ++ L) e1.symm (by rw [← e2]; exact X'.warmed.alike) hp hb k1 k2 k3 T' rfl X'
    exact ⟨t2, st t2 a1, b1⟩
  · obtain ⟨k1, k2, k3⟩ := vx_keep h0 e1 hS hAX hf hL hF
    obtain ⟨t2, a1, b1⟩ := kx E ce q u t T'.heap (locs ++ L) e1.symm (by rw [← e2]; exact X'.warmed.alike) hp hb k1 k2 k3 (by rw [e1]; exact hce) hcv hcl T' rfl X'
    exact ⟨t2, st.trans a1, b1⟩
theorem vx_calld {S SX : Type} {post : UInt64 → S → Prop} {px : SX → Prop} {B : S → State → Prop} {BX : String → SX → State → Prop} {AX : Nat → Prop} (hr : vx_Run p l e R s m args below meth c H locs cells slots mc ms (F0 m pc ls st0) rest (va_Qd post B A1 a) (vx_X px BX AX) free) (hS : va_S A0 H0 H locs) (hA : ∀ q, q < H.size → A1 q → A0 q) (hf : ∀ q, free q → A0 q) (hAX : ∀ q, q < H.size → AX q → A0 q)
    (kx : ∀ (E : String) (ce : Cell) (q9 : Addr) (u : SX) (t : State) (H1 : Heap) (locs1 : List Loc), t.heap = H1 → s.vm.Alike t.vm → px u → BX E u t → H.size ≤ H1.size → (∀ q : Nat, q < H.size → ¬ AX q → H1[q]? = H[q]?) → va_S A0 H0 H1 locs1 → H1[q9]? = some ce → ce.vm = .none → s.vm.findClass E = some ce.cls → vx_W p l e R s m args below meth c H1 locs1 (cells + mc) (slots + ms) Q (F0 m pc ls rest) q9)
    (kk : ∀ (r : UInt64) (u : S) (t : State) (H1 : Heap) (locs1 : List Loc), t.heap = H1 → s.vm.Alike t.vm → post r u → B u t → H.size ≤ H1.size → (∀ q : Nat, q < H.size → ¬ A1 q → H1[q]? = H[q]?) → va_S A0 H0 H1 locs1 → W p l e R s m args below meth c H1 locs1 (cells + mc) (slots + ms) Q (F0 m (pc + 3) ls (.double r :: rest))) : W p l e R s m args below meth c H locs cells slots Q (F0 m pc ls st0) := by
  intro T hT X
  rcases hr T hT X with ⟨v, st₀, t, T', L, h0, X', hL, e1, e2, ⟨⟨r, u, hv, hp, hb⟩, hF⟩, st⟩ | ⟨q, st₀, t, T', L, E, ce, h0, X', hL, e1, e2, ⟨u, hp, hb, hF⟩, hce, hcv, hcl, st⟩
  · cases hv
    obtain ⟨k1, k2, k3⟩ := vx_keep h0 e1 hS hA hf hL hF
    obtain ⟨t2, a1, b1⟩ := kk r u t T'.heap (locs ++ L) e1.symm (by rw [← e2]; exact X'.warmed.alike) hp hb k1 k2 k3 T' rfl X'
    exact ⟨t2, st t2 a1, b1⟩
  · obtain ⟨k1, k2, k3⟩ := vx_keep h0 e1 hS hAX hf hL hF
    obtain ⟨t2, a1, b1⟩ := kx E ce q u t T'.heap (locs ++ L) e1.symm (by rw [← e2]; exact X'.warmed.alike) hp hb k1 k2 k3 (by rw [e1]; exact hce) hcv hcl T' rfl X'
    exact ⟨t2, st.trans a1, b1⟩
theorem vx_callv {S SX : Type} {post : S → Prop} {px : SX → Prop} {B : S → State → Prop} {BX : String → SX → State → Prop} {AX : Nat → Prop} (hr : vx_Run p l e R s m args below meth c H locs cells slots mc ms (F0 m pc ls st0) rest (va_Qv post B A1 a) (vx_X px BX AX) free) (hS : va_S A0 H0 H locs) (hA : ∀ q, q < H.size → A1 q → A0 q) (hf : ∀ q, free q → A0 q) (hAX : ∀ q, q < H.size → AX q → A0 q)
    (kx : ∀ (E : String) (ce : Cell) (q9 : Addr) (u : SX) (t : State) (H1 : Heap) (locs1 : List Loc), t.heap = H1 → s.vm.Alike t.vm → px u → BX E u t → H.size ≤ H1.size → (∀ q : Nat, q < H.size → ¬ AX q → H1[q]? = H[q]?) → va_S A0 H0 H1 locs1 → H1[q9]? = some ce → ce.vm = .none → s.vm.findClass E = some ce.cls → vx_W p l e R s m args below meth c H1 locs1 (cells + mc) (slots + ms) Q (F0 m pc ls rest) q9)
    (kk : ∀ (u : S) (t : State) (H1 : Heap) (locs1 : List Loc), t.heap = H1 → s.vm.Alike t.vm → post u → B u t → H.size ≤ H1.size → (∀ q : Nat, q < H.size → ¬ A1 q → H1[q]? = H[q]?) → va_S A0 H0 H1 locs1 → W p l e R s m args below meth c H1 locs1 (cells + mc) (slots + ms) Q (F0 m (pc + 3) ls (rest))) : W p l e R s m args below meth c H locs cells slots Q (F0 m pc ls st0) := by
  intro T hT X
  rcases hr T hT X with ⟨v, st₀, t, T', L, h0, X', hL, e1, e2, ⟨⟨u, hv, hp, hb⟩, hF⟩, st⟩ | ⟨q, st₀, t, T', L, E, ce, h0, X', hL, e1, e2, ⟨u, hp, hb, hF⟩, hce, hcv, hcl, st⟩
  · cases hv
    obtain ⟨k1, k2, k3⟩ := vx_keep h0 e1 hS hA hf hL hF
    obtain ⟨t2, a1, b1⟩ := kk u t T'.heap (locs ++ L) e1.symm (by rw [← e2]; exact X'.warmed.alike) hp hb k1 k2 k3 T' rfl X'
    exact ⟨t2, st t2 a1, b1⟩
  · obtain ⟨k1, k2, k3⟩ := vx_keep h0 e1 hS hAX hf hL hF
    obtain ⟨t2, a1, b1⟩ := kx E ce q u t T'.heap (locs ++ L) e1.symm (by rw [← e2]; exact X'.warmed.alike) hp hb k1 k2 k3 (by rw [e1]; exact hce) hcv hcl T' rfl X'
    exact ⟨t2, st.trans a1, b1⟩
/-- caught by the row x of this method's table; the rows ahead don't take it -/
theorem vx_catch {own name : String} {E : String} {ce : Cell} {q : Addr} (hown : s.vm.findClass own = some m.cls) (pre : List ExceptionTableEntry) (x : ExceptionTableEntry) (suf : List ExceptionTableEntry) (hsplit : c.exceptionTable.toList = pre ++ x :: suf)
    (hpass : ∀ z ∈ pre, covers z pc = false ∨ (z.catchType ≠ 0 ∧ ∃ nm : String, (Cond.classLink own z.catchType nm).before args s = true ∧ va_Nc E nm s)) (hx : covers x pc = true) (h0 : x.catchType ≠ 0)
    (hlink : (Cond.classLink own x.catchType name).before args s = true) (hcast : (Cond.castable E name).before args s = true) (hcell : H[q]? = some ce) (hv : ce.vm = .none) (hcl : s.vm.findClass E = some ce.cls)
    (kk : W p l e R s m args below meth c H locs cells slots Q (F0 m x.handlerPc ls [.ref q])) : vx_W p l e R s m args below meth c H locs cells slots Q (F0 m pc ls rest) q := by
  intro T hT X
  have hpl : e.platform.magicAccessors = ({} : Platform).magicAccessors := by rw [X.admits.platform]
  obtain ⟨c3, c4, hc3, hc4, hasg⟩ := Cond.castable_spec hcast
  cases Option.some.inj (hc3.symm.trans hcl)
  obtain ⟨c5, hc5, hcl5⟩ := Cond.classLink_spec hown hlink e.platform hpl
  cases Option.some.inj (hc4.symm.trans hc5)
  obtain ⟨vm', X', st⟩ := X.thenCaughtThrough q (g := F0 m pc ls rest) rfl (Steps.refl _) (by rw [hT]; exact hcell) (by rw [hv]; rfl) (by obtain ⟨k9, h9, -⟩ := Vm.findClass_spec hcl; exact ⟨k9, h9⟩) pre x suf hsplit
    (fun z hz => by
      rcases hpass z hz with h | ⟨hz0, nm, hl1, hn1⟩
      · exact Or.inl h
      · obtain ⟨c6, hc6, hcl6⟩ := Cond.classLink_spec hown hl1 e.platform hpl
        obtain ⟨a8, b8, h1, h2, h3⟩ := hn1
        cases Option.some.inj (h1.symm.trans hcl)
        cases Option.some.inj (h2.symm.trans hc6)
        exact Or.inr ⟨hz0, _, hcl6, h3⟩) hx (Or.inr ⟨h0, c4, hcl5, hasg⟩)
  obtain ⟨t, a1, b1⟩ := kk (T.setVm vm') hT X'
  exact ⟨t, st.trans a1, b1⟩
end Rows
section Ends
variable {p : Program} {l : Launch} {e : Env} {R : Room} {s : State} {m : MethodId} {args : Array Value} {below : List Frame} {meth : Method} {c : Code} {H : Heap} {locs : List Loc} {cells slots : Nat} {Q : State → Prop}
variable {mc ms : Nat} {free : Addr → Prop} {A0 A1 : Nat → Prop} {H0 : Heap} {a : Array Value} {ls : Array Slot} {st0 rest : List Value}
variable {Qc : Array Value → State → Outcome → State → Prop} {XC : String → State → State → Prop}
/-- what a body that may throw owes at its end -/
def vx_MQ (below : List Frame) (Qc : Array Value → State → Outcome → State → Prop) (XC : String → State → State → Prop) (a : Array Value) (s : State) (mc ms : Nat) (free : Addr → Prop) : State → Prop := fun t =>
  ∃ o, t.status = .running ∧ Ended t below o ∧ vx_Q Qc XC mc ms free a s o t
theorem vx_ret {g : JFrame} {mc ms : Nat} (k : W p l e R s m args below meth c H locs cells slots (MQ below Qc args s mc ms free) g) : W p l e R s m args below meth c H locs cells slots (vx_MQ below Qc XC args s mc ms free) g := by
  intro T hT X
  obtain ⟨t, a1, o, b1, b2, b3, b4⟩ := k T hT X
  exact ⟨t, a1, o, b1, b2, Or.inl ⟨b3, b4⟩⟩
/-- not caught here: it goes on to the caller -/
theorem vx_widen {g : JFrame} {q : Addr} {k n : Nat} (h1 : cells ≤ k) (h2 : slots ≤ n) (kk : vx_W p l e R s m args below meth c H locs k n Q g q) : vx_W p l e R s m args below meth c H locs cells slots Q g q := fun T hT X => kk T hT (stand_widen X h1 h2)
theorem vx_out {pc : Nat} {E : String} {ce : Cell} {q : Addr} {mc ms : Nat} (hout : ∀ x ∈ c.exceptionTable.toList, covers x pc = false) (hlocks : meth.locks = false) (hcell : H[q]? = some ce) (hv : ce.vm = .none) (hcl : s.vm.findClass E = some ce.cls)
    (hx : ∀ t : State, t.heap = H → s.vm.Alike t.vm → XC E s t) (hf : ∀ z ∈ locs, free z.base) (hc : cells ≤ mc) (hs : slots ≤ ms) :
    vx_W p l e R s m args below meth c H locs cells slots (vx_MQ below Qc XC args s mc ms free) (F0 m pc ls rest) q := by
  intro T hT X
  obtain ⟨st1, hrun, hend, hW, hsm⟩ := X.leaveThrown q (g := F0 m pc ls rest) rfl rfl rfl hout hlocks
  have hcell9 : (T.setFrames (.throwing q :: below)).heap[q]? = some ce := by
    show T.heap[q]? = some ce
    rw [hT]; exact hcell
  exact ⟨_, st1, .threw q, hrun, hend, Or.inr ⟨q, rfl, E, ce, locs, hx _ hT hW.alike, hcell9, hv, hcl, hW, hsm.mono hc hs, hf⟩⟩
theorem vx_frame {U : State} {k n : Nat} (h : s.sameButNew ({ U with vm := s.vm } : State) locs k n) : s.heap.size ≤ U.heap.size ∧ ∀ q : Nat, q < s.heap.size → (∀ z ∈ locs, z.base ≠ q) → U.heap[q]? = s.heap[q]? := by
  obtain ⟨-, h2, -, -, -, h6⟩ := h
  refine ⟨h2, fun q hq hz => ?_⟩
  obtain ⟨c9, e1, e2, e3, e4⟩ := h6 q _ (Array.getElem?_eq_getElem hq)
  have hs : c9.slots = (s.heap[q]).slots := Array.ext_getElem? fun i => e4 i fun hm => hz _ hm rfl
  have h9 : c9 = s.heap[q] := by
    rw [hs] at e2
    exact e2
  have e5 : U.heap[q]? = some c9 := e1
  rw [e5, h9, Array.getElem?_eq_getElem hq]
/-- the words of a throw but the four that speak of the heap -/
def vx_no (w : Cond) : Bool := decide (w ≠ .isRef (.static Bundle.tN "UNASSIGNED_STACK" Bundle.steD)) && decide (w ≠ .isRef (.static Bundle.tN "SUPPRESSED_SENTINEL" Bundle.listD)) && decide (w ≠ .laysStatic Bundle.tN "UNASSIGNED_STACK" Bundle.steD) && decide (w ≠ .laysStatic Bundle.tN "SUPPRESSED_SENTINEL" Bundle.listD)
def vx_at0 (own : String) (ic : Nat) (X : String) (names : List String) : List Cond := (Bundle.ownAtoms0 own ic X names).filter vx_no
def vx_atS (own : String) (ic : Nat) (X : String) (names : List String) : List Cond := (Bundle.ownAtoms own ic X names).filter vx_no
/-- a word that the tables alone decide, or a good one -/
def vx_ot (w : Cond) : Bool := w.onTables || goodWord w
theorem vx_ot_at {args a' : Array Value} {s U : State} {w : Cond} (hW : s.WarmedH U.vm) (hvm : s.vm = U.vm) (hg : vx_ot w = true) (h : w.before args s = true) : w.before a' U = true := by
  simp only [vx_ot, Bool.or_eq_true] at hg
  rcases hg with hg | hg
  · exact va_tabs hg hvm h
  · exact word_at hW (good_of_word hg) h
/-- a list's words: the good ones out of the method's own list, the others by premises of their own -/
theorem vx_hat {args : Array Value} {s : State} {L B : List Cond} (h1 : ∀ w ∈ L.filter goodWord, w.before args s = true) (h2 : ∀ w ∈ L.filter (fun w => !goodWord w), w ∈ B) (h3 : ∀ w ∈ B, w.before args s = true) : ∀ w ∈ L, w.before args s = true := by
  intro w hw
  by_cases g : goodWord w = true
  · exact h1 w (List.mem_filter.mpr ⟨hw, g⟩)
  · refine h3 w (h2 w (List.mem_filter.mpr ⟨hw, ?_⟩))
    show (!goodWord w) = true
    cases hgw : goodWord w
    · rfl
    · exact absurd hgw g
theorem vx_c {args : Array Value} {s : State} {w : Cond} {B : List Cond} (h : w.before args s = true) (t : ∀ w ∈ B, w.before args s = true) : ∀ w' ∈ w :: B, w'.before args s = true := fun w' h' => (List.mem_cons.mp h').elim (fun e => by rw [e]; exact h) (t w')
theorem vx_n {args : Array Value} {s : State} : ∀ w ∈ ([] : List Cond), w.before args s = true := fun _ h => nomatch h
theorem vx_own {args : Array Value} {s : State} {L : List Cond} (h1 : ∀ w ∈ L.filter vx_no, w.before args s = true)
    (hU : (Cond.isRef (.static Bundle.tN "UNASSIGNED_STACK" Bundle.steD)).before args s = true) (hN : (Cond.isRef (.static Bundle.tN "SUPPRESSED_SENTINEL" Bundle.listD)).before args s = true)
    (lU : (Cond.laysStatic Bundle.tN "UNASSIGNED_STACK" Bundle.steD).before args s = true) (lN : (Cond.laysStatic Bundle.tN "SUPPRESSED_SENTINEL" Bundle.listD).before args s = true) : ∀ w ∈ L, w.before args s = true := by
  intro w hw
  by_cases e1 : w = .isRef (.static Bundle.tN "UNASSIGNED_STACK" Bundle.steD)
  · rw [e1]; exact hU
  · by_cases e2 : w = .isRef (.static Bundle.tN "SUPPRESSED_SENTINEL" Bundle.listD)
    · rw [e2]; exact hN
    · by_cases e3 : w = .laysStatic Bundle.tN "UNASSIGNED_STACK" Bundle.steD
      · rw [e3]; exact lU
      · by_cases e4 : w = .laysStatic Bundle.tN "SUPPRESSED_SENTINEL" Bundle.listD
        · rw [e4]; exact lN
        · exact h1 w (List.mem_filter.mpr ⟨hw, by unfold vx_no; rw [decide_eq_true e1, decide_eq_true e2, decide_eq_true e3, decide_eq_true e4]; rfl⟩)
/-- where a static field lies, its class's statics cell in H -/
def vx_L (C n d : String) (A : Nat → Prop) (U : State) (H : Heap) : Prop := ∃ (c : ClassId) (k : Class) (i : Nat) (f : Field) (a : Nat) (cell : Cell), U.vm.findClass C = some c ∧ U.fieldFound? C n d = some (c, k, i, f) ∧ f.isStatic = true ∧ k.statics = some a ∧ H[a]? = some cell ∧ cell.vm.isStatics = true ∧ cell.cls = c ∧ f.slot < cell.slots.size ∧ k.staticTypes[f.slot]? = some f.type ∧ ¬ A a
theorem vx_L.moved {C n d : String} {A : Nat → Prop} {u U : State} {H : Heap} (hvm : u.vm.Alike U.vm) (h : vx_L C n d A u H) : vx_L C n d A U H := by
  obtain ⟨c, k, i, f, a, cell, h1, h2, h3, h4, h5, h6, h7, h8, h9, h10⟩ := h
  obtain ⟨k', hi', he⟩ := State.fieldFound?_setVm hvm h2
  exact ⟨c, k', i, f, a, cell, by rw [hvm.findClass]; exact h1, hi', h3, by rw [he]; exact h4, h5, h6, h7, h8, by rw [he]; exact h9, h10⟩
theorem vx_L.kept {C n d : String} {A : Nat → Prop} {U : State} {H H1 : Heap} (h : vx_L C n d A U H) (hq : ∀ a : Nat, a < H.size → ¬ A a → H1[a]? = H[a]?) : vx_L C n d A U H1 := by
  obtain ⟨c, k, i, f, a, cell, h1, h2, h3, h4, h5, h6, h7, h8, h9, h10⟩ := h
  exact ⟨c, k, i, f, a, cell, h1, h2, h3, h4, by rw [hq a (Array.getElem?_eq_some_iff.mp h5).1 h10]; exact h5, h6, h7, h8, h9, h10⟩
theorem vx_L.narrow {C n d : String} {A B : Nat → Prop} {U : State} {H : Heap} (h : vx_L C n d A U H) (hAB : ∀ q, B q → A q) : vx_L C n d B U H := by
  obtain ⟨c, k, i, f, a, cell, h1, h2, h3, h4, h5, h6, h7, h8, h9, h10⟩ := h
  exact ⟨c, k, i, f, a, cell, h1, h2, h3, h4, h5, h6, h7, h8, h9, fun z => h10 (hAB _ z)⟩
theorem vx_L.word {C n d : String} {A : Nat → Prop} {s : State} {args : Array Value} (h : vx_L C n d A s s.heap) : (Cond.laysStatic C n d).before args s = true := by
  obtain ⟨c, k, i, f, a, cell, h1, h2, h3, h4, h5, h6, h7, h8, h9, -⟩ := h
  show (Cond.laysStatic C n d).holds args s none s [] = true
  exact Cond.laysStatic_of h1 h2 h3 h4 h5 h6 h7 h8 h9
/-- .. and what it holds: null or some reference -/
def vx_Zq (C n d : String) (A : Nat → Prop) (U : State) (H : Heap) : Prop := va_Zq C n d A U H ∧ vx_L C n d A U H
theorem vx_Zq.moved {C n d : String} {A : Nat → Prop} {u U : State} {H : Heap} (hvm : u.vm.Alike U.vm) (h : vx_Zq C n d A u H) : vx_Zq C n d A U H := ⟨va_Zq.moved hvm h.1, vx_L.moved hvm h.2⟩
theorem vx_Zq.kept {C n d : String} {A : Nat → Prop} {U : State} {H H1 : Heap} (h : vx_Zq C n d A U H) (hq : ∀ a : Nat, a < H.size → ¬ A a → H1[a]? = H[a]?) : vx_Zq C n d A U H1 := ⟨va_Zq.kept h.1 hq, vx_L.kept h.2 hq⟩
theorem vx_Zq.narrow {C n d : String} {A B : Nat → Prop} {U : State} {H : Heap} (h : vx_Zq C n d A U H) (hAB : ∀ q, B q → A q) : vx_Zq C n d B U H := ⟨va_Zq.narrow h.1 hAB, vx_L.narrow h.2 hAB⟩
theorem vx_Zqof {args : Array Value} {s : State} {C n d : String} {A : Nat → Prop} (hl : (Cond.laysStatic C n d).before args s = true) (hini : (Cond.initialized C).before args s = true) (h : (Cond.isRef (.static C n d)).before args s = true) (hA : ∀ a : Nat, a < s.heap.size → ¬ A a) : vx_Zq C n d A s s.heap := by
  refine ⟨va_Zqof hl hini h hA, ?_⟩
  obtain ⟨c, k, i, f, a, cell, h1, h2, h3, h4, h5, h6, h7, h8, h9⟩ := Cond.laysStatic_spec hl
  exact ⟨c, k, i, f, a, cell, h1, h2, h3, h4, h5, h6, h7, h8, h9, hA a (Array.getElem?_eq_some_iff.mp h5).1⟩
theorem vx_isRef {C n d : String} {v : Value} {A : Nat → Prop} {s : State} {args : Array Value} (h : va_Z C n d v A s s.heap) (hv : v.isRef = true) : (Cond.isRef (.static C n d)).before args s = true := by
  obtain ⟨cf, kf, fi, f, a, cell, h1, h2, h3, h4, h5, h6, h7, -⟩ := h
  have he : (Term.static C n d).eval args s none [] s = some v := by
    simp [Term.eval, State.fieldNamed?, h1, h2, h4, h5, h6, h7]
  simp only [Cond.before, Cond.holds, Cond.value, he]
  cases v <;> simp_all [Value.isRef]
theorem vx_isRefq {C n d : String} {A : Nat → Prop} {s : State} {args : Array Value} (h : va_Zq C n d A s s.heap) : (Cond.isRef (.static C n d)).before args s = true := by
  rcases h with h | ⟨t, h⟩
  · exact vx_isRef h rfl
  · exact vx_isRef h rfl
/-- the same frame, seen from here: as if the method were called anew in this heap -/
theorem vx_rebase {T : State} (X : Stand p l e R s m args below meth c T locs cells slots) {R' : Room} (hf : R'.frames ≤ R.frames) (hl : R'.locals ≤ R.locals) (hc : cells + R'.cells ≤ R.cells) (hs : slots + R'.slots ≤ R.slots) :
    Stand p l e R' ((T.setVm s.vm).setFrames (.invoking m args :: below)) m args below meth c T [] 0 0 := by
  have htop : (T.setVm s.vm).topJava?.isSome := X.here.top
  have hF : ((T.setVm s.vm).setFrames (.invoking m args :: below)).frames = .invoking m args :: below := State.frames_setFrames _ (State.cur_lt_of_top htop)
  obtain ⟨g₀, hg0⟩ := Option.isSome_iff_exists.mp htop
  obtain ⟨r, hr⟩ := State.topJava?_eq_some.mp hg0
  have hl9 : e.platform.stackLimits (T.setVm s.vm).me = e.platform.stackLimits s.me := X.limits
  have hb9 : (T.setVm s.vm).me.stackBytes = s.me.stackBytes := X.bytes
  refine ⟨X.admits, X.cas, X.clock, hF, ?_, X.hears, X.method, X.code, X.here, X.tail, X.warmed, ?_, ?_, ?_⟩
  · have h := X.room
    have hU : ((T.setVm s.vm).setFrames (.invoking m args :: below)).localsInUse = s.localsInUse := by
      rw [State.localsInUse_invoking hF (meth := meth) (c := c) X.method X.code, State.localsInUse_invoking X.frames X.method X.code]
    simp only [State.hasRoom, Bool.and_eq_true, decide_eq_true_eq] at h ⊢
    obtain ⟨⟨⟨⟨h1, h2, h3, h4, h5, h6⟩, h7⟩, h8⟩, h9⟩ := h
    rw [X.frames, List.length_cons] at h2 h3
    have q1 := X.heapSize
    have q2 := X.used
    simp only [hF, hU, List.length_cons, State.stackLimits_setFrames, State.stackBytes_setFrames, hl9, hb9]
    refine ⟨⟨⟨⟨by omega, by omega, by omega, by omega, by omega, h6⟩, ?_⟩, ?_⟩, X.book⟩
    · show T.heap.size + R'.cells ≤ e.platform.maxCells
      omega
    · show T.slotsUsed + R'.slots ≤ e.platform.maxSlots
      omega
  · rw [State.stackLimits_setFrames]; rfl
  · rw [State.stackBytes_setFrames]; rfl
  · refine ⟨?_, Nat.le_refl _, Nat.le_refl _, ?_, ?_, fun a c9 h9 => ⟨c9, h9, rfl, rfl, fun _ _ => rfl⟩⟩
    · obtain ⟨t, ht, -⟩ := State.frames_cons hr
      show T.setVm s.vm = { ((T.setVm s.vm).setFrames (.invoking m args :: below)).setFrames (T.setVm s.vm).frames with heap := T.heap, slotsUsed := T.slotsUsed }
      rw [State.setFrames_setFrames, State.setFrames_self ht]
      rfl
    · show T.slotsUsed = T.slotsUsed + ((T.heap.toList.drop T.heap.size).map (·.slots.size)).sum
      rw [List.drop_eq_nil_of_le (Nat.le_of_eq Array.length_toList)]
      rfl
    · show ((T.heap.toList.drop T.heap.size).map (·.slots.size)).sum ≤ 0
      rw [List.drop_eq_nil_of_le (Nat.le_of_eq Array.length_toList)]
      exact Nat.le_refl _
/-- 'throw new E()': new; dup; invokespecial; athrow -/
theorem vx_throw0 {cc : ByteArray} {pc : Nat} (hexec : p.tables.exec = Jvm.exec) (hb : c.code = cc) (hl : l.stackTraces = false) {own cls : String} {names : List String} {ik ic mc ms : Nat} {A : Nat → Prop}
    (hown : s.vm.findClass own = some m.cls) (hcls : Bundle.fit cls = true) (hnames : ∀ n ∈ names, Bundle.fit n = true)
    (hk : (Cond.classLink own ik cls).before args s = true) (hini : (Cond.initialized cls).before args s = true) (hat : ∀ w ∈ vx_at0 own ic cls names, w.before args s = true)
    (hgood : ∀ w ∈ Cond.classLink own ik cls :: Cond.initialized cls :: vx_at0 own ic cls names, vx_ot w = true)
    (hU : vx_Zq Bundle.tN "UNASSIGNED_STACK" Bundle.steD A s s.heap) (hN : vx_Zq Bundle.tN "SUPPRESSED_SENTINEL" Bundle.listD A s s.heap) (hS : va_S A s.heap H locs) (hsize : ls.size = c.maxLocals)
    (d0 : decode cc pc = .ok (.new ik, 3)) (d3 : decode cc (pc + 3) = .ok (.dup, 1)) (d4 : decode cc (pc + 4) = .ok (.invokespecial ic, 3)) (d7 : decode cc (pc + 7) = .ok (.athrow, 1))
    (hout : ∀ x ∈ c.exceptionTable.toList, covers x (pc + 7) = false)
    (hRframes : names.length + 3 < R.frames) (hRlocals : (rest.map fun v => v.category).sum + (13 * (names.length + 1) + 42) ≤ R.locals) (hRcells : cells + 1 ≤ R.cells) (hRslots : slots + 6 ≤ R.slots) (hlocks : meth.locks = false)
    (hx : ∀ t : State, s.vm.Alike t.vm → H.size ≤ t.heap.size → (∀ q : Nat, q < H.size → t.heap[q]? = H[q]?) → XC cls s t)
    (hf : ∀ z ∈ locs, free z.base) (hc : cells + 1 ≤ mc) (hs : slots + 6 ≤ ms) :
    W p l e R s m args below meth c H locs cells slots (vx_MQ below Qc XC args s mc ms free) (F0 m pc ls rest) := by
  intro T hT X
  have htr : e.platform.stackTraces = false := (show e.platform.stackTraces = l.stackTraces by rw [X.admits.platform]).trans hl
  have Y := vx_rebase X (R' := { frames := R.frames, locals := R.locals, cells := 1, slots := 6 }) (Nat.le_refl _) (Nat.le_refl _) hRcells hRslots
  obtain ⟨s', hA⟩ : ∃ z, z = (T.setVm s.vm).setFrames (.invoking m args :: below) := ⟨_, rfl⟩
  rw [← hA] at Y
  have hvm : s'.vm = s.vm := by rw [hA]; rfl
  have hhp : s'.heap = H := by rw [hA]; exact hT
  have hW0 : s.WarmedH s'.vm := by rw [hvm]; exact State.WarmedH.refl s
  have hat' : ∀ w ∈ vx_at0 own ic cls names, w.before args s' = true := fun w hw => vx_ot_at hW0 hvm.symm (hgood w (List.mem_cons_of_mem _ (List.mem_cons_of_mem _ hw))) (hat w hw)
  have hk' : (Cond.classLink own ik cls).before args s' = true := vx_ot_at hW0 hvm.symm (hgood _ List.mem_cons_self) hk
  have hini' : (Cond.initialized cls).before args s' = true := vx_ot_at hW0 hvm.symm (hgood _ (List.mem_cons_of_mem _ List.mem_cons_self)) hini
  have hU' : vx_Zq Bundle.tN "UNASSIGNED_STACK" Bundle.steD A s' s'.heap := by rw [hhp]; exact vx_Zq.moved hW0.alike (hU.kept hS.2.1)
  have hN' : vx_Zq Bundle.tN "SUPPRESSED_SENTINEL" Bundle.listD A s' s'.heap := by rw [hhp]; exact vx_Zq.moved hW0.alike (hN.kept hS.2.1)
  have h : ∀ w ∈ Bundle.ownAtoms0 own ic cls names, w.before args s' = true := vx_own hat' (vx_isRefq hU'.1) (vx_isRefq hN'.1) hU'.2.word hN'.2.word
  have hown' : s'.vm.findClass own = some m.cls := by rw [hvm]; exact hown
  have hins : (Cond.instantiable cls 6).before args s' = true := h _ (by simp [Bundle.ownAtoms0])
  obtain ⟨vm₁, cX, kX, hfX, hkX, -, -, X₁, st1⟩ := Y.newCold hexec (own := own) (C := cls) (index := ik) (n := 6) hown' hk' hins hini'
    (g := F0 m pc ls rest) rfl (by rw [hb]; exact d0) (Nat.le_refl _) (Nat.le_refl _)
  generalize hT1 : (T.setVm vm₁).pushCell { cls := cX, slots := kX.instanceTypes.map defaultValue, vm := .none } = T1 at X₁ st1
  have hcat : (Value.ref T.heap.size).category = 1 := rfl
  have hcellA : T1.heap[T.heap.size]? = some (freshCell cX kX) := by rw [← hT1]; exact State.heap_pushCell_size _ _
  have d3' : decode c.code (pc + 3) = .ok (.dup, 1) := by rw [hb]; exact d3
  obtain ⟨U, hsteps, hrun, hend, hW, hsame, ce, hce, hO⟩ := X₁.ctorThrow0 hexec htr (own := own) (cls := cls) (names := names) (ic := ic) hown' hcls hnames h (fun x hx => nomatch hx) hfX hkX hcellA (by rw [hhp, hT]; exact Nat.le_refl _)
    (g := { method := m, pc := pc + 4, locals := ls, stack := .ref T.heap.size :: .ref T.heap.size :: rest, locked := none }) rfl hsize rfl rfl (rest := rest) rfl
    (by rw [hb]; exact d4) (by rw [hb]; exact d7) hout hRframes (by simp only [List.map_cons, List.sum_cons, hcat]; omega) hlocks
  obtain ⟨f1, f2⟩ := vx_frame hsame
  rw [hhp] at f1 f2
  have hWs : s.WarmedH U.vm := State.WarmedH.trans hW0 hW
  have hcl : s.vm.findClass cls = some ce.cls := by
    have h9 := hO.cls
    rw [hvm] at h9
    exact h9
  have hall : s.sameButNew ({ U with vm := s.vm } : State) locs mc ms := by
    subst hA
    obtain ⟨e1, e2⟩ := hsame
    rw [State.setFrames_setFrames] at e1
    have h2 : (T.setVm s.vm).sameButNew ({ U with vm := s.vm } : State) [] (0 + 1) (0 + 6) := ⟨e1, e2⟩
    have h3 := X.same.trans h2
    rw [List.append_nil] at h3
    exact h3.mono hc hs
  refine ⟨U, ?_, .threw T.heap.size, hrun, hend, Or.inr ⟨T.heap.size, rfl, cls, ce, locs, hx U hWs.alike f1 (fun q hq => f2 q hq (fun z hz => nomatch hz)), hce, hO.vm, hcl, hWs, hall, hf⟩⟩
  refine st1 _ ?_
  show Steps p.tables e below (T1.setTop { method := m, pc := pc + 3, locals := ls, stack := .ref T.heap.size :: rest, locked := none }) _
  jvm_step X₁.here [X₁.here.top, hexec, d3', Value.category]
  exact hsteps
/-- 'throw new E("text")': new; dup; ldc; invokespecial; athrow -/
theorem vx_throwS {cc : ByteArray} {pc : Nat} (hexec : p.tables.exec = Jvm.exec) (hb : c.code = cc) (hl : l.stackTraces = false) {own cls text : String} {names : List String} {ik is ic mc ms sa : Nat} {A : Nat → Prop}
    (hown : s.vm.findClass own = some m.cls) (hcls : Bundle.fit cls = true) (hnames : ∀ n ∈ names, Bundle.fit n = true)
    (hk : (Cond.classLink own ik cls).before args s = true) (hini : (Cond.initialized cls).before args s = true) (hstr : vk_R own is text sa s) (hat : ∀ w ∈ vx_atS own ic cls names, w.before args s = true)
    (hgood : ∀ w ∈ Cond.classLink own ik cls :: Cond.initialized cls :: vx_atS own ic cls names, vx_ot w = true)
    (hU : vx_Zq Bundle.tN "UNASSIGNED_STACK" Bundle.steD A s s.heap) (hN : vx_Zq Bundle.tN "SUPPRESSED_SENTINEL" Bundle.listD A s s.heap) (hS : va_S A s.heap H locs) (hsize : ls.size = c.maxLocals)
    (d0 : decode cc pc = .ok (.new ik, 3)) (d3 : decode cc (pc + 3) = .ok (.dup, 1)) (d4 : decode cc (pc + 4) = .ok (.ldc is, 2)) (d6 : decode cc (pc + 6) = .ok (.invokespecial ic, 3)) (d9 : decode cc (pc + 9) = .ok (.athrow, 1))
    (hout : ∀ x ∈ c.exceptionTable.toList, covers x (pc + 9) = false)
    (hRframes : names.length + 3 < R.frames) (hRlocals : (rest.map fun v => v.category).sum + (13 * (names.length + 1) + 43) ≤ R.locals) (hRcells : cells + 1 ≤ R.cells) (hRslots : slots + 6 ≤ R.slots) (hlocks : meth.locks = false)
    (hx : ∀ t : State, s.vm.Alike t.vm → H.size ≤ t.heap.size → (∀ q : Nat, q < H.size → t.heap[q]? = H[q]?) → XC cls s t)
    (hf : ∀ z ∈ locs, free z.base) (hc : cells + 1 ≤ mc) (hs : slots + 6 ≤ ms) :
    W p l e R s m args below meth c H locs cells slots (vx_MQ below Qc XC args s mc ms free) (F0 m pc ls rest) := by
  intro T hT X
  have htr : e.platform.stackTraces = false := (show e.platform.stackTraces = l.stackTraces by rw [X.admits.platform]).trans hl
  have Y := vx_rebase X (R' := { frames := R.frames, locals := R.locals, cells := 1, slots := 6 }) (Nat.le_refl _) (Nat.le_refl _) hRcells hRslots
  obtain ⟨s', hA⟩ : ∃ z, z = (T.setVm s.vm).setFrames (.invoking m args :: below) := ⟨_, rfl⟩
  rw [← hA] at Y
  have hvm : s'.vm = s.vm := by rw [hA]; rfl
  have hhp : s'.heap = H := by rw [hA]; exact hT
  have hW0 : s.WarmedH s'.vm := by rw [hvm]; exact State.WarmedH.refl s
  have hat' : ∀ w ∈ vx_atS own ic cls names, w.before args s' = true := fun w hw => vx_ot_at hW0 hvm.symm (hgood w (List.mem_cons_of_mem _ (List.mem_cons_of_mem _ hw))) (hat w hw)
  have hk' : (Cond.classLink own ik cls).before args s' = true := vx_ot_at hW0 hvm.symm (hgood _ List.mem_cons_self) hk
  have hini' : (Cond.initialized cls).before args s' = true := vx_ot_at hW0 hvm.symm (hgood _ (List.mem_cons_of_mem _ List.mem_cons_self)) hini
  have hU' : vx_Zq Bundle.tN "UNASSIGNED_STACK" Bundle.steD A s' s'.heap := by rw [hhp]; exact vx_Zq.moved hW0.alike (hU.kept hS.2.1)
  have hN' : vx_Zq Bundle.tN "SUPPRESSED_SENTINEL" Bundle.listD A s' s'.heap := by rw [hhp]; exact vx_Zq.moved hW0.alike (hN.kept hS.2.1)
  have h : ∀ w ∈ Bundle.ownAtoms own ic cls names, w.before args s' = true := vx_own hat' (vx_isRefq hU'.1) (vx_isRefq hN'.1) hU'.2.word hN'.2.word
  have hown' : s'.vm.findClass own = some m.cls := by rw [hvm]; exact hown
  have hins : (Cond.instantiable cls 6).before args s' = true := h _ (by simp [Bundle.ownAtoms])
  obtain ⟨vm₁, cX, kX, hfX, hkX, -, -, X₁, st1⟩ := Y.newCold hexec (own := own) (C := cls) (index := ik) (n := 6) hown' hk' hins hini'
    (g := F0 m pc ls rest) rfl (by rw [hb]; exact d0) (Nat.le_refl _) (Nat.le_refl _)
  generalize hT1 : (T.setVm vm₁).pushCell { cls := cX, slots := kX.instanceTypes.map defaultValue, vm := .none } = T1 at X₁ st1
  have hcat : (Value.ref T.heap.size).category = 1 := rfl
  have hcellA : T1.heap[T.heap.size]? = some (freshCell cX kX) := by rw [← hT1]; exact State.heap_pushCell_size _ _
  have d3' : decode c.code (pc + 3) = .ok (.dup, 1) := by rw [hb]; exact d3
  have d4' : decode c.code (pc + 4) = .ok (.ldc is, 2) := by rw [hb]; exact d4
  have hstr' : vk_R own is text sa s' := vk_R.warm hW0 hstr
  obtain ⟨U, hsteps, hrun, hend, hW, hsame, ce, hce, hO⟩ := X₁.ctorThrowS hexec htr (own := own) (cls := cls) (names := names) (ic := ic) hown' hcls hnames h (fun x hx => nomatch hx) hfX hkX hcellA (by rw [hhp, hT]; exact Nat.le_refl _) (msg := .ref sa) rfl
    (g := { method := m, pc := pc + 6, locals := ls, stack := .ref sa :: .ref T.heap.size :: .ref T.heap.size :: rest, locked := none }) rfl hsize rfl rfl (rest := rest) rfl
    (by rw [hb]; exact d6) (by rw [hb]; exact d9) hout hRframes (by simp only [List.map_cons, List.sum_cons, hcat]; omega) hlocks
  obtain ⟨f1, f2⟩ := vx_frame hsame
  rw [hhp] at f1 f2
  have hWs : s.WarmedH U.vm := State.WarmedH.trans hW0 hW
  have hcl : s.vm.findClass cls = some ce.cls := by
    have h9 := hO.cls
    rw [hvm] at h9
    exact h9
  have hall : s.sameButNew ({ U with vm := s.vm } : State) locs mc ms := by
    subst hA
    obtain ⟨e1, e2⟩ := hsame
    rw [State.setFrames_setFrames] at e1
    have h2 : (T.setVm s.vm).sameButNew ({ U with vm := s.vm } : State) [] (0 + 1) (0 + 6) := ⟨e1, e2⟩
    have h3 := X.same.trans h2
    rw [List.append_nil] at h3
    exact h3.mono hc hs
  refine ⟨U, ?_, .threw T.heap.size, hrun, hend, Or.inr ⟨T.heap.size, rfl, cls, ce, locs, hx U hWs.alike f1 (fun q hq => f2 q hq (fun z hz => nomatch hz)), hce, hO.vm, hcl, hWs, hall, hf⟩⟩
  refine st1 _ ?_
  show Steps p.tables e below (T1.setTop { method := m, pc := pc + 3, locals := ls, stack := .ref T.heap.size :: rest, locked := none }) _
  jvm_step X₁.here [X₁.here.top, hexec, d3', Value.category]
  exact X₁.ldcString hexec (own := own) (text := text) (index := is) (a := sa) hown' hstr'.1 hstr'.2
    (g := { method := m, pc := pc + 4, locals := ls, stack := .ref T.heap.size :: .ref T.heap.size :: rest, locked := none }) rfl d4' _ hsteps
/-- 'throw new E("text")', the text by a wide index -/
theorem vx_throwSW {cc : ByteArray} {pc : Nat} (hexec : p.tables.exec = Jvm.exec) (hb : c.code = cc) (hl : l.stackTraces = false) {own cls text : String} {names : List String} {ik is ic mc ms sa : Nat} {A : Nat → Prop}
    (hown : s.vm.findClass own = some m.cls) (hcls : Bundle.fit cls = true) (hnames : ∀ n ∈ names, Bundle.fit n = true)
    (hk : (Cond.classLink own ik cls).before args s = true) (hini : (Cond.initialized cls).before args s = true) (hstr : vk_R own is text sa s) (hat : ∀ w ∈ vx_atS own ic cls names, w.before args s = true)
    (hgood : ∀ w ∈ Cond.classLink own ik cls :: Cond.initialized cls :: vx_atS own ic cls names, vx_ot w = true)
    (hU : vx_Zq Bundle.tN "UNASSIGNED_STACK" Bundle.steD A s s.heap) (hN : vx_Zq Bundle.tN "SUPPRESSED_SENTINEL" Bundle.listD A s s.heap) (hS : va_S A s.heap H locs) (hsize : ls.size = c.maxLocals)
    (d0 : decode cc pc = .ok (.new ik, 3)) (d3 : decode cc (pc + 3) = .ok (.dup, 1)) (d4 : decode cc (pc + 4) = .ok (.ldc_w is, 3)) (d7 : decode cc (pc + 7) = .ok (.invokespecial ic, 3)) (d10 : decode cc (pc + 10) = .ok (.athrow, 1))
    (hout : ∀ x ∈ c.exceptionTable.toList, covers x (pc + 10) = false)
    (hRframes : names.length + 3 < R.frames) (hRlocals : (rest.map fun v => v.category).sum + (13 * (names.length + 1) + 43) ≤ R.locals) (hRcells : cells + 1 ≤ R.cells) (hRslots : slots + 6 ≤ R.slots) (hlocks : meth.locks = false)
    (hx : ∀ t : State, s.vm.Alike t.vm → H.size ≤ t.heap.size → (∀ q : Nat, q < H.size → t.heap[q]? = H[q]?) → XC cls s t)
    (hf : ∀ z ∈ locs, free z.base) (hc : cells + 1 ≤ mc) (hs : slots + 6 ≤ ms) :
    W p l e R s m args below meth c H locs cells slots (vx_MQ below Qc XC args s mc ms free) (F0 m pc ls rest) := by
  intro T hT X
  have htr : e.platform.stackTraces = false := (show e.platform.stackTraces = l.stackTraces by rw [X.admits.platform]).trans hl
  have Y := vx_rebase X (R' := { frames := R.frames, locals := R.locals, cells := 1, slots := 6 }) (Nat.le_refl _) (Nat.le_refl _) hRcells hRslots
  obtain ⟨s', hA⟩ : ∃ z, z = (T.setVm s.vm).setFrames (.invoking m args :: below) := ⟨_, rfl⟩
  rw [← hA] at Y
  have hvm : s'.vm = s.vm := by rw [hA]; rfl
  have hhp : s'.heap = H := by rw [hA]; exact hT
  have hW0 : s.WarmedH s'.vm := by rw [hvm]; exact State.WarmedH.refl s
  have hat' : ∀ w ∈ vx_atS own ic cls names, w.before args s' = true := fun w hw => vx_ot_at hW0 hvm.symm (hgood w (List.mem_cons_of_mem _ (List.mem_cons_of_mem _ hw))) (hat w hw)
  have hk' : (Cond.classLink own ik cls).before args s' = true := vx_ot_at hW0 hvm.symm (hgood _ List.mem_cons_self) hk
  have hini' : (Cond.initialized cls).before args s' = true := vx_ot_at hW0 hvm.symm (hgood _ (List.mem_cons_of_mem _ List.mem_cons_self)) hini
  have hU' : vx_Zq Bundle.tN "UNASSIGNED_STACK" Bundle.steD A s' s'.heap := by rw [hhp]; exact vx_Zq.moved hW0.alike (hU.kept hS.2.1)
  have hN' : vx_Zq Bundle.tN "SUPPRESSED_SENTINEL" Bundle.listD A s' s'.heap := by rw [hhp]; exact vx_Zq.moved hW0.alike (hN.kept hS.2.1)
  have h : ∀ w ∈ Bundle.ownAtoms own ic cls names, w.before args s' = true := vx_own hat' (vx_isRefq hU'.1) (vx_isRefq hN'.1) hU'.2.word hN'.2.word
  have hown' : s'.vm.findClass own = some m.cls := by rw [hvm]; exact hown
  have hins : (Cond.instantiable cls 6).before args s' = true := h _ (by simp [Bundle.ownAtoms])
  obtain ⟨vm₁, cX, kX, hfX, hkX, -, -, X₁, st1⟩ := Y.newCold hexec (own := own) (C := cls) (index := ik) (n := 6) hown' hk' hins hini'
    (g := F0 m pc ls rest) rfl (by rw [hb]; exact d0) (Nat.le_refl _) (Nat.le_refl _)
  generalize hT1 : (T.setVm vm₁).pushCell { cls := cX, slots := kX.instanceTypes.map defaultValue, vm := .none } = T1 at X₁ st1
  have hcat : (Value.ref T.heap.size).category = 1 := rfl
  have hcellA : T1.heap[T.heap.size]? = some (freshCell cX kX) := by rw [← hT1]; exact State.heap_pushCell_size _ _
  have d3' : decode c.code (pc + 3) = .ok (.dup, 1) := by rw [hb]; exact d3
  have d4' : decode c.code (pc + 4) = .ok (.ldc_w is, 3) := by rw [hb]; exact d4
  have hstr' : vk_R own is text sa s' := vk_R.warm hW0 hstr
  obtain ⟨U, hsteps, hrun, hend, hW, hsame, ce, hce, hO⟩ := X₁.ctorThrowS hexec htr (own := own) (cls := cls) (names := names) (ic := ic) hown' hcls hnames h (fun x hx => nomatch hx) hfX hkX hcellA (by rw [hhp, hT]; exact Nat.le_refl _) (msg := .ref sa) rfl
    (g := { method := m, pc := pc + 7, locals := ls, stack := .ref sa :: .ref T.heap.size :: .ref T.heap.size :: rest, locked := none }) rfl hsize rfl rfl (rest := rest) rfl
    (by rw [hb]; exact d7) (by rw [hb]; exact d10) hout hRframes (by simp only [List.map_cons, List.sum_cons, hcat]; omega) hlocks
  obtain ⟨f1, f2⟩ := vx_frame hsame
  rw [hhp] at f1 f2
  have hWs : s.WarmedH U.vm := State.WarmedH.trans hW0 hW
  have hcl : s.vm.findClass cls = some ce.cls := by
    have h9 := hO.cls
    rw [hvm] at h9
    exact h9
  have hall : s.sameButNew ({ U with vm := s.vm } : State) locs mc ms := by
    subst hA
    obtain ⟨e1, e2⟩ := hsame
    rw [State.setFrames_setFrames] at e1
    have h2 : (T.setVm s.vm).sameButNew ({ U with vm := s.vm } : State) [] (0 + 1) (0 + 6) := ⟨e1, e2⟩
    have h3 := X.same.trans h2
    rw [List.append_nil] at h3
    exact h3.mono hc hs
  refine ⟨U, ?_, .threw T.heap.size, hrun, hend, Or.inr ⟨T.heap.size, rfl, cls, ce, locs, hx U hWs.alike f1 (fun q hq => f2 q hq (fun z hz => nomatch hz)), hce, hO.vm, hcl, hWs, hall, hf⟩⟩
  refine st1 _ ?_
  show Steps p.tables e below (T1.setTop { method := m, pc := pc + 3, locals := ls, stack := .ref T.heap.size :: rest, locked := none }) _
  jvm_step X₁.here [X₁.here.top, hexec, d3', Value.category]
  exact X₁.ldcStringW hexec (own := own) (text := text) (index := is) (a := sa) hown' hstr'.1 hstr'.2
    (g := { method := m, pc := pc + 4, locals := ls, stack := .ref T.heap.size :: .ref T.heap.size :: rest, locked := none }) rfl d4' _ hsteps
end Ends
section Bodies
variable {l : Launch}
theorem vx_ofW {y : MethodName} {ws ws' : List Cond} {rm : Room} {Pc : Array Value → State → Prop} {Qc : Array Value → State → Outcome → State → Prop} {XC : String → State → State → Prop} {mc ms : Nat} {free : Addr → Prop} {cc : ByteArray} {maxL : Nat} {ret : Option FieldType}
    (hy : plainName y.cls = true) (hw : ws = Cond.code y cc maxL ret :: ws')
    (body : ∀ p e s m args below meth c s₁, BodyLoose p l y (headSpec ws rm) cc maxL ret e s m args below meth c s₁ → c.maxLocals = maxL → (∀ x ∈ c.exceptionTable.toList, False) → Pc args s →
      W p l e (headSpec ws rm).room s m args below meth c s.heap [] 0 0 (vx_MQ below Qc XC args s mc ms free) (entryFrame m args maxL)) : vx_Met l y ws rm Pc Qc XC mc ms free := by
  refine MetFree.of_bodyS (code := cc) (maxLocals := maxL) (ret := ret) hy ?_ ?_
  · intro args s m h hn
    obtain ⟨meth, c, h1, h2, h3, h4, h5, h6, -, -⟩ := Cond.code_spec hn (atoms_spec (ws := ws) h _ (by rw [hw]; exact List.mem_cons_self))
    exact ⟨meth, c, h1, h2, h3, h4, h5, h6⟩
  · intro p e s m args below meth c s₁ B hml hP _
    have hh0 : s₁.heap = s.heap := by rw [B.state]; rfl
    have ht : ∀ x ∈ c.exceptionTable.toList, False := by
      obtain ⟨meth9, c9, h1, h2, -, -, -, -, h7, -⟩ := Cond.code_spec B.named (atoms_spec (ws := ws) B.pre _ (by rw [hw]; exact List.mem_cons_self))
      cases Option.some.inj (h1.symm.trans B.method)
      cases Option.some.inj (h2.symm.trans (Stand.of_body B).code)
      intro x hx
      rw [Array.isEmpty_iff.mp h7] at hx
      cases hx
    obtain ⟨t, a1, o, b1, b2, b3⟩ := body p e s m args below meth c s₁ B hml ht hP s₁ hh0 (Stand.of_body B)
    exact ⟨t, o, a1, b1, b2, b3⟩
/-- the table of a body with handlers -/
theorem vx_table {p : Program} {x y : MethodName} {S : Spec} {cc bytes : ByteArray} {maxL maxL' : Nat} {ret ret' : Option FieldType} {e : Env} {s s₁ : State} {m : MethodId} {args : Array Value} {below : List Frame} {meth : Method} {c : Code} {hh : List (Nat × Nat × Nat × Nat)}
    (B : BodyLoose p l y S cc maxL ret e s m args below meth c s₁) (h : (Cond.codeWith y bytes maxL' ret' hh).before args s = true) : c.exceptionTable.toList = tableOf hh := by
  obtain ⟨m9, meth9, c9, hn9, h1, h2, -, -, h6, -⟩ := Cond.codeWith_spec h
  cases Option.some.inj (hn9.symm.trans B.named)
  cases Option.some.inj (h1.symm.trans B.method)
  cases Option.some.inj (h2.symm.trans (Stand.of_body B).code)
  rw [← h6, table_eq]
end Bodies
end VXA
/-! ===== END ===== -/
/-! ===== BEGIN a static call of a method with an exception table ===== -/
section VXS
variable {p : Program} {l : Launch} {e : Env} {R : Room} {s : State} {m : MethodId} {args : Array Value} {below : List Frame} {meth : Method} {c : Code} {T : State} {H : Heap} {locs : List Loc} {cells slots : Nat}
abbrev vx_CSW (R : Room) (s : State) (args : Array Value) (own : String) (index : Nat) (y : MethodName) (bytes : ByteArray) (maxL : Nat) (ret : Option FieldType) (hh : List (Nat × Nat × Nat × Nat)) (ws : List Cond) (rm : Room) (mc ms n : Nat) : Prop :=
  (rm.cells = mc ∧ rm.slots = ms ∧ rm.frames + 1 ≤ R.frames ∧ 8 + (maxL + 11) + rm.locals ≤ R.locals ∧ (∀ w ∈ ws, ∀ (a' : Array Value) (U : State), s.WarmedH U.vm → w.before a' U = true) ∧ Cond.codeWith y bytes maxL ret hh ∈ ws) ∧
  (Cond.codeWith y bytes maxL ret hh).before args s = true ∧ (Cond.initialized y.cls).before args s = true ∧ (y.cls ≠ "java/lang/invoke/MethodHandle" ∧ y.cls ≠ "java/lang/invoke/VarHandle") ∧
  (∀ sig, parseMethodDescriptor y.desc = some sig → n = sig.parameters.length) ∧ (Cond.methodLink own index y).before args s = true ∧ (Cond.static y).before args s = true
theorem vx_cwSW {own : String} {index maxL mc ms : Nat} {y : MethodName} {bytes : ByteArray} {ret : Option FieldType} {hh : List (Nat × Nat × Nat × Nat)} {Ts ws ws' : List Cond} {rm : Room} (n : Nat) (ht : ∀ w ∈ Ts, w.before args s = true) (hT : GoodIn Ts (va_wsS own index y ws)) (hw : ws = Cond.codeWith y bytes maxL ret hh :: ws') (hrc : rm.cells = mc) (hrs : rm.slots = ms)
    (hd : y.cls ≠ "java/lang/invoke/MethodHandle" ∧ y.cls ≠ "java/lang/invoke/VarHandle" ∧ (parseMethodDescriptor y.desc).map (fun d => d.parameters.length) = some n) (hR : rm.frames + 1 ≤ R.frames ∧ 8 + (maxL + 11) + rm.locals ≤ R.locals) :
    vx_CSW R s args own index y bytes maxL ret hh ws rm mc ms n := by
  have ok : ∀ w ∈ va_wsS own index y ws, w.before args s = true := fun w h => ht w (hT w h).1
  have hG : GoodIn Ts ws := fun w h => hT w (by unfold va_wsS; exact List.mem_append_right _ h)
  have hc : Cond.codeWith y bytes maxL ret hh ∈ ws := by rw [hw]; exact List.mem_cons_self
  refine ⟨⟨hrc, hrs, hR.1, hR.2, pay_in ht hG, hc⟩, ht _ (hG _ hc).1, ok _ (by simp [va_wsS]), ⟨hd.1, hd.2.1⟩, fun sig h => ?_, ok _ (by simp [va_wsS]), ok _ (by simp [va_wsS])⟩
  have h2 := hd.2.2
  rw [h] at h2
  exact (Option.some.inj h2).symm
theorem vx_callSW (X : Stand p l e R s m args below meth c T locs cells slots) (hexec : p.tables.exec = Jvm.exec) {own : String} {index : Nat} {y : MethodName} {bytes : ByteArray} {maxL : Nat} {ret : Option FieldType} {hh : List (Nat × Nat × Nat × Nat)}
    (hown : s.vm.findClass own = some m.cls) (hlink : (Cond.methodLink own index y).before args s = true) (hstat : (Cond.static y).before args s = true) (hinit : (Cond.initialized y.cls).before args s = true)
    (hcode : (Cond.codeWith y bytes maxL ret hh).before args s = true) (hy : y.cls ≠ "java/lang/invoke/MethodHandle" ∧ y.cls ≠ "java/lang/invoke/VarHandle")
    {W9 : Nat} {Pre : Pt → Array Value → Prop} {Post : Pt → Array Value → Option Value → Pt → Prop} (hK : Back l R p e below s args y 3 W9 Pre Post)
    {g : JFrame} (hg : g.method = m) (hsize : g.locals.size = c.maxLocals) {argsL rest : List Value} (hlen : ∀ sig, parseMethodDescriptor y.desc = some sig → argsL.length = sig.parameters.length)
    (hstack : g.stack = argsL.reverse ++ rest) (hW : 2 * g.monitorRoom + (rest.map fun v => v.category).sum ≤ W9) (hdg : decode c.code g.pc = .ok (.invokestatic index, 3))
    (hpre : ∀ vm₁, s.WarmedH vm₁ → Pre ⟨T.setVm vm₁, locs, cells, slots⟩ argsL.toArray) :
    ∃ (v : Option Value) (vm₁ : Vm) (B : Pt), s.WarmedH vm₁ ∧ Stand p l e R s m args below meth c B.U B.locs B.cells B.slots ∧ Post ⟨T.setVm vm₁, locs, cells, slots⟩ argsL.toArray v B ∧
      ∀ target, Steps p.tables e below (B.U.setTop { g with pc := g.pc + 3, stack := v.toList ++ rest }) target → Steps p.tables e below (T.setTop g) target := by
  obtain ⟨mk, methM, cM, hnamed, hmethM, -, -, -, -, -, -, hsigM⟩ := Cond.codeWith_spec hcode
  have hstatic : methM.isStatic = true := Cond.static_spec hnamed hmethM hstat
  obtain ⟨kP, hkP, -⟩ := className_of_methodNamed hnamed
  have hinitP : kP.init = .initialized := Cond.initialized_spec (findClass_of_methodNamed hnamed) hkP hinit
  obtain ⟨vm₁, X₁, hstep₁⟩ := X.invokestatic hexec hown hlink hnamed hmethM hstatic hkP hinitP hy (g := g) hg (argsL := argsL) (rest := rest) (hlen _ hsigM) hstack hdg
  obtain ⟨v, B, X', hpost, hsteps⟩ := hK m meth c ⟨T.setVm vm₁, locs, cells, slots⟩ { g with stack := rest } (.invokestatic index) mk argsL.toArray X₁ hg hsize hdg hW (X₁.named hnamed) (hpre vm₁ X₁.warmed)
  exact ⟨v, vm₁, B, X₁.warmed, X', hpost, fun target h => hstep₁ _ fun acts => by rw [doInvoke_state]; exact hsteps.trans h⟩
theorem vx_runSW {y : MethodName} {bytes cc : ByteArray} {maxL nL mc ms n index : Nat} {ret : Option FieldType} {hh : List (Nat × Nat × Nat × Nat)} {ws : List Cond} {rm : Room} {Pc : Array Value → State → Prop} {Qc : Array Value → State → Outcome → State → Prop} {free : Addr → Prop} {Ts : List Cond} {own : String} {As rest : List Value} {g : JFrame}
    (S : CallFix p m c cc nL s args Ts own) (hM : Met l y ws rm Pc Qc mc ms free) (cw : vx_CSW R s args own index y bytes maxL ret hh ws rm mc ms n) (hp : PreS s H Pc As)
    (hg : g.method = m) (hn : As.length = n) (hsize : g.locals.size = nL) (hstack : g.stack = As.reverse ++ rest) (hW : 2 * g.monitorRoom + (rest.map fun v => v.category).sum ≤ 8) (hdg : decode cc g.pc = .ok (.invokestatic index, 3)) (hf : cells + mc ≤ R.cells ∧ slots + ms ≤ R.slots) :
    va_Run p l e R s m args below meth c H locs cells slots mc ms g rest (Qc As.toArray) (free) := by
  obtain ⟨⟨hrc, hrs, hfr, hlo, hws, hcw⟩, hcode, hini, hy, hlen, hl, hstt⟩ := cw
  have hK : Back l R p e below s args y 3 8 (PreOf R mc ms Pc) (PostOf Qc mc ms free) := va_backW (hh := hh) (bytes := bytes) (maxL := maxL) (ret := ret) hM hp.1 hrc hrs hfr hlo hws hcw (fun a' U hW => word_at hW (Or.inl (by first | rfl | simp [Cond.onTables, Cond.keeps, Cond.steady])) hini)
  obtain ⟨hx, hb, hml, ho, -⟩ := S
  intro T hT X
  obtain ⟨v, vm₁, ⟨U', l2, c2, s2⟩, hW₁, X', ⟨g', mk, t, L, e1, e2, hq, h1, hL, h2, h3⟩, st⟩ := vx_callSW X hx (hh := hh) (bytes := bytes) (maxL := maxL) (ret := ret) ho hl hstt hini hcode hy hK hg (hsize.trans hml.symm) (argsL := As) (rest := rest) (fun sig h => hn.trans (hlen sig h)) hstack hW (by rw [hb]; exact hdg)
    (fun vm₁ hW₁ => ⟨hf.1, hf.2, hp.2 (T.setVm vm₁) hT hW₁⟩)
  dsimp only [Pt.U, Pt.locs, Pt.cells, Pt.slots] at X' e1 e2 h1 h2 h3 st
  subst h1; subst h2; subst h3
  exact ⟨v, (T.setVm vm₁).calling g' mk As.toArray, t, U', L, hT, X', hL, e1, e2, hq, st⟩
/-- not caught here, past rows that name other classes: it goes on to the caller -/
theorem vx_outP {p : Program} {l : Launch} {e : Env} {R : Room} {s : State} {m : MethodId} {args : Array Value} {below : List Frame} {meth : Method} {c : Code} {H : Heap} {locs : List Loc} {cells slots : Nat} {free : Addr → Prop} {ls : Array Slot} {rest : List Value} {Qc : Array Value → State → Outcome → State → Prop} {XC : String → State → State → Prop}
    {pc : Nat} {own E : String} {ce : Cell} {q : Addr} {mc ms : Nat} (hown : s.vm.findClass own = some m.cls) (hlocks : meth.locks = false)
    (hpass : ∀ z ∈ c.exceptionTable.toList, covers z pc = false ∨ (z.catchType ≠ 0 ∧ ∃ nm : String, (Cond.classLink own z.catchType nm).before args s = true ∧ va_Nc E nm s)) (hcell : H[q]? = some ce) (hv : ce.vm = .none) (hcl : s.vm.findClass E = some ce.cls)
    (hx : ∀ t : State, t.heap = H → s.vm.Alike t.vm → XC E s t) (hf : ∀ z ∈ locs, free z.base) (hc : cells ≤ mc) (hs : slots ≤ ms) :
    vx_W p l e R s m args below meth c H locs cells slots (vx_MQ below Qc XC args s mc ms free) (F0 m pc ls rest) q := by
  intro T hT X
  have hpl : e.platform.magicAccessors = ({} : Platform).magicAccessors := by rw [X.admits.platform]
  obtain ⟨vm', hW', X', st⟩ := X.outThrough hlocks q (g := F0 m pc ls rest) rfl rfl rfl (cell := ce) (by rw [hT]; exact hcell) (by rw [hv]; rfl)
    (by obtain ⟨k9, h9, -⟩ := Vm.findClass_spec hcl; exact ⟨k9, h9⟩) (fun z hz => by
      rcases hpass z hz with h | ⟨hz0, nm, hl1, hn1⟩
      · exact Or.inl h
      · obtain ⟨c6, hc6, hcl6⟩ := Cond.classLink_spec hown hl1 e.platform hpl
        obtain ⟨a8, b8, h1, h2, h3⟩ := hn1
        cases Option.some.inj (h1.symm.trans hcl)
        cases Option.some.inj (h2.symm.trans hc6)
        exact Or.inr ⟨hz0, _, hcl6, h3⟩)
  obtain ⟨g₀, hfr⟩ := X'.frames_eq
  have hcell9 : ((T.setVm vm').setFrames (.throwing q :: below)).heap[q]? = some ce := by
    show T.heap[q]? = some ce
    rw [hT]; exact hcell
  have hend : Ended ((T.setVm vm').setFrames (.throwing q :: below)) below (.threw q) := State.frames_setFrames _ (State.cur_lt_of_frames hfr)
  refine ⟨(T.setVm vm').setFrames (.throwing q :: below), ?_, .threw q, X'.here.running, hend, Or.inr ⟨q, rfl, E, ce, locs, hx _ hT (X'.ends _).1.alike, hcell9, hv, hcl, (X'.ends _).1, (X'.ends _).2.mono hc hs, hf⟩⟩
  rw [X.pushThrowing_eq]
  exact st
/-- a thing of a world lies in the heap -/
theorem vx_lt {D : va_G} {cl : List vw_C} {ws : va_W} {H1 : Heap} (h : va_P D cl ws H1) {k : Nat} {q : Nat × va_E} (hk : ws[k]? = some q) : q.1 < H1.size := (h k q hk).lt
end VXS
/-! ===== END ===== -/
/-! ===== BEGIN methods with a table of their own: called by a name, returning or throwing ===== -/
section VXH
/-! vx_backW, vx_callVX, vx_callSX, vx_callVW, vx_runVW, vx_runVX, vx_runSX, vx_ofWH follow the same proofs as their sisters above (Free/Laws.lean, Shelf42/LK1.lean); vx_outP calls Shelf42/NT130.lean (outThrough). -/
section
variable {l : Launch} {R : Room} {p : Program} {e : Env} {below : List Frame} {s : State} {sargs : Array Value} {y : MethodName} {len W9 : Nat}
theorem vx_backW {ws : List Cond} {rm : Room} {Pc : Array Value → State → Prop} {Qc : Array Value → State → Outcome → State → Prop} {XC : String → State → State → Prop} {mc ms : Nat} {free : Addr → Prop} {bytes : ByteArray} {maxL : Nat} {ret : Option FieldType} {hh : List (Nat × Nat × Nat × Nat)}
    (hM : vx_Met l y ws rm Pc Qc XC mc ms free) (hblind : FrameBlind Pc) (hrc : rm.cells = mc) (hrs : rm.slots = ms)
    (hframes : rm.frames + 1 ≤ R.frames) (hlocals : W9 + (maxL + 11) + rm.locals ≤ R.locals)
    (hws : ∀ w ∈ ws, ∀ a' U, s.WarmedH U.vm → w.before a' U = true) (hcode : Cond.codeWith y bytes maxL ret hh ∈ ws) (hinit : ∀ a' U, s.WarmedH U.vm → (Cond.initialized y.cls).before a' U = true) :
    vx_Back l R p e below s sargs y len W9 (PreOf R mc ms Pc) (PostOf Qc mc ms free) (vx_Post XC mc ms free) := by
  intro m meth c A g ig mk a X hg hsize hdg hW hn hp
  have h1 : (headSpec ws rm).pre.before a A.U = true := atoms_intro fun w hw => hws w hw _ _ X.warmed
  have h2 : (Cond.codeWith y bytes maxL ret hh).before a A.U = true := hws _ hcode _ _ X.warmed
  have h3 : (Cond.initialized y.cls).before a A.U = true := hinit _ _ X.warmed
  have h4 : A.cells + (headSpec ws rm).room.cells ≤ R.cells := by rw [show (headSpec ws rm).room.cells = mc from hrc]; exact hp.1
  have h5 : A.slots + (headSpec ws rm).room.slots ≤ R.slots := by rw [show (headSpec ws rm).room.slots = ms from hrs]; exact hp.2.1
  have hPc : Pc a (A.U.calling g mk a) := hblind _ _ _ _ hp.2.2
  obtain ⟨U, Ls, c0, s0⟩ := A
  dsimp only [Pt.U, Pt.locs, Pt.cells, Pt.slots] at h1 h2 h3 h4 h5 X hn hPc ⊢
  obtain ⟨m9, methY, cY, hn9, hmY, hcY, -, hlY, -⟩ := Cond.codeWith_spec h2
  cases Option.some.inj (hn9.symm.trans hn)
  obtain ⟨kY, hkY, -⟩ := className_of_methodNamed hn
  have hinitY : kY.init = .initialized := Cond.initialized_spec (findClass_of_methodNamed hn) hkY h3
  have h : At U g.method c below := by rw [hg]; exact X.here
  have hlocals9 : W9 + (maxL + 11) + (headSpec ws rm).room.locals ≤ R.locals := hlocals
  have happ : (headSpec ws rm).appliesLoose y e.platform (U.calling g mk a) = true :=
    Spec.appliesLoose_calling (g := g) h hdg hn hkY hinitY
      (X.room_calling (g := g) (R' := (headSpec ws rm).room) hsize hmY hcY hframes (by rw [hlY]; omega) h4 h5) h1
  obtain ⟨mid, hmid⟩ := h.above
  have hfr : (U.setTop g).frames = (.java g :: mid) ++ below := by rw [State.frames_setTop' g h.top, hmid]; rfl
  obtain ⟨o, s₂, hsteps, -, hend, hq⟩ := Steps.callFree hM p X.admits X.cas X.clock (acts := []) hfr happ hPc trivial
  have hq' : vx_Q Qc XC mc ms free a (U.calling g mk a) o s₂ := hq
  rw [State.frames_setTop' g h.top] at hend
  obtain ⟨g₀, hg0⟩ := Option.isSome_iff_exists.mp h.top
  obtain ⟨r, hr⟩ := State.topJava?_eq_some.mp hg0
  have hr' : (({ U with heap := s₂.heap, slotsUsed := s₂.slotsUsed } : State).setVm s₂.vm).frames = .java g₀ :: r := hr
  rcases hq' with ⟨hqc, L, hfe, hL⟩ | ⟨q, rfl, E, ce, L, hx, hce, hcv, hcl, hW₂, hsm, hL⟩
  · obtain ⟨⟨v, rfl⟩, hW₂, e2, q2, q3, q4, q5, q6⟩ := id hfe
    have e3 : s₂ = ({ (U.calling g mk a).setFrames s₂.frames with heap := s₂.heap, slotsUsed := s₂.slotsUsed } : State).setVm s₂.vm := by
      have : s₂ = ({ s₂ with vm := (U.calling g mk a).vm } : State).setVm s₂.vm := rfl
      rw [e2] at this
      exact this
    obtain ⟨c₂, i₂, len₂, hc₂, hd₂, hf₂⟩ := hend
    have hW' : U.WarmedH s₂.vm := hW₂
    have hcc : c₂ = c := by
      have h1 : s₂.code? g.method = U.code? g.method := by
        rw [State.code?_eq, State.code?_eq, hW'.alike.method?]
      exact Option.some.inj (hc₂.symm.trans (h1.trans h.code))
    subst hcc
    have hlen : len₂ = len := by rw [hdg] at hd₂; cases hd₂; rfl
    subst hlen
    have hs₂ : s₂ = (({ U with heap := s₂.heap, slotsUsed := s₂.slotsUsed } : State).setVm s₂.vm).setTop { g with pc := g.pc + len₂, stack := v.toList ++ g.stack } := by
      refine e3.trans ?_
      rw [hf₂, State.calling_eq h.top, State.setFrames_setFrames, State.setTop_of_frames _ hr', hr]
      rfl
    have hsame : U.sameButNew ({ U with heap := s₂.heap, slotsUsed := s₂.slotsUsed } : State) L mc ms := by
      refine ⟨?_, q2, q3, q4, q5, q6⟩
      obtain ⟨t, ht, -⟩ := State.frames_cons hr
      show ({ U with heap := s₂.heap, slotsUsed := s₂.slotsUsed } : State) = { U.setFrames U.frames with heap := s₂.heap, slotsUsed := s₂.slotsUsed }
      rw [State.setFrames_self ht]
    subst hg
    refine Or.inl ⟨v, ⟨(({ U with heap := s₂.heap, slotsUsed := s₂.slotsUsed } : State).setVm s₂.vm), Ls ++ L, c0 + mc, s0 + ms⟩,
      ⟨X.admits, X.cas, X.clock, X.frames, X.room, X.hears, X.method, X.code, (X.here.setHeapUsed s₂.heap s₂.slotsUsed).setVm hW'.alike, X.tail, State.WarmedH.trans X.warmed hW', X.limits, X.bytes, X.same.trans (hsame.setVm s.vm)⟩,
      ⟨g, mk, s₂, L, rfl, rfl, hqc, rfl, hL, rfl, rfl⟩, ?_⟩
    show Steps p.tables e below _ ((({ U with heap := s₂.heap, slotsUsed := s₂.slotsUsed } : State).setVm s₂.vm).setTop { g with pc := g.pc + len₂, stack := v.toList ++ g.stack })
    rw [← hs₂]
    exact hsteps
  · obtain ⟨e2, q2, q3, q4, q5, q6⟩ := id hsm
    have e3 : s₂ = ({ (U.calling g mk a).setFrames s₂.frames with heap := s₂.heap, slotsUsed := s₂.slotsUsed } : State).setVm s₂.vm := by
      have : s₂ = ({ s₂ with vm := (U.calling g mk a).vm } : State).setVm s₂.vm := rfl
      rw [e2] at this
      exact this
    have hf₂ : s₂.frames = .throwing q :: .java g :: U.frames.tail := hend
    have hW' : U.WarmedH s₂.vm := hW₂
    have hs₂ : s₂ = ((({ U with heap := s₂.heap, slotsUsed := s₂.slotsUsed } : State).setVm s₂.vm).setTop g).pushFrame (.throwing q) := by
      refine e3.trans ?_
      rw [hf₂, State.calling_eq h.top, State.setFrames_setFrames, State.pushFrame, State.frames_setTop _ hr', State.setTop_of_frames _ hr', State.setFrames_setFrames, hr]
      rfl
    have hsame : U.sameButNew ({ U with heap := s₂.heap, slotsUsed := s₂.slotsUsed } : State) L mc ms := by
      refine ⟨?_, q2, q3, q4, q5, q6⟩
      obtain ⟨t, ht, -⟩ := State.frames_cons hr
      show ({ U with heap := s₂.heap, slotsUsed := s₂.slotsUsed } : State) = { U.setFrames U.frames with heap := s₂.heap, slotsUsed := s₂.slotsUsed }
      rw [State.setFrames_self ht]
    subst hg
    refine Or.inr ⟨q, ⟨(({ U with heap := s₂.heap, slotsUsed := s₂.slotsUsed } : State).setVm s₂.vm), Ls ++ L, c0 + mc, s0 + ms⟩,
      ⟨X.admits, X.cas, X.clock, X.frames, X.room, X.hears, X.method, X.code, (X.here.setHeapUsed s₂.heap s₂.slotsUsed).setVm hW'.alike, X.tail, State.WarmedH.trans X.warmed hW', X.limits, X.bytes, X.same.trans (hsame.setVm s.vm)⟩,
      ⟨g, mk, s₂, L, E, ce, rfl, rfl, hx, hce, hcv, hcl, rfl, hL, rfl, rfl⟩, ?_⟩
    show Steps p.tables e below _ (((({ U with heap := s₂.heap, slotsUsed := s₂.slotsUsed } : State).setVm s₂.vm).setTop g).pushFrame (.throwing q))
    rw [← hs₂]
    exact hsteps
end
variable {p : Program} {l : Launch} {e : Env} {R : Room} {s : State} {m : MethodId} {args : Array Value} {below : List Frame} {meth : Method} {c : Code} {T : State} {H : Heap} {locs : List Loc} {cells slots : Nat}
theorem vx_callVX (X : Stand p l e R s m args below meth c T locs cells slots) (hexec : p.tables.exec = Jvm.exec) {own C : String} {index : Nat} {y : MethodName} {bytes : ByteArray} {maxL : Nat} {ret : Option FieldType} {hh : List (Nat × Nat × Nat × Nat)}
    (hown : s.vm.findClass own = some m.cls) (hlink : (Cond.methodLink own index y).before args s = true) (hinst : (Cond.instanceMethod y).before args s = true) (hsel : (Cond.selects C y y).before args s = true)
    (hcode : (Cond.codeWith y bytes maxL ret hh).before args s = true) (hy : y.cls ≠ "java/lang/invoke/MethodHandle" ∧ y.cls ≠ "java/lang/invoke/VarHandle")
    {W9 : Nat} {Pre : Pt → Array Value → Prop} {Post : Pt → Array Value → Option Value → Pt → Prop} {PostX : Pt → Array Value → Addr → Pt → Prop} (hK : vx_Back l R p e below s args y 3 W9 Pre Post PostX)
    {b : Addr} {cellB : Cell} (hcell : T.heap[b]? = some cellB) (hobj : cellB.vm.isStatics = false) (hcls : s.vm.findClass C = some cellB.cls)
    {g : JFrame} (hg : g.method = m) (hsize : g.locals.size = c.maxLocals) {argsL rest : List Value} (hlen : ∀ sig, parseMethodDescriptor y.desc = some sig → argsL.length = sig.parameters.length)
    (hstack : g.stack = argsL.reverse ++ .ref b :: rest) (hW : 2 * g.monitorRoom + (rest.map fun v => v.category).sum ≤ W9) (hdg : decode c.code g.pc = .ok (.invokevirtual index, 3))
    (hpre : ∀ vm₁, s.WarmedH vm₁ → Pre ⟨T.setVm vm₁, locs, cells, slots⟩ (Value.ref b :: argsL).toArray) :
    (∃ (v : Option Value) (vm₁ : Vm) (B : Pt), s.WarmedH vm₁ ∧ Stand p l e R s m args below meth c B.U B.locs B.cells B.slots ∧ Post ⟨T.setVm vm₁, locs, cells, slots⟩ (Value.ref b :: argsL).toArray v B ∧
      ∀ target, Steps p.tables e below (B.U.setTop { g with pc := g.pc + 3, stack := v.toList ++ rest }) target → Steps p.tables e below (T.setTop g) target) ∨
    (∃ (q : Addr) (vm₁ : Vm) (B : Pt), s.WarmedH vm₁ ∧ Stand p l e R s m args below meth c B.U B.locs B.cells B.slots ∧ PostX ⟨T.setVm vm₁, locs, cells, slots⟩ (Value.ref b :: argsL).toArray q B ∧
      Steps p.tables e below (T.setTop g) ((B.U.setTop { g with stack := rest }).pushFrame (.throwing q))) := by
  obtain ⟨mk, methM, hnamed, hmethM, hstM, habM⟩ := Cond.instanceMethod_spec hinst
  obtain ⟨m8, methM', cM, hn8, hmethM', -, -, -, -, -, -, hsigM⟩ := Cond.codeWith_spec hcode
  cases Option.some.inj (hn8.symm.trans hnamed)
  cases hmethM.symm.trans hmethM'
  obtain ⟨c2, r2, m2, q1, q2, q3, q4, kP, hkP, hkPi⟩ := Cond.selects_spec hsel
  cases hcls.symm.trans q1
  cases (State.methodFound?_of_named hnamed hy).symm.trans q2
  cases hnamed.symm.trans q3
  have hselP : selectMethod e.platform s.vm cellB.cls mk = .method mk := by rw [Launch.admits_selectMethod X.admits]; exact q4
  obtain ⟨vm₁, X₁, hstep₁⟩ := X.invokevirtual hexec hown hlink hnamed hmethM hstM hkP hkPi hy (a := b) (cell := cellB) hcell
    (fun z h => by rw [h] at hobj; cases hobj) hselP hmethM habM hkP hkPi (g := g) hg (argsL := argsL) (rest := rest) (hlen _ hsigM) hstack hdg
  rcases hK m meth c ⟨T.setVm vm₁, locs, cells, slots⟩ { g with stack := rest } (.invokevirtual index) mk (Value.ref b :: argsL).toArray X₁ hg hsize hdg hW (X₁.named hnamed) (hpre vm₁ X₁.warmed) with ⟨v, B, X', hpost, hsteps⟩ | ⟨q, B, X', hpost, hsteps⟩
  · exact Or.inl ⟨v, vm₁, B, X₁.warmed, X', hpost, fun target h => hstep₁ _ fun acts => by rw [doInvoke_state]; exact hsteps.trans h⟩
  · exact Or.inr ⟨q, vm₁, B, X₁.warmed, X', hpost, hstep₁ _ fun acts => by rw [doInvoke_state]; exact hsteps⟩
theorem vx_callSX (X : Stand p l e R s m args below meth c T locs cells slots) (hexec : p.tables.exec = Jvm.exec) {own : String} {index : Nat} {y : MethodName} {bytes : ByteArray} {maxL : Nat} {ret : Option FieldType} {hh : List (Nat × Nat × Nat × Nat)}
    (hown : s.vm.findClass own = some m.cls) (hlink : (Cond.methodLink own index y).before args s = true) (hstat : (Cond.static y).before args s = true) (hinit : (Cond.initialized y.cls).before args s = true)
    (hcode : (Cond.codeWith y bytes maxL ret hh).before args s = true) (hy : y.cls ≠ "java/lang/invoke/MethodHandle" ∧ y.cls ≠ "java/lang/invoke/VarHandle")
    {W9 : Nat} {Pre : Pt → Array Value → Prop} {Post : Pt → Array Value → Option Value → Pt → Prop} {PostX : Pt → Array Value → Addr → Pt → Prop} (hK : vx_Back l R p e below s args y 3 W9 Pre Post PostX)
    {g : JFrame} (hg : g.method = m) (hsize : g.locals.size = c.maxLocals) {argsL rest : List Value} (hlen : ∀ sig, parseMethodDescriptor y.desc = some sig → argsL.length = sig.parameters.length)
    (hstack : g.stack = argsL.reverse ++ rest) (hW : 2 * g.monitorRoom + (rest.map fun v => v.category).sum ≤ W9) (hdg : decode c.code g.pc = .ok (.invokestatic index, 3))
    (hpre : ∀ vm₁, s.WarmedH vm₁ → Pre ⟨T.setVm vm₁, locs, cells, slots⟩ argsL.toArray) :
    (∃ (v : Option Value) (vm₁ : Vm) (B : Pt), s.WarmedH vm₁ ∧ Stand p l e R s m args below meth c B.U B.locs B.cells B.slots ∧ Post ⟨T.setVm vm₁, locs, cells, slots⟩ argsL.toArray v B ∧
      ∀ target, Steps p.tables e below (B.U.setTop { g with pc := g.pc + 3, stack := v.toList ++ rest }) target → Steps p.tables e below (T.setTop g) target) ∨
    (∃ (q : Addr) (vm₁ : Vm) (B : Pt), s.WarmedH vm₁ ∧ Stand p l e R s m args below meth c B.U B.locs B.cells B.slots ∧ PostX ⟨T.setVm vm₁, locs, cells, slots⟩ argsL.toArray q B ∧
      Steps p.tables e below (T.setTop g) ((B.U.setTop { g with stack := rest }).pushFrame (.throwing q))) := by
  obtain ⟨mk, methM, cM, hnamed, hmethM, -, -, -, -, -, -, hsigM⟩ := Cond.codeWith_spec hcode
  have hstatic : methM.isStatic = true := Cond.static_spec hnamed hmethM hstat
  obtain ⟨kP, hkP, -⟩ := className_of_methodNamed hnamed
  have hinitP : kP.init = .initialized := Cond.initialized_spec (findClass_of_methodNamed hnamed) hkP hinit
  obtain ⟨vm₁, X₁, hstep₁⟩ := X.invokestatic hexec hown hlink hnamed hmethM hstatic hkP hinitP hy (g := g) hg (argsL := argsL) (rest := rest) (hlen _ hsigM) hstack hdg
  rcases hK m meth c ⟨T.setVm vm₁, locs, cells, slots⟩ { g with stack := rest } (.invokestatic index) mk argsL.toArray X₁ hg hsize hdg hW (X₁.named hnamed) (hpre vm₁ X₁.warmed) with ⟨v, B, X', hpost, hsteps⟩ | ⟨q, B, X', hpost, hsteps⟩
  · exact Or.inl ⟨v, vm₁, B, X₁.warmed, X', hpost, fun target h => hstep₁ _ fun acts => by rw [doInvoke_state]; exact hsteps.trans h⟩
  · exact Or.inr ⟨q, vm₁, B, X₁.warmed, X', hpost, hstep₁ _ fun acts => by rw [doInvoke_state]; exact hsteps⟩
theorem vx_callVW (X : Stand p l e R s m args below meth c T locs cells slots) (hexec : p.tables.exec = Jvm.exec) {own C : String} {index : Nat} {y : MethodName} {bytes : ByteArray} {maxL : Nat} {ret : Option FieldType} {hh : List (Nat × Nat × Nat × Nat)}
    (hown : s.vm.findClass own = some m.cls) (hlink : (Cond.methodLink own index y).before args s = true) (hinst : (Cond.instanceMethod y).before args s = true) (hsel : (Cond.selects C y y).before args s = true)
    (hcode : (Cond.codeWith y bytes maxL ret hh).before args s = true) (hy : y.cls ≠ "java/lang/invoke/MethodHandle" ∧ y.cls ≠ "java/lang/invoke/VarHandle")
    {W9 : Nat} {Pre : Pt → Array Value → Prop} {Post : Pt → Array Value → Option Value → Pt → Prop} (hK : Back l R p e below s args y 3 W9 Pre Post)
    {b : Addr} {cellB : Cell} (hcell : T.heap[b]? = some cellB) (hobj : cellB.vm.isStatics = false) (hcls : s.vm.findClass C = some cellB.cls)
    {g : JFrame} (hg : g.method = m) (hsize : g.locals.size = c.maxLocals) {argsL rest : List Value} (hlen : ∀ sig, parseMethodDescriptor y.desc = some sig → argsL.length = sig.parameters.length)
    (hstack : g.stack = argsL.reverse ++ .ref b :: rest) (hW : 2 * g.monitorRoom + (rest.map fun v => v.category).sum ≤ W9) (hdg : decode c.code g.pc = .ok (.invokevirtual index, 3))
    (hpre : ∀ vm₁, s.WarmedH vm₁ → Pre ⟨T.setVm vm₁, locs, cells, slots⟩ (Value.ref b :: argsL).toArray) :
    ∃ (v : Option Value) (vm₁ : Vm) (B : Pt), s.WarmedH vm₁ ∧ Stand p l e R s m args below meth c B.U B.locs B.cells B.slots ∧ Post ⟨T.setVm vm₁, locs, cells, slots⟩ (Value.ref b :: argsL).toArray v B ∧
      ∀ target, Steps p.tables e below (B.U.setTop { g with pc := g.pc + 3, stack := v.toList ++ rest }) target → Steps p.tables e below (T.setTop g) target := by
  obtain ⟨mk, methM, hnamed, hmethM, hstM, habM⟩ := Cond.instanceMethod_spec hinst
  obtain ⟨m8, methM', cM, hn8, hmethM', -, -, -, -, -, -, hsigM⟩ := Cond.codeWith_spec hcode
  cases Option.some.inj (hn8.symm.trans hnamed)
  cases hmethM.symm.trans hmethM'
  obtain ⟨c2, r2, m2, q1, q2, q3, q4, kP, hkP, hkPi⟩ := Cond.selects_spec hsel
  cases hcls.symm.trans q1
  cases (State.methodFound?_of_named hnamed hy).symm.trans q2
  cases hnamed.symm.trans q3
  have hselP : selectMethod e.platform s.vm cellB.cls mk = .method mk := by rw [Launch.admits_selectMethod X.admits]; exact q4
  obtain ⟨vm₁, X₁, hstep₁⟩ := X.invokevirtual hexec hown hlink hnamed hmethM hstM hkP hkPi hy (a := b) (cell := cellB) hcell
    (fun z h => by rw [h] at hobj; cases hobj) hselP hmethM habM hkP hkPi (g := g) hg (argsL := argsL) (rest := rest) (hlen _ hsigM) hstack hdg
  obtain ⟨v, B, X', hpost, hsteps⟩ := hK m meth c ⟨T.setVm vm₁, locs, cells, slots⟩ { g with stack := rest } (.invokevirtual index) mk (Value.ref b :: argsL).toArray X₁ hg hsize hdg hW (X₁.named hnamed) (hpre vm₁ X₁.warmed)
  exact ⟨v, vm₁, B, X₁.warmed, X', hpost, fun target h => hstep₁ _ fun acts => by rw [doInvoke_state]; exact hsteps.trans h⟩
abbrev vx_CVW (R : Room) (s : State) (args : Array Value) (own C : String) (index : Nat) (y : MethodName) (bytes : ByteArray) (maxL : Nat) (ret : Option FieldType) (hh : List (Nat × Nat × Nat × Nat)) (ws : List Cond) (rm : Room) (mc ms n : Nat) : Prop :=
  (rm.cells = mc ∧ rm.slots = ms ∧ rm.frames + 1 ≤ R.frames ∧ 8 + (maxL + 11) + rm.locals ≤ R.locals ∧ (∀ w ∈ ws, ∀ (a' : Array Value) (U : State), s.WarmedH U.vm → w.before a' U = true) ∧ Cond.codeWith y bytes maxL ret hh ∈ ws) ∧
  (Cond.codeWith y bytes maxL ret hh).before args s = true ∧ (Cond.initialized y.cls).before args s = true ∧ (y.cls ≠ "java/lang/invoke/MethodHandle" ∧ y.cls ≠ "java/lang/invoke/VarHandle") ∧
  (∀ sig, parseMethodDescriptor y.desc = some sig → n = sig.parameters.length) ∧ (Cond.methodLink own index y).before args s = true ∧ (Cond.instanceMethod y).before args s = true ∧ (Cond.selects C y y).before args s = true
theorem vx_cwVW {own C : String} {index maxL mc ms : Nat} {y : MethodName} {bytes : ByteArray} {ret : Option FieldType} {hh : List (Nat × Nat × Nat × Nat)} {Ts ws ws' : List Cond} {rm : Room} (n : Nat) (ht : ∀ w ∈ Ts, w.before args s = true) (hT : GoodIn Ts (wsV own index C y ws)) (hw : ws = Cond.codeWith y bytes maxL ret hh :: ws') (hrc : rm.cells = mc) (hrs : rm.slots = ms)
    (hd : y.cls = C ∧ y.cls ≠ "java/lang/invoke/MethodHandle" ∧ y.cls ≠ "java/lang/invoke/VarHandle" ∧ (parseMethodDescriptor y.desc).map (fun d => d.parameters.length) = some n) (hR : rm.frames + 1 ≤ R.frames ∧ 8 + (maxL + 11) + rm.locals ≤ R.locals) :
    vx_CVW R s args own C index y bytes maxL ret hh ws rm mc ms n := by
  obtain ⟨hC, hd⟩ := hd
  subst hC
  have ok : ∀ w ∈ wsV own index y.cls y ws, w.before args s = true := fun w h => ht w (hT w h).1
  have hG : GoodIn Ts ws := fun w h => hT w (by unfold wsV; exact List.mem_append_right _ h)
  have hc : Cond.codeWith y bytes maxL ret hh ∈ ws := by rw [hw]; exact List.mem_cons_self
  refine ⟨⟨hrc, hrs, hR.1, hR.2, pay_in ht hG, hc⟩, ht _ (hG _ hc).1, ok _ (by simp [wsV]), ⟨hd.1, hd.2.1⟩, fun sig h => ?_, ok _ (by simp [wsV]), ok _ (by simp [wsV]), ok _ (by simp [wsV])⟩
  have h2 := hd.2.2
  rw [h] at h2
  exact (Option.some.inj h2).symm
theorem vx_runVW {y : MethodName} {bytes cc : ByteArray} {maxL nL mc ms n index : Nat} {ret : Option FieldType} {hh : List (Nat × Nat × Nat × Nat)} {ws : List Cond} {rm : Room} {Pc : Array Value → State → Prop} {Qc : Array Value → State → Outcome → State → Prop} {free : Addr → Prop} {Ts : List Cond} {own C : String} {b : Addr} {As rest : List Value} {g : JFrame}
    (S : CallFix p m c cc nL s args Ts own) (hM : Met l y ws rm Pc Qc mc ms free) (cw : vx_CVW R s args own C index y bytes maxL ret hh ws rm mc ms n) (hp : PreV s H C b Pc As)
    (hg : g.method = m) (hn : As.length = n) (hsize : g.locals.size = nL) (hstack : g.stack = As.reverse ++ .ref b :: rest) (hW : 2 * g.monitorRoom + (rest.map fun v => v.category).sum ≤ 8) (hdg : decode cc g.pc = .ok (.invokevirtual index, 3)) (hf : cells + mc ≤ R.cells ∧ slots + ms ≤ R.slots) :
    va_Run p l e R s m args below meth c H locs cells slots mc ms g rest (Qc (Value.ref b :: As).toArray) free := by
  obtain ⟨⟨hrc, hrs, hfr, hlo, hws, hcw⟩, hcode, hini, hy, hlen, hl, hin, hse⟩ := cw
  have hK : Back l R p e below s args y 3 8 (PreOf R mc ms Pc) (PostOf Qc mc ms free) := va_backW (hh := hh) (bytes := bytes) (maxL := maxL) (ret := ret) hM hp.1 hrc hrs hfr hlo hws hcw (fun a' U hW => word_at hW (Or.inl (by first | rfl | simp [Cond.onTables, Cond.keeps, Cond.steady])) hini)
  obtain ⟨hx, hb, hml, ho, -⟩ := S
  obtain ⟨-, ⟨cellB, hcB, hoB, hclB⟩, hPc⟩ := hp
  intro T hT X
  obtain ⟨v, vm₁, ⟨U', l2, c2, s2⟩, hW₁, X', ⟨g', mk, t, L, e1, e2, hq, h1, hL, h2, h3⟩, st⟩ := vx_callVW X hx (C := C) (hh := hh) (bytes := bytes) (maxL := maxL) (ret := ret) ho hl hin hse hcode hy hK (by rw [hT]; exact hcB) hoB hclB hg (hsize.trans hml.symm) (argsL := As) (rest := rest) (fun sig h => hn.trans (hlen sig h)) hstack hW (by rw [hb]; exact hdg)
    (fun vm₁ hW₁ => ⟨hf.1, hf.2, hPc (T.setVm vm₁) hT hW₁⟩)
  dsimp only [Pt.U, Pt.locs, Pt.cells, Pt.slots] at X' e1 e2 h1 h2 h3 st
  subst h1; subst h2; subst h3
  exact ⟨v, (T.setVm vm₁).calling g' mk (Value.ref b :: As).toArray, t, U', L, hT, X', hL, e1, e2, hq, st⟩
section
variable {y : MethodName} {bytes cc : ByteArray} {maxL nL mc ms n index : Nat} {ret : Option FieldType} {ws : List Cond} {rm : Room} {Pc : Array Value → State → Prop} {Qc : Array Value → State → Outcome → State → Prop} {XC : String → State → State → Prop} {free : Addr → Prop} {Ts : List Cond} {own C : String} {b : Addr} {As rest : List Value} {g : JFrame}
theorem vx_runVX {hh : List (Nat × Nat × Nat × Nat)} (S : CallFix p m c cc nL s args Ts own) (hM : vx_Met l y ws rm Pc Qc XC mc ms free) (cw : vx_CVW R s args own C index y bytes maxL ret hh ws rm mc ms n) (hp : PreV s H C b Pc As)
    (hg : g.method = m) (hn : As.length = n) (hsize : g.locals.size = nL) (hstack : g.stack = As.reverse ++ .ref b :: rest) (hW : 2 * g.monitorRoom + (rest.map fun v => v.category).sum ≤ 8) (hdg : decode cc g.pc = .ok (.invokevirtual index, 3)) (hf : cells + mc ≤ R.cells ∧ slots + ms ≤ R.slots) :
    vx_Run p l e R s m args below meth c H locs cells slots mc ms g rest (Qc (Value.ref b :: As).toArray) XC free := by
  obtain ⟨⟨hrc, hrs, hfr, hlo, hws, hcw⟩, hcode, hini, hy, hlen, hl, hin, hse⟩ := cw
  have hK : vx_Back l R p e below s args y 3 8 (PreOf R mc ms Pc) (PostOf Qc mc ms free) (vx_Post XC mc ms free) := vx_backW (hh := hh) (bytes := bytes) (maxL := maxL) (ret := ret) hM hp.1 hrc hrs hfr hlo hws hcw (fun a' U hW => word_at hW (Or.inl (by first | rfl | simp [Cond.onTables, Cond.keeps, Cond.steady])) hini)
  obtain ⟨hx, hb, hml, ho, -⟩ := S
  obtain ⟨-, ⟨cellB, hcB, hoB, hclB⟩, hPc⟩ := hp
  intro T hT X
  rcases vx_callVX X hx (C := C) (hh := hh) (bytes := bytes) (maxL := maxL) (ret := ret) ho hl hin hse hcode hy hK (by rw [hT]; exact hcB) hoB hclB hg (hsize.trans hml.symm) (argsL := As) (rest := rest) (fun sig h => hn.trans (hlen sig h)) hstack hW (by rw [hb]; exact hdg)
    (fun vm₁ hW₁ => ⟨hf.1, hf.2, hPc (T.setVm vm₁) hT hW₁⟩) with ⟨v, vm₁, ⟨U', l2, c2, s2⟩, hW₁, X', ⟨g', mk, t, L, e1, e2, hq, h1, hL, h2, h3⟩, st⟩ | ⟨q, vm₁, ⟨U', l2, c2, s2⟩, hW₁, X', ⟨g', mk, t, L, E, ce, e1, e2, hq, hce, hcv, hcl, h1, hL, h2, h3⟩, st⟩
  · dsimp only [Pt.U, Pt.locs, Pt.cells, Pt.slots] at X' e1 e2 h1 h2 h3 st
    subst h1; subst h2; subst h3
    exact Or.inl ⟨v, (T.setVm vm₁).calling g' mk (Value.ref b :: As).toArray, t, U', L, hT, X', hL, e1, e2, hq, st⟩
  · dsimp only [Pt.U, Pt.locs, Pt.cells, Pt.slots] at X' e1 e2 h1 h2 h3 st hcl
    subst h1; subst h2; subst h3
    exact Or.inr ⟨q, (T.setVm vm₁).calling g' mk (Value.ref b :: As).toArray, t, U', L, E, ce, hT, X', hL, e1, e2, hq, hce, hcv, vx_cls hW₁ hcl, st⟩
theorem vx_runSX {hh : List (Nat × Nat × Nat × Nat)} (S : CallFix p m c cc nL s args Ts own) (hM : vx_Met l y ws rm Pc Qc XC mc ms free) (cw : vx_CSW R s args own index y bytes maxL ret hh ws rm mc ms n) (hp : PreS s H Pc As)
    (hg : g.method = m) (hn : As.length = n) (hsize : g.locals.size = nL) (hstack : g.stack = As.reverse ++ rest) (hW : 2 * g.monitorRoom + (rest.map fun v => v.category).sum ≤ 8) (hdg : decode cc g.pc = .ok (.invokestatic index, 3)) (hf : cells + mc ≤ R.cells ∧ slots + ms ≤ R.slots) :
    vx_Run p l e R s m args below meth c H locs cells slots mc ms g rest (Qc As.toArray) XC free := by
  obtain ⟨⟨hrc, hrs, hfr, hlo, hws, hcw⟩, hcode, hini, hy, hlen, hl, hstt⟩ := cw
  have hK : vx_Back l R p e below s args y 3 8 (PreOf R mc ms Pc) (PostOf Qc mc ms free) (vx_Post XC mc ms free) := vx_backW (hh := hh) (bytes := bytes) (maxL := maxL) (ret := ret) hM hp.1 hrc hrs hfr hlo hws hcw (fun a' U hW => word_at hW (Or.inl (by first | rfl | simp [Cond.onTables, Cond.keeps, Cond.steady])) hini)
  obtain ⟨hx, hb, hml, ho, -⟩ := S
  intro T hT X
  rcases vx_callSX X hx (hh := hh) (bytes := bytes) (maxL := maxL) (ret := ret) ho hl hstt hini hcode hy hK hg (hsize.trans hml.symm) (argsL := As) (rest := rest) (fun sig h => hn.trans (hlen sig h)) hstack hW (by rw [hb]; exact hdg)
    (fun vm₁ hW₁ => ⟨hf.1, hf.2, hp.2 (T.setVm vm₁) hT hW₁⟩) with ⟨v, vm₁, ⟨U', l2, c2, s2⟩, hW₁, X', ⟨g', mk, t, L, e1, e2, hq, h1, hL, h2, h3⟩, st⟩ | ⟨q, vm₁, ⟨U', l2, c2, s2⟩, hW₁, X', ⟨g', mk, t, L, E, ce, e1, e2, hq, hce, hcv, hcl, h1, hL, h2, h3⟩, st⟩
  · dsimp only [Pt.U, Pt.locs, Pt.cells, Pt.slots] at X' e1 e2 h1 h2 h3 st
    subst h1; subst h2; subst h3
    exact Or.inl ⟨v, (T.setVm vm₁).calling g' mk As.toArray, t, U', L, hT, X', hL, e1, e2, hq, st⟩
  · dsimp only [Pt.U, Pt.locs, Pt.cells, Pt.slots] at X' e1 e2 h1 h2 h3 st hcl
    subst h1; subst h2; subst h3
    exact Or.inr ⟨q, (T.setVm vm₁).calling g' mk As.toArray, t, U', L, E, ce, hT, X', hL, e1, e2, hq, hce, hcv, vx_cls hW₁ hcl, st⟩
end
end VXH
theorem vx_ofWH {l : Launch} {y : MethodName} {ws ws' : List Cond} {rm : Room} {Pc : Array Value → State → Prop} {Qc : Array Value → State → Outcome → State → Prop} {XC : String → State → State → Prop} {mc ms : Nat} {free : Addr → Prop} {cc : ByteArray} {maxL : Nat} {ret : Option FieldType} {hh : List (Nat × Nat × Nat × Nat)}
    (hy : plainName y.cls = true) (hw : ws = Cond.codeWith y cc maxL ret hh :: ws')
    (body : ∀ p e s m args below meth c s₁, BodyLoose p l y (headSpec ws rm) cc maxL ret e s m args below meth c s₁ → c.maxLocals = maxL → Pc args s →
      W p l e (headSpec ws rm).room s m args below meth c s.heap [] 0 0 (vx_MQ below Qc XC args s mc ms free) (entryFrame m args maxL)) : vx_Met l y ws rm Pc Qc XC mc ms free := by
  refine MetFree.of_bodyS (code := cc) (maxLocals := maxL) (ret := ret) hy ?_ ?_
  · intro args s m h hn
    obtain ⟨m9, meth, c, hn9, h1, h2, h3, h4, -, h5, h6, -⟩ := Cond.codeWith_spec (atoms_spec (ws := ws) h _ (by rw [hw]; exact List.mem_cons_self))
    cases hn.symm.trans hn9
    exact ⟨meth, c, h1, h2, h3, h4, h5, h6⟩
  · intro p e s m args below meth c s₁ B hml hP _
    have hh0 : s₁.heap = s.heap := by rw [B.state]; rfl
    obtain ⟨t, a1, o, b1, b2, b3⟩ := body p e s m args below meth c s₁ B hml hP s₁ hh0 (Stand.of_body B)
    exact ⟨t, o, a1, b1, b2, b3⟩
/-! ===== END ===== -/
end
section
/-! ===== BEGIN printed: names, fields, word lists, decode rows ===== -/
def RX0 : String := "SkittleStrings$Alley"
def TX0 : u_T := fun k => match k with
  | 0 => ("SkittleStrings$Alley", "wears", "[I", true)
  | 1 => ("SkittleStrings$Alley", "standing", "I", false)
  | _ => ("SkittleStrings$Alley", "spares", "I", false)
def tyX0 : Nat → FieldType := fun k => match k with
  | 0 => .array .int
  | 1 => .int
  | _ => .int
abbrev wsX00 : List Cond := u_ws RX0 TX0 3
theorem nmX0 : ∀ a, a < 3 → ∀ b, b < 3 → a ≠ b → (TX0 a).2.1 ≠ (TX0 b).2.1 := by decide +kernel
theorem tyX0_ok : ∀ k, k < 3 → parseFieldDescriptor (TX0 k).2.2.1 = some (tyX0 k) := by decide +kernel
abbrev cX0_init : ByteArray := prog_2_method_1_code
def yX0_init : MethodName := ⟨RX0, "<init>", "()V"⟩
abbrev cX0_standingPins : ByteArray := prog_2_method_2_code
def yX0_standingPins : MethodName := ⟨RX0, "standingPins", "()I"⟩
abbrev cX0_spares : ByteArray := prog_2_method_3_code
def yX0_spares : MethodName := ⟨RX0, "spares", "()I"⟩
abbrev cX0_wear : ByteArray := prog_2_method_4_code
def yX0_wear : MethodName := ⟨RX0, "wear", "(I)I"⟩
abbrev cX0_broken : ByteArray := prog_2_method_5_code
def yX0_broken : MethodName := ⟨RX0, "broken", "(I)Z"⟩
abbrev cX0_setUp : ByteArray := prog_2_method_6_code
def yX0_setUp : MethodName := ⟨RX0, "setUp", "()V"⟩
abbrev cX0_roll : ByteArray := prog_2_method_7_code
def yX0_roll : MethodName := ⟨RX0, "roll", "(II)I"⟩
abbrev cX0_replace : ByteArray := prog_2_method_8_code
def yX0_replace : MethodName := ⟨RX0, "replace", "(I)V"⟩
abbrev cX0_stock : ByteArray := prog_2_method_9_code
def yX0_stock : MethodName := ⟨RX0, "stock", "(I)V"⟩
abbrev cX0_brokenCount : ByteArray := prog_2_method_10_code
def yX0_brokenCount : MethodName := ⟨RX0, "brokenCount", "()I"⟩
abbrev cX0_brokenIfAllFell : ByteArray := prog_2_method_11_code
def yX0_brokenIfAllFell : MethodName := ⟨RX0, "brokenIfAllFell", "()I"⟩
abbrev cX0_mostWornPin : ByteArray := prog_2_method_12_code
def yX0_mostWornPin : MethodName := ⟨RX0, "mostWornPin", "()I"⟩
abbrev cX0_digestOn : ByteArray := prog_2_method_13_code
def yX0_digestOn : MethodName := ⟨RX0, "digestOn", "(J)J"⟩
def RX1 : String := "SkittleStrings$Pins"
def TX1 : u_T := fun k => match k with
  | _ => ("", "", "", false)
def tyX1 : Nat → FieldType := fun k => match k with
  | _ => .int
abbrev wsX10 : List Cond := u_ws RX1 TX1 0
theorem nmX1 : ∀ a, a < 0 → ∀ b, b < 0 → a ≠ b → (TX1 a).2.1 ≠ (TX1 b).2.1 := by decide +kernel
theorem tyX1_ok : ∀ k, k < 0 → parseFieldDescriptor (TX1 k).2.2.1 = some (tyX1 k) := by decide +kernel
abbrev cX1_holds : ByteArray := prog_3_method_2_code
def yX1_holds : MethodName := ⟨RX1, "holds", "(II)Z"⟩
abbrev cX1_last : ByteArray := prog_3_method_3_code
def yX1_last : MethodName := ⟨RX1, "last", "(I)I"⟩
abbrev cX1_felled : ByteArray := prog_3_method_4_code
def yX1_felled : MethodName := ⟨RX1, "felled", "(III)I"⟩
abbrev cX1_afterHit : ByteArray := prog_3_method_5_code
def yX1_afterHit : MethodName := ⟨RX1, "afterHit", "(IIII)I"⟩
abbrev cX1_canClear : ByteArray := prog_3_method_6_code
def yX1_canClear : MethodName := ⟨RX1, "canClear", "(III)Z"⟩
abbrev cX1_pinAt : ByteArray := prog_3_method_7_code
def yX1_pinAt : MethodName := ⟨RX1, "pinAt", "(II)I"⟩
def RX2 : String := "SkittleStrings$Rack"
def TX2 : u_T := fun k => match k with
  | _ => ("SkittleStrings$Rack", "away", "[I", true)
def tyX2 : Nat → FieldType := fun k => match k with
  | _ => .array .int
abbrev wsX20 : List Cond := u_ws RX2 TX2 1
theorem nmX2 : ∀ a, a < 1 → ∀ b, b < 1 → a ≠ b → (TX2 a).2.1 ≠ (TX2 b).2.1 := by decide +kernel
theorem tyX2_ok : ∀ k, k < 1 → parseFieldDescriptor (TX2 k).2.2.1 = some (tyX2 k) := by decide +kernel
abbrev cX2_init : ByteArray := prog_4_method_1_code
def yX2_init : MethodName := ⟨RX2, "<init>", "()V"⟩
abbrev cX2_throwsAway : ByteArray := prog_4_method_2_code
def yX2_throwsAway : MethodName := ⟨RX2, "throwsAway", "(I)I"⟩
abbrev cX2_send : ByteArray := prog_4_method_3_code
def yX2_send : MethodName := ⟨RX2, "send", "(I)V"⟩
abbrev cX2_returnAll : ByteArray := prog_4_method_4_code
def yX2_returnAll : MethodName := ⟨RX2, "returnAll", "()V"⟩
abbrev cX2_digestOn : ByteArray := prog_4_method_5_code
def yX2_digestOn : MethodName := ⟨RX2, "digestOn", "(J)J"⟩
def RX3 : String := "SkittleStrings$Sheet"
def TX3 : u_T := fun k => match k with
  | 0 => ("SkittleStrings$Sheet", "pinsOfThrow", "[I", true)
  | 1 => ("SkittleStrings$Sheet", "firstThrow", "[I", true)
  | 2 => ("SkittleStrings$Sheet", "throwsIn", "[I", true)
  | 3 => ("SkittleStrings$Sheet", "bonusThrows", "[I", true)
  | _ => ("SkittleStrings$Sheet", "thrown", "I", false)
def tyX3 : Nat → FieldType := fun k => match k with
  | 0 => .array .int
  | 1 => .array .int
  | 2 => .array .int
  | 3 => .array .int
  | _ => .int
abbrev wsX30 : List Cond := u_ws RX3 TX3 5
theorem nmX3 : ∀ a, a < 5 → ∀ b, b < 5 → a ≠ b → (TX3 a).2.1 ≠ (TX3 b).2.1 := by decide +kernel
theorem tyX3_ok : ∀ k, k < 5 → parseFieldDescriptor (TX3 k).2.2.1 = some (tyX3 k) := by decide +kernel
abbrev cX3_init : ByteArray := prog_5_method_1_code
def yX3_init : MethodName := ⟨RX3, "<init>", "()V"⟩
abbrev cX3_thrown : ByteArray := prog_5_method_2_code
def yX3_thrown : MethodName := ⟨RX3, "thrown", "()I"⟩
abbrev cX3_clear : ByteArray := prog_5_method_3_code
def yX3_clear : MethodName := ⟨RX3, "clear", "()V"⟩
abbrev cX3_enter : ByteArray := prog_5_method_4_code
def yX3_enter : MethodName := ⟨RX3, "enter", "(IIZ)V"⟩
abbrev cX3_points : ByteArray := prog_5_method_5_code
def yX3_points : MethodName := ⟨RX3, "points", "(I)I"⟩
abbrev cX3_score : ByteArray := prog_5_method_6_code
def yX3_score : MethodName := ⟨RX3, "score", "()I"⟩
abbrev cX3_strikes : ByteArray := prog_5_method_7_code
def yX3_strikes : MethodName := ⟨RX3, "strikes", "()I"⟩
abbrev cX3_spares : ByteArray := prog_5_method_8_code
def yX3_spares : MethodName := ⟨RX3, "spares", "()I"⟩
abbrev cX3_digestOn : ByteArray := prog_5_method_9_code
def yX3_digestOn : MethodName := ⟨RX3, "digestOn", "(J)J"⟩
abbrev cX3_framesWithBonus : ByteArray := prog_5_method_10_code
def yX3_framesWithBonus : MethodName := ⟨RX3, "framesWithBonus", "(I)I"⟩
def RX4 : String := "SkittleStrings"
def TX4 : u_T := fun k => match k with
  | 0 => ("SkittleStrings", "alley", "LSkittleStrings$Alley;", true)
  | 1 => ("SkittleStrings", "rack", "LSkittleStrings$Rack;", true)
  | 2 => ("SkittleStrings", "sheets", "[LSkittleStrings$Sheet;", true)
  | 3 => ("SkittleStrings", "playerCount", "I", false)
  | 4 => ("SkittleStrings", "turn", "I", false)
  | 5 => ("SkittleStrings", "frameNow", "I", false)
  | _ => ("SkittleStrings", "throwsNow", "I", false)
def tyX4 : Nat → FieldType := fun k => match k with
  | 0 => .object "SkittleStrings$Alley"
  | 1 => .object "SkittleStrings$Rack"
  | 2 => .array (.object "SkittleStrings$Sheet")
  | 3 => .int
  | 4 => .int
  | 5 => .int
  | _ => .int
abbrev wsX40 : List Cond := u_ws RX4 TX4 7
theorem nmX4 : ∀ a, a < 7 → ∀ b, b < 7 → a ≠ b → (TX4 a).2.1 ≠ (TX4 b).2.1 := by decide +kernel
theorem tyX4_ok : ∀ k, k < 7 → parseFieldDescriptor (TX4 k).2.2.1 = some (tyX4 k) := by decide +kernel
abbrev cX4_init : ByteArray := prog_1_method_1_code
def yX4_init : MethodName := ⟨RX4, "<init>", "()V"⟩
abbrev cX4_addPlayer : ByteArray := prog_1_method_2_code
def yX4_addPlayer : MethodName := ⟨RX4, "addPlayer", "()I"⟩
abbrev cX4_throwBall : ByteArray := prog_1_method_3_code
def yX4_throwBall : MethodName := ⟨RX4, "throwBall", "(II)I"⟩
abbrev cX4_replaceString : ByteArray := prog_1_method_4_code
def yX4_replaceString : MethodName := ⟨RX4, "replaceString", "(I)I"⟩
abbrev cX4_buyStrings : ByteArray := prog_1_method_5_code
def yX4_buyStrings : MethodName := ⟨RX4, "buyStrings", "(I)I"⟩
abbrev cX4_newGame : ByteArray := prog_1_method_6_code
def yX4_newGame : MethodName := ⟨RX4, "newGame", "()I"⟩
abbrev cX4_isStanding : ByteArray := prog_1_method_7_code
def yX4_isStanding : MethodName := ⟨RX4, "isStanding", "(I)Z"⟩
abbrev cX4_standing : ByteArray := prog_1_method_8_code
def yX4_standing : MethodName := ⟨RX4, "standing", "()I"⟩
abbrev cX4_wearOf : ByteArray := prog_1_method_9_code
def yX4_wearOf : MethodName := ⟨RX4, "wearOf", "(I)I"⟩
abbrev cX4_isBroken : ByteArray := prog_1_method_10_code
def yX4_isBroken : MethodName := ⟨RX4, "isBroken", "(I)Z"⟩
abbrev cX4_brokenStrings : ByteArray := prog_1_method_11_code
def yX4_brokenStrings : MethodName := ⟨RX4, "brokenStrings", "()I"⟩
abbrev cX4_mostWorn : ByteArray := prog_1_method_12_code
def yX4_mostWorn : MethodName := ⟨RX4, "mostWorn", "()I"⟩
abbrev cX4_spareStrings : ByteArray := prog_1_method_13_code
def yX4_spareStrings : MethodName := ⟨RX4, "spareStrings", "()I"⟩
abbrev cX4_awayFor : ByteArray := prog_1_method_14_code
def yX4_awayFor : MethodName := ⟨RX4, "awayFor", "(I)I"⟩
abbrev cX4_players : ByteArray := prog_1_method_15_code
def yX4_players : MethodName := ⟨RX4, "players", "()I"⟩
abbrev cX4_playerInTurn : ByteArray := prog_1_method_16_code
def yX4_playerInTurn : MethodName := ⟨RX4, "playerInTurn", "()I"⟩
abbrev cX4_frame : ByteArray := prog_1_method_17_code
def yX4_frame : MethodName := ⟨RX4, "frame", "()I"⟩
abbrev cX4_throwsInFrame : ByteArray := prog_1_method_18_code
def yX4_throwsInFrame : MethodName := ⟨RX4, "throwsInFrame", "()I"⟩
abbrev cX4_isOver : ByteArray := prog_1_method_19_code
def yX4_isOver : MethodName := ⟨RX4, "isOver", "()Z"⟩
abbrev cX4_throwsOf : ByteArray := prog_1_method_20_code
def yX4_throwsOf : MethodName := ⟨RX4, "throwsOf", "(I)I"⟩
abbrev cX4_scoreOf : ByteArray := prog_1_method_21_code
def yX4_scoreOf : MethodName := ⟨RX4, "scoreOf", "(I)I"⟩
abbrev cX4_pointsOf : ByteArray := prog_1_method_22_code
def yX4_pointsOf : MethodName := ⟨RX4, "pointsOf", "(II)I"⟩
abbrev cX4_strikesOf : ByteArray := prog_1_method_23_code
def yX4_strikesOf : MethodName := ⟨RX4, "strikesOf", "(I)I"⟩
abbrev cX4_sparesOf : ByteArray := prog_1_method_24_code
def yX4_sparesOf : MethodName := ⟨RX4, "sparesOf", "(I)I"⟩
abbrev cX4_leader : ByteArray := prog_1_method_25_code
def yX4_leader : MethodName := ⟨RX4, "leader", "()I"⟩
abbrev cX4_wouldFall : ByteArray := prog_1_method_26_code
def yX4_wouldFall : MethodName := ⟨RX4, "wouldFall", "(II)I"⟩
abbrev cX4_lastToFall : ByteArray := prog_1_method_27_code
def yX4_lastToFall : MethodName := ⟨RX4, "lastToFall", "(II)I"⟩
abbrev cX4_bestThrow : ByteArray := prog_1_method_28_code
def yX4_bestThrow : MethodName := ⟨RX4, "bestThrow", "()I"⟩
abbrev cX4_throwsToClear : ByteArray := prog_1_method_29_code
def yX4_throwsToClear : MethodName := ⟨RX4, "throwsToClear", "()I"⟩
abbrev cX4_wouldBreak : ByteArray := prog_1_method_30_code
def yX4_wouldBreak : MethodName := ⟨RX4, "wouldBreak", "()I"⟩
abbrev cX4_meanScore : ByteArray := prog_1_method_31_code
def yX4_meanScore : MethodName := ⟨RX4, "meanScore", "()D"⟩
abbrev cX4_digest : ByteArray := prog_1_method_32_code
def yX4_digest : MethodName := ⟨RX4, "digest", "()J"⟩
abbrev cX4_somethingThrown : ByteArray := prog_1_method_33_code
def yX4_somethingThrown : MethodName := ⟨RX4, "somethingThrown", "()Z"⟩
abbrev cX4_endFrame : ByteArray := prog_1_method_34_code
def yX4_endFrame : MethodName := ⟨RX4, "endFrame", "()V"⟩
abbrev cX4_checkPlayer : ByteArray := prog_1_method_35_code
def yX4_checkPlayer : MethodName := ⟨RX4, "checkPlayer", "(I)V"⟩
abbrev cX4_checkPin : ByteArray := prog_1_method_36_code
def yX4_checkPin : MethodName := ⟨RX4, "checkPin", "(I)V"⟩
abbrev cX4_checkBall : ByteArray := prog_1_method_37_code
def yX4_checkBall : MethodName := ⟨RX4, "checkBall", "(I)V"⟩
abbrev cX4_checkThrow : ByteArray := prog_1_method_38_code
def yX4_checkThrow : MethodName := ⟨RX4, "checkThrow", "(II)V"⟩
abbrev cX4_checkIndex : ByteArray := prog_1_method_39_code
def yX4_checkIndex : MethodName := ⟨RX4, "checkIndex", "(II)V"⟩
def RX5 : String := "SkittleStringsModel"
def TX5 : u_T := fun k => match k with
  | 0 => ("SkittleStringsModel", "thrown", "I", false)
  | 1 => ("SkittleStringsModel", "standing", "I", false)
  | 2 => ("SkittleStringsModel", "wear", "[I", true)
  | 3 => ("SkittleStringsModel", "away", "[I", true)
  | 4 => ("SkittleStringsModel", "spares", "I", false)
  | 5 => ("SkittleStringsModel", "players", "I", false)
  | 6 => ("SkittleStringsModel", "turn", "I", false)
  | 7 => ("SkittleStringsModel", "frame", "I", false)
  | 8 => ("SkittleStringsModel", "inFrame", "I", false)
  | 9 => ("SkittleStringsModel", "many", "[I", true)
  | 10 => ("SkittleStringsModel", "fell", "[I", true)
  | 11 => ("SkittleStringsModel", "begins", "[I", true)
  | 12 => ("SkittleStringsModel", "strikes", "[I", true)
  | 13 => ("SkittleStringsModel", "closed", "[I", true)
  | _ => ("SkittleStringsModel", "extra", "[I", true)
def tyX5 : Nat → FieldType := fun k => match k with
  | 0 => .int
  | 1 => .int
  | 2 => .array .int
  | 3 => .array .int
  | 4 => .int
  | 5 => .int
  | 6 => .int
  | 7 => .int
  | 8 => .int
  | 9 => .array .int
  | 10 => .array .int
  | 11 => .array .int
  | 12 => .array .int
  | 13 => .array .int
  | _ => .array .int
abbrev wsX50 : List Cond := u_ws RX5 TX5 15
theorem nmX5 : ∀ a, a < 15 → ∀ b, b < 15 → a ≠ b → (TX5 a).2.1 ≠ (TX5 b).2.1 := by decide +kernel
theorem tyX5_ok : ∀ k, k < 15 → parseFieldDescriptor (TX5 k).2.2.1 = some (tyX5 k) := by decide +kernel
abbrev cX5_init : ByteArray := prog_7_method_1_code
def yX5_init : MethodName := ⟨RX5, "<init>", "()V"⟩
abbrev cX5_thrown : ByteArray := prog_7_method_2_code
def yX5_thrown : MethodName := ⟨RX5, "thrown", "()I"⟩
abbrev cX5_no : ByteArray := prog_7_method_3_code
def yX5_no : MethodName := ⟨RX5, "no", "(I)I"⟩
abbrev cX5_isNot : ByteArray := prog_7_method_4_code
def yX5_isNot : MethodName := ⟨RX5, "isNot", "(I)Z"⟩
abbrev cX5_ok : ByteArray := prog_7_method_5_code
def yX5_ok : MethodName := ⟨RX5, "ok", "(I)I"⟩
abbrev cX5_isIn : ByteArray := prog_7_method_6_code
def yX5_isIn : MethodName := ⟨RX5, "isIn", "(III)Z"⟩
abbrev cX5_isPin : ByteArray := prog_7_method_7_code
def yX5_isPin : MethodName := ⟨RX5, "isPin", "(I)Z"⟩
abbrev cX5_isThrow : ByteArray := prog_7_method_8_code
def yX5_isThrow : MethodName := ⟨RX5, "isThrow", "(II)Z"⟩
abbrev cX5_isPlayer : ByteArray := prog_7_method_9_code
def yX5_isPlayer : MethodName := ⟨RX5, "isPlayer", "(I)Z"⟩
abbrev cX5_pinAt : ByteArray := prog_7_method_10_code
def yX5_pinAt : MethodName := ⟨RX5, "pinAt", "(II)I"⟩
abbrev cX5_hit : ByteArray := prog_7_method_11_code
def yX5_hit : MethodName := ⟨RX5, "hit", "(III)I"⟩
abbrev cX5_roll : ByteArray := prog_7_method_12_code
def yX5_roll : MethodName := ⟨RX5, "roll", "(III)I"⟩
abbrev cX5_broken : ByteArray := prog_7_method_13_code
def yX5_broken : MethodName := ⟨RX5, "broken", "(I)Z"⟩
abbrev cX5_putUp : ByteArray := prog_7_method_14_code
def yX5_putUp : MethodName := ⟨RX5, "putUp", "()V"⟩
abbrev cX5_over : ByteArray := prog_7_method_15_code
def yX5_over : MethodName := ⟨RX5, "over", "()Z"⟩
abbrev cX5_throwsOfAll : ByteArray := prog_7_method_16_code
def yX5_throwsOfAll : MethodName := ⟨RX5, "throwsOfAll", "()I"⟩
abbrev cX5_addPlayer : ByteArray := prog_7_method_17_code
def yX5_addPlayer : MethodName := ⟨RX5, "addPlayer", "()I"⟩
abbrev cX5_sum : ByteArray := prog_7_method_18_code
def yX5_sum : MethodName := ⟨RX5, "sum", "(III)I"⟩
abbrev cX5_begin : ByteArray := prog_7_method_19_code
def yX5_begin : MethodName := ⟨RX5, "begin", "(II)I"⟩
abbrev cX5_endFrame : ByteArray := prog_7_method_20_code
def yX5_endFrame : MethodName := ⟨RX5, "endFrame", "()V"⟩
abbrev cX5_play : ByteArray := prog_7_method_21_code
def yX5_play : MethodName := ⟨RX5, "play", "(II)I"⟩
abbrev cX5_throwBall : ByteArray := prog_7_method_22_code
def yX5_throwBall : MethodName := ⟨RX5, "throwBall", "(II)I"⟩
abbrev cX5_replaceString : ByteArray := prog_7_method_23_code
def yX5_replaceString : MethodName := ⟨RX5, "replaceString", "(I)I"⟩
abbrev cX5_buyStrings : ByteArray := prog_7_method_24_code
def yX5_buyStrings : MethodName := ⟨RX5, "buyStrings", "(I)I"⟩
abbrev cX5_points : ByteArray := prog_7_method_25_code
def yX5_points : MethodName := ⟨RX5, "points", "(II)I"⟩
abbrev cX5_score : ByteArray := prog_7_method_26_code
def yX5_score : MethodName := ⟨RX5, "score", "(I)I"⟩
abbrev cX5_first : ByteArray := prog_7_method_27_code
def yX5_first : MethodName := ⟨RX5, "first", "()I"⟩
abbrev cX5_newGame : ByteArray := prog_7_method_28_code
def yX5_newGame : MethodName := ⟨RX5, "newGame", "()I"⟩
abbrev cX5_isStanding : ByteArray := prog_7_method_29_code
def yX5_isStanding : MethodName := ⟨RX5, "isStanding", "(I)Z"⟩
abbrev cX5_standing : ByteArray := prog_7_method_30_code
def yX5_standing : MethodName := ⟨RX5, "standing", "()I"⟩
abbrev cX5_wearOf : ByteArray := prog_7_method_31_code
def yX5_wearOf : MethodName := ⟨RX5, "wearOf", "(I)I"⟩
abbrev cX5_isBroken : ByteArray := prog_7_method_32_code
def yX5_isBroken : MethodName := ⟨RX5, "isBroken", "(I)Z"⟩
abbrev cX5_brokenNow : ByteArray := prog_7_method_33_code
def yX5_brokenNow : MethodName := ⟨RX5, "brokenNow", "()I"⟩
abbrev cX5_brokenStrings : ByteArray := prog_7_method_34_code
def yX5_brokenStrings : MethodName := ⟨RX5, "brokenStrings", "()I"⟩
abbrev cX5_mostWorn : ByteArray := prog_7_method_35_code
def yX5_mostWorn : MethodName := ⟨RX5, "mostWorn", "()I"⟩
abbrev cX5_spareStrings : ByteArray := prog_7_method_36_code
def yX5_spareStrings : MethodName := ⟨RX5, "spareStrings", "()I"⟩
abbrev cX5_awayFor : ByteArray := prog_7_method_37_code
def yX5_awayFor : MethodName := ⟨RX5, "awayFor", "(I)I"⟩
abbrev cX5_players : ByteArray := prog_7_method_38_code
def yX5_players : MethodName := ⟨RX5, "players", "()I"⟩
abbrev cX5_turnNow : ByteArray := prog_7_method_39_code
def yX5_turnNow : MethodName := ⟨RX5, "turnNow", "()I"⟩
abbrev cX5_playerInTurn : ByteArray := prog_7_method_40_code
def yX5_playerInTurn : MethodName := ⟨RX5, "playerInTurn", "()I"⟩
abbrev cX5_frame : ByteArray := prog_7_method_41_code
def yX5_frame : MethodName := ⟨RX5, "frame", "()I"⟩
abbrev cX5_throwsInFrame : ByteArray := prog_7_method_42_code
def yX5_throwsInFrame : MethodName := ⟨RX5, "throwsInFrame", "()I"⟩
abbrev cX5_isOver : ByteArray := prog_7_method_43_code
def yX5_isOver : MethodName := ⟨RX5, "isOver", "()Z"⟩
abbrev cX5_of : ByteArray := prog_7_method_44_code
def yX5_of : MethodName := ⟨RX5, "of", "(I[I)I"⟩
abbrev cX5_throwsOf : ByteArray := prog_7_method_45_code
def yX5_throwsOf : MethodName := ⟨RX5, "throwsOf", "(I)I"⟩
abbrev cX5_scoreOf : ByteArray := prog_7_method_46_code
def yX5_scoreOf : MethodName := ⟨RX5, "scoreOf", "(I)I"⟩
abbrev cX5_pointsOf : ByteArray := prog_7_method_47_code
def yX5_pointsOf : MethodName := ⟨RX5, "pointsOf", "(II)I"⟩
abbrev cX5_strikesOf : ByteArray := prog_7_method_48_code
def yX5_strikesOf : MethodName := ⟨RX5, "strikesOf", "(I)I"⟩
abbrev cX5_sparesOf : ByteArray := prog_7_method_49_code
def yX5_sparesOf : MethodName := ⟨RX5, "sparesOf", "(I)I"⟩
abbrev cX5_leader : ByteArray := prog_7_method_50_code
def yX5_leader : MethodName := ⟨RX5, "leader", "()I"⟩
abbrev cX5_wouldFall : ByteArray := prog_7_method_51_code
def yX5_wouldFall : MethodName := ⟨RX5, "wouldFall", "(II)I"⟩
abbrev cX5_lastToFall : ByteArray := prog_7_method_52_code
def yX5_lastToFall : MethodName := ⟨RX5, "lastToFall", "(II)I"⟩
abbrev cX5_best : ByteArray := prog_7_method_53_code
def yX5_best : MethodName := ⟨RX5, "best", "()I"⟩
abbrev cX5_bestThrow : ByteArray := prog_7_method_54_code
def yX5_bestThrow : MethodName := ⟨RX5, "bestThrow", "()I"⟩
abbrev cX5_isCleared : ByteArray := prog_7_method_55_code
def yX5_isCleared : MethodName := ⟨RX5, "isCleared", "(III)Z"⟩
abbrev cX5_clear : ByteArray := prog_7_method_56_code
def yX5_clear : MethodName := ⟨RX5, "clear", "()I"⟩
abbrev cX5_throwsToClear : ByteArray := prog_7_method_57_code
def yX5_throwsToClear : MethodName := ⟨RX5, "throwsToClear", "()I"⟩
abbrev cX5_wouldBreak : ByteArray := prog_7_method_58_code
def yX5_wouldBreak : MethodName := ⟨RX5, "wouldBreak", "()I"⟩
abbrev cX5_meanScore : ByteArray := prog_7_method_59_code
def yX5_meanScore : MethodName := ⟨RX5, "meanScore", "()D"⟩
abbrev cX5_digest : ByteArray := prog_7_method_60_code
def yX5_digest : MethodName := ⟨RX5, "digest", "()J"⟩
def RJ6 : String := "java/lang/Integer"
def TJ6 : u_T := fun k => match k with
  | _ => ("", "", "", false)
def tyJ6 : Nat → FieldType := fun k => match k with
  | _ => .int
abbrev wsJ60 : List Cond := u_ws RJ6 TJ6 0
theorem nmJ6 : ∀ a, a < 0 → ∀ b, b < 0 → a ≠ b → (TJ6 a).2.1 ≠ (TJ6 b).2.1 := by decide +kernel
theorem tyJ6_ok : ∀ k, k < 0 → parseFieldDescriptor (TJ6 k).2.2.1 = some (tyJ6 k) := by decide +kernel
abbrev cJ6_numberOfLeadingZeros_0f7a4 : ByteArray := prog_12_method_47_code
def yJ6_numberOfLeadingZeros_0f7a4 : MethodName := ⟨RJ6, "numberOfLeadingZeros", "(I)I"⟩
abbrev cJ6_bitCount_0f7a4 : ByteArray := prog_12_method_49_code
def yJ6_bitCount_0f7a4 : MethodName := ⟨RJ6, "bitCount", "(I)I"⟩
def RJ9 : String := "java/lang/Math"
def TJ9 : u_T := fun k => match k with
  | _ => ("", "", "", false)
def tyJ9 : Nat → FieldType := fun k => match k with
  | _ => .int
abbrev wsJ90 : List Cond := u_ws RJ9 TJ9 0
theorem nmJ9 : ∀ a, a < 0 → ∀ b, b < 0 → a ≠ b → (TJ9 a).2.1 ≠ (TJ9 b).2.1 := by decide +kernel
theorem tyJ9_ok : ∀ k, k < 0 → parseFieldDescriptor (TJ9 k).2.2.1 = some (tyJ9 k) := by decide +kernel
abbrev cJ9_max_7cf53 : ByteArray := prog_13_method_65_code
def yJ9_max_7cf53 : MethodName := ⟨RJ9, "max", "(II)I"⟩
abbrev cJ9_min_7cf53 : ByteArray := prog_13_method_69_code
def yJ9_min_7cf53 : MethodName := ⟨RJ9, "min", "(II)I"⟩
def RJ0 : String := "java/lang/String"
def TJ0 : u_T := fun k => match k with
  | _ => ("", "", "", false)
def tyJ0 : Nat → FieldType := fun k => match k with
  | _ => .int
abbrev wsJ00 : List Cond := u_ws RJ0 TJ0 0
theorem nmJ0 : ∀ a, a < 0 → ∀ b, b < 0 → a ≠ b → (TJ0 a).2.1 ≠ (TJ0 b).2.1 := by decide +kernel
theorem tyJ0_ok : ∀ k, k < 0 → parseFieldDescriptor (TJ0 k).2.2.1 = some (tyJ0 k) := by decide +kernel
def RL : String := "SkittleStringsLaw"
abbrev cL_addPlayer : ByteArray := method_3_code
def yL_addPlayer : MethodName := ⟨RL, "addPlayer", "(LSkittleStrings;[J)I"⟩
abbrev cL_throwBall : ByteArray := method_4_code
def yL_throwBall : MethodName := ⟨RL, "throwBall", "(LSkittleStrings;II[J)I"⟩
abbrev cL_replaceString : ByteArray := method_5_code
def yL_replaceString : MethodName := ⟨RL, "replaceString", "(LSkittleStrings;I[J)I"⟩
abbrev cL_buyStrings : ByteArray := method_6_code
def yL_buyStrings : MethodName := ⟨RL, "buyStrings", "(LSkittleStrings;I[J)I"⟩
abbrev cL_isStanding : ByteArray := method_7_code
def yL_isStanding : MethodName := ⟨RL, "isStanding", "(LSkittleStrings;I[J)I"⟩
abbrev cL_wearOf : ByteArray := method_8_code
def yL_wearOf : MethodName := ⟨RL, "wearOf", "(LSkittleStrings;I[J)I"⟩
abbrev cL_isBroken : ByteArray := method_9_code
def yL_isBroken : MethodName := ⟨RL, "isBroken", "(LSkittleStrings;I[J)I"⟩
abbrev cL_awayFor : ByteArray := method_10_code
def yL_awayFor : MethodName := ⟨RL, "awayFor", "(LSkittleStrings;I[J)I"⟩
abbrev cL_throwsOf : ByteArray := method_11_code
def yL_throwsOf : MethodName := ⟨RL, "throwsOf", "(LSkittleStrings;I[J)I"⟩
abbrev cL_scoreOf : ByteArray := method_12_code
def yL_scoreOf : MethodName := ⟨RL, "scoreOf", "(LSkittleStrings;I[J)I"⟩
abbrev cL_pointsOf : ByteArray := method_13_code
def yL_pointsOf : MethodName := ⟨RL, "pointsOf", "(LSkittleStrings;II[J)I"⟩
abbrev cL_strikesOf : ByteArray := method_14_code
def yL_strikesOf : MethodName := ⟨RL, "strikesOf", "(LSkittleStrings;I[J)I"⟩
abbrev cL_sparesOf : ByteArray := method_15_code
def yL_sparesOf : MethodName := ⟨RL, "sparesOf", "(LSkittleStrings;I[J)I"⟩
abbrev cL_wouldFall : ByteArray := method_16_code
def yL_wouldFall : MethodName := ⟨RL, "wouldFall", "(LSkittleStrings;II[J)I"⟩
abbrev cL_lastToFall : ByteArray := method_17_code
def yL_lastToFall : MethodName := ⟨RL, "lastToFall", "(LSkittleStrings;II[J)I"⟩
abbrev cL_law : ByteArray := code
def yL_law : MethodName := ⟨RL, "law", "([I)Z"⟩
def wsX0_init : List Cond := .code yX0_init cX0_init 1 none :: ([.methodLink RX0 3 objectInit, .instanceMethod objectInit, .code objectInit ⟨#[0xb1]⟩ 1 none, .arrayClass .int, .fieldLink RX0 9 "SkittleStrings$Alley" "wears" "[I", .fieldLink RX0 17 "SkittleStrings$Alley" "standing" "I", .fieldLink RX0 21 "SkittleStrings$Alley" "spares" "I"] ++ wsX00)
def wsX0_standingPins : List Cond := .code yX0_standingPins cX0_standingPins 1 (some .int) :: ([.fieldLink RX0 17 "SkittleStrings$Alley" "standing" "I"] ++ wsX00)
def wsX0_spares : List Cond := .code yX0_spares cX0_spares 1 (some .int) :: ([.fieldLink RX0 21 "SkittleStrings$Alley" "spares" "I"] ++ wsX00)
def wsX0_wear : List Cond := .code yX0_wear cX0_wear 2 (some .int) :: ([.fieldLink RX0 9 "SkittleStrings$Alley" "wears" "[I"] ++ wsX00)
def wsX0_broken : List Cond := .code yX0_broken cX0_broken 2 (some .boolean) :: ([.fieldLink RX0 9 "SkittleStrings$Alley" "wears" "[I"] ++ wsX00)
def wsX0_setUp : List Cond := .code yX0_setUp cX0_setUp 2 none :: ([.fieldLink RX0 17 "SkittleStrings$Alley" "standing" "I", .methodLink RX0 24 yX0_broken, .instanceMethod yX0_broken, .selects RX0 yX0_broken yX0_broken, .initialized RX0, .code yX0_broken cX0_broken 2 (some .boolean), .fieldLink RX0 9 "SkittleStrings$Alley" "wears" "[I"] ++ wsX00)
def wsX1_pinAt : List Cond := .code yX1_pinAt cX1_pinAt 2 (some .int) :: ([.fieldLink RX1 31 "SkittleStrings$Pins" "PLACES" "[I"])
def wsX1_holds : List Cond := .code yX1_holds cX1_holds 2 (some .boolean) :: ([])
def wsX1_afterHit : List Cond := .code yX1_afterHit cX1_afterHit 6 (some .int) :: ([.methodLink RX1 19 yX1_pinAt, .static yX1_pinAt, .initialized RX1, .code yX1_pinAt cX1_pinAt 2 (some .int), .fieldLink RX1 31 "SkittleStrings$Pins" "PLACES" "[I", .methodLink RX1 9 yX1_holds, .static yX1_holds, .code yX1_holds cX1_holds 2 (some .boolean), .methodLink RX1 15 yX1_afterHit, .static yX1_afterHit])
def wsX1_felled : List Cond := .code yX1_felled cX1_felled 7 (some .int) :: ([.methodLink RX1 15 yX1_afterHit, .static yX1_afterHit, .initialized RX1, .code yX1_afterHit cX1_afterHit 6 (some .int), .methodLink RX1 19 yX1_pinAt, .static yX1_pinAt, .code yX1_pinAt cX1_pinAt 2 (some .int), .fieldLink RX1 31 "SkittleStrings$Pins" "PLACES" "[I", .methodLink RX1 9 yX1_holds, .static yX1_holds, .code yX1_holds cX1_holds 2 (some .boolean)])
def wsJ6_bitCount_0f7a4 : List Cond := .code yJ6_bitCount_0f7a4 cJ6_bitCount_0f7a4 1 (some .int) :: ([.constant RJ6 265 (1431655765), .constant RJ6 266 (858993459), .constant RJ6 267 (252645135)])
def wsX0_roll : List Cond := .code yX0_roll cX0_roll 5 (some .int) :: ([.fieldLink RX0 17 "SkittleStrings$Alley" "standing" "I", .fieldLink RX0 9 "SkittleStrings$Alley" "wears" "[I", .methodLink RX0 28 yX1_felled, .static yX1_felled, .initialized RX1, .code yX1_felled cX1_felled 7 (some .int), .methodLink RX1 15 yX1_afterHit, .static yX1_afterHit, .code yX1_afterHit cX1_afterHit 6 (some .int), .methodLink RX1 19 yX1_pinAt, .static yX1_pinAt, .code yX1_pinAt cX1_pinAt 2 (some .int), .fieldLink RX1 31 "SkittleStrings$Pins" "PLACES" "[I", .methodLink RX1 9 yX1_holds, .static yX1_holds, .code yX1_holds cX1_holds 2 (some .boolean), .methodLink RX0 32 yX1_holds, .methodLink RX0 36 yJ6_bitCount_0f7a4, .static yJ6_bitCount_0f7a4, .initialized RJ6, .code yJ6_bitCount_0f7a4 cJ6_bitCount_0f7a4 1 (some .int), .constant RJ6 265 (1431655765), .constant RJ6 266 (858993459), .constant RJ6 267 (252645135)] ++ wsX00)
def wsX0_replace : List Cond := .code yX0_replace cX0_replace 2 none :: ([.fieldLink RX0 21 "SkittleStrings$Alley" "spares" "I", .fieldLink RX0 9 "SkittleStrings$Alley" "wears" "[I"] ++ wsX00)
def wsX0_stock : List Cond := .code yX0_stock cX0_stock 2 none :: ([.fieldLink RX0 21 "SkittleStrings$Alley" "spares" "I"] ++ wsX00)
def wsX0_brokenCount : List Cond := .code yX0_brokenCount cX0_brokenCount 3 (some .int) :: ([.methodLink RX0 24 yX0_broken, .instanceMethod yX0_broken, .selects RX0 yX0_broken yX0_broken, .initialized RX0, .code yX0_broken cX0_broken 2 (some .boolean), .fieldLink RX0 9 "SkittleStrings$Alley" "wears" "[I"] ++ wsX00)
def wsX0_brokenIfAllFell : List Cond := .code yX0_brokenIfAllFell cX0_brokenIfAllFell 4 (some .int) :: ([.fieldLink RX0 17 "SkittleStrings$Alley" "standing" "I", .fieldLink RX0 9 "SkittleStrings$Alley" "wears" "[I", .methodLink RX0 32 yX1_holds, .static yX1_holds, .initialized RX1, .code yX1_holds cX1_holds 2 (some .boolean)] ++ wsX00)
def wsX0_mostWornPin : List Cond := .code yX0_mostWornPin cX0_mostWornPin 4 (some .int) :: ([.fieldLink RX0 9 "SkittleStrings$Alley" "wears" "[I", .methodLink RX0 24 yX0_broken, .instanceMethod yX0_broken, .selects RX0 yX0_broken yX0_broken, .initialized RX0, .code yX0_broken cX0_broken 2 (some .boolean)] ++ wsX00)
def wsX0_digestOn : List Cond := .code yX0_digestOn cX0_digestOn 6 (some .long) :: ([.constantLong RX0 42 (31), .fieldLink RX0 17 "SkittleStrings$Alley" "standing" "I", .fieldLink RX0 9 "SkittleStrings$Alley" "wears" "[I", .methodLink RX0 32 yX1_holds, .static yX1_holds, .initialized RX1, .code yX1_holds cX1_holds 2 (some .boolean)] ++ wsX00)
def wsX1_last : List Cond := .code yX1_last cX1_last 2 (some .int) :: ([.methodLink RX1 9 yX1_holds, .static yX1_holds, .initialized RX1, .code yX1_holds cX1_holds 2 (some .boolean)])
def wsX1_canClear : List Cond := .code yX1_canClear cX1_canClear 6 (some .boolean) :: ([.methodLink RX1 9 yX1_holds, .static yX1_holds, .initialized RX1, .code yX1_holds cX1_holds 2 (some .boolean), .methodLink RX1 23 yX1_felled, .static yX1_felled, .code yX1_felled cX1_felled 7 (some .int), .methodLink RX1 15 yX1_afterHit, .static yX1_afterHit, .code yX1_afterHit cX1_afterHit 6 (some .int), .methodLink RX1 19 yX1_pinAt, .static yX1_pinAt, .code yX1_pinAt cX1_pinAt 2 (some .int), .fieldLink RX1 31 "SkittleStrings$Pins" "PLACES" "[I", .methodLink RX1 27 yX1_canClear, .static yX1_canClear])
def wsX2_init : List Cond := .code yX2_init cX2_init 1 none :: ([.methodLink RX2 3 objectInit, .instanceMethod objectInit, .code objectInit ⟨#[0xb1]⟩ 1 none, .arrayClass .int, .fieldLink RX2 9 "SkittleStrings$Rack" "away" "[I"] ++ wsX20)
def wsX2_throwsAway : List Cond := .code yX2_throwsAway cX2_throwsAway 2 (some .int) :: ([.fieldLink RX2 9 "SkittleStrings$Rack" "away" "[I"] ++ wsX20)
def wsX2_send : List Cond := .code yX2_send cX2_send 3 none :: ([.fieldLink RX2 9 "SkittleStrings$Rack" "away" "[I", .methodLink RX2 15 Lib.Math.max.name, .static Lib.Math.max.name, .initialized "java/lang/Math", .code Lib.Math.max.name Lib.Math.max.code 2 (some .int)] ++ wsX20)
def wsX2_returnAll : List Cond := .code yX2_returnAll cX2_returnAll 2 none :: ([.fieldLink RX2 9 "SkittleStrings$Rack" "away" "[I"] ++ wsX20)
def wsX2_digestOn : List Cond := .code yX2_digestOn cX2_digestOn 6 (some .long) :: ([.constantLong RX2 21 (31), .fieldLink RX2 9 "SkittleStrings$Rack" "away" "[I"] ++ wsX20)
def wsX3_init : List Cond := .code yX3_init cX3_init 1 none :: ([.methodLink RX3 3 objectInit, .instanceMethod objectInit, .code objectInit ⟨#[0xb1]⟩ 1 none, .arrayClass .int, .fieldLink RX3 9 "SkittleStrings$Sheet" "pinsOfThrow" "[I", .fieldLink RX3 15 "SkittleStrings$Sheet" "firstThrow" "[I", .fieldLink RX3 18 "SkittleStrings$Sheet" "throwsIn" "[I", .fieldLink RX3 21 "SkittleStrings$Sheet" "bonusThrows" "[I"] ++ wsX30)
def wsX3_thrown : List Cond := .code yX3_thrown cX3_thrown 1 (some .int) :: ([.fieldLink RX3 24 "SkittleStrings$Sheet" "thrown" "I"] ++ wsX30)
def wsX3_clear : List Cond := .code yX3_clear cX3_clear 2 none :: ([.fieldLink RX3 24 "SkittleStrings$Sheet" "thrown" "I", .fieldLink RX3 15 "SkittleStrings$Sheet" "firstThrow" "[I", .fieldLink RX3 18 "SkittleStrings$Sheet" "throwsIn" "[I", .fieldLink RX3 21 "SkittleStrings$Sheet" "bonusThrows" "[I"] ++ wsX30)
def wsX3_enter : List Cond := .code yX3_enter cX3_enter 4 none :: ([.fieldLink RX3 24 "SkittleStrings$Sheet" "thrown" "I", .fieldLink RX3 9 "SkittleStrings$Sheet" "pinsOfThrow" "[I", .fieldLink RX3 18 "SkittleStrings$Sheet" "throwsIn" "[I", .fieldLink RX3 15 "SkittleStrings$Sheet" "firstThrow" "[I", .fieldLink RX3 21 "SkittleStrings$Sheet" "bonusThrows" "[I"] ++ wsX30)
def wsX3_points : List Cond := .code yX3_points cX3_points 5 (some .int) :: ([.fieldLink RX3 24 "SkittleStrings$Sheet" "thrown" "I", .fieldLink RX3 15 "SkittleStrings$Sheet" "firstThrow" "[I", .fieldLink RX3 18 "SkittleStrings$Sheet" "throwsIn" "[I", .fieldLink RX3 21 "SkittleStrings$Sheet" "bonusThrows" "[I", .methodLink RX3 28 Lib.Math.min.name, .static Lib.Math.min.name, .initialized "java/lang/Math", .code Lib.Math.min.name Lib.Math.min.code 2 (some .int), .fieldLink RX3 9 "SkittleStrings$Sheet" "pinsOfThrow" "[I"] ++ wsX30)
def wsX3_score : List Cond := .code yX3_score cX3_score 3 (some .int) :: ([.methodLink RX3 34 yX3_points, .instanceMethod yX3_points, .selects RX3 yX3_points yX3_points, .initialized RX3, .code yX3_points cX3_points 5 (some .int), .fieldLink RX3 24 "SkittleStrings$Sheet" "thrown" "I", .fieldLink RX3 15 "SkittleStrings$Sheet" "firstThrow" "[I", .fieldLink RX3 18 "SkittleStrings$Sheet" "throwsIn" "[I", .fieldLink RX3 21 "SkittleStrings$Sheet" "bonusThrows" "[I", .methodLink RX3 28 Lib.Math.min.name, .static Lib.Math.min.name, .initialized "java/lang/Math", .code Lib.Math.min.name Lib.Math.min.code 2 (some .int), .fieldLink RX3 9 "SkittleStrings$Sheet" "pinsOfThrow" "[I"] ++ wsX30)
def wsX3_framesWithBonus : List Cond := .code yX3_framesWithBonus cX3_framesWithBonus 4 (some .int) :: ([.fieldLink RX3 21 "SkittleStrings$Sheet" "bonusThrows" "[I"] ++ wsX30)
def wsX3_strikes : List Cond := .code yX3_strikes cX3_strikes 1 (some .int) :: ([.methodLink RX3 38 yX3_framesWithBonus, .instanceMethod yX3_framesWithBonus, .selects RX3 yX3_framesWithBonus yX3_framesWithBonus, .initialized RX3, .code yX3_framesWithBonus cX3_framesWithBonus 4 (some .int), .fieldLink RX3 21 "SkittleStrings$Sheet" "bonusThrows" "[I"] ++ wsX30)
def wsX3_spares : List Cond := .code yX3_spares cX3_spares 1 (some .int) :: ([.methodLink RX3 38 yX3_framesWithBonus, .instanceMethod yX3_framesWithBonus, .selects RX3 yX3_framesWithBonus yX3_framesWithBonus, .initialized RX3, .code yX3_framesWithBonus cX3_framesWithBonus 4 (some .int), .fieldLink RX3 21 "SkittleStrings$Sheet" "bonusThrows" "[I"] ++ wsX30)
def wsX3_digestOn_r1 : List Cond := [Cond.constantLong RX3 41 (31), Cond.fieldLink RX3 24 "SkittleStrings$Sheet" "thrown" "I", Cond.methodLink RX3 43 yX3_score, Cond.instanceMethod yX3_score, Cond.selects RX3 yX3_score yX3_score, Cond.initialized RX3, Cond.code yX3_score cX3_score 3 (some .int), Cond.methodLink RX3 34 yX3_points, Cond.instanceMethod yX3_points, Cond.selects RX3 yX3_points yX3_points, Cond.code yX3_points cX3_points 5 (some .int), Cond.fieldLink RX3 15 "SkittleStrings$Sheet" "firstThrow" "[I", Cond.fieldLink RX3 18 "SkittleStrings$Sheet" "throwsIn" "[I", Cond.fieldLink RX3 21 "SkittleStrings$Sheet" "bonusThrows" "[I", Cond.methodLink RX3 28 Lib.Math.min.name, Cond.static Lib.Math.min.name, Cond.initialized "java/lang/Math", Cond.code Lib.Math.min.name Lib.Math.min.code 2 (some .int), Cond.fieldLink RX3 9 "SkittleStrings$Sheet" "pinsOfThrow" "[I", Cond.methodLink RX3 47 yX3_strikes, Cond.instanceMethod yX3_strikes, Cond.selects RX3 yX3_strikes yX3_strikes, Cond.code yX3_strikes cX3_strikes 1 (some .int), Cond.methodLink RX3 38 yX3_framesWithBonus]
def wsX3_digestOn_r2 : List Cond := [Cond.instanceMethod yX3_framesWithBonus, Cond.selects RX3 yX3_framesWithBonus yX3_framesWithBonus, Cond.code yX3_framesWithBonus cX3_framesWithBonus 4 (some .int), Cond.methodLink RX3 50 yX3_spares, Cond.instanceMethod yX3_spares, Cond.selects RX3 yX3_spares yX3_spares, Cond.code yX3_spares cX3_spares 1 (some .int)]
def wsX3_digestOn : List Cond := .code yX3_digestOn cX3_digestOn 6 (some .long) :: ((wsX3_digestOn_r1 ++ wsX3_digestOn_r2) ++ wsX30)
def wsX4_init_r1 : List Cond := [Cond.methodLink RX4 1 objectInit, Cond.instanceMethod objectInit, Cond.code objectInit ⟨#[0xb1]⟩ 1 none, Cond.classLink RX4 7 RX0, Cond.instantiable RX0 3, Cond.initialized RX0, Cond.fieldLink RX4 10 "SkittleStrings" "alley" "LSkittleStrings$Alley;", Cond.classLink RX4 16 RX2, Cond.instantiable RX2 1, Cond.initialized RX2, Cond.fieldLink RX4 19 "SkittleStrings" "rack" "LSkittleStrings$Rack;", Cond.classLink RX4 23 RX3, Cond.fieldLink RX4 25 "SkittleStrings" "sheets" "[LSkittleStrings$Sheet;", Cond.instantiable RX3 5, Cond.initialized RX3, Cond.instanceMethod yX0_init, Cond.code yX0_init cX0_init 1 none, Cond.methodLink RX0 3 objectInit, Cond.arrayClass .int, Cond.fieldLink RX0 9 "SkittleStrings$Alley" "wears" "[I", Cond.fieldLink RX0 17 "SkittleStrings$Alley" "standing" "I", Cond.fieldLink RX0 21 "SkittleStrings$Alley" "spares" "I", Cond.instanceMethod yX2_init, Cond.code yX2_init cX2_init 1 none]
def wsX4_init_r2 : List Cond := [Cond.methodLink RX2 3 objectInit, Cond.fieldLink RX2 9 "SkittleStrings$Rack" "away" "[I", Cond.instanceMethod yX3_init, Cond.code yX3_init cX3_init 1 none, Cond.methodLink RX3 3 objectInit, Cond.fieldLink RX3 9 "SkittleStrings$Sheet" "pinsOfThrow" "[I", Cond.fieldLink RX3 15 "SkittleStrings$Sheet" "firstThrow" "[I", Cond.fieldLink RX3 18 "SkittleStrings$Sheet" "throwsIn" "[I", Cond.fieldLink RX3 21 "SkittleStrings$Sheet" "bonusThrows" "[I"]
def wsX4_init : List Cond := .code yX4_init cX4_init 2 none :: ((wsX4_init_r1 ++ wsX4_init_r2) ++ wsX00 ++ wsX40 ++ wsX20 ++ wsX30)
def wsX4_somethingThrown : List Cond := .code yX4_somethingThrown cX4_somethingThrown 1 (some .boolean) :: ([.fieldLink RX4 25 "SkittleStrings" "sheets" "[LSkittleStrings$Sheet;", .methodLink RX4 150 yX3_thrown, .instanceMethod yX3_thrown, .selects RX3 yX3_thrown yX3_thrown, .initialized RX3, .code yX3_thrown cX3_thrown 1 (some .int), .fieldLink RX3 24 "SkittleStrings$Sheet" "thrown" "I"] ++ wsX40 ++ wsX30)
def wsX4_addPlayer : List Cond := .code yX4_addPlayer cX4_addPlayer 2 (some .int) :: ([.classLink RX4 38 "java/lang/IllegalStateException", .initialized "java/lang/IllegalStateException", .fieldLink RX4 30 "SkittleStrings" "playerCount" "I", .methodLink RX4 34 yX4_somethingThrown, .instanceMethod yX4_somethingThrown, .selects RX4 yX4_somethingThrown yX4_somethingThrown, .initialized RX4, .code yX4_somethingThrown cX4_somethingThrown 1 (some .boolean), .fieldLink RX4 25 "SkittleStrings" "sheets" "[LSkittleStrings$Sheet;", .methodLink RX4 150 yX3_thrown, .instanceMethod yX3_thrown, .selects RX3 yX3_thrown yX3_thrown, .initialized RX3, .code yX3_thrown cX3_thrown 1 (some .int), .fieldLink RX3 24 "SkittleStrings$Sheet" "thrown" "I"] ++ wsX40 ++ wsX30 ++ (vx_atS RX4 42 "java/lang/IllegalStateException" ["java/lang/RuntimeException", "java/lang/Exception"]).filter goodWord)
def wsX4_checkIndex : List Cond := .code yX4_checkIndex cX4_checkIndex 2 none :: ([.classLink RX4 196 "java/lang/IndexOutOfBoundsException", .initialized "java/lang/IndexOutOfBoundsException"] ++ (vx_atS RX4 200 "java/lang/IndexOutOfBoundsException" ["java/lang/RuntimeException", "java/lang/Exception"]).filter goodWord)
def wsX4_checkBall : List Cond := .code yX4_checkBall cX4_checkBall 1 none :: ([.methodLink RX4 156 yX4_checkIndex, .static yX4_checkIndex, .initialized RX4, .code yX4_checkIndex cX4_checkIndex 2 none, .classLink RX4 196 "java/lang/IndexOutOfBoundsException", .initialized "java/lang/IndexOutOfBoundsException"] ++ (vx_atS RX4 200 "java/lang/IndexOutOfBoundsException" ["java/lang/RuntimeException", "java/lang/Exception"]).filter goodWord)
def wsX4_checkThrow : List Cond := .code yX4_checkThrow cX4_checkThrow 2 none :: ([.methodLink RX4 141 yX4_checkBall, .static yX4_checkBall, .initialized RX4, .code yX4_checkBall cX4_checkBall 1 none, .methodLink RX4 156 yX4_checkIndex, .static yX4_checkIndex, .code yX4_checkIndex cX4_checkIndex 2 none, .classLink RX4 196 "java/lang/IndexOutOfBoundsException", .initialized "java/lang/IndexOutOfBoundsException"] ++ (vx_atS RX4 200 "java/lang/IndexOutOfBoundsException" ["java/lang/RuntimeException", "java/lang/Exception"]).filter goodWord)
def wsX4_isOver : List Cond := .code yX4_isOver cX4_isOver 1 (some .boolean) :: ([.fieldLink RX4 70 "SkittleStrings" "frameNow" "I"] ++ wsX40)
def wsX4_playerInTurn : List Cond := .code yX4_playerInTurn cX4_playerInTurn 1 (some .int) :: ([.fieldLink RX4 30 "SkittleStrings" "playerCount" "I", .fieldLink RX4 108 "SkittleStrings" "turn" "I", .methodLink RX4 144 yX4_isOver, .instanceMethod yX4_isOver, .selects RX4 yX4_isOver yX4_isOver, .initialized RX4, .code yX4_isOver cX4_isOver 1 (some .boolean), .fieldLink RX4 70 "SkittleStrings" "frameNow" "I"] ++ wsX40)
def wsX4_endFrame : List Cond := .code yX4_endFrame cX4_endFrame 1 none :: ([.fieldLink RX4 77 "SkittleStrings" "throwsNow" "I", .fieldLink RX4 108 "SkittleStrings" "turn" "I", .fieldLink RX4 30 "SkittleStrings" "playerCount" "I", .fieldLink RX4 70 "SkittleStrings" "frameNow" "I", .fieldLink RX4 10 "SkittleStrings" "alley" "LSkittleStrings$Alley;", .methodLink RX4 144 yX4_isOver, .instanceMethod yX4_isOver, .selects RX4 yX4_isOver yX4_isOver, .initialized RX4, .code yX4_isOver cX4_isOver 1 (some .boolean), .methodLink RX4 114 yX0_setUp, .instanceMethod yX0_setUp, .selects RX0 yX0_setUp yX0_setUp, .initialized RX0, .code yX0_setUp cX0_setUp 2 none, .fieldLink RX0 17 "SkittleStrings$Alley" "standing" "I", .methodLink RX0 24 yX0_broken, .instanceMethod yX0_broken, .selects RX0 yX0_broken yX0_broken, .code yX0_broken cX0_broken 2 (some .boolean), .fieldLink RX0 9 "SkittleStrings$Alley" "wears" "[I"] ++ wsX40 ++ wsX00)
def wsX4_throwBall_r1 : List Cond := [Cond.classLink RX4 38 "java/lang/IllegalStateException", Cond.initialized "java/lang/IllegalStateException", Cond.fieldLink RX4 19 "SkittleStrings" "rack" "LSkittleStrings$Rack;", Cond.fieldLink RX4 10 "SkittleStrings" "alley" "LSkittleStrings$Alley;", Cond.fieldLink RX4 25 "SkittleStrings" "sheets" "[LSkittleStrings$Sheet;", Cond.fieldLink RX4 70 "SkittleStrings" "frameNow" "I", Cond.fieldLink RX4 77 "SkittleStrings" "throwsNow" "I", Cond.methodLink RX4 45 yX4_checkThrow, Cond.static yX4_checkThrow, Cond.initialized RX4, Cond.code yX4_checkThrow cX4_checkThrow 2 none, Cond.methodLink RX4 141 yX4_checkBall, Cond.static yX4_checkBall, Cond.code yX4_checkBall cX4_checkBall 1 none, Cond.methodLink RX4 156 yX4_checkIndex, Cond.static yX4_checkIndex, Cond.code yX4_checkIndex cX4_checkIndex 2 none, Cond.classLink RX4 196 "java/lang/IndexOutOfBoundsException", Cond.initialized "java/lang/IndexOutOfBoundsException", Cond.methodLink RX4 49 yX4_playerInTurn, Cond.instanceMethod yX4_playerInTurn, Cond.selects RX4 yX4_playerInTurn yX4_playerInTurn, Cond.code yX4_playerInTurn cX4_playerInTurn 1 (some .int), Cond.fieldLink RX4 30 "SkittleStrings" "playerCount" "I"]
def wsX4_throwBall_r2 : List Cond := [Cond.fieldLink RX4 108 "SkittleStrings" "turn" "I", Cond.methodLink RX4 144 yX4_isOver, Cond.instanceMethod yX4_isOver, Cond.selects RX4 yX4_isOver yX4_isOver, Cond.code yX4_isOver cX4_isOver 1 (some .boolean), Cond.methodLink RX4 53 yX2_throwsAway, Cond.instanceMethod yX2_throwsAway, Cond.selects RX2 yX2_throwsAway yX2_throwsAway, Cond.initialized RX2, Cond.code yX2_throwsAway cX2_throwsAway 2 (some .int), Cond.fieldLink RX2 9 "SkittleStrings$Rack" "away" "[I", Cond.methodLink RX4 59 yX0_roll, Cond.instanceMethod yX0_roll, Cond.selects RX0 yX0_roll yX0_roll, Cond.initialized RX0, Cond.code yX0_roll cX0_roll 5 (some .int), Cond.fieldLink RX0 17 "SkittleStrings$Alley" "standing" "I", Cond.fieldLink RX0 9 "SkittleStrings$Alley" "wears" "[I", Cond.methodLink RX0 28 yX1_felled, Cond.static yX1_felled, Cond.initialized RX1, Cond.code yX1_felled cX1_felled 7 (some .int), Cond.methodLink RX1 15 yX1_afterHit, Cond.static yX1_afterHit]
def wsX4_throwBall_r3 : List Cond := [Cond.code yX1_afterHit cX1_afterHit 6 (some .int), Cond.methodLink RX1 19 yX1_pinAt, Cond.static yX1_pinAt, Cond.code yX1_pinAt cX1_pinAt 2 (some .int), Cond.fieldLink RX1 31 "SkittleStrings$Pins" "PLACES" "[I", Cond.methodLink RX1 9 yX1_holds, Cond.static yX1_holds, Cond.code yX1_holds cX1_holds 2 (some .boolean), Cond.methodLink RX0 32 yX1_holds, Cond.methodLink RX0 36 yJ6_bitCount_0f7a4, Cond.static yJ6_bitCount_0f7a4, Cond.initialized RJ6, Cond.code yJ6_bitCount_0f7a4 cJ6_bitCount_0f7a4 1 (some .int), Cond.constant RJ6 265 (1431655765), Cond.constant RJ6 266 (858993459), Cond.constant RJ6 267 (252645135), Cond.methodLink RX4 63 yX2_send, Cond.instanceMethod yX2_send, Cond.selects RX2 yX2_send yX2_send, Cond.code yX2_send cX2_send 3 none, Cond.methodLink RX2 15 Lib.Math.max.name, Cond.static Lib.Math.max.name, Cond.initialized "java/lang/Math", Cond.code Lib.Math.max.name Lib.Math.max.code 2 (some .int)]
def wsX4_throwBall_r4 : List Cond := [Cond.methodLink RX4 67 yX0_standingPins, Cond.instanceMethod yX0_standingPins, Cond.selects RX0 yX0_standingPins yX0_standingPins, Cond.code yX0_standingPins cX0_standingPins 1 (some .int), Cond.methodLink RX4 73 yX3_enter, Cond.instanceMethod yX3_enter, Cond.selects RX3 yX3_enter yX3_enter, Cond.initialized RX3, Cond.code yX3_enter cX3_enter 4 none, Cond.fieldLink RX3 24 "SkittleStrings$Sheet" "thrown" "I", Cond.fieldLink RX3 9 "SkittleStrings$Sheet" "pinsOfThrow" "[I", Cond.fieldLink RX3 18 "SkittleStrings$Sheet" "throwsIn" "[I", Cond.fieldLink RX3 15 "SkittleStrings$Sheet" "firstThrow" "[I", Cond.fieldLink RX3 21 "SkittleStrings$Sheet" "bonusThrows" "[I", Cond.methodLink RX4 80 yX4_endFrame, Cond.instanceMethod yX4_endFrame, Cond.selects RX4 yX4_endFrame yX4_endFrame, Cond.code yX4_endFrame cX4_endFrame 1 none, Cond.methodLink RX4 114 yX0_setUp, Cond.instanceMethod yX0_setUp, Cond.selects RX0 yX0_setUp yX0_setUp, Cond.code yX0_setUp cX0_setUp 2 none, Cond.methodLink RX0 24 yX0_broken, Cond.instanceMethod yX0_broken]
def wsX4_throwBall_r5 : List Cond := [Cond.selects RX0 yX0_broken yX0_broken, Cond.code yX0_broken cX0_broken 2 (some .boolean)]
def wsX4_throwBall : List Cond := .code yX4_throwBall cX4_throwBall 6 (some .int) :: ((wsX4_throwBall_r1 ++ (wsX4_throwBall_r2 ++ (wsX4_throwBall_r3 ++ (wsX4_throwBall_r4 ++ wsX4_throwBall_r5)))) ++ wsX40 ++ wsX20 ++ wsX00 ++ wsX30 ++ (vx_atS RX4 42 "java/lang/IllegalStateException" ["java/lang/RuntimeException", "java/lang/Exception"]).filter goodWord ++ (vx_atS RX4 200 "java/lang/IndexOutOfBoundsException" ["java/lang/RuntimeException", "java/lang/Exception"]).filter goodWord)
def wsX4_checkPin : List Cond := .code yX4_checkPin cX4_checkPin 1 none :: ([.methodLink RX4 156 yX4_checkIndex, .static yX4_checkIndex, .initialized RX4, .code yX4_checkIndex cX4_checkIndex 2 none, .classLink RX4 196 "java/lang/IndexOutOfBoundsException", .initialized "java/lang/IndexOutOfBoundsException"] ++ (vx_atS RX4 200 "java/lang/IndexOutOfBoundsException" ["java/lang/RuntimeException", "java/lang/Exception"]).filter goodWord)
def wsX4_replaceString : List Cond := .code yX4_replaceString cX4_replaceString 2 (some .int) :: ([.classLink RX4 38 "java/lang/IllegalStateException", .initialized "java/lang/IllegalStateException", .fieldLink RX4 10 "SkittleStrings" "alley" "LSkittleStrings$Alley;", .methodLink RX4 83 yX4_checkPin, .static yX4_checkPin, .initialized RX4, .code yX4_checkPin cX4_checkPin 1 none, .methodLink RX4 156 yX4_checkIndex, .static yX4_checkIndex, .code yX4_checkIndex cX4_checkIndex 2 none, .classLink RX4 196 "java/lang/IndexOutOfBoundsException", .initialized "java/lang/IndexOutOfBoundsException", .methodLink RX4 86 yX0_spares, .instanceMethod yX0_spares, .selects RX0 yX0_spares yX0_spares, .initialized RX0, .code yX0_spares cX0_spares 1 (some .int), .fieldLink RX0 21 "SkittleStrings$Alley" "spares" "I", .methodLink RX4 91 yX0_replace, .instanceMethod yX0_replace, .selects RX0 yX0_replace yX0_replace, .code yX0_replace cX0_replace 2 none, .fieldLink RX0 9 "SkittleStrings$Alley" "wears" "[I"] ++ wsX40 ++ wsX00 ++ (vx_atS RX4 42 "java/lang/IllegalStateException" ["java/lang/RuntimeException", "java/lang/Exception"]).filter goodWord ++ (vx_atS RX4 200 "java/lang/IndexOutOfBoundsException" ["java/lang/RuntimeException", "java/lang/Exception"]).filter goodWord)
def wsX4_buyStrings : List Cond := .code yX4_buyStrings cX4_buyStrings 2 (some .int) :: ([.classLink RX4 94 "java/lang/IllegalArgumentException", .initialized "java/lang/IllegalArgumentException", .fieldLink RX4 10 "SkittleStrings" "alley" "LSkittleStrings$Alley;", .methodLink RX4 99 yX0_stock, .instanceMethod yX0_stock, .selects RX0 yX0_stock yX0_stock, .initialized RX0, .code yX0_stock cX0_stock 2 none, .fieldLink RX0 21 "SkittleStrings$Alley" "spares" "I", .methodLink RX4 86 yX0_spares, .instanceMethod yX0_spares, .selects RX0 yX0_spares yX0_spares, .code yX0_spares cX0_spares 1 (some .int)] ++ wsX40 ++ wsX00 ++ (vx_atS RX4 98 "java/lang/IllegalArgumentException" ["java/lang/RuntimeException", "java/lang/Exception"]).filter goodWord)
def wsX4_leader : List Cond := .code yX4_leader cX4_leader 5 (some .int) :: ([.fieldLink RX4 30 "SkittleStrings" "playerCount" "I", .fieldLink RX4 25 "SkittleStrings" "sheets" "[LSkittleStrings$Sheet;", .methodLink RX4 153 yX3_score, .instanceMethod yX3_score, .selects RX3 yX3_score yX3_score, .initialized RX3, .code yX3_score cX3_score 3 (some .int), .methodLink RX3 34 yX3_points, .instanceMethod yX3_points, .selects RX3 yX3_points yX3_points, .code yX3_points cX3_points 5 (some .int), .fieldLink RX3 24 "SkittleStrings$Sheet" "thrown" "I", .fieldLink RX3 15 "SkittleStrings$Sheet" "firstThrow" "[I", .fieldLink RX3 18 "SkittleStrings$Sheet" "throwsIn" "[I", .fieldLink RX3 21 "SkittleStrings$Sheet" "bonusThrows" "[I", .methodLink RX3 28 Lib.Math.min.name, .static Lib.Math.min.name, .initialized "java/lang/Math", .code Lib.Math.min.name Lib.Math.min.code 2 (some .int), .fieldLink RX3 9 "SkittleStrings$Sheet" "pinsOfThrow" "[I"] ++ wsX40 ++ wsX30)
def wsX4_newGame_r1 : List Cond := [Cond.fieldLink RX4 25 "SkittleStrings" "sheets" "[LSkittleStrings$Sheet;", Cond.fieldLink RX4 108 "SkittleStrings" "turn" "I", Cond.fieldLink RX4 70 "SkittleStrings" "frameNow" "I", Cond.fieldLink RX4 77 "SkittleStrings" "throwsNow" "I", Cond.fieldLink RX4 19 "SkittleStrings" "rack" "LSkittleStrings$Rack;", Cond.fieldLink RX4 10 "SkittleStrings" "alley" "LSkittleStrings$Alley;", Cond.methodLink RX4 102 yX4_leader, Cond.instanceMethod yX4_leader, Cond.selects RX4 yX4_leader yX4_leader, Cond.initialized RX4, Cond.code yX4_leader cX4_leader 5 (some .int), Cond.fieldLink RX4 30 "SkittleStrings" "playerCount" "I", Cond.methodLink RX4 153 yX3_score, Cond.instanceMethod yX3_score, Cond.selects RX3 yX3_score yX3_score, Cond.initialized RX3, Cond.code yX3_score cX3_score 3 (some .int), Cond.methodLink RX3 34 yX3_points, Cond.instanceMethod yX3_points, Cond.selects RX3 yX3_points yX3_points, Cond.code yX3_points cX3_points 5 (some .int), Cond.fieldLink RX3 24 "SkittleStrings$Sheet" "thrown" "I", Cond.fieldLink RX3 15 "SkittleStrings$Sheet" "firstThrow" "[I", Cond.fieldLink RX3 18 "SkittleStrings$Sheet" "throwsIn" "[I"]
def wsX4_newGame_r2 : List Cond := [Cond.fieldLink RX3 21 "SkittleStrings$Sheet" "bonusThrows" "[I", Cond.methodLink RX3 28 Lib.Math.min.name, Cond.static Lib.Math.min.name, Cond.initialized "java/lang/Math", Cond.code Lib.Math.min.name Lib.Math.min.code 2 (some .int), Cond.fieldLink RX3 9 "SkittleStrings$Sheet" "pinsOfThrow" "[I", Cond.methodLink RX4 105 yX3_clear, Cond.instanceMethod yX3_clear, Cond.selects RX3 yX3_clear yX3_clear, Cond.code yX3_clear cX3_clear 2 none, Cond.methodLink RX4 111 yX2_returnAll, Cond.instanceMethod yX2_returnAll, Cond.selects RX2 yX2_returnAll yX2_returnAll, Cond.initialized RX2, Cond.code yX2_returnAll cX2_returnAll 2 none, Cond.fieldLink RX2 9 "SkittleStrings$Rack" "away" "[I", Cond.methodLink RX4 114 yX0_setUp, Cond.instanceMethod yX0_setUp, Cond.selects RX0 yX0_setUp yX0_setUp, Cond.initialized RX0, Cond.code yX0_setUp cX0_setUp 2 none, Cond.fieldLink RX0 17 "SkittleStrings$Alley" "standing" "I", Cond.methodLink RX0 24 yX0_broken, Cond.instanceMethod yX0_broken]
def wsX4_newGame_r3 : List Cond := [Cond.selects RX0 yX0_broken yX0_broken, Cond.code yX0_broken cX0_broken 2 (some .boolean), Cond.fieldLink RX0 9 "SkittleStrings$Alley" "wears" "[I"]
def wsX4_newGame : List Cond := .code yX4_newGame cX4_newGame 3 (some .int) :: ((wsX4_newGame_r1 ++ (wsX4_newGame_r2 ++ wsX4_newGame_r3)) ++ wsX40 ++ wsX30 ++ wsX20 ++ wsX00)
def wsX4_isStanding : List Cond := .code yX4_isStanding cX4_isStanding 2 (some .boolean) :: ([.fieldLink RX4 10 "SkittleStrings" "alley" "LSkittleStrings$Alley;", .methodLink RX4 83 yX4_checkPin, .static yX4_checkPin, .initialized RX4, .code yX4_checkPin cX4_checkPin 1 none, .methodLink RX4 156 yX4_checkIndex, .static yX4_checkIndex, .code yX4_checkIndex cX4_checkIndex 2 none, .classLink RX4 196 "java/lang/IndexOutOfBoundsException", .initialized "java/lang/IndexOutOfBoundsException", .methodLink RX4 67 yX0_standingPins, .instanceMethod yX0_standingPins, .selects RX0 yX0_standingPins yX0_standingPins, .initialized RX0, .code yX0_standingPins cX0_standingPins 1 (some .int), .fieldLink RX0 17 "SkittleStrings$Alley" "standing" "I", .methodLink RX4 117 yX1_holds, .static yX1_holds, .initialized RX1, .code yX1_holds cX1_holds 2 (some .boolean)] ++ wsX40 ++ wsX00 ++ (vx_atS RX4 200 "java/lang/IndexOutOfBoundsException" ["java/lang/RuntimeException", "java/lang/Exception"]).filter goodWord)
def wsX4_standing : List Cond := .code yX4_standing cX4_standing 1 (some .int) :: ([.fieldLink RX4 10 "SkittleStrings" "alley" "LSkittleStrings$Alley;", .methodLink RX4 67 yX0_standingPins, .instanceMethod yX0_standingPins, .selects RX0 yX0_standingPins yX0_standingPins, .initialized RX0, .code yX0_standingPins cX0_standingPins 1 (some .int), .fieldLink RX0 17 "SkittleStrings$Alley" "standing" "I", .methodLink RX4 123 yJ6_bitCount_0f7a4, .static yJ6_bitCount_0f7a4, .initialized RJ6, .code yJ6_bitCount_0f7a4 cJ6_bitCount_0f7a4 1 (some .int), .constant RJ6 265 (1431655765), .constant RJ6 266 (858993459), .constant RJ6 267 (252645135)] ++ wsX40 ++ wsX00)
def wsX4_wearOf : List Cond := .code yX4_wearOf cX4_wearOf 2 (some .int) :: ([.fieldLink RX4 10 "SkittleStrings" "alley" "LSkittleStrings$Alley;", .methodLink RX4 83 yX4_checkPin, .static yX4_checkPin, .initialized RX4, .code yX4_checkPin cX4_checkPin 1 none, .methodLink RX4 156 yX4_checkIndex, .static yX4_checkIndex, .code yX4_checkIndex cX4_checkIndex 2 none, .classLink RX4 196 "java/lang/IndexOutOfBoundsException", .initialized "java/lang/IndexOutOfBoundsException", .methodLink RX4 128 yX0_wear, .instanceMethod yX0_wear, .selects RX0 yX0_wear yX0_wear, .initialized RX0, .code yX0_wear cX0_wear 2 (some .int), .fieldLink RX0 9 "SkittleStrings$Alley" "wears" "[I"] ++ wsX40 ++ wsX00 ++ (vx_atS RX4 200 "java/lang/IndexOutOfBoundsException" ["java/lang/RuntimeException", "java/lang/Exception"]).filter goodWord)
def wsX4_isBroken : List Cond := .code yX4_isBroken cX4_isBroken 2 (some .boolean) :: ([.fieldLink RX4 10 "SkittleStrings" "alley" "LSkittleStrings$Alley;", .methodLink RX4 83 yX4_checkPin, .static yX4_checkPin, .initialized RX4, .code yX4_checkPin cX4_checkPin 1 none, .methodLink RX4 156 yX4_checkIndex, .static yX4_checkIndex, .code yX4_checkIndex cX4_checkIndex 2 none, .classLink RX4 196 "java/lang/IndexOutOfBoundsException", .initialized "java/lang/IndexOutOfBoundsException", .methodLink RX4 131 yX0_broken, .instanceMethod yX0_broken, .selects RX0 yX0_broken yX0_broken, .initialized RX0, .code yX0_broken cX0_broken 2 (some .boolean), .fieldLink RX0 9 "SkittleStrings$Alley" "wears" "[I"] ++ wsX40 ++ wsX00 ++ (vx_atS RX4 200 "java/lang/IndexOutOfBoundsException" ["java/lang/RuntimeException", "java/lang/Exception"]).filter goodWord)
def wsX4_brokenStrings : List Cond := .code yX4_brokenStrings cX4_brokenStrings 1 (some .int) :: ([.fieldLink RX4 10 "SkittleStrings" "alley" "LSkittleStrings$Alley;", .methodLink RX4 135 yX0_brokenCount, .instanceMethod yX0_brokenCount, .selects RX0 yX0_brokenCount yX0_brokenCount, .initialized RX0, .code yX0_brokenCount cX0_brokenCount 3 (some .int), .methodLink RX0 24 yX0_broken, .instanceMethod yX0_broken, .selects RX0 yX0_broken yX0_broken, .code yX0_broken cX0_broken 2 (some .boolean), .fieldLink RX0 9 "SkittleStrings$Alley" "wears" "[I"] ++ wsX40 ++ wsX00)
def wsX4_mostWorn : List Cond := .code yX4_mostWorn cX4_mostWorn 1 (some .int) :: ([.fieldLink RX4 10 "SkittleStrings" "alley" "LSkittleStrings$Alley;", .methodLink RX4 138 yX0_mostWornPin, .instanceMethod yX0_mostWornPin, .selects RX0 yX0_mostWornPin yX0_mostWornPin, .initialized RX0, .code yX0_mostWornPin cX0_mostWornPin 4 (some .int), .fieldLink RX0 9 "SkittleStrings$Alley" "wears" "[I", .methodLink RX0 24 yX0_broken, .instanceMethod yX0_broken, .selects RX0 yX0_broken yX0_broken, .code yX0_broken cX0_broken 2 (some .boolean)] ++ wsX40 ++ wsX00)
def wsX4_spareStrings : List Cond := .code yX4_spareStrings cX4_spareStrings 1 (some .int) :: ([.fieldLink RX4 10 "SkittleStrings" "alley" "LSkittleStrings$Alley;", .methodLink RX4 86 yX0_spares, .instanceMethod yX0_spares, .selects RX0 yX0_spares yX0_spares, .initialized RX0, .code yX0_spares cX0_spares 1 (some .int), .fieldLink RX0 21 "SkittleStrings$Alley" "spares" "I"] ++ wsX40 ++ wsX00)
def wsX4_awayFor : List Cond := .code yX4_awayFor cX4_awayFor 2 (some .int) :: ([.fieldLink RX4 19 "SkittleStrings" "rack" "LSkittleStrings$Rack;", .methodLink RX4 141 yX4_checkBall, .static yX4_checkBall, .initialized RX4, .code yX4_checkBall cX4_checkBall 1 none, .methodLink RX4 156 yX4_checkIndex, .static yX4_checkIndex, .code yX4_checkIndex cX4_checkIndex 2 none, .classLink RX4 196 "java/lang/IndexOutOfBoundsException", .initialized "java/lang/IndexOutOfBoundsException", .methodLink RX4 53 yX2_throwsAway, .instanceMethod yX2_throwsAway, .selects RX2 yX2_throwsAway yX2_throwsAway, .initialized RX2, .code yX2_throwsAway cX2_throwsAway 2 (some .int), .fieldLink RX2 9 "SkittleStrings$Rack" "away" "[I"] ++ wsX40 ++ wsX20 ++ (vx_atS RX4 200 "java/lang/IndexOutOfBoundsException" ["java/lang/RuntimeException", "java/lang/Exception"]).filter goodWord)
def wsX4_players : List Cond := .code yX4_players cX4_players 1 (some .int) :: ([.fieldLink RX4 30 "SkittleStrings" "playerCount" "I"] ++ wsX40)
def wsX4_frame : List Cond := .code yX4_frame cX4_frame 1 (some .int) :: ([.fieldLink RX4 70 "SkittleStrings" "frameNow" "I"] ++ wsX40)
def wsX4_throwsInFrame : List Cond := .code yX4_throwsInFrame cX4_throwsInFrame 1 (some .int) :: ([.fieldLink RX4 77 "SkittleStrings" "throwsNow" "I"] ++ wsX40)
def wsX4_checkPlayer : List Cond := .code yX4_checkPlayer cX4_checkPlayer 2 none :: ([.fieldLink RX4 30 "SkittleStrings" "playerCount" "I", .methodLink RX4 156 yX4_checkIndex, .static yX4_checkIndex, .initialized RX4, .code yX4_checkIndex cX4_checkIndex 2 none, .classLink RX4 196 "java/lang/IndexOutOfBoundsException", .initialized "java/lang/IndexOutOfBoundsException"] ++ wsX40 ++ (vx_atS RX4 200 "java/lang/IndexOutOfBoundsException" ["java/lang/RuntimeException", "java/lang/Exception"]).filter goodWord)
def wsX4_throwsOf : List Cond := .code yX4_throwsOf cX4_throwsOf 2 (some .int) :: ([.fieldLink RX4 25 "SkittleStrings" "sheets" "[LSkittleStrings$Sheet;", .methodLink RX4 147 yX4_checkPlayer, .instanceMethod yX4_checkPlayer, .selects RX4 yX4_checkPlayer yX4_checkPlayer, .initialized RX4, .code yX4_checkPlayer cX4_checkPlayer 2 none, .fieldLink RX4 30 "SkittleStrings" "playerCount" "I", .methodLink RX4 156 yX4_checkIndex, .static yX4_checkIndex, .code yX4_checkIndex cX4_checkIndex 2 none, .classLink RX4 196 "java/lang/IndexOutOfBoundsException", .initialized "java/lang/IndexOutOfBoundsException", .methodLink RX4 150 yX3_thrown, .instanceMethod yX3_thrown, .selects RX3 yX3_thrown yX3_thrown, .initialized RX3, .code yX3_thrown cX3_thrown 1 (some .int), .fieldLink RX3 24 "SkittleStrings$Sheet" "thrown" "I"] ++ wsX40 ++ wsX30 ++ (vx_atS RX4 200 "java/lang/IndexOutOfBoundsException" ["java/lang/RuntimeException", "java/lang/Exception"]).filter goodWord)
def wsX4_scoreOf_r1 : List Cond := [Cond.fieldLink RX4 25 "SkittleStrings" "sheets" "[LSkittleStrings$Sheet;", Cond.methodLink RX4 147 yX4_checkPlayer, Cond.instanceMethod yX4_checkPlayer, Cond.selects RX4 yX4_checkPlayer yX4_checkPlayer, Cond.initialized RX4, Cond.code yX4_checkPlayer cX4_checkPlayer 2 none, Cond.fieldLink RX4 30 "SkittleStrings" "playerCount" "I", Cond.methodLink RX4 156 yX4_checkIndex, Cond.static yX4_checkIndex, Cond.code yX4_checkIndex cX4_checkIndex 2 none, Cond.classLink RX4 196 "java/lang/IndexOutOfBoundsException", Cond.initialized "java/lang/IndexOutOfBoundsException", Cond.methodLink RX4 153 yX3_score, Cond.instanceMethod yX3_score, Cond.selects RX3 yX3_score yX3_score, Cond.initialized RX3, Cond.code yX3_score cX3_score 3 (some .int), Cond.methodLink RX3 34 yX3_points, Cond.instanceMethod yX3_points, Cond.selects RX3 yX3_points yX3_points, Cond.code yX3_points cX3_points 5 (some .int), Cond.fieldLink RX3 24 "SkittleStrings$Sheet" "thrown" "I", Cond.fieldLink RX3 15 "SkittleStrings$Sheet" "firstThrow" "[I", Cond.fieldLink RX3 18 "SkittleStrings$Sheet" "throwsIn" "[I"]
def wsX4_scoreOf_r2 : List Cond := [Cond.fieldLink RX3 21 "SkittleStrings$Sheet" "bonusThrows" "[I", Cond.methodLink RX3 28 Lib.Math.min.name, Cond.static Lib.Math.min.name, Cond.initialized "java/lang/Math", Cond.code Lib.Math.min.name Lib.Math.min.code 2 (some .int), Cond.fieldLink RX3 9 "SkittleStrings$Sheet" "pinsOfThrow" "[I"]
def wsX4_scoreOf : List Cond := .code yX4_scoreOf cX4_scoreOf 2 (some .int) :: ((wsX4_scoreOf_r1 ++ wsX4_scoreOf_r2) ++ wsX40 ++ wsX30 ++ (vx_atS RX4 200 "java/lang/IndexOutOfBoundsException" ["java/lang/RuntimeException", "java/lang/Exception"]).filter goodWord)
def wsX4_pointsOf_r1 : List Cond := [Cond.fieldLink RX4 25 "SkittleStrings" "sheets" "[LSkittleStrings$Sheet;", Cond.methodLink RX4 147 yX4_checkPlayer, Cond.instanceMethod yX4_checkPlayer, Cond.selects RX4 yX4_checkPlayer yX4_checkPlayer, Cond.initialized RX4, Cond.code yX4_checkPlayer cX4_checkPlayer 2 none, Cond.fieldLink RX4 30 "SkittleStrings" "playerCount" "I", Cond.methodLink RX4 156 yX4_checkIndex, Cond.static yX4_checkIndex, Cond.code yX4_checkIndex cX4_checkIndex 2 none, Cond.classLink RX4 196 "java/lang/IndexOutOfBoundsException", Cond.initialized "java/lang/IndexOutOfBoundsException", Cond.methodLink RX4 159 yX3_points, Cond.instanceMethod yX3_points, Cond.selects RX3 yX3_points yX3_points, Cond.initialized RX3, Cond.code yX3_points cX3_points 5 (some .int), Cond.fieldLink RX3 24 "SkittleStrings$Sheet" "thrown" "I", Cond.fieldLink RX3 15 "SkittleStrings$Sheet" "firstThrow" "[I", Cond.fieldLink RX3 18 "SkittleStrings$Sheet" "throwsIn" "[I", Cond.fieldLink RX3 21 "SkittleStrings$Sheet" "bonusThrows" "[I", Cond.methodLink RX3 28 Lib.Math.min.name, Cond.static Lib.Math.min.name, Cond.initialized "java/lang/Math"]
def wsX4_pointsOf_r2 : List Cond := [Cond.code Lib.Math.min.name Lib.Math.min.code 2 (some .int), Cond.fieldLink RX3 9 "SkittleStrings$Sheet" "pinsOfThrow" "[I"]
def wsX4_pointsOf : List Cond := .code yX4_pointsOf cX4_pointsOf 3 (some .int) :: ((wsX4_pointsOf_r1 ++ wsX4_pointsOf_r2) ++ wsX40 ++ wsX30 ++ (vx_atS RX4 200 "java/lang/IndexOutOfBoundsException" ["java/lang/RuntimeException", "java/lang/Exception"]).filter goodWord)
def wsX4_strikesOf : List Cond := .code yX4_strikesOf cX4_strikesOf 2 (some .int) :: ([.fieldLink RX4 25 "SkittleStrings" "sheets" "[LSkittleStrings$Sheet;", .methodLink RX4 147 yX4_checkPlayer, .instanceMethod yX4_checkPlayer, .selects RX4 yX4_checkPlayer yX4_checkPlayer, .initialized RX4, .code yX4_checkPlayer cX4_checkPlayer 2 none, .fieldLink RX4 30 "SkittleStrings" "playerCount" "I", .methodLink RX4 156 yX4_checkIndex, .static yX4_checkIndex, .code yX4_checkIndex cX4_checkIndex 2 none, .classLink RX4 196 "java/lang/IndexOutOfBoundsException", .initialized "java/lang/IndexOutOfBoundsException", .methodLink RX4 162 yX3_strikes, .instanceMethod yX3_strikes, .selects RX3 yX3_strikes yX3_strikes, .initialized RX3, .code yX3_strikes cX3_strikes 1 (some .int), .methodLink RX3 38 yX3_framesWithBonus, .instanceMethod yX3_framesWithBonus, .selects RX3 yX3_framesWithBonus yX3_framesWithBonus, .code yX3_framesWithBonus cX3_framesWithBonus 4 (some .int), .fieldLink RX3 21 "SkittleStrings$Sheet" "bonusThrows" "[I"] ++ wsX40 ++ wsX30 ++ (vx_atS RX4 200 "java/lang/IndexOutOfBoundsException" ["java/lang/RuntimeException", "java/lang/Exception"]).filter goodWord)
def wsX4_sparesOf : List Cond := .code yX4_sparesOf cX4_sparesOf 2 (some .int) :: ([.fieldLink RX4 25 "SkittleStrings" "sheets" "[LSkittleStrings$Sheet;", .methodLink RX4 147 yX4_checkPlayer, .instanceMethod yX4_checkPlayer, .selects RX4 yX4_checkPlayer yX4_checkPlayer, .initialized RX4, .code yX4_checkPlayer cX4_checkPlayer 2 none, .fieldLink RX4 30 "SkittleStrings" "playerCount" "I", .methodLink RX4 156 yX4_checkIndex, .static yX4_checkIndex, .code yX4_checkIndex cX4_checkIndex 2 none, .classLink RX4 196 "java/lang/IndexOutOfBoundsException", .initialized "java/lang/IndexOutOfBoundsException", .methodLink RX4 165 yX3_spares, .instanceMethod yX3_spares, .selects RX3 yX3_spares yX3_spares, .initialized RX3, .code yX3_spares cX3_spares 1 (some .int), .methodLink RX3 38 yX3_framesWithBonus, .instanceMethod yX3_framesWithBonus, .selects RX3 yX3_framesWithBonus yX3_framesWithBonus, .code yX3_framesWithBonus cX3_framesWithBonus 4 (some .int), .fieldLink RX3 21 "SkittleStrings$Sheet" "bonusThrows" "[I"] ++ wsX40 ++ wsX30 ++ (vx_atS RX4 200 "java/lang/IndexOutOfBoundsException" ["java/lang/RuntimeException", "java/lang/Exception"]).filter goodWord)
def wsX4_wouldFall_r1 : List Cond := [Cond.fieldLink RX4 10 "SkittleStrings" "alley" "LSkittleStrings$Alley;", Cond.methodLink RX4 45 yX4_checkThrow, Cond.static yX4_checkThrow, Cond.initialized RX4, Cond.code yX4_checkThrow cX4_checkThrow 2 none, Cond.methodLink RX4 141 yX4_checkBall, Cond.static yX4_checkBall, Cond.code yX4_checkBall cX4_checkBall 1 none, Cond.methodLink RX4 156 yX4_checkIndex, Cond.static yX4_checkIndex, Cond.code yX4_checkIndex cX4_checkIndex 2 none, Cond.classLink RX4 196 "java/lang/IndexOutOfBoundsException", Cond.initialized "java/lang/IndexOutOfBoundsException", Cond.methodLink RX4 67 yX0_standingPins, Cond.instanceMethod yX0_standingPins, Cond.selects RX0 yX0_standingPins yX0_standingPins, Cond.initialized RX0, Cond.code yX0_standingPins cX0_standingPins 1 (some .int), Cond.fieldLink RX0 17 "SkittleStrings$Alley" "standing" "I", Cond.methodLink RX4 166 yX1_felled, Cond.static yX1_felled, Cond.initialized RX1, Cond.code yX1_felled cX1_felled 7 (some .int), Cond.methodLink RX1 15 yX1_afterHit]
def wsX4_wouldFall_r2 : List Cond := [Cond.static yX1_afterHit, Cond.code yX1_afterHit cX1_afterHit 6 (some .int), Cond.methodLink RX1 19 yX1_pinAt, Cond.static yX1_pinAt, Cond.code yX1_pinAt cX1_pinAt 2 (some .int), Cond.fieldLink RX1 31 "SkittleStrings$Pins" "PLACES" "[I", Cond.methodLink RX1 9 yX1_holds, Cond.static yX1_holds, Cond.code yX1_holds cX1_holds 2 (some .boolean), Cond.methodLink RX4 123 yJ6_bitCount_0f7a4, Cond.static yJ6_bitCount_0f7a4, Cond.initialized RJ6, Cond.code yJ6_bitCount_0f7a4 cJ6_bitCount_0f7a4 1 (some .int), Cond.constant RJ6 265 (1431655765), Cond.constant RJ6 266 (858993459), Cond.constant RJ6 267 (252645135)]
def wsX4_wouldFall : List Cond := .code yX4_wouldFall cX4_wouldFall 3 (some .int) :: ((wsX4_wouldFall_r1 ++ wsX4_wouldFall_r2) ++ wsX40 ++ wsX00 ++ (vx_atS RX4 200 "java/lang/IndexOutOfBoundsException" ["java/lang/RuntimeException", "java/lang/Exception"]).filter goodWord)
def wsX4_lastToFall_r1 : List Cond := [Cond.fieldLink RX4 10 "SkittleStrings" "alley" "LSkittleStrings$Alley;", Cond.methodLink RX4 45 yX4_checkThrow, Cond.static yX4_checkThrow, Cond.initialized RX4, Cond.code yX4_checkThrow cX4_checkThrow 2 none, Cond.methodLink RX4 141 yX4_checkBall, Cond.static yX4_checkBall, Cond.code yX4_checkBall cX4_checkBall 1 none, Cond.methodLink RX4 156 yX4_checkIndex, Cond.static yX4_checkIndex, Cond.code yX4_checkIndex cX4_checkIndex 2 none, Cond.classLink RX4 196 "java/lang/IndexOutOfBoundsException", Cond.initialized "java/lang/IndexOutOfBoundsException", Cond.methodLink RX4 67 yX0_standingPins, Cond.instanceMethod yX0_standingPins, Cond.selects RX0 yX0_standingPins yX0_standingPins, Cond.initialized RX0, Cond.code yX0_standingPins cX0_standingPins 1 (some .int), Cond.fieldLink RX0 17 "SkittleStrings$Alley" "standing" "I", Cond.methodLink RX4 166 yX1_felled, Cond.static yX1_felled, Cond.initialized RX1, Cond.code yX1_felled cX1_felled 7 (some .int), Cond.methodLink RX1 15 yX1_afterHit]
def wsX4_lastToFall_r2 : List Cond := [Cond.static yX1_afterHit, Cond.code yX1_afterHit cX1_afterHit 6 (some .int), Cond.methodLink RX1 19 yX1_pinAt, Cond.static yX1_pinAt, Cond.code yX1_pinAt cX1_pinAt 2 (some .int), Cond.fieldLink RX1 31 "SkittleStrings$Pins" "PLACES" "[I", Cond.methodLink RX1 9 yX1_holds, Cond.static yX1_holds, Cond.code yX1_holds cX1_holds 2 (some .boolean), Cond.methodLink RX4 170 yX1_last, Cond.static yX1_last, Cond.code yX1_last cX1_last 2 (some .int)]
def wsX4_lastToFall : List Cond := .code yX4_lastToFall cX4_lastToFall 3 (some .int) :: ((wsX4_lastToFall_r1 ++ wsX4_lastToFall_r2) ++ wsX40 ++ wsX00 ++ (vx_atS RX4 200 "java/lang/IndexOutOfBoundsException" ["java/lang/RuntimeException", "java/lang/Exception"]).filter goodWord)
def wsX4_bestThrow_r1 : List Cond := [Cond.fieldLink RX4 19 "SkittleStrings" "rack" "LSkittleStrings$Rack;", Cond.fieldLink RX4 10 "SkittleStrings" "alley" "LSkittleStrings$Alley;", Cond.methodLink RX4 53 yX2_throwsAway, Cond.instanceMethod yX2_throwsAway, Cond.selects RX2 yX2_throwsAway yX2_throwsAway, Cond.initialized RX2, Cond.code yX2_throwsAway cX2_throwsAway 2 (some .int), Cond.fieldLink RX2 9 "SkittleStrings$Rack" "away" "[I", Cond.methodLink RX4 67 yX0_standingPins, Cond.instanceMethod yX0_standingPins, Cond.selects RX0 yX0_standingPins yX0_standingPins, Cond.initialized RX0, Cond.code yX0_standingPins cX0_standingPins 1 (some .int), Cond.fieldLink RX0 17 "SkittleStrings$Alley" "standing" "I", Cond.methodLink RX4 166 yX1_felled, Cond.static yX1_felled, Cond.initialized RX1, Cond.code yX1_felled cX1_felled 7 (some .int), Cond.methodLink RX1 15 yX1_afterHit, Cond.static yX1_afterHit, Cond.code yX1_afterHit cX1_afterHit 6 (some .int), Cond.methodLink RX1 19 yX1_pinAt, Cond.static yX1_pinAt, Cond.code yX1_pinAt cX1_pinAt 2 (some .int)]
def wsX4_bestThrow_r2 : List Cond := [Cond.fieldLink RX1 31 "SkittleStrings$Pins" "PLACES" "[I", Cond.methodLink RX1 9 yX1_holds, Cond.static yX1_holds, Cond.code yX1_holds cX1_holds 2 (some .boolean), Cond.methodLink RX4 123 yJ6_bitCount_0f7a4, Cond.static yJ6_bitCount_0f7a4, Cond.initialized RJ6, Cond.code yJ6_bitCount_0f7a4 cJ6_bitCount_0f7a4 1 (some .int), Cond.constant RJ6 265 (1431655765), Cond.constant RJ6 266 (858993459), Cond.constant RJ6 267 (252645135)]
def wsX4_bestThrow : List Cond := .code yX4_bestThrow cX4_bestThrow 6 (some .int) :: ((wsX4_bestThrow_r1 ++ wsX4_bestThrow_r2) ++ wsX40 ++ wsX20 ++ wsX00)
def wsX4_throwsToClear : List Cond := .code yX4_throwsToClear cX4_throwsToClear 2 (some .int) :: ([.fieldLink RX4 10 "SkittleStrings" "alley" "LSkittleStrings$Alley;", .methodLink RX4 67 yX0_standingPins, .instanceMethod yX0_standingPins, .selects RX0 yX0_standingPins yX0_standingPins, .initialized RX0, .code yX0_standingPins cX0_standingPins 1 (some .int), .fieldLink RX0 17 "SkittleStrings$Alley" "standing" "I", .static yX1_canClear, .initialized RX1, .code yX1_canClear cX1_canClear 6 (some .boolean), .methodLink RX1 9 yX1_holds, .static yX1_holds, .code yX1_holds cX1_holds 2 (some .boolean), .methodLink RX1 23 yX1_felled, .static yX1_felled, .code yX1_felled cX1_felled 7 (some .int), .methodLink RX1 15 yX1_afterHit, .static yX1_afterHit, .code yX1_afterHit cX1_afterHit 6 (some .int), .methodLink RX1 19 yX1_pinAt, .static yX1_pinAt, .code yX1_pinAt cX1_pinAt 2 (some .int), .fieldLink RX1 31 "SkittleStrings$Pins" "PLACES" "[I", .methodLink RX1 27 yX1_canClear] ++ wsX40 ++ wsX00)
def wsX4_wouldBreak : List Cond := .code yX4_wouldBreak cX4_wouldBreak 1 (some .int) :: ([.fieldLink RX4 10 "SkittleStrings" "alley" "LSkittleStrings$Alley;", .methodLink RX4 177 yX0_brokenIfAllFell, .instanceMethod yX0_brokenIfAllFell, .selects RX0 yX0_brokenIfAllFell yX0_brokenIfAllFell, .initialized RX0, .code yX0_brokenIfAllFell cX0_brokenIfAllFell 4 (some .int), .fieldLink RX0 17 "SkittleStrings$Alley" "standing" "I", .fieldLink RX0 9 "SkittleStrings$Alley" "wears" "[I", .methodLink RX0 32 yX1_holds, .static yX1_holds, .initialized RX1, .code yX1_holds cX1_holds 2 (some .boolean)] ++ wsX40 ++ wsX00)
def wsX4_meanScore : List Cond := .code yX4_meanScore cX4_meanScore 3 (some .double) :: ([.fieldLink RX4 30 "SkittleStrings" "playerCount" "I", .fieldLink RX4 25 "SkittleStrings" "sheets" "[LSkittleStrings$Sheet;", .methodLink RX4 153 yX3_score, .instanceMethod yX3_score, .selects RX3 yX3_score yX3_score, .initialized RX3, .code yX3_score cX3_score 3 (some .int), .methodLink RX3 34 yX3_points, .instanceMethod yX3_points, .selects RX3 yX3_points yX3_points, .code yX3_points cX3_points 5 (some .int), .fieldLink RX3 24 "SkittleStrings$Sheet" "thrown" "I", .fieldLink RX3 15 "SkittleStrings$Sheet" "firstThrow" "[I", .fieldLink RX3 18 "SkittleStrings$Sheet" "throwsIn" "[I", .fieldLink RX3 21 "SkittleStrings$Sheet" "bonusThrows" "[I", .methodLink RX3 28 Lib.Math.min.name, .static Lib.Math.min.name, .initialized "java/lang/Math", .code Lib.Math.min.name Lib.Math.min.code 2 (some .int), .fieldLink RX3 9 "SkittleStrings$Sheet" "pinsOfThrow" "[I"] ++ wsX40 ++ wsX30)
def wsX4_digest_r1 : List Cond := [Cond.constantLong RX4 180 (1999), Cond.constantLong RX4 182 (31), Cond.fieldLink RX4 30 "SkittleStrings" "playerCount" "I", Cond.fieldLink RX4 70 "SkittleStrings" "frameNow" "I", Cond.fieldLink RX4 77 "SkittleStrings" "throwsNow" "I", Cond.fieldLink RX4 10 "SkittleStrings" "alley" "LSkittleStrings$Alley;", Cond.fieldLink RX4 19 "SkittleStrings" "rack" "LSkittleStrings$Rack;", Cond.fieldLink RX4 25 "SkittleStrings" "sheets" "[LSkittleStrings$Sheet;", Cond.methodLink RX4 49 yX4_playerInTurn, Cond.instanceMethod yX4_playerInTurn, Cond.selects RX4 yX4_playerInTurn yX4_playerInTurn, Cond.initialized RX4, Cond.code yX4_playerInTurn cX4_playerInTurn 1 (some .int), Cond.fieldLink RX4 108 "SkittleStrings" "turn" "I", Cond.methodLink RX4 144 yX4_isOver, Cond.instanceMethod yX4_isOver, Cond.selects RX4 yX4_isOver yX4_isOver, Cond.code yX4_isOver cX4_isOver 1 (some .boolean), Cond.methodLink RX4 86 yX0_spares, Cond.instanceMethod yX0_spares, Cond.selects RX0 yX0_spares yX0_spares, Cond.initialized RX0, Cond.code yX0_spares cX0_spares 1 (some .int), Cond.fieldLink RX0 21 "SkittleStrings$Alley" "spares" "I"]
def wsX4_digest_r2 : List Cond := [Cond.methodLink RX4 184 yX4_bestThrow, Cond.instanceMethod yX4_bestThrow, Cond.selects RX4 yX4_bestThrow yX4_bestThrow, Cond.code yX4_bestThrow cX4_bestThrow 6 (some .int), Cond.methodLink RX4 53 yX2_throwsAway, Cond.instanceMethod yX2_throwsAway, Cond.selects RX2 yX2_throwsAway yX2_throwsAway, Cond.initialized RX2, Cond.code yX2_throwsAway cX2_throwsAway 2 (some .int), Cond.fieldLink RX2 9 "SkittleStrings$Rack" "away" "[I", Cond.methodLink RX4 67 yX0_standingPins, Cond.instanceMethod yX0_standingPins, Cond.selects RX0 yX0_standingPins yX0_standingPins, Cond.code yX0_standingPins cX0_standingPins 1 (some .int), Cond.fieldLink RX0 17 "SkittleStrings$Alley" "standing" "I", Cond.methodLink RX4 166 yX1_felled, Cond.static yX1_felled, Cond.initialized RX1, Cond.code yX1_felled cX1_felled 7 (some .int), Cond.methodLink RX1 15 yX1_afterHit, Cond.static yX1_afterHit, Cond.code yX1_afterHit cX1_afterHit 6 (some .int), Cond.methodLink RX1 19 yX1_pinAt, Cond.static yX1_pinAt]
def wsX4_digest_r3 : List Cond := [Cond.code yX1_pinAt cX1_pinAt 2 (some .int), Cond.fieldLink RX1 31 "SkittleStrings$Pins" "PLACES" "[I", Cond.methodLink RX1 9 yX1_holds, Cond.static yX1_holds, Cond.code yX1_holds cX1_holds 2 (some .boolean), Cond.methodLink RX4 123 yJ6_bitCount_0f7a4, Cond.static yJ6_bitCount_0f7a4, Cond.initialized RJ6, Cond.code yJ6_bitCount_0f7a4 cJ6_bitCount_0f7a4 1 (some .int), Cond.constant RJ6 265 (1431655765), Cond.constant RJ6 266 (858993459), Cond.constant RJ6 267 (252645135), Cond.methodLink RX4 187 yX4_throwsToClear, Cond.instanceMethod yX4_throwsToClear, Cond.selects RX4 yX4_throwsToClear yX4_throwsToClear, Cond.code yX4_throwsToClear cX4_throwsToClear 2 (some .int), Cond.static yX1_canClear, Cond.code yX1_canClear cX1_canClear 6 (some .boolean), Cond.methodLink RX1 23 yX1_felled, Cond.methodLink RX1 27 yX1_canClear, Cond.methodLink RX4 190 yX0_digestOn, Cond.instanceMethod yX0_digestOn, Cond.selects RX0 yX0_digestOn yX0_digestOn, Cond.code yX0_digestOn cX0_digestOn 6 (some .long)]
def wsX4_digest_r4 : List Cond := [Cond.constantLong RX0 42 (31), Cond.fieldLink RX0 9 "SkittleStrings$Alley" "wears" "[I", Cond.methodLink RX0 32 yX1_holds, Cond.methodLink RX4 194 yX2_digestOn, Cond.instanceMethod yX2_digestOn, Cond.selects RX2 yX2_digestOn yX2_digestOn, Cond.code yX2_digestOn cX2_digestOn 6 (some .long), Cond.constantLong RX2 21 (31), Cond.methodLink RX4 195 yX3_digestOn, Cond.instanceMethod yX3_digestOn, Cond.selects RX3 yX3_digestOn yX3_digestOn, Cond.initialized RX3, Cond.code yX3_digestOn cX3_digestOn 6 (some .long), Cond.constantLong RX3 41 (31), Cond.fieldLink RX3 24 "SkittleStrings$Sheet" "thrown" "I", Cond.methodLink RX3 43 yX3_score, Cond.instanceMethod yX3_score, Cond.selects RX3 yX3_score yX3_score, Cond.code yX3_score cX3_score 3 (some .int), Cond.methodLink RX3 34 yX3_points, Cond.instanceMethod yX3_points, Cond.selects RX3 yX3_points yX3_points, Cond.code yX3_points cX3_points 5 (some .int), Cond.fieldLink RX3 15 "SkittleStrings$Sheet" "firstThrow" "[I"]
def wsX4_digest_r5 : List Cond := [Cond.fieldLink RX3 18 "SkittleStrings$Sheet" "throwsIn" "[I", Cond.fieldLink RX3 21 "SkittleStrings$Sheet" "bonusThrows" "[I", Cond.methodLink RX3 28 Lib.Math.min.name, Cond.static Lib.Math.min.name, Cond.initialized "java/lang/Math", Cond.code Lib.Math.min.name Lib.Math.min.code 2 (some .int), Cond.fieldLink RX3 9 "SkittleStrings$Sheet" "pinsOfThrow" "[I", Cond.methodLink RX3 47 yX3_strikes, Cond.instanceMethod yX3_strikes, Cond.selects RX3 yX3_strikes yX3_strikes, Cond.code yX3_strikes cX3_strikes 1 (some .int), Cond.methodLink RX3 38 yX3_framesWithBonus, Cond.instanceMethod yX3_framesWithBonus, Cond.selects RX3 yX3_framesWithBonus yX3_framesWithBonus, Cond.code yX3_framesWithBonus cX3_framesWithBonus 4 (some .int), Cond.methodLink RX3 50 yX3_spares, Cond.instanceMethod yX3_spares, Cond.selects RX3 yX3_spares yX3_spares, Cond.code yX3_spares cX3_spares 1 (some .int)]
def wsX4_digest : List Cond := .code yX4_digest cX4_digest 4 (some .long) :: ((wsX4_digest_r1 ++ (wsX4_digest_r2 ++ (wsX4_digest_r3 ++ (wsX4_digest_r4 ++ wsX4_digest_r5)))) ++ wsX40 ++ wsX00 ++ wsX20 ++ wsX30)
def wsX5_init : List Cond := .code yX5_init cX5_init 1 none :: ([.methodLink RX5 1 objectInit, .instanceMethod objectInit, .code objectInit ⟨#[0xb1]⟩ 1 none, .fieldLink RX5 9 "SkittleStringsModel" "standing" "I", .arrayClass .int, .fieldLink RX5 13 "SkittleStringsModel" "wear" "[I", .fieldLink RX5 17 "SkittleStringsModel" "away" "[I", .fieldLink RX5 20 "SkittleStringsModel" "spares" "I", .fieldLink RX5 23 "SkittleStringsModel" "many" "[I", .fieldLink RX5 26 "SkittleStringsModel" "fell" "[I", .fieldLink RX5 29 "SkittleStringsModel" "begins" "[I", .fieldLink RX5 32 "SkittleStringsModel" "strikes" "[I", .fieldLink RX5 35 "SkittleStringsModel" "closed" "[I", .fieldLink RX5 38 "SkittleStringsModel" "extra" "[I"] ++ wsX50)
def wsX5_thrown : List Cond := .code yX5_thrown cX5_thrown 1 (some .int) :: ([.fieldLink RX5 41 "SkittleStringsModel" "thrown" "I"] ++ wsX50)
def wsX5_no : List Cond := .code yX5_no cX5_no 2 (some .int) :: ([.fieldLink RX5 41 "SkittleStringsModel" "thrown" "I"] ++ wsX50)
def wsX5_isNot : List Cond := .code yX5_isNot cX5_isNot 2 (some .boolean) :: ([.fieldLink RX5 41 "SkittleStringsModel" "thrown" "I"] ++ wsX50)
def wsX5_ok : List Cond := .code yX5_ok cX5_ok 2 (some .int) :: ([.fieldLink RX5 41 "SkittleStringsModel" "thrown" "I"] ++ wsX50)
def wsX5_isIn : List Cond := .code yX5_isIn cX5_isIn 3 (some .boolean) :: ([])
def wsX5_isPin : List Cond := .code yX5_isPin cX5_isPin 1 (some .boolean) :: ([.methodLink RX5 44 yX5_isIn, .static yX5_isIn, .initialized RX5, .code yX5_isIn cX5_isIn 3 (some .boolean)])
def wsX5_isThrow : List Cond := .code yX5_isThrow cX5_isThrow 2 (some .boolean) :: ([.methodLink RX5 44 yX5_isIn, .static yX5_isIn, .initialized RX5, .code yX5_isIn cX5_isIn 3 (some .boolean)])
def wsX5_isPlayer : List Cond := .code yX5_isPlayer cX5_isPlayer 2 (some .boolean) :: ([.fieldLink RX5 48 "SkittleStringsModel" "players" "I", .methodLink RX5 44 yX5_isIn, .static yX5_isIn, .initialized RX5, .code yX5_isIn cX5_isIn 3 (some .boolean)] ++ wsX50)
def wsX5_pinAt : List Cond := .code yX5_pinAt cX5_pinAt 2 (some .int) :: ([.fieldLink RX5 51 "SkittleStringsModel" "PIN" "[I", .methodLink RX5 44 yX5_isIn, .static yX5_isIn, .initialized RX5, .code yX5_isIn cX5_isIn 3 (some .boolean)])
def wsX5_hit : List Cond := .code yX5_hit cX5_hit 4 (some .int) :: ([.fieldLink RX5 54 "SkittleStringsModel" "ROW" "[I", .fieldLink RX5 57 "SkittleStringsModel" "LANE" "[I", .methodLink RX5 60 yX5_pinAt, .static yX5_pinAt, .initialized RX5, .code yX5_pinAt cX5_pinAt 2 (some .int), .fieldLink RX5 51 "SkittleStringsModel" "PIN" "[I", .methodLink RX5 44 yX5_isIn, .static yX5_isIn, .code yX5_isIn cX5_isIn 3 (some .boolean), .methodLink RX5 64 yX5_hit, .static yX5_hit])
def wsX5_roll : List Cond := .code yX5_roll cX5_roll 7 (some .int) :: ([.methodLink RX5 60 yX5_pinAt, .static yX5_pinAt, .initialized RX5, .code yX5_pinAt cX5_pinAt 2 (some .int), .fieldLink RX5 51 "SkittleStringsModel" "PIN" "[I", .methodLink RX5 44 yX5_isIn, .static yX5_isIn, .code yX5_isIn cX5_isIn 3 (some .boolean), .methodLink RX5 64 yX5_hit, .static yX5_hit, .code yX5_hit cX5_hit 4 (some .int), .fieldLink RX5 54 "SkittleStringsModel" "ROW" "[I", .fieldLink RX5 57 "SkittleStringsModel" "LANE" "[I"])
def wsX5_broken : List Cond := .code yX5_broken cX5_broken 2 (some .boolean) :: ([.fieldLink RX5 13 "SkittleStringsModel" "wear" "[I"] ++ wsX50)
def wsX5_putUp : List Cond := .code yX5_putUp cX5_putUp 2 none :: ([.fieldLink RX5 9 "SkittleStringsModel" "standing" "I", .methodLink RX5 68 yX5_broken, .instanceMethod yX5_broken, .selects RX5 yX5_broken yX5_broken, .initialized RX5, .code yX5_broken cX5_broken 2 (some .boolean), .fieldLink RX5 13 "SkittleStringsModel" "wear" "[I"] ++ wsX50)
def wsX5_over : List Cond := .code yX5_over cX5_over 1 (some .boolean) :: ([.fieldLink RX5 72 "SkittleStringsModel" "frame" "I"] ++ wsX50)
def wsX5_throwsOfAll : List Cond := .code yX5_throwsOfAll cX5_throwsOfAll 3 (some .int) :: ([.fieldLink RX5 48 "SkittleStringsModel" "players" "I", .fieldLink RX5 23 "SkittleStringsModel" "many" "[I"] ++ wsX50)
def wsX5_addPlayer : List Cond := .code yX5_addPlayer cX5_addPlayer 1 (some .int) :: ([.fieldLink RX5 41 "SkittleStringsModel" "thrown" "I", .fieldLink RX5 48 "SkittleStringsModel" "players" "I", .methodLink RX5 75 yX5_throwsOfAll, .instanceMethod yX5_throwsOfAll, .selects RX5 yX5_throwsOfAll yX5_throwsOfAll, .initialized RX5, .code yX5_throwsOfAll cX5_throwsOfAll 3 (some .int), .fieldLink RX5 23 "SkittleStringsModel" "many" "[I", .methodLink RX5 79 yX5_no, .instanceMethod yX5_no, .selects RX5 yX5_no yX5_no, .code yX5_no cX5_no 2 (some .int)] ++ wsX50)
def wsX5_sum : List Cond := .code yX5_sum cX5_sum 6 (some .int) :: ([.fieldLink RX5 23 "SkittleStringsModel" "many" "[I", .methodLink RX5 83 Lib.Math.min.name, .static Lib.Math.min.name, .initialized "java/lang/Math", .code Lib.Math.min.name Lib.Math.min.code 2 (some .int), .fieldLink RX5 26 "SkittleStringsModel" "fell" "[I"] ++ wsX50)
def wsX5_begin : List Cond := .code yX5_begin cX5_begin 3 (some .int) :: ([.fieldLink RX5 29 "SkittleStringsModel" "begins" "[I"] ++ wsX50)
def wsX5_endFrame_r1 : List Cond := [Cond.fieldLink RX5 88 "SkittleStringsModel" "turn" "I", Cond.fieldLink RX5 72 "SkittleStringsModel" "frame" "I", Cond.fieldLink RX5 23 "SkittleStringsModel" "many" "[I", Cond.fieldLink RX5 9 "SkittleStringsModel" "standing" "I", Cond.fieldLink RX5 97 "SkittleStringsModel" "inFrame" "I", Cond.fieldLink RX5 32 "SkittleStringsModel" "strikes" "[I", Cond.fieldLink RX5 38 "SkittleStringsModel" "extra" "[I", Cond.fieldLink RX5 35 "SkittleStringsModel" "closed" "[I", Cond.fieldLink RX5 29 "SkittleStringsModel" "begins" "[I", Cond.fieldLink RX5 48 "SkittleStringsModel" "players" "I", Cond.methodLink RX5 91 yX5_begin, Cond.instanceMethod yX5_begin, Cond.selects RX5 yX5_begin yX5_begin, Cond.initialized RX5, Cond.code yX5_begin cX5_begin 3 (some .int), Cond.methodLink RX5 94 yX5_sum, Cond.instanceMethod yX5_sum, Cond.selects RX5 yX5_sum yX5_sum, Cond.code yX5_sum cX5_sum 6 (some .int), Cond.methodLink RX5 83 Lib.Math.min.name, Cond.static Lib.Math.min.name, Cond.initialized "java/lang/Math", Cond.code Lib.Math.min.name Lib.Math.min.code 2 (some .int), Cond.fieldLink RX5 26 "SkittleStringsModel" "fell" "[I"]
def wsX5_endFrame_r2 : List Cond := [Cond.methodLink RX5 100 yX5_over, Cond.instanceMethod yX5_over, Cond.selects RX5 yX5_over yX5_over, Cond.code yX5_over cX5_over 1 (some .boolean), Cond.methodLink RX5 104 yX5_putUp, Cond.instanceMethod yX5_putUp, Cond.selects RX5 yX5_putUp yX5_putUp, Cond.code yX5_putUp cX5_putUp 2 none, Cond.methodLink RX5 68 yX5_broken, Cond.instanceMethod yX5_broken, Cond.selects RX5 yX5_broken yX5_broken, Cond.code yX5_broken cX5_broken 2 (some .boolean), Cond.fieldLink RX5 13 "SkittleStringsModel" "wear" "[I"]
def wsX5_endFrame : List Cond := .code yX5_endFrame cX5_endFrame 2 none :: ((wsX5_endFrame_r1 ++ wsX5_endFrame_r2) ++ wsX50)
def wsX5_play_r1 : List Cond := [Cond.fieldLink RX5 9 "SkittleStringsModel" "standing" "I", Cond.fieldLink RX5 13 "SkittleStringsModel" "wear" "[I", Cond.fieldLink RX5 17 "SkittleStringsModel" "away" "[I", Cond.methodLink RX5 115 Lib.Math.max.name, Cond.static Lib.Math.max.name, Cond.initialized "java/lang/Math", Cond.code Lib.Math.max.name Lib.Math.max.code 2 (some .int), Cond.fieldLink RX5 26 "SkittleStringsModel" "fell" "[I", Cond.fieldLink RX5 88 "SkittleStringsModel" "turn" "I", Cond.fieldLink RX5 23 "SkittleStringsModel" "many" "[I", Cond.fieldLink RX5 97 "SkittleStringsModel" "inFrame" "I", Cond.methodLink RX5 107 yX5_roll, Cond.static yX5_roll, Cond.initialized RX5, Cond.code yX5_roll cX5_roll 7 (some .int), Cond.methodLink RX5 60 yX5_pinAt, Cond.static yX5_pinAt, Cond.code yX5_pinAt cX5_pinAt 2 (some .int), Cond.fieldLink RX5 51 "SkittleStringsModel" "PIN" "[I", Cond.methodLink RX5 44 yX5_isIn, Cond.static yX5_isIn, Cond.code yX5_isIn cX5_isIn 3 (some .boolean), Cond.methodLink RX5 64 yX5_hit, Cond.static yX5_hit]
def wsX5_play_r2 : List Cond := [Cond.code yX5_hit cX5_hit 4 (some .int), Cond.fieldLink RX5 54 "SkittleStringsModel" "ROW" "[I", Cond.fieldLink RX5 57 "SkittleStringsModel" "LANE" "[I", Cond.methodLink RX5 110 yJ6_bitCount_0f7a4, Cond.static yJ6_bitCount_0f7a4, Cond.initialized RJ6, Cond.code yJ6_bitCount_0f7a4 cJ6_bitCount_0f7a4 1 (some .int), Cond.constant RJ6 265 (1431655765), Cond.constant RJ6 266 (858993459), Cond.constant RJ6 267 (252645135), Cond.methodLink RX5 118 yX5_endFrame, Cond.instanceMethod yX5_endFrame, Cond.selects RX5 yX5_endFrame yX5_endFrame, Cond.code yX5_endFrame cX5_endFrame 2 none, Cond.fieldLink RX5 72 "SkittleStringsModel" "frame" "I", Cond.fieldLink RX5 32 "SkittleStringsModel" "strikes" "[I", Cond.fieldLink RX5 38 "SkittleStringsModel" "extra" "[I", Cond.fieldLink RX5 35 "SkittleStringsModel" "closed" "[I", Cond.fieldLink RX5 29 "SkittleStringsModel" "begins" "[I", Cond.fieldLink RX5 48 "SkittleStringsModel" "players" "I", Cond.methodLink RX5 91 yX5_begin, Cond.instanceMethod yX5_begin, Cond.selects RX5 yX5_begin yX5_begin, Cond.code yX5_begin cX5_begin 3 (some .int)]
def wsX5_play_r3 : List Cond := [Cond.methodLink RX5 94 yX5_sum, Cond.instanceMethod yX5_sum, Cond.selects RX5 yX5_sum yX5_sum, Cond.code yX5_sum cX5_sum 6 (some .int), Cond.methodLink RX5 83 Lib.Math.min.name, Cond.static Lib.Math.min.name, Cond.code Lib.Math.min.name Lib.Math.min.code 2 (some .int), Cond.methodLink RX5 100 yX5_over, Cond.instanceMethod yX5_over, Cond.selects RX5 yX5_over yX5_over, Cond.code yX5_over cX5_over 1 (some .boolean), Cond.methodLink RX5 104 yX5_putUp, Cond.instanceMethod yX5_putUp, Cond.selects RX5 yX5_putUp yX5_putUp, Cond.code yX5_putUp cX5_putUp 2 none, Cond.methodLink RX5 68 yX5_broken, Cond.instanceMethod yX5_broken, Cond.selects RX5 yX5_broken yX5_broken, Cond.code yX5_broken cX5_broken 2 (some .boolean)]
def wsX5_play : List Cond := .code yX5_play cX5_play 6 (some .int) :: ((wsX5_play_r1 ++ (wsX5_play_r2 ++ wsX5_play_r3)) ++ wsX50)
def wsX5_throwBall_r1 : List Cond := [Cond.fieldLink RX5 41 "SkittleStringsModel" "thrown" "I", Cond.fieldLink RX5 48 "SkittleStringsModel" "players" "I", Cond.fieldLink RX5 17 "SkittleStringsModel" "away" "[I", Cond.methodLink RX5 121 yX5_isThrow, Cond.static yX5_isThrow, Cond.initialized RX5, Cond.code yX5_isThrow cX5_isThrow 2 (some .boolean), Cond.methodLink RX5 44 yX5_isIn, Cond.static yX5_isIn, Cond.code yX5_isIn cX5_isIn 3 (some .boolean), Cond.methodLink RX5 79 yX5_no, Cond.instanceMethod yX5_no, Cond.selects RX5 yX5_no yX5_no, Cond.code yX5_no cX5_no 2 (some .int), Cond.methodLink RX5 100 yX5_over, Cond.instanceMethod yX5_over, Cond.selects RX5 yX5_over yX5_over, Cond.code yX5_over cX5_over 1 (some .boolean), Cond.fieldLink RX5 72 "SkittleStringsModel" "frame" "I", Cond.methodLink RX5 125 yX5_play, Cond.instanceMethod yX5_play, Cond.selects RX5 yX5_play yX5_play, Cond.code yX5_play cX5_play 6 (some .int), Cond.fieldLink RX5 9 "SkittleStringsModel" "standing" "I"]
def wsX5_throwBall_r2 : List Cond := [Cond.fieldLink RX5 13 "SkittleStringsModel" "wear" "[I", Cond.methodLink RX5 115 Lib.Math.max.name, Cond.static Lib.Math.max.name, Cond.initialized "java/lang/Math", Cond.code Lib.Math.max.name Lib.Math.max.code 2 (some .int), Cond.fieldLink RX5 26 "SkittleStringsModel" "fell" "[I", Cond.fieldLink RX5 88 "SkittleStringsModel" "turn" "I", Cond.fieldLink RX5 23 "SkittleStringsModel" "many" "[I", Cond.fieldLink RX5 97 "SkittleStringsModel" "inFrame" "I", Cond.methodLink RX5 107 yX5_roll, Cond.static yX5_roll, Cond.code yX5_roll cX5_roll 7 (some .int), Cond.methodLink RX5 60 yX5_pinAt, Cond.static yX5_pinAt, Cond.code yX5_pinAt cX5_pinAt 2 (some .int), Cond.fieldLink RX5 51 "SkittleStringsModel" "PIN" "[I", Cond.methodLink RX5 64 yX5_hit, Cond.static yX5_hit, Cond.code yX5_hit cX5_hit 4 (some .int), Cond.fieldLink RX5 54 "SkittleStringsModel" "ROW" "[I", Cond.fieldLink RX5 57 "SkittleStringsModel" "LANE" "[I", Cond.methodLink RX5 110 yJ6_bitCount_0f7a4, Cond.static yJ6_bitCount_0f7a4, Cond.initialized RJ6]
def wsX5_throwBall_r3 : List Cond := [Cond.code yJ6_bitCount_0f7a4 cJ6_bitCount_0f7a4 1 (some .int), Cond.constant RJ6 265 (1431655765), Cond.constant RJ6 266 (858993459), Cond.constant RJ6 267 (252645135), Cond.methodLink RX5 118 yX5_endFrame, Cond.instanceMethod yX5_endFrame, Cond.selects RX5 yX5_endFrame yX5_endFrame, Cond.code yX5_endFrame cX5_endFrame 2 none, Cond.fieldLink RX5 32 "SkittleStringsModel" "strikes" "[I", Cond.fieldLink RX5 38 "SkittleStringsModel" "extra" "[I", Cond.fieldLink RX5 35 "SkittleStringsModel" "closed" "[I", Cond.fieldLink RX5 29 "SkittleStringsModel" "begins" "[I", Cond.methodLink RX5 91 yX5_begin, Cond.instanceMethod yX5_begin, Cond.selects RX5 yX5_begin yX5_begin, Cond.code yX5_begin cX5_begin 3 (some .int), Cond.methodLink RX5 94 yX5_sum, Cond.instanceMethod yX5_sum, Cond.selects RX5 yX5_sum yX5_sum, Cond.code yX5_sum cX5_sum 6 (some .int), Cond.methodLink RX5 83 Lib.Math.min.name, Cond.static Lib.Math.min.name, Cond.code Lib.Math.min.name Lib.Math.min.code 2 (some .int), Cond.methodLink RX5 104 yX5_putUp]
def wsX5_throwBall_r4 : List Cond := [Cond.instanceMethod yX5_putUp, Cond.selects RX5 yX5_putUp yX5_putUp, Cond.code yX5_putUp cX5_putUp 2 none, Cond.methodLink RX5 68 yX5_broken, Cond.instanceMethod yX5_broken, Cond.selects RX5 yX5_broken yX5_broken, Cond.code yX5_broken cX5_broken 2 (some .boolean)]
def wsX5_throwBall : List Cond := .code yX5_throwBall cX5_throwBall 3 (some .int) :: ((wsX5_throwBall_r1 ++ (wsX5_throwBall_r2 ++ (wsX5_throwBall_r3 ++ wsX5_throwBall_r4))) ++ wsX50)
def wsX5_replaceString : List Cond := .code yX5_replaceString cX5_replaceString 2 (some .int) :: ([.fieldLink RX5 41 "SkittleStringsModel" "thrown" "I", .fieldLink RX5 20 "SkittleStringsModel" "spares" "I", .fieldLink RX5 13 "SkittleStringsModel" "wear" "[I", .methodLink RX5 128 yX5_isPin, .static yX5_isPin, .initialized RX5, .code yX5_isPin cX5_isPin 1 (some .boolean), .methodLink RX5 44 yX5_isIn, .static yX5_isIn, .code yX5_isIn cX5_isIn 3 (some .boolean), .methodLink RX5 79 yX5_no, .instanceMethod yX5_no, .selects RX5 yX5_no yX5_no, .code yX5_no cX5_no 2 (some .int)] ++ wsX50)
def wsX5_buyStrings : List Cond := .code yX5_buyStrings cX5_buyStrings 2 (some .int) :: ([.fieldLink RX5 41 "SkittleStringsModel" "thrown" "I", .fieldLink RX5 20 "SkittleStringsModel" "spares" "I", .methodLink RX5 44 yX5_isIn, .static yX5_isIn, .initialized RX5, .code yX5_isIn cX5_isIn 3 (some .boolean), .methodLink RX5 79 yX5_no, .instanceMethod yX5_no, .selects RX5 yX5_no yX5_no, .code yX5_no cX5_no 2 (some .int)] ++ wsX50)
def wsX5_points : List Cond := .code yX5_points cX5_points 5 (some .int) :: ([.fieldLink RX5 72 "SkittleStringsModel" "frame" "I", .fieldLink RX5 88 "SkittleStringsModel" "turn" "I", .fieldLink RX5 23 "SkittleStringsModel" "many" "[I", .fieldLink RX5 38 "SkittleStringsModel" "extra" "[I", .methodLink RX5 91 yX5_begin, .instanceMethod yX5_begin, .selects RX5 yX5_begin yX5_begin, .initialized RX5, .code yX5_begin cX5_begin 3 (some .int), .fieldLink RX5 29 "SkittleStringsModel" "begins" "[I", .methodLink RX5 94 yX5_sum, .instanceMethod yX5_sum, .selects RX5 yX5_sum yX5_sum, .code yX5_sum cX5_sum 6 (some .int), .methodLink RX5 83 Lib.Math.min.name, .static Lib.Math.min.name, .initialized "java/lang/Math", .code Lib.Math.min.name Lib.Math.min.code 2 (some .int), .fieldLink RX5 26 "SkittleStringsModel" "fell" "[I"] ++ wsX50)
def wsX5_score : List Cond := .code yX5_score cX5_score 4 (some .int) :: ([.methodLink RX5 131 yX5_points, .instanceMethod yX5_points, .selects RX5 yX5_points yX5_points, .initialized RX5, .code yX5_points cX5_points 5 (some .int), .fieldLink RX5 72 "SkittleStringsModel" "frame" "I", .fieldLink RX5 88 "SkittleStringsModel" "turn" "I", .fieldLink RX5 23 "SkittleStringsModel" "many" "[I", .fieldLink RX5 38 "SkittleStringsModel" "extra" "[I", .methodLink RX5 91 yX5_begin, .instanceMethod yX5_begin, .selects RX5 yX5_begin yX5_begin, .code yX5_begin cX5_begin 3 (some .int), .fieldLink RX5 29 "SkittleStringsModel" "begins" "[I", .methodLink RX5 94 yX5_sum, .instanceMethod yX5_sum, .selects RX5 yX5_sum yX5_sum, .code yX5_sum cX5_sum 6 (some .int), .methodLink RX5 83 Lib.Math.min.name, .static Lib.Math.min.name, .initialized "java/lang/Math", .code Lib.Math.min.name Lib.Math.min.code 2 (some .int), .fieldLink RX5 26 "SkittleStringsModel" "fell" "[I"] ++ wsX50)
def wsX5_first_r1 : List Cond := [Cond.fieldLink RX5 48 "SkittleStringsModel" "players" "I", Cond.methodLink RX5 134 yX5_score, Cond.instanceMethod yX5_score, Cond.selects RX5 yX5_score yX5_score, Cond.initialized RX5, Cond.code yX5_score cX5_score 4 (some .int), Cond.methodLink RX5 131 yX5_points, Cond.instanceMethod yX5_points, Cond.selects RX5 yX5_points yX5_points, Cond.code yX5_points cX5_points 5 (some .int), Cond.fieldLink RX5 72 "SkittleStringsModel" "frame" "I", Cond.fieldLink RX5 88 "SkittleStringsModel" "turn" "I", Cond.fieldLink RX5 23 "SkittleStringsModel" "many" "[I", Cond.fieldLink RX5 38 "SkittleStringsModel" "extra" "[I", Cond.methodLink RX5 91 yX5_begin, Cond.instanceMethod yX5_begin, Cond.selects RX5 yX5_begin yX5_begin, Cond.code yX5_begin cX5_begin 3 (some .int), Cond.fieldLink RX5 29 "SkittleStringsModel" "begins" "[I", Cond.methodLink RX5 94 yX5_sum, Cond.instanceMethod yX5_sum, Cond.selects RX5 yX5_sum yX5_sum, Cond.code yX5_sum cX5_sum 6 (some .int), Cond.methodLink RX5 83 Lib.Math.min.name]
def wsX5_first_r2 : List Cond := [Cond.static Lib.Math.min.name, Cond.initialized "java/lang/Math", Cond.code Lib.Math.min.name Lib.Math.min.code 2 (some .int), Cond.fieldLink RX5 26 "SkittleStringsModel" "fell" "[I"]
def wsX5_first : List Cond := .code yX5_first cX5_first 3 (some .int) :: ((wsX5_first_r1 ++ wsX5_first_r2) ++ wsX50)
def wsX5_newGame_r1 : List Cond := [Cond.fieldLink RX5 41 "SkittleStringsModel" "thrown" "I", Cond.fieldLink RX5 17 "SkittleStringsModel" "away" "[I", Cond.fieldLink RX5 23 "SkittleStringsModel" "many" "[I", Cond.fieldLink RX5 32 "SkittleStringsModel" "strikes" "[I", Cond.fieldLink RX5 35 "SkittleStringsModel" "closed" "[I", Cond.fieldLink RX5 29 "SkittleStringsModel" "begins" "[I", Cond.fieldLink RX5 38 "SkittleStringsModel" "extra" "[I", Cond.fieldLink RX5 88 "SkittleStringsModel" "turn" "I", Cond.fieldLink RX5 72 "SkittleStringsModel" "frame" "I", Cond.fieldLink RX5 97 "SkittleStringsModel" "inFrame" "I", Cond.methodLink RX5 137 yX5_first, Cond.instanceMethod yX5_first, Cond.selects RX5 yX5_first yX5_first, Cond.initialized RX5, Cond.code yX5_first cX5_first 3 (some .int), Cond.fieldLink RX5 48 "SkittleStringsModel" "players" "I", Cond.methodLink RX5 134 yX5_score, Cond.instanceMethod yX5_score, Cond.selects RX5 yX5_score yX5_score, Cond.code yX5_score cX5_score 4 (some .int), Cond.methodLink RX5 131 yX5_points, Cond.instanceMethod yX5_points, Cond.selects RX5 yX5_points yX5_points, Cond.code yX5_points cX5_points 5 (some .int)]
def wsX5_newGame_r2 : List Cond := [Cond.methodLink RX5 91 yX5_begin, Cond.instanceMethod yX5_begin, Cond.selects RX5 yX5_begin yX5_begin, Cond.code yX5_begin cX5_begin 3 (some .int), Cond.methodLink RX5 94 yX5_sum, Cond.instanceMethod yX5_sum, Cond.selects RX5 yX5_sum yX5_sum, Cond.code yX5_sum cX5_sum 6 (some .int), Cond.methodLink RX5 83 Lib.Math.min.name, Cond.static Lib.Math.min.name, Cond.initialized "java/lang/Math", Cond.code Lib.Math.min.name Lib.Math.min.code 2 (some .int), Cond.fieldLink RX5 26 "SkittleStringsModel" "fell" "[I", Cond.methodLink RX5 104 yX5_putUp, Cond.instanceMethod yX5_putUp, Cond.selects RX5 yX5_putUp yX5_putUp, Cond.code yX5_putUp cX5_putUp 2 none, Cond.fieldLink RX5 9 "SkittleStringsModel" "standing" "I", Cond.methodLink RX5 68 yX5_broken, Cond.instanceMethod yX5_broken, Cond.selects RX5 yX5_broken yX5_broken, Cond.code yX5_broken cX5_broken 2 (some .boolean), Cond.fieldLink RX5 13 "SkittleStringsModel" "wear" "[I"]
def wsX5_newGame : List Cond := .code yX5_newGame cX5_newGame 3 (some .int) :: ((wsX5_newGame_r1 ++ wsX5_newGame_r2) ++ wsX50)
def wsX5_isStanding : List Cond := .code yX5_isStanding cX5_isStanding 2 (some .boolean) :: ([.fieldLink RX5 41 "SkittleStringsModel" "thrown" "I", .fieldLink RX5 9 "SkittleStringsModel" "standing" "I", .methodLink RX5 128 yX5_isPin, .static yX5_isPin, .initialized RX5, .code yX5_isPin cX5_isPin 1 (some .boolean), .methodLink RX5 44 yX5_isIn, .static yX5_isIn, .code yX5_isIn cX5_isIn 3 (some .boolean), .methodLink RX5 140 yX5_isNot, .instanceMethod yX5_isNot, .selects RX5 yX5_isNot yX5_isNot, .code yX5_isNot cX5_isNot 2 (some .boolean)] ++ wsX50)
def wsX5_standing : List Cond := .code yX5_standing cX5_standing 1 (some .int) :: ([.fieldLink RX5 9 "SkittleStringsModel" "standing" "I", .methodLink RX5 110 yJ6_bitCount_0f7a4, .static yJ6_bitCount_0f7a4, .initialized RJ6, .code yJ6_bitCount_0f7a4 cJ6_bitCount_0f7a4 1 (some .int), .constant RJ6 265 (1431655765), .constant RJ6 266 (858993459), .constant RJ6 267 (252645135), .methodLink RX5 143 yX5_ok, .instanceMethod yX5_ok, .selects RX5 yX5_ok yX5_ok, .initialized RX5, .code yX5_ok cX5_ok 2 (some .int), .fieldLink RX5 41 "SkittleStringsModel" "thrown" "I"] ++ wsX50)
def wsX5_wearOf : List Cond := .code yX5_wearOf cX5_wearOf 2 (some .int) :: ([.fieldLink RX5 41 "SkittleStringsModel" "thrown" "I", .fieldLink RX5 13 "SkittleStringsModel" "wear" "[I", .methodLink RX5 128 yX5_isPin, .static yX5_isPin, .initialized RX5, .code yX5_isPin cX5_isPin 1 (some .boolean), .methodLink RX5 44 yX5_isIn, .static yX5_isIn, .code yX5_isIn cX5_isIn 3 (some .boolean), .methodLink RX5 79 yX5_no, .instanceMethod yX5_no, .selects RX5 yX5_no yX5_no, .code yX5_no cX5_no 2 (some .int)] ++ wsX50)
def wsX5_isBroken : List Cond := .code yX5_isBroken cX5_isBroken 2 (some .boolean) :: ([.fieldLink RX5 41 "SkittleStringsModel" "thrown" "I", .methodLink RX5 128 yX5_isPin, .static yX5_isPin, .initialized RX5, .code yX5_isPin cX5_isPin 1 (some .boolean), .methodLink RX5 44 yX5_isIn, .static yX5_isIn, .code yX5_isIn cX5_isIn 3 (some .boolean), .methodLink RX5 68 yX5_broken, .instanceMethod yX5_broken, .selects RX5 yX5_broken yX5_broken, .code yX5_broken cX5_broken 2 (some .boolean), .fieldLink RX5 13 "SkittleStringsModel" "wear" "[I", .methodLink RX5 140 yX5_isNot, .instanceMethod yX5_isNot, .selects RX5 yX5_isNot yX5_isNot, .code yX5_isNot cX5_isNot 2 (some .boolean)] ++ wsX50)
def wsX5_brokenNow : List Cond := .code yX5_brokenNow cX5_brokenNow 3 (some .int) :: ([.methodLink RX5 68 yX5_broken, .instanceMethod yX5_broken, .selects RX5 yX5_broken yX5_broken, .initialized RX5, .code yX5_broken cX5_broken 2 (some .boolean), .fieldLink RX5 13 "SkittleStringsModel" "wear" "[I"] ++ wsX50)
def wsX5_brokenStrings : List Cond := .code yX5_brokenStrings cX5_brokenStrings 1 (some .int) :: ([.methodLink RX5 146 yX5_brokenNow, .instanceMethod yX5_brokenNow, .selects RX5 yX5_brokenNow yX5_brokenNow, .initialized RX5, .code yX5_brokenNow cX5_brokenNow 3 (some .int), .methodLink RX5 68 yX5_broken, .instanceMethod yX5_broken, .selects RX5 yX5_broken yX5_broken, .code yX5_broken cX5_broken 2 (some .boolean), .fieldLink RX5 13 "SkittleStringsModel" "wear" "[I", .methodLink RX5 143 yX5_ok, .instanceMethod yX5_ok, .selects RX5 yX5_ok yX5_ok, .code yX5_ok cX5_ok 2 (some .int), .fieldLink RX5 41 "SkittleStringsModel" "thrown" "I"] ++ wsX50)
def wsX5_mostWorn : List Cond := .code yX5_mostWorn cX5_mostWorn 3 (some .int) :: ([.fieldLink RX5 41 "SkittleStringsModel" "thrown" "I", .fieldLink RX5 13 "SkittleStringsModel" "wear" "[I", .methodLink RX5 68 yX5_broken, .instanceMethod yX5_broken, .selects RX5 yX5_broken yX5_broken, .initialized RX5, .code yX5_broken cX5_broken 2 (some .boolean)] ++ wsX50)
def wsX5_spareStrings : List Cond := .code yX5_spareStrings cX5_spareStrings 1 (some .int) :: ([.fieldLink RX5 20 "SkittleStringsModel" "spares" "I", .methodLink RX5 143 yX5_ok, .instanceMethod yX5_ok, .selects RX5 yX5_ok yX5_ok, .initialized RX5, .code yX5_ok cX5_ok 2 (some .int), .fieldLink RX5 41 "SkittleStringsModel" "thrown" "I"] ++ wsX50)
def wsX5_awayFor : List Cond := .code yX5_awayFor cX5_awayFor 2 (some .int) :: ([.fieldLink RX5 41 "SkittleStringsModel" "thrown" "I", .fieldLink RX5 17 "SkittleStringsModel" "away" "[I", .methodLink RX5 44 yX5_isIn, .static yX5_isIn, .initialized RX5, .code yX5_isIn cX5_isIn 3 (some .boolean), .methodLink RX5 79 yX5_no, .instanceMethod yX5_no, .selects RX5 yX5_no yX5_no, .code yX5_no cX5_no 2 (some .int)] ++ wsX50)
def wsX5_players : List Cond := .code yX5_players cX5_players 1 (some .int) :: ([.fieldLink RX5 48 "SkittleStringsModel" "players" "I", .methodLink RX5 143 yX5_ok, .instanceMethod yX5_ok, .selects RX5 yX5_ok yX5_ok, .initialized RX5, .code yX5_ok cX5_ok 2 (some .int), .fieldLink RX5 41 "SkittleStringsModel" "thrown" "I"] ++ wsX50)
def wsX5_turnNow : List Cond := .code yX5_turnNow cX5_turnNow 1 (some .int) :: ([.fieldLink RX5 48 "SkittleStringsModel" "players" "I", .fieldLink RX5 88 "SkittleStringsModel" "turn" "I", .methodLink RX5 100 yX5_over, .instanceMethod yX5_over, .selects RX5 yX5_over yX5_over, .initialized RX5, .code yX5_over cX5_over 1 (some .boolean), .fieldLink RX5 72 "SkittleStringsModel" "frame" "I"] ++ wsX50)
def wsX5_playerInTurn : List Cond := .code yX5_playerInTurn cX5_playerInTurn 1 (some .int) :: ([.methodLink RX5 149 yX5_turnNow, .instanceMethod yX5_turnNow, .selects RX5 yX5_turnNow yX5_turnNow, .initialized RX5, .code yX5_turnNow cX5_turnNow 1 (some .int), .fieldLink RX5 48 "SkittleStringsModel" "players" "I", .fieldLink RX5 88 "SkittleStringsModel" "turn" "I", .methodLink RX5 100 yX5_over, .instanceMethod yX5_over, .selects RX5 yX5_over yX5_over, .code yX5_over cX5_over 1 (some .boolean), .fieldLink RX5 72 "SkittleStringsModel" "frame" "I", .methodLink RX5 143 yX5_ok, .instanceMethod yX5_ok, .selects RX5 yX5_ok yX5_ok, .code yX5_ok cX5_ok 2 (some .int), .fieldLink RX5 41 "SkittleStringsModel" "thrown" "I"] ++ wsX50)
def wsX5_frame : List Cond := .code yX5_frame cX5_frame 1 (some .int) :: ([.fieldLink RX5 72 "SkittleStringsModel" "frame" "I", .methodLink RX5 143 yX5_ok, .instanceMethod yX5_ok, .selects RX5 yX5_ok yX5_ok, .initialized RX5, .code yX5_ok cX5_ok 2 (some .int), .fieldLink RX5 41 "SkittleStringsModel" "thrown" "I"] ++ wsX50)
def wsX5_throwsInFrame : List Cond := .code yX5_throwsInFrame cX5_throwsInFrame 1 (some .int) :: ([.fieldLink RX5 97 "SkittleStringsModel" "inFrame" "I", .methodLink RX5 143 yX5_ok, .instanceMethod yX5_ok, .selects RX5 yX5_ok yX5_ok, .initialized RX5, .code yX5_ok cX5_ok 2 (some .int), .fieldLink RX5 41 "SkittleStringsModel" "thrown" "I"] ++ wsX50)
def wsX5_isOver : List Cond := .code yX5_isOver cX5_isOver 1 (some .boolean) :: ([.fieldLink RX5 41 "SkittleStringsModel" "thrown" "I", .methodLink RX5 100 yX5_over, .instanceMethod yX5_over, .selects RX5 yX5_over yX5_over, .initialized RX5, .code yX5_over cX5_over 1 (some .boolean), .fieldLink RX5 72 "SkittleStringsModel" "frame" "I"] ++ wsX50)
def wsX5_of : List Cond := .code yX5_of cX5_of 3 (some .int) :: ([.fieldLink RX5 41 "SkittleStringsModel" "thrown" "I", .methodLink RX5 152 yX5_isPlayer, .instanceMethod yX5_isPlayer, .selects RX5 yX5_isPlayer yX5_isPlayer, .initialized RX5, .code yX5_isPlayer cX5_isPlayer 2 (some .boolean), .fieldLink RX5 48 "SkittleStringsModel" "players" "I", .methodLink RX5 44 yX5_isIn, .static yX5_isIn, .code yX5_isIn cX5_isIn 3 (some .boolean), .methodLink RX5 79 yX5_no, .instanceMethod yX5_no, .selects RX5 yX5_no yX5_no, .code yX5_no cX5_no 2 (some .int)] ++ wsX50)
def wsX5_throwsOf : List Cond := .code yX5_throwsOf cX5_throwsOf 2 (some .int) :: ([.fieldLink RX5 23 "SkittleStringsModel" "many" "[I", .methodLink RX5 155 yX5_of, .instanceMethod yX5_of, .selects RX5 yX5_of yX5_of, .initialized RX5, .code yX5_of cX5_of 3 (some .int), .fieldLink RX5 41 "SkittleStringsModel" "thrown" "I", .methodLink RX5 152 yX5_isPlayer, .instanceMethod yX5_isPlayer, .selects RX5 yX5_isPlayer yX5_isPlayer, .code yX5_isPlayer cX5_isPlayer 2 (some .boolean), .fieldLink RX5 48 "SkittleStringsModel" "players" "I", .methodLink RX5 44 yX5_isIn, .static yX5_isIn, .code yX5_isIn cX5_isIn 3 (some .boolean), .methodLink RX5 79 yX5_no, .instanceMethod yX5_no, .selects RX5 yX5_no yX5_no, .code yX5_no cX5_no 2 (some .int)] ++ wsX50)
def wsX5_scoreOf_r1 : List Cond := [Cond.fieldLink RX5 41 "SkittleStringsModel" "thrown" "I", Cond.methodLink RX5 152 yX5_isPlayer, Cond.instanceMethod yX5_isPlayer, Cond.selects RX5 yX5_isPlayer yX5_isPlayer, Cond.initialized RX5, Cond.code yX5_isPlayer cX5_isPlayer 2 (some .boolean), Cond.fieldLink RX5 48 "SkittleStringsModel" "players" "I", Cond.methodLink RX5 44 yX5_isIn, Cond.static yX5_isIn, Cond.code yX5_isIn cX5_isIn 3 (some .boolean), Cond.methodLink RX5 134 yX5_score, Cond.instanceMethod yX5_score, Cond.selects RX5 yX5_score yX5_score, Cond.code yX5_score cX5_score 4 (some .int), Cond.methodLink RX5 131 yX5_points, Cond.instanceMethod yX5_points, Cond.selects RX5 yX5_points yX5_points, Cond.code yX5_points cX5_points 5 (some .int), Cond.fieldLink RX5 72 "SkittleStringsModel" "frame" "I", Cond.fieldLink RX5 88 "SkittleStringsModel" "turn" "I", Cond.fieldLink RX5 23 "SkittleStringsModel" "many" "[I", Cond.fieldLink RX5 38 "SkittleStringsModel" "extra" "[I", Cond.methodLink RX5 91 yX5_begin, Cond.instanceMethod yX5_begin]
def wsX5_scoreOf_r2 : List Cond := [Cond.selects RX5 yX5_begin yX5_begin, Cond.code yX5_begin cX5_begin 3 (some .int), Cond.fieldLink RX5 29 "SkittleStringsModel" "begins" "[I", Cond.methodLink RX5 94 yX5_sum, Cond.instanceMethod yX5_sum, Cond.selects RX5 yX5_sum yX5_sum, Cond.code yX5_sum cX5_sum 6 (some .int), Cond.methodLink RX5 83 Lib.Math.min.name, Cond.static Lib.Math.min.name, Cond.initialized "java/lang/Math", Cond.code Lib.Math.min.name Lib.Math.min.code 2 (some .int), Cond.fieldLink RX5 26 "SkittleStringsModel" "fell" "[I", Cond.methodLink RX5 79 yX5_no, Cond.instanceMethod yX5_no, Cond.selects RX5 yX5_no yX5_no, Cond.code yX5_no cX5_no 2 (some .int)]
def wsX5_scoreOf : List Cond := .code yX5_scoreOf cX5_scoreOf 2 (some .int) :: ((wsX5_scoreOf_r1 ++ wsX5_scoreOf_r2) ++ wsX50)
def wsX5_pointsOf_r1 : List Cond := [Cond.fieldLink RX5 41 "SkittleStringsModel" "thrown" "I", Cond.methodLink RX5 152 yX5_isPlayer, Cond.instanceMethod yX5_isPlayer, Cond.selects RX5 yX5_isPlayer yX5_isPlayer, Cond.initialized RX5, Cond.code yX5_isPlayer cX5_isPlayer 2 (some .boolean), Cond.fieldLink RX5 48 "SkittleStringsModel" "players" "I", Cond.methodLink RX5 44 yX5_isIn, Cond.static yX5_isIn, Cond.code yX5_isIn cX5_isIn 3 (some .boolean), Cond.methodLink RX5 131 yX5_points, Cond.instanceMethod yX5_points, Cond.selects RX5 yX5_points yX5_points, Cond.code yX5_points cX5_points 5 (some .int), Cond.fieldLink RX5 72 "SkittleStringsModel" "frame" "I", Cond.fieldLink RX5 88 "SkittleStringsModel" "turn" "I", Cond.fieldLink RX5 23 "SkittleStringsModel" "many" "[I", Cond.fieldLink RX5 38 "SkittleStringsModel" "extra" "[I", Cond.methodLink RX5 91 yX5_begin, Cond.instanceMethod yX5_begin, Cond.selects RX5 yX5_begin yX5_begin, Cond.code yX5_begin cX5_begin 3 (some .int), Cond.fieldLink RX5 29 "SkittleStringsModel" "begins" "[I", Cond.methodLink RX5 94 yX5_sum]
def wsX5_pointsOf_r2 : List Cond := [Cond.instanceMethod yX5_sum, Cond.selects RX5 yX5_sum yX5_sum, Cond.code yX5_sum cX5_sum 6 (some .int), Cond.methodLink RX5 83 Lib.Math.min.name, Cond.static Lib.Math.min.name, Cond.initialized "java/lang/Math", Cond.code Lib.Math.min.name Lib.Math.min.code 2 (some .int), Cond.fieldLink RX5 26 "SkittleStringsModel" "fell" "[I", Cond.methodLink RX5 79 yX5_no, Cond.instanceMethod yX5_no, Cond.selects RX5 yX5_no yX5_no, Cond.code yX5_no cX5_no 2 (some .int)]
def wsX5_pointsOf : List Cond := .code yX5_pointsOf cX5_pointsOf 3 (some .int) :: ((wsX5_pointsOf_r1 ++ wsX5_pointsOf_r2) ++ wsX50)
def wsX5_strikesOf : List Cond := .code yX5_strikesOf cX5_strikesOf 2 (some .int) :: ([.fieldLink RX5 32 "SkittleStringsModel" "strikes" "[I", .methodLink RX5 155 yX5_of, .instanceMethod yX5_of, .selects RX5 yX5_of yX5_of, .initialized RX5, .code yX5_of cX5_of 3 (some .int), .fieldLink RX5 41 "SkittleStringsModel" "thrown" "I", .methodLink RX5 152 yX5_isPlayer, .instanceMethod yX5_isPlayer, .selects RX5 yX5_isPlayer yX5_isPlayer, .code yX5_isPlayer cX5_isPlayer 2 (some .boolean), .fieldLink RX5 48 "SkittleStringsModel" "players" "I", .methodLink RX5 44 yX5_isIn, .static yX5_isIn, .code yX5_isIn cX5_isIn 3 (some .boolean), .methodLink RX5 79 yX5_no, .instanceMethod yX5_no, .selects RX5 yX5_no yX5_no, .code yX5_no cX5_no 2 (some .int)] ++ wsX50)
def wsX5_sparesOf : List Cond := .code yX5_sparesOf cX5_sparesOf 2 (some .int) :: ([.fieldLink RX5 35 "SkittleStringsModel" "closed" "[I", .methodLink RX5 155 yX5_of, .instanceMethod yX5_of, .selects RX5 yX5_of yX5_of, .initialized RX5, .code yX5_of cX5_of 3 (some .int), .fieldLink RX5 41 "SkittleStringsModel" "thrown" "I", .methodLink RX5 152 yX5_isPlayer, .instanceMethod yX5_isPlayer, .selects RX5 yX5_isPlayer yX5_isPlayer, .code yX5_isPlayer cX5_isPlayer 2 (some .boolean), .fieldLink RX5 48 "SkittleStringsModel" "players" "I", .methodLink RX5 44 yX5_isIn, .static yX5_isIn, .code yX5_isIn cX5_isIn 3 (some .boolean), .methodLink RX5 79 yX5_no, .instanceMethod yX5_no, .selects RX5 yX5_no yX5_no, .code yX5_no cX5_no 2 (some .int)] ++ wsX50)
def wsX5_leader_r1 : List Cond := [Cond.methodLink RX5 137 yX5_first, Cond.instanceMethod yX5_first, Cond.selects RX5 yX5_first yX5_first, Cond.initialized RX5, Cond.code yX5_first cX5_first 3 (some .int), Cond.fieldLink RX5 48 "SkittleStringsModel" "players" "I", Cond.methodLink RX5 134 yX5_score, Cond.instanceMethod yX5_score, Cond.selects RX5 yX5_score yX5_score, Cond.code yX5_score cX5_score 4 (some .int), Cond.methodLink RX5 131 yX5_points, Cond.instanceMethod yX5_points, Cond.selects RX5 yX5_points yX5_points, Cond.code yX5_points cX5_points 5 (some .int), Cond.fieldLink RX5 72 "SkittleStringsModel" "frame" "I", Cond.fieldLink RX5 88 "SkittleStringsModel" "turn" "I", Cond.fieldLink RX5 23 "SkittleStringsModel" "many" "[I", Cond.fieldLink RX5 38 "SkittleStringsModel" "extra" "[I", Cond.methodLink RX5 91 yX5_begin, Cond.instanceMethod yX5_begin, Cond.selects RX5 yX5_begin yX5_begin, Cond.code yX5_begin cX5_begin 3 (some .int), Cond.fieldLink RX5 29 "SkittleStringsModel" "begins" "[I", Cond.methodLink RX5 94 yX5_sum]
def wsX5_leader_r2 : List Cond := [Cond.instanceMethod yX5_sum, Cond.selects RX5 yX5_sum yX5_sum, Cond.code yX5_sum cX5_sum 6 (some .int), Cond.methodLink RX5 83 Lib.Math.min.name, Cond.static Lib.Math.min.name, Cond.initialized "java/lang/Math", Cond.code Lib.Math.min.name Lib.Math.min.code 2 (some .int), Cond.fieldLink RX5 26 "SkittleStringsModel" "fell" "[I", Cond.methodLink RX5 143 yX5_ok, Cond.instanceMethod yX5_ok, Cond.selects RX5 yX5_ok yX5_ok, Cond.code yX5_ok cX5_ok 2 (some .int), Cond.fieldLink RX5 41 "SkittleStringsModel" "thrown" "I"]
def wsX5_leader : List Cond := .code yX5_leader cX5_leader 1 (some .int) :: ((wsX5_leader_r1 ++ wsX5_leader_r2) ++ wsX50)
def wsX5_wouldFall_r1 : List Cond := [Cond.fieldLink RX5 41 "SkittleStringsModel" "thrown" "I", Cond.fieldLink RX5 9 "SkittleStringsModel" "standing" "I", Cond.methodLink RX5 121 yX5_isThrow, Cond.static yX5_isThrow, Cond.initialized RX5, Cond.code yX5_isThrow cX5_isThrow 2 (some .boolean), Cond.methodLink RX5 44 yX5_isIn, Cond.static yX5_isIn, Cond.code yX5_isIn cX5_isIn 3 (some .boolean), Cond.methodLink RX5 107 yX5_roll, Cond.static yX5_roll, Cond.code yX5_roll cX5_roll 7 (some .int), Cond.methodLink RX5 60 yX5_pinAt, Cond.static yX5_pinAt, Cond.code yX5_pinAt cX5_pinAt 2 (some .int), Cond.fieldLink RX5 51 "SkittleStringsModel" "PIN" "[I", Cond.methodLink RX5 64 yX5_hit, Cond.static yX5_hit, Cond.code yX5_hit cX5_hit 4 (some .int), Cond.fieldLink RX5 54 "SkittleStringsModel" "ROW" "[I", Cond.fieldLink RX5 57 "SkittleStringsModel" "LANE" "[I", Cond.methodLink RX5 110 yJ6_bitCount_0f7a4, Cond.static yJ6_bitCount_0f7a4, Cond.initialized RJ6]
def wsX5_wouldFall_r2 : List Cond := [Cond.code yJ6_bitCount_0f7a4 cJ6_bitCount_0f7a4 1 (some .int), Cond.constant RJ6 265 (1431655765), Cond.constant RJ6 266 (858993459), Cond.constant RJ6 267 (252645135), Cond.methodLink RX5 79 yX5_no, Cond.instanceMethod yX5_no, Cond.selects RX5 yX5_no yX5_no, Cond.code yX5_no cX5_no 2 (some .int)]
def wsX5_wouldFall : List Cond := .code yX5_wouldFall cX5_wouldFall 3 (some .int) :: ((wsX5_wouldFall_r1 ++ wsX5_wouldFall_r2) ++ wsX50)
def wsJ6_numberOfLeadingZeros_0f7a4 : List Cond := .code yJ6_numberOfLeadingZeros_0f7a4 cJ6_numberOfLeadingZeros_0f7a4 2 (some .int) :: ([.constant RJ6 264 (65536)])
def wsX5_lastToFall_r1 : List Cond := [Cond.fieldLink RX5 41 "SkittleStringsModel" "thrown" "I", Cond.fieldLink RX5 9 "SkittleStringsModel" "standing" "I", Cond.methodLink RX5 121 yX5_isThrow, Cond.static yX5_isThrow, Cond.initialized RX5, Cond.code yX5_isThrow cX5_isThrow 2 (some .boolean), Cond.methodLink RX5 44 yX5_isIn, Cond.static yX5_isIn, Cond.code yX5_isIn cX5_isIn 3 (some .boolean), Cond.methodLink RX5 79 yX5_no, Cond.instanceMethod yX5_no, Cond.selects RX5 yX5_no yX5_no, Cond.code yX5_no cX5_no 2 (some .int), Cond.methodLink RX5 107 yX5_roll, Cond.static yX5_roll, Cond.code yX5_roll cX5_roll 7 (some .int), Cond.methodLink RX5 60 yX5_pinAt, Cond.static yX5_pinAt, Cond.code yX5_pinAt cX5_pinAt 2 (some .int), Cond.fieldLink RX5 51 "SkittleStringsModel" "PIN" "[I", Cond.methodLink RX5 64 yX5_hit, Cond.static yX5_hit, Cond.code yX5_hit cX5_hit 4 (some .int), Cond.fieldLink RX5 54 "SkittleStringsModel" "ROW" "[I"]
def wsX5_lastToFall_r2 : List Cond := [Cond.fieldLink RX5 57 "SkittleStringsModel" "LANE" "[I", Cond.methodLink RX5 159 yJ6_numberOfLeadingZeros_0f7a4, Cond.static yJ6_numberOfLeadingZeros_0f7a4, Cond.initialized RJ6, Cond.code yJ6_numberOfLeadingZeros_0f7a4 cJ6_numberOfLeadingZeros_0f7a4 2 (some .int), Cond.constant RJ6 264 (65536)]
def wsX5_lastToFall : List Cond := .code yX5_lastToFall cX5_lastToFall 4 (some .int) :: ((wsX5_lastToFall_r1 ++ wsX5_lastToFall_r2) ++ wsX50)
def wsX5_best_r1 : List Cond := [Cond.fieldLink RX5 17 "SkittleStringsModel" "away" "[I", Cond.fieldLink RX5 9 "SkittleStringsModel" "standing" "I", Cond.methodLink RX5 107 yX5_roll, Cond.static yX5_roll, Cond.initialized RX5, Cond.code yX5_roll cX5_roll 7 (some .int), Cond.methodLink RX5 60 yX5_pinAt, Cond.static yX5_pinAt, Cond.code yX5_pinAt cX5_pinAt 2 (some .int), Cond.fieldLink RX5 51 "SkittleStringsModel" "PIN" "[I", Cond.methodLink RX5 44 yX5_isIn, Cond.static yX5_isIn, Cond.code yX5_isIn cX5_isIn 3 (some .boolean), Cond.methodLink RX5 64 yX5_hit, Cond.static yX5_hit, Cond.code yX5_hit cX5_hit 4 (some .int), Cond.fieldLink RX5 54 "SkittleStringsModel" "ROW" "[I", Cond.fieldLink RX5 57 "SkittleStringsModel" "LANE" "[I", Cond.methodLink RX5 110 yJ6_bitCount_0f7a4, Cond.static yJ6_bitCount_0f7a4, Cond.initialized RJ6, Cond.code yJ6_bitCount_0f7a4 cJ6_bitCount_0f7a4 1 (some .int), Cond.constant RJ6 265 (1431655765), Cond.constant RJ6 266 (858993459)]
def wsX5_best_r2 : List Cond := [Cond.constant RJ6 267 (252645135)]
def wsX5_best : List Cond := .code yX5_best cX5_best 6 (some .int) :: ((wsX5_best_r1 ++ wsX5_best_r2) ++ wsX50)
def wsX5_bestThrow_r1 : List Cond := [Cond.methodLink RX5 162 yX5_best, Cond.instanceMethod yX5_best, Cond.selects RX5 yX5_best yX5_best, Cond.initialized RX5, Cond.code yX5_best cX5_best 6 (some .int), Cond.fieldLink RX5 17 "SkittleStringsModel" "away" "[I", Cond.fieldLink RX5 9 "SkittleStringsModel" "standing" "I", Cond.methodLink RX5 107 yX5_roll, Cond.static yX5_roll, Cond.code yX5_roll cX5_roll 7 (some .int), Cond.methodLink RX5 60 yX5_pinAt, Cond.static yX5_pinAt, Cond.code yX5_pinAt cX5_pinAt 2 (some .int), Cond.fieldLink RX5 51 "SkittleStringsModel" "PIN" "[I", Cond.methodLink RX5 44 yX5_isIn, Cond.static yX5_isIn, Cond.code yX5_isIn cX5_isIn 3 (some .boolean), Cond.methodLink RX5 64 yX5_hit, Cond.static yX5_hit, Cond.code yX5_hit cX5_hit 4 (some .int), Cond.fieldLink RX5 54 "SkittleStringsModel" "ROW" "[I", Cond.fieldLink RX5 57 "SkittleStringsModel" "LANE" "[I", Cond.methodLink RX5 110 yJ6_bitCount_0f7a4, Cond.static yJ6_bitCount_0f7a4]
def wsX5_bestThrow_r2 : List Cond := [Cond.initialized RJ6, Cond.code yJ6_bitCount_0f7a4 cJ6_bitCount_0f7a4 1 (some .int), Cond.constant RJ6 265 (1431655765), Cond.constant RJ6 266 (858993459), Cond.constant RJ6 267 (252645135), Cond.methodLink RX5 143 yX5_ok, Cond.instanceMethod yX5_ok, Cond.selects RX5 yX5_ok yX5_ok, Cond.code yX5_ok cX5_ok 2 (some .int), Cond.fieldLink RX5 41 "SkittleStringsModel" "thrown" "I"]
def wsX5_bestThrow : List Cond := .code yX5_bestThrow cX5_bestThrow 1 (some .int) :: ((wsX5_bestThrow_r1 ++ wsX5_bestThrow_r2) ++ wsX50)
def wsX5_isCleared : List Cond := .code yX5_isCleared cX5_isCleared 6 (some .boolean) :: ([.methodLink RX5 107 yX5_roll, .static yX5_roll, .initialized RX5, .code yX5_roll cX5_roll 7 (some .int), .methodLink RX5 60 yX5_pinAt, .static yX5_pinAt, .code yX5_pinAt cX5_pinAt 2 (some .int), .fieldLink RX5 51 "SkittleStringsModel" "PIN" "[I", .methodLink RX5 44 yX5_isIn, .static yX5_isIn, .code yX5_isIn cX5_isIn 3 (some .boolean), .methodLink RX5 64 yX5_hit, .static yX5_hit, .code yX5_hit cX5_hit 4 (some .int), .fieldLink RX5 54 "SkittleStringsModel" "ROW" "[I", .fieldLink RX5 57 "SkittleStringsModel" "LANE" "[I", .methodLink RX5 165 yX5_isCleared, .static yX5_isCleared])
def wsX5_clear : List Cond := .code yX5_clear cX5_clear 2 (some .int) :: ([.fieldLink RX5 9 "SkittleStringsModel" "standing" "I", .methodLink RX5 165 yX5_isCleared, .static yX5_isCleared, .initialized RX5, .code yX5_isCleared cX5_isCleared 6 (some .boolean), .methodLink RX5 107 yX5_roll, .static yX5_roll, .code yX5_roll cX5_roll 7 (some .int), .methodLink RX5 60 yX5_pinAt, .static yX5_pinAt, .code yX5_pinAt cX5_pinAt 2 (some .int), .fieldLink RX5 51 "SkittleStringsModel" "PIN" "[I", .methodLink RX5 44 yX5_isIn, .static yX5_isIn, .code yX5_isIn cX5_isIn 3 (some .boolean), .methodLink RX5 64 yX5_hit, .static yX5_hit, .code yX5_hit cX5_hit 4 (some .int), .fieldLink RX5 54 "SkittleStringsModel" "ROW" "[I", .fieldLink RX5 57 "SkittleStringsModel" "LANE" "[I"] ++ wsX50)
def wsX5_throwsToClear_r1 : List Cond := [Cond.methodLink RX5 168 yX5_clear, Cond.instanceMethod yX5_clear, Cond.selects RX5 yX5_clear yX5_clear, Cond.initialized RX5, Cond.code yX5_clear cX5_clear 2 (some .int), Cond.fieldLink RX5 9 "SkittleStringsModel" "standing" "I", Cond.methodLink RX5 165 yX5_isCleared, Cond.static yX5_isCleared, Cond.code yX5_isCleared cX5_isCleared 6 (some .boolean), Cond.methodLink RX5 107 yX5_roll, Cond.static yX5_roll, Cond.code yX5_roll cX5_roll 7 (some .int), Cond.methodLink RX5 60 yX5_pinAt, Cond.static yX5_pinAt, Cond.code yX5_pinAt cX5_pinAt 2 (some .int), Cond.fieldLink RX5 51 "SkittleStringsModel" "PIN" "[I", Cond.methodLink RX5 44 yX5_isIn, Cond.static yX5_isIn, Cond.code yX5_isIn cX5_isIn 3 (some .boolean), Cond.methodLink RX5 64 yX5_hit, Cond.static yX5_hit, Cond.code yX5_hit cX5_hit 4 (some .int), Cond.fieldLink RX5 54 "SkittleStringsModel" "ROW" "[I", Cond.fieldLink RX5 57 "SkittleStringsModel" "LANE" "[I"]
def wsX5_throwsToClear_r2 : List Cond := [Cond.methodLink RX5 143 yX5_ok, Cond.instanceMethod yX5_ok, Cond.selects RX5 yX5_ok yX5_ok, Cond.code yX5_ok cX5_ok 2 (some .int), Cond.fieldLink RX5 41 "SkittleStringsModel" "thrown" "I"]
def wsX5_throwsToClear : List Cond := .code yX5_throwsToClear cX5_throwsToClear 1 (some .int) :: ((wsX5_throwsToClear_r1 ++ wsX5_throwsToClear_r2) ++ wsX50)
def wsX5_wouldBreak : List Cond := .code yX5_wouldBreak cX5_wouldBreak 3 (some .int) :: ([.fieldLink RX5 41 "SkittleStringsModel" "thrown" "I", .fieldLink RX5 13 "SkittleStringsModel" "wear" "[I", .fieldLink RX5 9 "SkittleStringsModel" "standing" "I"] ++ wsX50)
def wsX5_meanScore_r1 : List Cond := [Cond.fieldLink RX5 41 "SkittleStringsModel" "thrown" "I", Cond.fieldLink RX5 48 "SkittleStringsModel" "players" "I", Cond.methodLink RX5 134 yX5_score, Cond.instanceMethod yX5_score, Cond.selects RX5 yX5_score yX5_score, Cond.initialized RX5, Cond.code yX5_score cX5_score 4 (some .int), Cond.methodLink RX5 131 yX5_points, Cond.instanceMethod yX5_points, Cond.selects RX5 yX5_points yX5_points, Cond.code yX5_points cX5_points 5 (some .int), Cond.fieldLink RX5 72 "SkittleStringsModel" "frame" "I", Cond.fieldLink RX5 88 "SkittleStringsModel" "turn" "I", Cond.fieldLink RX5 23 "SkittleStringsModel" "many" "[I", Cond.fieldLink RX5 38 "SkittleStringsModel" "extra" "[I", Cond.methodLink RX5 91 yX5_begin, Cond.instanceMethod yX5_begin, Cond.selects RX5 yX5_begin yX5_begin, Cond.code yX5_begin cX5_begin 3 (some .int), Cond.fieldLink RX5 29 "SkittleStringsModel" "begins" "[I", Cond.methodLink RX5 94 yX5_sum, Cond.instanceMethod yX5_sum, Cond.selects RX5 yX5_sum yX5_sum, Cond.code yX5_sum cX5_sum 6 (some .int)]
def wsX5_meanScore_r2 : List Cond := [Cond.methodLink RX5 83 Lib.Math.min.name, Cond.static Lib.Math.min.name, Cond.initialized "java/lang/Math", Cond.code Lib.Math.min.name Lib.Math.min.code 2 (some .int), Cond.fieldLink RX5 26 "SkittleStringsModel" "fell" "[I"]
def wsX5_meanScore : List Cond := .code yX5_meanScore cX5_meanScore 3 (some .double) :: ((wsX5_meanScore_r1 ++ wsX5_meanScore_r2) ++ wsX50)
def wsX5_digest_r1 : List Cond := [Cond.fieldLink RX5 41 "SkittleStringsModel" "thrown" "I", Cond.arrayClass .int, Cond.fieldLink RX5 48 "SkittleStringsModel" "players" "I", Cond.fieldLink RX5 72 "SkittleStringsModel" "frame" "I", Cond.fieldLink RX5 97 "SkittleStringsModel" "inFrame" "I", Cond.fieldLink RX5 20 "SkittleStringsModel" "spares" "I", Cond.constantLong RX5 171 (1999), Cond.constantLong RX5 173 (31), Cond.fieldLink RX5 9 "SkittleStringsModel" "standing" "I", Cond.fieldLink RX5 13 "SkittleStringsModel" "wear" "[I", Cond.fieldLink RX5 17 "SkittleStringsModel" "away" "[I", Cond.fieldLink RX5 23 "SkittleStringsModel" "many" "[I", Cond.fieldLink RX5 32 "SkittleStringsModel" "strikes" "[I", Cond.fieldLink RX5 35 "SkittleStringsModel" "closed" "[I", Cond.methodLink RX5 149 yX5_turnNow, Cond.instanceMethod yX5_turnNow, Cond.selects RX5 yX5_turnNow yX5_turnNow, Cond.initialized RX5, Cond.code yX5_turnNow cX5_turnNow 1 (some .int), Cond.fieldLink RX5 88 "SkittleStringsModel" "turn" "I", Cond.methodLink RX5 100 yX5_over, Cond.instanceMethod yX5_over, Cond.selects RX5 yX5_over yX5_over, Cond.code yX5_over cX5_over 1 (some .boolean)]
def wsX5_digest_r2 : List Cond := [Cond.methodLink RX5 162 yX5_best, Cond.instanceMethod yX5_best, Cond.selects RX5 yX5_best yX5_best, Cond.code yX5_best cX5_best 6 (some .int), Cond.methodLink RX5 107 yX5_roll, Cond.static yX5_roll, Cond.code yX5_roll cX5_roll 7 (some .int), Cond.methodLink RX5 60 yX5_pinAt, Cond.static yX5_pinAt, Cond.code yX5_pinAt cX5_pinAt 2 (some .int), Cond.fieldLink RX5 51 "SkittleStringsModel" "PIN" "[I", Cond.methodLink RX5 44 yX5_isIn, Cond.static yX5_isIn, Cond.code yX5_isIn cX5_isIn 3 (some .boolean), Cond.methodLink RX5 64 yX5_hit, Cond.static yX5_hit, Cond.code yX5_hit cX5_hit 4 (some .int), Cond.fieldLink RX5 54 "SkittleStringsModel" "ROW" "[I", Cond.fieldLink RX5 57 "SkittleStringsModel" "LANE" "[I", Cond.methodLink RX5 110 yJ6_bitCount_0f7a4, Cond.static yJ6_bitCount_0f7a4, Cond.initialized RJ6, Cond.code yJ6_bitCount_0f7a4 cJ6_bitCount_0f7a4 1 (some .int), Cond.constant RJ6 265 (1431655765)]
def wsX5_digest_r3 : List Cond := [Cond.constant RJ6 266 (858993459), Cond.constant RJ6 267 (252645135), Cond.methodLink RX5 168 yX5_clear, Cond.instanceMethod yX5_clear, Cond.selects RX5 yX5_clear yX5_clear, Cond.code yX5_clear cX5_clear 2 (some .int), Cond.methodLink RX5 165 yX5_isCleared, Cond.static yX5_isCleared, Cond.code yX5_isCleared cX5_isCleared 6 (some .boolean), Cond.methodLink RX5 134 yX5_score, Cond.instanceMethod yX5_score, Cond.selects RX5 yX5_score yX5_score, Cond.code yX5_score cX5_score 4 (some .int), Cond.methodLink RX5 131 yX5_points, Cond.instanceMethod yX5_points, Cond.selects RX5 yX5_points yX5_points, Cond.code yX5_points cX5_points 5 (some .int), Cond.fieldLink RX5 38 "SkittleStringsModel" "extra" "[I", Cond.methodLink RX5 91 yX5_begin, Cond.instanceMethod yX5_begin, Cond.selects RX5 yX5_begin yX5_begin, Cond.code yX5_begin cX5_begin 3 (some .int), Cond.fieldLink RX5 29 "SkittleStringsModel" "begins" "[I", Cond.methodLink RX5 94 yX5_sum]
def wsX5_digest_r4 : List Cond := [Cond.instanceMethod yX5_sum, Cond.selects RX5 yX5_sum yX5_sum, Cond.code yX5_sum cX5_sum 6 (some .int), Cond.methodLink RX5 83 Lib.Math.min.name, Cond.static Lib.Math.min.name, Cond.initialized "java/lang/Math", Cond.code Lib.Math.min.name Lib.Math.min.code 2 (some .int), Cond.fieldLink RX5 26 "SkittleStringsModel" "fell" "[I"]
def wsX5_digest : List Cond := .code yX5_digest cX5_digest 8 (some .long) :: ((wsX5_digest_r1 ++ (wsX5_digest_r2 ++ (wsX5_digest_r3 ++ wsX5_digest_r4))) ++ wsX50)
def wsJ9_max_7cf53 : List Cond := .code yJ9_max_7cf53 cJ9_max_7cf53 2 (some .int) :: ([])
def wsJ9_min_7cf53 : List Cond := .code yJ9_min_7cf53 cJ9_min_7cf53 2 (some .int) :: ([])
def wsL_addPlayer : List Cond := .codeWith yL_addPlayer cL_addPlayer 3 (some .int) [(0, 8, 11, 13)] :: ([.classLink RL 13 "java/lang/IllegalStateException", .methodLink RL 7 yX4_addPlayer, .instanceMethod yX4_addPlayer, .selects RX4 yX4_addPlayer yX4_addPlayer, .initialized RX4, .code yX4_addPlayer cX4_addPlayer 2 (some .int), .classLink RX4 38 "java/lang/IllegalStateException", .initialized "java/lang/IllegalStateException", .fieldLink RX4 30 "SkittleStrings" "playerCount" "I", .methodLink RX4 34 yX4_somethingThrown, .instanceMethod yX4_somethingThrown, .selects RX4 yX4_somethingThrown yX4_somethingThrown, .code yX4_somethingThrown cX4_somethingThrown 1 (some .boolean), .fieldLink RX4 25 "SkittleStrings" "sheets" "[LSkittleStrings$Sheet;", .methodLink RX4 150 yX3_thrown, .instanceMethod yX3_thrown, .selects RX3 yX3_thrown yX3_thrown, .initialized RX3, .code yX3_thrown cX3_thrown 1 (some .int), .fieldLink RX3 24 "SkittleStrings$Sheet" "thrown" "I"] ++ wsX40 ++ wsX30 ++ (vx_atS RX4 42 "java/lang/IllegalStateException" ["java/lang/RuntimeException", "java/lang/Exception"]).filter goodWord)
def wsL_throwBall_r1 : List Cond := [Cond.classLink RL 19 "java/lang/IndexOutOfBoundsException", Cond.classLink RL 13 "java/lang/IllegalStateException", Cond.methodLink RL 15 yX4_throwBall, Cond.instanceMethod yX4_throwBall, Cond.selects RX4 yX4_throwBall yX4_throwBall, Cond.initialized RX4, Cond.code yX4_throwBall cX4_throwBall 6 (some .int), Cond.classLink RX4 38 "java/lang/IllegalStateException", Cond.initialized "java/lang/IllegalStateException", Cond.fieldLink RX4 19 "SkittleStrings" "rack" "LSkittleStrings$Rack;", Cond.fieldLink RX4 10 "SkittleStrings" "alley" "LSkittleStrings$Alley;", Cond.fieldLink RX4 25 "SkittleStrings" "sheets" "[LSkittleStrings$Sheet;", Cond.fieldLink RX4 70 "SkittleStrings" "frameNow" "I", Cond.fieldLink RX4 77 "SkittleStrings" "throwsNow" "I", Cond.methodLink RX4 45 yX4_checkThrow, Cond.static yX4_checkThrow, Cond.code yX4_checkThrow cX4_checkThrow 2 none, Cond.methodLink RX4 141 yX4_checkBall, Cond.static yX4_checkBall, Cond.code yX4_checkBall cX4_checkBall 1 none, Cond.methodLink RX4 156 yX4_checkIndex, Cond.static yX4_checkIndex, Cond.code yX4_checkIndex cX4_checkIndex 2 none, Cond.classLink RX4 196 "java/lang/IndexOutOfBoundsException"]
def wsL_throwBall_r2 : List Cond := [Cond.initialized "java/lang/IndexOutOfBoundsException", Cond.methodLink RX4 49 yX4_playerInTurn, Cond.instanceMethod yX4_playerInTurn, Cond.selects RX4 yX4_playerInTurn yX4_playerInTurn, Cond.code yX4_playerInTurn cX4_playerInTurn 1 (some .int), Cond.fieldLink RX4 30 "SkittleStrings" "playerCount" "I", Cond.fieldLink RX4 108 "SkittleStrings" "turn" "I", Cond.methodLink RX4 144 yX4_isOver, Cond.instanceMethod yX4_isOver, Cond.selects RX4 yX4_isOver yX4_isOver, Cond.code yX4_isOver cX4_isOver 1 (some .boolean), Cond.methodLink RX4 53 yX2_throwsAway, Cond.instanceMethod yX2_throwsAway, Cond.selects RX2 yX2_throwsAway yX2_throwsAway, Cond.initialized RX2, Cond.code yX2_throwsAway cX2_throwsAway 2 (some .int), Cond.fieldLink RX2 9 "SkittleStrings$Rack" "away" "[I", Cond.methodLink RX4 59 yX0_roll, Cond.instanceMethod yX0_roll, Cond.selects RX0 yX0_roll yX0_roll, Cond.initialized RX0, Cond.code yX0_roll cX0_roll 5 (some .int), Cond.fieldLink RX0 17 "SkittleStrings$Alley" "standing" "I", Cond.fieldLink RX0 9 "SkittleStrings$Alley" "wears" "[I"]
def wsL_throwBall_r3 : List Cond := [Cond.methodLink RX0 28 yX1_felled, Cond.static yX1_felled, Cond.initialized RX1, Cond.code yX1_felled cX1_felled 7 (some .int), Cond.methodLink RX1 15 yX1_afterHit, Cond.static yX1_afterHit, Cond.code yX1_afterHit cX1_afterHit 6 (some .int), Cond.methodLink RX1 19 yX1_pinAt, Cond.static yX1_pinAt, Cond.code yX1_pinAt cX1_pinAt 2 (some .int), Cond.fieldLink RX1 31 "SkittleStrings$Pins" "PLACES" "[I", Cond.methodLink RX1 9 yX1_holds, Cond.static yX1_holds, Cond.code yX1_holds cX1_holds 2 (some .boolean), Cond.methodLink RX0 32 yX1_holds, Cond.methodLink RX0 36 yJ6_bitCount_0f7a4, Cond.static yJ6_bitCount_0f7a4, Cond.initialized RJ6, Cond.code yJ6_bitCount_0f7a4 cJ6_bitCount_0f7a4 1 (some .int), Cond.constant RJ6 265 (1431655765), Cond.constant RJ6 266 (858993459), Cond.constant RJ6 267 (252645135), Cond.methodLink RX4 63 yX2_send, Cond.instanceMethod yX2_send]
def wsL_throwBall_r4 : List Cond := [Cond.selects RX2 yX2_send yX2_send, Cond.code yX2_send cX2_send 3 none, Cond.methodLink RX2 15 Lib.Math.max.name, Cond.static Lib.Math.max.name, Cond.initialized "java/lang/Math", Cond.code Lib.Math.max.name Lib.Math.max.code 2 (some .int), Cond.methodLink RX4 67 yX0_standingPins, Cond.instanceMethod yX0_standingPins, Cond.selects RX0 yX0_standingPins yX0_standingPins, Cond.code yX0_standingPins cX0_standingPins 1 (some .int), Cond.methodLink RX4 73 yX3_enter, Cond.instanceMethod yX3_enter, Cond.selects RX3 yX3_enter yX3_enter, Cond.initialized RX3, Cond.code yX3_enter cX3_enter 4 none, Cond.fieldLink RX3 24 "SkittleStrings$Sheet" "thrown" "I", Cond.fieldLink RX3 9 "SkittleStrings$Sheet" "pinsOfThrow" "[I", Cond.fieldLink RX3 18 "SkittleStrings$Sheet" "throwsIn" "[I", Cond.fieldLink RX3 15 "SkittleStrings$Sheet" "firstThrow" "[I", Cond.fieldLink RX3 21 "SkittleStrings$Sheet" "bonusThrows" "[I", Cond.methodLink RX4 80 yX4_endFrame, Cond.instanceMethod yX4_endFrame, Cond.selects RX4 yX4_endFrame yX4_endFrame, Cond.code yX4_endFrame cX4_endFrame 1 none]
def wsL_throwBall_r5 : List Cond := [Cond.methodLink RX4 114 yX0_setUp, Cond.instanceMethod yX0_setUp, Cond.selects RX0 yX0_setUp yX0_setUp, Cond.code yX0_setUp cX0_setUp 2 none, Cond.methodLink RX0 24 yX0_broken, Cond.instanceMethod yX0_broken, Cond.selects RX0 yX0_broken yX0_broken, Cond.code yX0_broken cX0_broken 2 (some .boolean)]
def wsL_throwBall : List Cond := .codeWith yL_throwBall cL_throwBall 5 (some .int) [(0, 10, 13, 19), (0, 10, 17, 13)] :: ((wsL_throwBall_r1 ++ (wsL_throwBall_r2 ++ (wsL_throwBall_r3 ++ (wsL_throwBall_r4 ++ wsL_throwBall_r5)))) ++ wsX40 ++ wsX20 ++ wsX00 ++ wsX30 ++ (vx_atS RX4 42 "java/lang/IllegalStateException" ["java/lang/RuntimeException", "java/lang/Exception"]).filter goodWord ++ (vx_atS RX4 200 "java/lang/IndexOutOfBoundsException" ["java/lang/RuntimeException", "java/lang/Exception"]).filter goodWord)
def wsL_replaceString_r1 : List Cond := [Cond.classLink RL 19 "java/lang/IndexOutOfBoundsException", Cond.classLink RL 13 "java/lang/IllegalStateException", Cond.methodLink RL 21 yX4_replaceString, Cond.instanceMethod yX4_replaceString, Cond.selects RX4 yX4_replaceString yX4_replaceString, Cond.initialized RX4, Cond.code yX4_replaceString cX4_replaceString 2 (some .int), Cond.classLink RX4 38 "java/lang/IllegalStateException", Cond.initialized "java/lang/IllegalStateException", Cond.fieldLink RX4 10 "SkittleStrings" "alley" "LSkittleStrings$Alley;", Cond.methodLink RX4 83 yX4_checkPin, Cond.static yX4_checkPin, Cond.code yX4_checkPin cX4_checkPin 1 none, Cond.methodLink RX4 156 yX4_checkIndex, Cond.static yX4_checkIndex, Cond.code yX4_checkIndex cX4_checkIndex 2 none, Cond.classLink RX4 196 "java/lang/IndexOutOfBoundsException", Cond.initialized "java/lang/IndexOutOfBoundsException", Cond.methodLink RX4 86 yX0_spares, Cond.instanceMethod yX0_spares, Cond.selects RX0 yX0_spares yX0_spares, Cond.initialized RX0, Cond.code yX0_spares cX0_spares 1 (some .int), Cond.fieldLink RX0 21 "SkittleStrings$Alley" "spares" "I"]
def wsL_replaceString_r2 : List Cond := [Cond.methodLink RX4 91 yX0_replace, Cond.instanceMethod yX0_replace, Cond.selects RX0 yX0_replace yX0_replace, Cond.code yX0_replace cX0_replace 2 none, Cond.fieldLink RX0 9 "SkittleStrings$Alley" "wears" "[I"]
def wsL_replaceString : List Cond := .codeWith yL_replaceString cL_replaceString 4 (some .int) [(0, 9, 12, 19), (0, 9, 15, 13)] :: ((wsL_replaceString_r1 ++ wsL_replaceString_r2) ++ wsX40 ++ wsX00 ++ (vx_atS RX4 42 "java/lang/IllegalStateException" ["java/lang/RuntimeException", "java/lang/Exception"]).filter goodWord ++ (vx_atS RX4 200 "java/lang/IndexOutOfBoundsException" ["java/lang/RuntimeException", "java/lang/Exception"]).filter goodWord)
def wsL_buyStrings : List Cond := .codeWith yL_buyStrings cL_buyStrings 4 (some .int) [(0, 9, 12, 28)] :: ([.classLink RL 28 "java/lang/IllegalArgumentException", .methodLink RL 25 yX4_buyStrings, .instanceMethod yX4_buyStrings, .selects RX4 yX4_buyStrings yX4_buyStrings, .initialized RX4, .code yX4_buyStrings cX4_buyStrings 2 (some .int), .classLink RX4 94 "java/lang/IllegalArgumentException", .initialized "java/lang/IllegalArgumentException", .fieldLink RX4 10 "SkittleStrings" "alley" "LSkittleStrings$Alley;", .methodLink RX4 99 yX0_stock, .instanceMethod yX0_stock, .selects RX0 yX0_stock yX0_stock, .initialized RX0, .code yX0_stock cX0_stock 2 none, .fieldLink RX0 21 "SkittleStrings$Alley" "spares" "I", .methodLink RX4 86 yX0_spares, .instanceMethod yX0_spares, .selects RX0 yX0_spares yX0_spares, .code yX0_spares cX0_spares 1 (some .int)] ++ wsX40 ++ wsX00 ++ (vx_atS RX4 98 "java/lang/IllegalArgumentException" ["java/lang/RuntimeException", "java/lang/Exception"]).filter goodWord)
def wsL_isStanding_r1 : List Cond := [Cond.classLink RL 19 "java/lang/IndexOutOfBoundsException", Cond.methodLink RL 30 yX4_isStanding, Cond.instanceMethod yX4_isStanding, Cond.selects RX4 yX4_isStanding yX4_isStanding, Cond.initialized RX4, Cond.code yX4_isStanding cX4_isStanding 2 (some .boolean), Cond.fieldLink RX4 10 "SkittleStrings" "alley" "LSkittleStrings$Alley;", Cond.methodLink RX4 83 yX4_checkPin, Cond.static yX4_checkPin, Cond.code yX4_checkPin cX4_checkPin 1 none, Cond.methodLink RX4 156 yX4_checkIndex, Cond.static yX4_checkIndex, Cond.code yX4_checkIndex cX4_checkIndex 2 none, Cond.classLink RX4 196 "java/lang/IndexOutOfBoundsException", Cond.initialized "java/lang/IndexOutOfBoundsException", Cond.methodLink RX4 67 yX0_standingPins, Cond.instanceMethod yX0_standingPins, Cond.selects RX0 yX0_standingPins yX0_standingPins, Cond.initialized RX0, Cond.code yX0_standingPins cX0_standingPins 1 (some .int), Cond.fieldLink RX0 17 "SkittleStrings$Alley" "standing" "I", Cond.methodLink RX4 117 yX1_holds, Cond.static yX1_holds, Cond.initialized RX1]
def wsL_isStanding_r2 : List Cond := [Cond.code yX1_holds cX1_holds 2 (some .boolean)]
def wsL_isStanding : List Cond := .codeWith yL_isStanding cL_isStanding 4 (some .int) [(0, 16, 19, 19)] :: ((wsL_isStanding_r1 ++ wsL_isStanding_r2) ++ wsX40 ++ wsX00 ++ (vx_atS RX4 200 "java/lang/IndexOutOfBoundsException" ["java/lang/RuntimeException", "java/lang/Exception"]).filter goodWord)
def wsL_wearOf : List Cond := .codeWith yL_wearOf cL_wearOf 4 (some .int) [(0, 9, 12, 19)] :: ([.classLink RL 19 "java/lang/IndexOutOfBoundsException", .methodLink RL 34 yX4_wearOf, .instanceMethod yX4_wearOf, .selects RX4 yX4_wearOf yX4_wearOf, .initialized RX4, .code yX4_wearOf cX4_wearOf 2 (some .int), .fieldLink RX4 10 "SkittleStrings" "alley" "LSkittleStrings$Alley;", .methodLink RX4 83 yX4_checkPin, .static yX4_checkPin, .code yX4_checkPin cX4_checkPin 1 none, .methodLink RX4 156 yX4_checkIndex, .static yX4_checkIndex, .code yX4_checkIndex cX4_checkIndex 2 none, .classLink RX4 196 "java/lang/IndexOutOfBoundsException", .initialized "java/lang/IndexOutOfBoundsException", .methodLink RX4 128 yX0_wear, .instanceMethod yX0_wear, .selects RX0 yX0_wear yX0_wear, .initialized RX0, .code yX0_wear cX0_wear 2 (some .int), .fieldLink RX0 9 "SkittleStrings$Alley" "wears" "[I"] ++ wsX40 ++ wsX00 ++ (vx_atS RX4 200 "java/lang/IndexOutOfBoundsException" ["java/lang/RuntimeException", "java/lang/Exception"]).filter goodWord)
def wsL_isBroken : List Cond := .codeWith yL_isBroken cL_isBroken 4 (some .int) [(0, 16, 19, 19)] :: ([.classLink RL 19 "java/lang/IndexOutOfBoundsException", .methodLink RL 37 yX4_isBroken, .instanceMethod yX4_isBroken, .selects RX4 yX4_isBroken yX4_isBroken, .initialized RX4, .code yX4_isBroken cX4_isBroken 2 (some .boolean), .fieldLink RX4 10 "SkittleStrings" "alley" "LSkittleStrings$Alley;", .methodLink RX4 83 yX4_checkPin, .static yX4_checkPin, .code yX4_checkPin cX4_checkPin 1 none, .methodLink RX4 156 yX4_checkIndex, .static yX4_checkIndex, .code yX4_checkIndex cX4_checkIndex 2 none, .classLink RX4 196 "java/lang/IndexOutOfBoundsException", .initialized "java/lang/IndexOutOfBoundsException", .methodLink RX4 131 yX0_broken, .instanceMethod yX0_broken, .selects RX0 yX0_broken yX0_broken, .initialized RX0, .code yX0_broken cX0_broken 2 (some .boolean), .fieldLink RX0 9 "SkittleStrings$Alley" "wears" "[I"] ++ wsX40 ++ wsX00 ++ (vx_atS RX4 200 "java/lang/IndexOutOfBoundsException" ["java/lang/RuntimeException", "java/lang/Exception"]).filter goodWord)
def wsL_awayFor : List Cond := .codeWith yL_awayFor cL_awayFor 4 (some .int) [(0, 9, 12, 19)] :: ([.classLink RL 19 "java/lang/IndexOutOfBoundsException", .methodLink RL 40 yX4_awayFor, .instanceMethod yX4_awayFor, .selects RX4 yX4_awayFor yX4_awayFor, .initialized RX4, .code yX4_awayFor cX4_awayFor 2 (some .int), .fieldLink RX4 19 "SkittleStrings" "rack" "LSkittleStrings$Rack;", .methodLink RX4 141 yX4_checkBall, .static yX4_checkBall, .code yX4_checkBall cX4_checkBall 1 none, .methodLink RX4 156 yX4_checkIndex, .static yX4_checkIndex, .code yX4_checkIndex cX4_checkIndex 2 none, .classLink RX4 196 "java/lang/IndexOutOfBoundsException", .initialized "java/lang/IndexOutOfBoundsException", .methodLink RX4 53 yX2_throwsAway, .instanceMethod yX2_throwsAway, .selects RX2 yX2_throwsAway yX2_throwsAway, .initialized RX2, .code yX2_throwsAway cX2_throwsAway 2 (some .int), .fieldLink RX2 9 "SkittleStrings$Rack" "away" "[I"] ++ wsX40 ++ wsX20 ++ (vx_atS RX4 200 "java/lang/IndexOutOfBoundsException" ["java/lang/RuntimeException", "java/lang/Exception"]).filter goodWord)
def wsL_throwsOf : List Cond := .codeWith yL_throwsOf cL_throwsOf 4 (some .int) [(0, 9, 12, 19)] :: ([.classLink RL 19 "java/lang/IndexOutOfBoundsException", .methodLink RL 43 yX4_throwsOf, .instanceMethod yX4_throwsOf, .selects RX4 yX4_throwsOf yX4_throwsOf, .initialized RX4, .code yX4_throwsOf cX4_throwsOf 2 (some .int), .fieldLink RX4 25 "SkittleStrings" "sheets" "[LSkittleStrings$Sheet;", .methodLink RX4 147 yX4_checkPlayer, .instanceMethod yX4_checkPlayer, .selects RX4 yX4_checkPlayer yX4_checkPlayer, .code yX4_checkPlayer cX4_checkPlayer 2 none, .fieldLink RX4 30 "SkittleStrings" "playerCount" "I", .methodLink RX4 156 yX4_checkIndex, .static yX4_checkIndex, .code yX4_checkIndex cX4_checkIndex 2 none, .classLink RX4 196 "java/lang/IndexOutOfBoundsException", .initialized "java/lang/IndexOutOfBoundsException", .methodLink RX4 150 yX3_thrown, .instanceMethod yX3_thrown, .selects RX3 yX3_thrown yX3_thrown, .initialized RX3, .code yX3_thrown cX3_thrown 1 (some .int), .fieldLink RX3 24 "SkittleStrings$Sheet" "thrown" "I"] ++ wsX40 ++ wsX30 ++ (vx_atS RX4 200 "java/lang/IndexOutOfBoundsException" ["java/lang/RuntimeException", "java/lang/Exception"]).filter goodWord)
def wsL_scoreOf_r1 : List Cond := [Cond.classLink RL 19 "java/lang/IndexOutOfBoundsException", Cond.methodLink RL 46 yX4_scoreOf, Cond.instanceMethod yX4_scoreOf, Cond.selects RX4 yX4_scoreOf yX4_scoreOf, Cond.initialized RX4, Cond.code yX4_scoreOf cX4_scoreOf 2 (some .int), Cond.fieldLink RX4 25 "SkittleStrings" "sheets" "[LSkittleStrings$Sheet;", Cond.methodLink RX4 147 yX4_checkPlayer, Cond.instanceMethod yX4_checkPlayer, Cond.selects RX4 yX4_checkPlayer yX4_checkPlayer, Cond.code yX4_checkPlayer cX4_checkPlayer 2 none, Cond.fieldLink RX4 30 "SkittleStrings" "playerCount" "I", Cond.methodLink RX4 156 yX4_checkIndex, Cond.static yX4_checkIndex, Cond.code yX4_checkIndex cX4_checkIndex 2 none, Cond.classLink RX4 196 "java/lang/IndexOutOfBoundsException", Cond.initialized "java/lang/IndexOutOfBoundsException", Cond.methodLink RX4 153 yX3_score, Cond.instanceMethod yX3_score, Cond.selects RX3 yX3_score yX3_score, Cond.initialized RX3, Cond.code yX3_score cX3_score 3 (some .int), Cond.methodLink RX3 34 yX3_points, Cond.instanceMethod yX3_points]
def wsL_scoreOf_r2 : List Cond := [Cond.selects RX3 yX3_points yX3_points, Cond.code yX3_points cX3_points 5 (some .int), Cond.fieldLink RX3 24 "SkittleStrings$Sheet" "thrown" "I", Cond.fieldLink RX3 15 "SkittleStrings$Sheet" "firstThrow" "[I", Cond.fieldLink RX3 18 "SkittleStrings$Sheet" "throwsIn" "[I", Cond.fieldLink RX3 21 "SkittleStrings$Sheet" "bonusThrows" "[I", Cond.methodLink RX3 28 Lib.Math.min.name, Cond.static Lib.Math.min.name, Cond.initialized "java/lang/Math", Cond.code Lib.Math.min.name Lib.Math.min.code 2 (some .int), Cond.fieldLink RX3 9 "SkittleStrings$Sheet" "pinsOfThrow" "[I"]
def wsL_scoreOf : List Cond := .codeWith yL_scoreOf cL_scoreOf 4 (some .int) [(0, 9, 12, 19)] :: ((wsL_scoreOf_r1 ++ wsL_scoreOf_r2) ++ wsX40 ++ wsX30 ++ (vx_atS RX4 200 "java/lang/IndexOutOfBoundsException" ["java/lang/RuntimeException", "java/lang/Exception"]).filter goodWord)
def wsL_pointsOf_r1 : List Cond := [Cond.classLink RL 19 "java/lang/IndexOutOfBoundsException", Cond.methodLink RL 49 yX4_pointsOf, Cond.instanceMethod yX4_pointsOf, Cond.selects RX4 yX4_pointsOf yX4_pointsOf, Cond.initialized RX4, Cond.code yX4_pointsOf cX4_pointsOf 3 (some .int), Cond.fieldLink RX4 25 "SkittleStrings" "sheets" "[LSkittleStrings$Sheet;", Cond.methodLink RX4 147 yX4_checkPlayer, Cond.instanceMethod yX4_checkPlayer, Cond.selects RX4 yX4_checkPlayer yX4_checkPlayer, Cond.code yX4_checkPlayer cX4_checkPlayer 2 none, Cond.fieldLink RX4 30 "SkittleStrings" "playerCount" "I", Cond.methodLink RX4 156 yX4_checkIndex, Cond.static yX4_checkIndex, Cond.code yX4_checkIndex cX4_checkIndex 2 none, Cond.classLink RX4 196 "java/lang/IndexOutOfBoundsException", Cond.initialized "java/lang/IndexOutOfBoundsException", Cond.methodLink RX4 159 yX3_points, Cond.instanceMethod yX3_points, Cond.selects RX3 yX3_points yX3_points, Cond.initialized RX3, Cond.code yX3_points cX3_points 5 (some .int), Cond.fieldLink RX3 24 "SkittleStrings$Sheet" "thrown" "I", Cond.fieldLink RX3 15 "SkittleStrings$Sheet" "firstThrow" "[I"]
def wsL_pointsOf_r2 : List Cond := [Cond.fieldLink RX3 18 "SkittleStrings$Sheet" "throwsIn" "[I", Cond.fieldLink RX3 21 "SkittleStrings$Sheet" "bonusThrows" "[I", Cond.methodLink RX3 28 Lib.Math.min.name, Cond.static Lib.Math.min.name, Cond.initialized "java/lang/Math", Cond.code Lib.Math.min.name Lib.Math.min.code 2 (some .int), Cond.fieldLink RX3 9 "SkittleStrings$Sheet" "pinsOfThrow" "[I"]
def wsL_pointsOf : List Cond := .codeWith yL_pointsOf cL_pointsOf 5 (some .int) [(0, 10, 13, 19)] :: ((wsL_pointsOf_r1 ++ wsL_pointsOf_r2) ++ wsX40 ++ wsX30 ++ (vx_atS RX4 200 "java/lang/IndexOutOfBoundsException" ["java/lang/RuntimeException", "java/lang/Exception"]).filter goodWord)
def wsL_strikesOf_r1 : List Cond := [Cond.classLink RL 19 "java/lang/IndexOutOfBoundsException", Cond.methodLink RL 52 yX4_strikesOf, Cond.instanceMethod yX4_strikesOf, Cond.selects RX4 yX4_strikesOf yX4_strikesOf, Cond.initialized RX4, Cond.code yX4_strikesOf cX4_strikesOf 2 (some .int), Cond.fieldLink RX4 25 "SkittleStrings" "sheets" "[LSkittleStrings$Sheet;", Cond.methodLink RX4 147 yX4_checkPlayer, Cond.instanceMethod yX4_checkPlayer, Cond.selects RX4 yX4_checkPlayer yX4_checkPlayer, Cond.code yX4_checkPlayer cX4_checkPlayer 2 none, Cond.fieldLink RX4 30 "SkittleStrings" "playerCount" "I", Cond.methodLink RX4 156 yX4_checkIndex, Cond.static yX4_checkIndex, Cond.code yX4_checkIndex cX4_checkIndex 2 none, Cond.classLink RX4 196 "java/lang/IndexOutOfBoundsException", Cond.initialized "java/lang/IndexOutOfBoundsException", Cond.methodLink RX4 162 yX3_strikes, Cond.instanceMethod yX3_strikes, Cond.selects RX3 yX3_strikes yX3_strikes, Cond.initialized RX3, Cond.code yX3_strikes cX3_strikes 1 (some .int), Cond.methodLink RX3 38 yX3_framesWithBonus, Cond.instanceMethod yX3_framesWithBonus]
def wsL_strikesOf_r2 : List Cond := [Cond.selects RX3 yX3_framesWithBonus yX3_framesWithBonus, Cond.code yX3_framesWithBonus cX3_framesWithBonus 4 (some .int), Cond.fieldLink RX3 21 "SkittleStrings$Sheet" "bonusThrows" "[I"]
def wsL_strikesOf : List Cond := .codeWith yL_strikesOf cL_strikesOf 4 (some .int) [(0, 9, 12, 19)] :: ((wsL_strikesOf_r1 ++ wsL_strikesOf_r2) ++ wsX40 ++ wsX30 ++ (vx_atS RX4 200 "java/lang/IndexOutOfBoundsException" ["java/lang/RuntimeException", "java/lang/Exception"]).filter goodWord)
def wsL_sparesOf_r1 : List Cond := [Cond.classLink RL 19 "java/lang/IndexOutOfBoundsException", Cond.methodLink RL 55 yX4_sparesOf, Cond.instanceMethod yX4_sparesOf, Cond.selects RX4 yX4_sparesOf yX4_sparesOf, Cond.initialized RX4, Cond.code yX4_sparesOf cX4_sparesOf 2 (some .int), Cond.fieldLink RX4 25 "SkittleStrings" "sheets" "[LSkittleStrings$Sheet;", Cond.methodLink RX4 147 yX4_checkPlayer, Cond.instanceMethod yX4_checkPlayer, Cond.selects RX4 yX4_checkPlayer yX4_checkPlayer, Cond.code yX4_checkPlayer cX4_checkPlayer 2 none, Cond.fieldLink RX4 30 "SkittleStrings" "playerCount" "I", Cond.methodLink RX4 156 yX4_checkIndex, Cond.static yX4_checkIndex, Cond.code yX4_checkIndex cX4_checkIndex 2 none, Cond.classLink RX4 196 "java/lang/IndexOutOfBoundsException", Cond.initialized "java/lang/IndexOutOfBoundsException", Cond.methodLink RX4 165 yX3_spares, Cond.instanceMethod yX3_spares, Cond.selects RX3 yX3_spares yX3_spares, Cond.initialized RX3, Cond.code yX3_spares cX3_spares 1 (some .int), Cond.methodLink RX3 38 yX3_framesWithBonus, Cond.instanceMethod yX3_framesWithBonus]
def wsL_sparesOf_r2 : List Cond := [Cond.selects RX3 yX3_framesWithBonus yX3_framesWithBonus, Cond.code yX3_framesWithBonus cX3_framesWithBonus 4 (some .int), Cond.fieldLink RX3 21 "SkittleStrings$Sheet" "bonusThrows" "[I"]
def wsL_sparesOf : List Cond := .codeWith yL_sparesOf cL_sparesOf 4 (some .int) [(0, 9, 12, 19)] :: ((wsL_sparesOf_r1 ++ wsL_sparesOf_r2) ++ wsX40 ++ wsX30 ++ (vx_atS RX4 200 "java/lang/IndexOutOfBoundsException" ["java/lang/RuntimeException", "java/lang/Exception"]).filter goodWord)
def wsL_wouldFall_r1 : List Cond := [Cond.classLink RL 19 "java/lang/IndexOutOfBoundsException", Cond.methodLink RL 58 yX4_wouldFall, Cond.instanceMethod yX4_wouldFall, Cond.selects RX4 yX4_wouldFall yX4_wouldFall, Cond.initialized RX4, Cond.code yX4_wouldFall cX4_wouldFall 3 (some .int), Cond.fieldLink RX4 10 "SkittleStrings" "alley" "LSkittleStrings$Alley;", Cond.methodLink RX4 45 yX4_checkThrow, Cond.static yX4_checkThrow, Cond.code yX4_checkThrow cX4_checkThrow 2 none, Cond.methodLink RX4 141 yX4_checkBall, Cond.static yX4_checkBall, Cond.code yX4_checkBall cX4_checkBall 1 none, Cond.methodLink RX4 156 yX4_checkIndex, Cond.static yX4_checkIndex, Cond.code yX4_checkIndex cX4_checkIndex 2 none, Cond.classLink RX4 196 "java/lang/IndexOutOfBoundsException", Cond.initialized "java/lang/IndexOutOfBoundsException", Cond.methodLink RX4 67 yX0_standingPins, Cond.instanceMethod yX0_standingPins, Cond.selects RX0 yX0_standingPins yX0_standingPins, Cond.initialized RX0, Cond.code yX0_standingPins cX0_standingPins 1 (some .int), Cond.fieldLink RX0 17 "SkittleStrings$Alley" "standing" "I"]
def wsL_wouldFall_r2 : List Cond := [Cond.methodLink RX4 166 yX1_felled, Cond.static yX1_felled, Cond.initialized RX1, Cond.code yX1_felled cX1_felled 7 (some .int), Cond.methodLink RX1 15 yX1_afterHit, Cond.static yX1_afterHit, Cond.code yX1_afterHit cX1_afterHit 6 (some .int), Cond.methodLink RX1 19 yX1_pinAt, Cond.static yX1_pinAt, Cond.code yX1_pinAt cX1_pinAt 2 (some .int), Cond.fieldLink RX1 31 "SkittleStrings$Pins" "PLACES" "[I", Cond.methodLink RX1 9 yX1_holds, Cond.static yX1_holds, Cond.code yX1_holds cX1_holds 2 (some .boolean), Cond.methodLink RX4 123 yJ6_bitCount_0f7a4, Cond.static yJ6_bitCount_0f7a4, Cond.initialized RJ6, Cond.code yJ6_bitCount_0f7a4 cJ6_bitCount_0f7a4 1 (some .int), Cond.constant RJ6 265 (1431655765), Cond.constant RJ6 266 (858993459), Cond.constant RJ6 267 (252645135)]
def wsL_wouldFall : List Cond := .codeWith yL_wouldFall cL_wouldFall 5 (some .int) [(0, 10, 13, 19)] :: ((wsL_wouldFall_r1 ++ wsL_wouldFall_r2) ++ wsX40 ++ wsX00 ++ (vx_atS RX4 200 "java/lang/IndexOutOfBoundsException" ["java/lang/RuntimeException", "java/lang/Exception"]).filter goodWord)
def wsL_lastToFall_r1 : List Cond := [Cond.classLink RL 19 "java/lang/IndexOutOfBoundsException", Cond.methodLink RL 61 yX4_lastToFall, Cond.instanceMethod yX4_lastToFall, Cond.selects RX4 yX4_lastToFall yX4_lastToFall, Cond.initialized RX4, Cond.code yX4_lastToFall cX4_lastToFall 3 (some .int), Cond.fieldLink RX4 10 "SkittleStrings" "alley" "LSkittleStrings$Alley;", Cond.methodLink RX4 45 yX4_checkThrow, Cond.static yX4_checkThrow, Cond.code yX4_checkThrow cX4_checkThrow 2 none, Cond.methodLink RX4 141 yX4_checkBall, Cond.static yX4_checkBall, Cond.code yX4_checkBall cX4_checkBall 1 none, Cond.methodLink RX4 156 yX4_checkIndex, Cond.static yX4_checkIndex, Cond.code yX4_checkIndex cX4_checkIndex 2 none, Cond.classLink RX4 196 "java/lang/IndexOutOfBoundsException", Cond.initialized "java/lang/IndexOutOfBoundsException", Cond.methodLink RX4 67 yX0_standingPins, Cond.instanceMethod yX0_standingPins, Cond.selects RX0 yX0_standingPins yX0_standingPins, Cond.initialized RX0, Cond.code yX0_standingPins cX0_standingPins 1 (some .int), Cond.fieldLink RX0 17 "SkittleStrings$Alley" "standing" "I"]
def wsL_lastToFall_r2 : List Cond := [Cond.methodLink RX4 166 yX1_felled, Cond.static yX1_felled, Cond.initialized RX1, Cond.code yX1_felled cX1_felled 7 (some .int), Cond.methodLink RX1 15 yX1_afterHit, Cond.static yX1_afterHit, Cond.code yX1_afterHit cX1_afterHit 6 (some .int), Cond.methodLink RX1 19 yX1_pinAt, Cond.static yX1_pinAt, Cond.code yX1_pinAt cX1_pinAt 2 (some .int), Cond.fieldLink RX1 31 "SkittleStrings$Pins" "PLACES" "[I", Cond.methodLink RX1 9 yX1_holds, Cond.static yX1_holds, Cond.code yX1_holds cX1_holds 2 (some .boolean), Cond.methodLink RX4 170 yX1_last, Cond.static yX1_last, Cond.code yX1_last cX1_last 2 (some .int)]
def wsL_lastToFall : List Cond := .codeWith yL_lastToFall cL_lastToFall 5 (some .int) [(0, 10, 13, 19)] :: ((wsL_lastToFall_r1 ++ wsL_lastToFall_r2) ++ wsX40 ++ wsX00 ++ (vx_atS RX4 200 "java/lang/IndexOutOfBoundsException" ["java/lang/RuntimeException", "java/lang/Exception"]).filter goodWord)
def wsL_law0_r1 : List Cond := [Cond.classLink RL 8 RX4, Cond.instantiable RX4 7, Cond.initialized RX4, Cond.classLink RL 65 RX5, Cond.instantiable RX5 15, Cond.initialized RX5, Cond.arrayClass .long, Cond.methodLink RL 64 yX4_init, Cond.instanceMethod yX4_init, Cond.code yX4_init cX4_init 2 none, Cond.methodLink RX4 1 objectInit, Cond.instanceMethod objectInit, Cond.code objectInit ⟨#[0xb1]⟩ 1 none, Cond.classLink RX4 7 RX0, Cond.instantiable RX0 3, Cond.initialized RX0, Cond.fieldLink RX4 10 "SkittleStrings" "alley" "LSkittleStrings$Alley;", Cond.classLink RX4 16 RX2, Cond.instantiable RX2 1, Cond.initialized RX2, Cond.fieldLink RX4 19 "SkittleStrings" "rack" "LSkittleStrings$Rack;", Cond.classLink RX4 23 RX3, Cond.fieldLink RX4 25 "SkittleStrings" "sheets" "[LSkittleStrings$Sheet;", Cond.instantiable RX3 5]
def wsL_law0_r2 : List Cond := [Cond.initialized RX3, Cond.instanceMethod yX0_init, Cond.code yX0_init cX0_init 1 none, Cond.methodLink RX0 3 objectInit, Cond.arrayClass .int, Cond.fieldLink RX0 9 "SkittleStrings$Alley" "wears" "[I", Cond.fieldLink RX0 17 "SkittleStrings$Alley" "standing" "I", Cond.fieldLink RX0 21 "SkittleStrings$Alley" "spares" "I", Cond.instanceMethod yX2_init, Cond.code yX2_init cX2_init 1 none, Cond.methodLink RX2 3 objectInit, Cond.fieldLink RX2 9 "SkittleStrings$Rack" "away" "[I", Cond.instanceMethod yX3_init, Cond.code yX3_init cX3_init 1 none, Cond.methodLink RX3 3 objectInit, Cond.fieldLink RX3 9 "SkittleStrings$Sheet" "pinsOfThrow" "[I", Cond.fieldLink RX3 15 "SkittleStrings$Sheet" "firstThrow" "[I", Cond.fieldLink RX3 18 "SkittleStrings$Sheet" "throwsIn" "[I", Cond.fieldLink RX3 21 "SkittleStrings$Sheet" "bonusThrows" "[I", Cond.methodLink RL 67 yX5_init, Cond.instanceMethod yX5_init, Cond.code yX5_init cX5_init 1 none, Cond.methodLink RX5 1 objectInit, Cond.fieldLink RX5 9 "SkittleStringsModel" "standing" "I"]
def wsL_law0_r3 : List Cond := [Cond.fieldLink RX5 13 "SkittleStringsModel" "wear" "[I", Cond.fieldLink RX5 17 "SkittleStringsModel" "away" "[I", Cond.fieldLink RX5 20 "SkittleStringsModel" "spares" "I", Cond.fieldLink RX5 23 "SkittleStringsModel" "many" "[I", Cond.fieldLink RX5 26 "SkittleStringsModel" "fell" "[I", Cond.fieldLink RX5 29 "SkittleStringsModel" "begins" "[I", Cond.fieldLink RX5 32 "SkittleStringsModel" "strikes" "[I", Cond.fieldLink RX5 35 "SkittleStringsModel" "closed" "[I", Cond.fieldLink RX5 38 "SkittleStringsModel" "extra" "[I", Cond.methodLink RL 68 yL_addPlayer, Cond.static yL_addPlayer, Cond.initialized RL, Cond.codeWith yL_addPlayer cL_addPlayer 3 (some .int) [(0, 8, 11, 13)], Cond.classLink RL 13 "java/lang/IllegalStateException", Cond.methodLink RL 7 yX4_addPlayer, Cond.instanceMethod yX4_addPlayer, Cond.selects RX4 yX4_addPlayer yX4_addPlayer, Cond.code yX4_addPlayer cX4_addPlayer 2 (some .int), Cond.classLink RX4 38 "java/lang/IllegalStateException", Cond.initialized "java/lang/IllegalStateException", Cond.fieldLink RX4 30 "SkittleStrings" "playerCount" "I", Cond.methodLink RX4 34 yX4_somethingThrown, Cond.instanceMethod yX4_somethingThrown, Cond.selects RX4 yX4_somethingThrown yX4_somethingThrown]
def wsL_law0_r4 : List Cond := [Cond.code yX4_somethingThrown cX4_somethingThrown 1 (some .boolean), Cond.methodLink RX4 150 yX3_thrown, Cond.instanceMethod yX3_thrown, Cond.selects RX3 yX3_thrown yX3_thrown, Cond.code yX3_thrown cX3_thrown 1 (some .int), Cond.fieldLink RX3 24 "SkittleStrings$Sheet" "thrown" "I", Cond.methodLink RL 73 yX5_addPlayer, Cond.instanceMethod yX5_addPlayer, Cond.selects RX5 yX5_addPlayer yX5_addPlayer, Cond.code yX5_addPlayer cX5_addPlayer 1 (some .int), Cond.fieldLink RX5 41 "SkittleStringsModel" "thrown" "I", Cond.fieldLink RX5 48 "SkittleStringsModel" "players" "I", Cond.methodLink RX5 75 yX5_throwsOfAll, Cond.instanceMethod yX5_throwsOfAll, Cond.selects RX5 yX5_throwsOfAll yX5_throwsOfAll, Cond.code yX5_throwsOfAll cX5_throwsOfAll 3 (some .int), Cond.methodLink RX5 79 yX5_no, Cond.instanceMethod yX5_no, Cond.selects RX5 yX5_no yX5_no, Cond.code yX5_no cX5_no 2 (some .int), Cond.methodLink RL 74 yX5_thrown, Cond.instanceMethod yX5_thrown, Cond.selects RX5 yX5_thrown yX5_thrown, Cond.code yX5_thrown cX5_thrown 1 (some .int)]
def wsL_law0_r5 : List Cond := [Cond.methodLink RL 77 yL_throwBall, Cond.static yL_throwBall, Cond.codeWith yL_throwBall cL_throwBall 5 (some .int) [(0, 10, 13, 19), (0, 10, 17, 13)], Cond.classLink RL 19 "java/lang/IndexOutOfBoundsException", Cond.methodLink RL 15 yX4_throwBall, Cond.instanceMethod yX4_throwBall, Cond.selects RX4 yX4_throwBall yX4_throwBall, Cond.code yX4_throwBall cX4_throwBall 6 (some .int), Cond.fieldLink RX4 70 "SkittleStrings" "frameNow" "I", Cond.fieldLink RX4 77 "SkittleStrings" "throwsNow" "I", Cond.methodLink RX4 45 yX4_checkThrow, Cond.static yX4_checkThrow, Cond.code yX4_checkThrow cX4_checkThrow 2 none, Cond.methodLink RX4 141 yX4_checkBall, Cond.static yX4_checkBall, Cond.code yX4_checkBall cX4_checkBall 1 none, Cond.methodLink RX4 156 yX4_checkIndex, Cond.static yX4_checkIndex, Cond.code yX4_checkIndex cX4_checkIndex 2 none, Cond.classLink RX4 196 "java/lang/IndexOutOfBoundsException", Cond.initialized "java/lang/IndexOutOfBoundsException", Cond.methodLink RX4 49 yX4_playerInTurn, Cond.instanceMethod yX4_playerInTurn, Cond.selects RX4 yX4_playerInTurn yX4_playerInTurn]
def wsL_law0_r6 : List Cond := [Cond.code yX4_playerInTurn cX4_playerInTurn 1 (some .int), Cond.fieldLink RX4 108 "SkittleStrings" "turn" "I", Cond.methodLink RX4 144 yX4_isOver, Cond.instanceMethod yX4_isOver, Cond.selects RX4 yX4_isOver yX4_isOver, Cond.code yX4_isOver cX4_isOver 1 (some .boolean), Cond.methodLink RX4 53 yX2_throwsAway, Cond.instanceMethod yX2_throwsAway, Cond.selects RX2 yX2_throwsAway yX2_throwsAway, Cond.code yX2_throwsAway cX2_throwsAway 2 (some .int), Cond.methodLink RX4 59 yX0_roll, Cond.instanceMethod yX0_roll, Cond.selects RX0 yX0_roll yX0_roll, Cond.code yX0_roll cX0_roll 5 (some .int), Cond.methodLink RX0 28 yX1_felled, Cond.static yX1_felled, Cond.initialized RX1, Cond.code yX1_felled cX1_felled 7 (some .int), Cond.methodLink RX1 15 yX1_afterHit, Cond.static yX1_afterHit, Cond.code yX1_afterHit cX1_afterHit 6 (some .int), Cond.methodLink RX1 19 yX1_pinAt, Cond.static yX1_pinAt, Cond.code yX1_pinAt cX1_pinAt 2 (some .int)]
def wsL_law0_r7 : List Cond := [Cond.fieldLink RX1 31 "SkittleStrings$Pins" "PLACES" "[I", Cond.methodLink RX1 9 yX1_holds, Cond.static yX1_holds, Cond.code yX1_holds cX1_holds 2 (some .boolean), Cond.methodLink RX0 32 yX1_holds, Cond.methodLink RX0 36 yJ6_bitCount_0f7a4, Cond.static yJ6_bitCount_0f7a4, Cond.initialized RJ6, Cond.code yJ6_bitCount_0f7a4 cJ6_bitCount_0f7a4 1 (some .int), Cond.constant RJ6 265 (1431655765), Cond.constant RJ6 266 (858993459), Cond.constant RJ6 267 (252645135), Cond.methodLink RX4 63 yX2_send, Cond.instanceMethod yX2_send, Cond.selects RX2 yX2_send yX2_send, Cond.code yX2_send cX2_send 3 none, Cond.methodLink RX2 15 Lib.Math.max.name, Cond.static Lib.Math.max.name, Cond.initialized "java/lang/Math", Cond.code Lib.Math.max.name Lib.Math.max.code 2 (some .int), Cond.methodLink RX4 67 yX0_standingPins, Cond.instanceMethod yX0_standingPins, Cond.selects RX0 yX0_standingPins yX0_standingPins, Cond.code yX0_standingPins cX0_standingPins 1 (some .int)]
def wsL_law0_r8 : List Cond := [Cond.methodLink RX4 73 yX3_enter, Cond.instanceMethod yX3_enter, Cond.selects RX3 yX3_enter yX3_enter, Cond.code yX3_enter cX3_enter 4 none, Cond.methodLink RX4 80 yX4_endFrame, Cond.instanceMethod yX4_endFrame, Cond.selects RX4 yX4_endFrame yX4_endFrame, Cond.code yX4_endFrame cX4_endFrame 1 none, Cond.methodLink RX4 114 yX0_setUp, Cond.instanceMethod yX0_setUp, Cond.selects RX0 yX0_setUp yX0_setUp, Cond.code yX0_setUp cX0_setUp 2 none, Cond.methodLink RX0 24 yX0_broken, Cond.instanceMethod yX0_broken, Cond.selects RX0 yX0_broken yX0_broken, Cond.code yX0_broken cX0_broken 2 (some .boolean), Cond.methodLink RL 80 yX5_throwBall, Cond.instanceMethod yX5_throwBall, Cond.selects RX5 yX5_throwBall yX5_throwBall, Cond.code yX5_throwBall cX5_throwBall 3 (some .int), Cond.methodLink RX5 121 yX5_isThrow, Cond.static yX5_isThrow, Cond.code yX5_isThrow cX5_isThrow 2 (some .boolean), Cond.methodLink RX5 44 yX5_isIn]
def wsL_law0_r9 : List Cond := [Cond.static yX5_isIn, Cond.code yX5_isIn cX5_isIn 3 (some .boolean), Cond.methodLink RX5 100 yX5_over, Cond.instanceMethod yX5_over, Cond.selects RX5 yX5_over yX5_over, Cond.code yX5_over cX5_over 1 (some .boolean), Cond.fieldLink RX5 72 "SkittleStringsModel" "frame" "I", Cond.methodLink RX5 125 yX5_play, Cond.instanceMethod yX5_play, Cond.selects RX5 yX5_play yX5_play, Cond.code yX5_play cX5_play 6 (some .int), Cond.methodLink RX5 115 Lib.Math.max.name, Cond.fieldLink RX5 88 "SkittleStringsModel" "turn" "I", Cond.fieldLink RX5 97 "SkittleStringsModel" "inFrame" "I", Cond.methodLink RX5 107 yX5_roll, Cond.static yX5_roll, Cond.code yX5_roll cX5_roll 7 (some .int), Cond.methodLink RX5 60 yX5_pinAt, Cond.static yX5_pinAt, Cond.code yX5_pinAt cX5_pinAt 2 (some .int), Cond.fieldLink RX5 51 "SkittleStringsModel" "PIN" "[I", Cond.methodLink RX5 64 yX5_hit, Cond.static yX5_hit, Cond.code yX5_hit cX5_hit 4 (some .int)]
def wsL_law0_r10 : List Cond := [Cond.fieldLink RX5 54 "SkittleStringsModel" "ROW" "[I", Cond.fieldLink RX5 57 "SkittleStringsModel" "LANE" "[I", Cond.methodLink RX5 110 yJ6_bitCount_0f7a4, Cond.methodLink RX5 118 yX5_endFrame, Cond.instanceMethod yX5_endFrame, Cond.selects RX5 yX5_endFrame yX5_endFrame, Cond.code yX5_endFrame cX5_endFrame 2 none, Cond.methodLink RX5 91 yX5_begin, Cond.instanceMethod yX5_begin, Cond.selects RX5 yX5_begin yX5_begin, Cond.code yX5_begin cX5_begin 3 (some .int), Cond.methodLink RX5 94 yX5_sum, Cond.instanceMethod yX5_sum, Cond.selects RX5 yX5_sum yX5_sum, Cond.code yX5_sum cX5_sum 6 (some .int), Cond.methodLink RX5 83 Lib.Math.min.name, Cond.static Lib.Math.min.name, Cond.code Lib.Math.min.name Lib.Math.min.code 2 (some .int), Cond.methodLink RX5 104 yX5_putUp, Cond.instanceMethod yX5_putUp, Cond.selects RX5 yX5_putUp yX5_putUp, Cond.code yX5_putUp cX5_putUp 2 none, Cond.methodLink RX5 68 yX5_broken, Cond.instanceMethod yX5_broken]
def wsL_law0_r11 : List Cond := [Cond.selects RX5 yX5_broken yX5_broken, Cond.code yX5_broken cX5_broken 2 (some .boolean), Cond.methodLink RL 81 yL_replaceString, Cond.static yL_replaceString, Cond.codeWith yL_replaceString cL_replaceString 4 (some .int) [(0, 9, 12, 19), (0, 9, 15, 13)], Cond.methodLink RL 21 yX4_replaceString, Cond.instanceMethod yX4_replaceString, Cond.selects RX4 yX4_replaceString yX4_replaceString, Cond.code yX4_replaceString cX4_replaceString 2 (some .int), Cond.methodLink RX4 83 yX4_checkPin, Cond.static yX4_checkPin, Cond.code yX4_checkPin cX4_checkPin 1 none, Cond.methodLink RX4 86 yX0_spares, Cond.instanceMethod yX0_spares, Cond.selects RX0 yX0_spares yX0_spares, Cond.code yX0_spares cX0_spares 1 (some .int), Cond.methodLink RX4 91 yX0_replace, Cond.instanceMethod yX0_replace, Cond.selects RX0 yX0_replace yX0_replace, Cond.code yX0_replace cX0_replace 2 none, Cond.methodLink RL 84 yX5_replaceString, Cond.instanceMethod yX5_replaceString, Cond.selects RX5 yX5_replaceString yX5_replaceString, Cond.code yX5_replaceString cX5_replaceString 2 (some .int)]
def wsL_law0_r12 : List Cond := [Cond.methodLink RX5 128 yX5_isPin, Cond.static yX5_isPin, Cond.code yX5_isPin cX5_isPin 1 (some .boolean), Cond.methodLink RL 85 yL_buyStrings, Cond.static yL_buyStrings, Cond.codeWith yL_buyStrings cL_buyStrings 4 (some .int) [(0, 9, 12, 28)], Cond.classLink RL 28 "java/lang/IllegalArgumentException", Cond.methodLink RL 25 yX4_buyStrings, Cond.instanceMethod yX4_buyStrings, Cond.selects RX4 yX4_buyStrings yX4_buyStrings, Cond.code yX4_buyStrings cX4_buyStrings 2 (some .int), Cond.classLink RX4 94 "java/lang/IllegalArgumentException", Cond.initialized "java/lang/IllegalArgumentException", Cond.methodLink RX4 99 yX0_stock, Cond.instanceMethod yX0_stock, Cond.selects RX0 yX0_stock yX0_stock, Cond.code yX0_stock cX0_stock 2 none, Cond.methodLink RL 87 yX5_buyStrings, Cond.instanceMethod yX5_buyStrings, Cond.selects RX5 yX5_buyStrings yX5_buyStrings, Cond.code yX5_buyStrings cX5_buyStrings 2 (some .int), Cond.methodLink RL 88 yX4_newGame, Cond.instanceMethod yX4_newGame, Cond.selects RX4 yX4_newGame yX4_newGame]
def wsL_law0_r13 : List Cond := [Cond.code yX4_newGame cX4_newGame 3 (some .int), Cond.methodLink RX4 102 yX4_leader, Cond.instanceMethod yX4_leader, Cond.selects RX4 yX4_leader yX4_leader, Cond.code yX4_leader cX4_leader 5 (some .int), Cond.methodLink RX4 153 yX3_score, Cond.instanceMethod yX3_score, Cond.selects RX3 yX3_score yX3_score, Cond.code yX3_score cX3_score 3 (some .int), Cond.methodLink RX3 34 yX3_points, Cond.instanceMethod yX3_points, Cond.selects RX3 yX3_points yX3_points, Cond.code yX3_points cX3_points 5 (some .int), Cond.methodLink RX3 28 Lib.Math.min.name, Cond.methodLink RX4 105 yX3_clear, Cond.instanceMethod yX3_clear, Cond.selects RX3 yX3_clear yX3_clear, Cond.code yX3_clear cX3_clear 2 none, Cond.methodLink RX4 111 yX2_returnAll, Cond.instanceMethod yX2_returnAll, Cond.selects RX2 yX2_returnAll yX2_returnAll, Cond.code yX2_returnAll cX2_returnAll 2 none, Cond.methodLink RL 91 yX5_newGame, Cond.instanceMethod yX5_newGame]
def wsL_law0_r14 : List Cond := [Cond.selects RX5 yX5_newGame yX5_newGame, Cond.code yX5_newGame cX5_newGame 3 (some .int), Cond.methodLink RX5 137 yX5_first, Cond.instanceMethod yX5_first, Cond.selects RX5 yX5_first yX5_first, Cond.code yX5_first cX5_first 3 (some .int), Cond.methodLink RX5 134 yX5_score, Cond.instanceMethod yX5_score, Cond.selects RX5 yX5_score yX5_score, Cond.code yX5_score cX5_score 4 (some .int), Cond.methodLink RX5 131 yX5_points, Cond.instanceMethod yX5_points, Cond.selects RX5 yX5_points yX5_points, Cond.code yX5_points cX5_points 5 (some .int), Cond.methodLink RL 92 yL_isStanding, Cond.static yL_isStanding, Cond.codeWith yL_isStanding cL_isStanding 4 (some .int) [(0, 16, 19, 19)], Cond.methodLink RL 30 yX4_isStanding, Cond.instanceMethod yX4_isStanding, Cond.selects RX4 yX4_isStanding yX4_isStanding, Cond.code yX4_isStanding cX4_isStanding 2 (some .boolean), Cond.methodLink RX4 117 yX1_holds, Cond.methodLink RL 94 yX5_isStanding, Cond.instanceMethod yX5_isStanding]
def wsL_law0_r15 : List Cond := [Cond.selects RX5 yX5_isStanding yX5_isStanding, Cond.code yX5_isStanding cX5_isStanding 2 (some .boolean), Cond.methodLink RX5 140 yX5_isNot, Cond.instanceMethod yX5_isNot, Cond.selects RX5 yX5_isNot yX5_isNot, Cond.code yX5_isNot cX5_isNot 2 (some .boolean), Cond.methodLink RL 95 yX4_standing, Cond.instanceMethod yX4_standing, Cond.selects RX4 yX4_standing yX4_standing, Cond.code yX4_standing cX4_standing 1 (some .int), Cond.methodLink RX4 123 yJ6_bitCount_0f7a4, Cond.methodLink RL 98 yX5_standing, Cond.instanceMethod yX5_standing, Cond.selects RX5 yX5_standing yX5_standing, Cond.code yX5_standing cX5_standing 1 (some .int), Cond.methodLink RX5 143 yX5_ok, Cond.instanceMethod yX5_ok, Cond.selects RX5 yX5_ok yX5_ok, Cond.code yX5_ok cX5_ok 2 (some .int), Cond.methodLink RL 99 yL_wearOf, Cond.static yL_wearOf, Cond.codeWith yL_wearOf cL_wearOf 4 (some .int) [(0, 9, 12, 19)], Cond.methodLink RL 34 yX4_wearOf, Cond.instanceMethod yX4_wearOf]
def wsL_law0_r16 : List Cond := [Cond.selects RX4 yX4_wearOf yX4_wearOf, Cond.code yX4_wearOf cX4_wearOf 2 (some .int), Cond.methodLink RX4 128 yX0_wear, Cond.instanceMethod yX0_wear, Cond.selects RX0 yX0_wear yX0_wear, Cond.code yX0_wear cX0_wear 2 (some .int), Cond.methodLink RL 101 yX5_wearOf, Cond.instanceMethod yX5_wearOf, Cond.selects RX5 yX5_wearOf yX5_wearOf, Cond.code yX5_wearOf cX5_wearOf 2 (some .int), Cond.methodLink RL 102 yL_isBroken, Cond.static yL_isBroken, Cond.codeWith yL_isBroken cL_isBroken 4 (some .int) [(0, 16, 19, 19)], Cond.methodLink RL 37 yX4_isBroken, Cond.instanceMethod yX4_isBroken, Cond.selects RX4 yX4_isBroken yX4_isBroken, Cond.code yX4_isBroken cX4_isBroken 2 (some .boolean), Cond.methodLink RX4 131 yX0_broken, Cond.methodLink RL 104 yX5_isBroken, Cond.instanceMethod yX5_isBroken, Cond.selects RX5 yX5_isBroken yX5_isBroken, Cond.code yX5_isBroken cX5_isBroken 2 (some .boolean), Cond.methodLink RL 105 yX4_brokenStrings, Cond.instanceMethod yX4_brokenStrings]
def wsL_law0_r17 : List Cond := [Cond.selects RX4 yX4_brokenStrings yX4_brokenStrings, Cond.code yX4_brokenStrings cX4_brokenStrings 1 (some .int), Cond.methodLink RX4 135 yX0_brokenCount, Cond.instanceMethod yX0_brokenCount, Cond.selects RX0 yX0_brokenCount yX0_brokenCount, Cond.code yX0_brokenCount cX0_brokenCount 3 (some .int), Cond.methodLink RL 108 yX5_brokenStrings, Cond.instanceMethod yX5_brokenStrings, Cond.selects RX5 yX5_brokenStrings yX5_brokenStrings, Cond.code yX5_brokenStrings cX5_brokenStrings 1 (some .int), Cond.methodLink RX5 146 yX5_brokenNow, Cond.instanceMethod yX5_brokenNow, Cond.selects RX5 yX5_brokenNow yX5_brokenNow, Cond.code yX5_brokenNow cX5_brokenNow 3 (some .int), Cond.methodLink RL 109 yX4_mostWorn, Cond.instanceMethod yX4_mostWorn, Cond.selects RX4 yX4_mostWorn yX4_mostWorn, Cond.code yX4_mostWorn cX4_mostWorn 1 (some .int), Cond.methodLink RX4 138 yX0_mostWornPin, Cond.instanceMethod yX0_mostWornPin, Cond.selects RX0 yX0_mostWornPin yX0_mostWornPin, Cond.code yX0_mostWornPin cX0_mostWornPin 4 (some .int), Cond.methodLink RL 112 yX5_mostWorn, Cond.instanceMethod yX5_mostWorn]
def wsL_law0_r18 : List Cond := [Cond.selects RX5 yX5_mostWorn yX5_mostWorn, Cond.code yX5_mostWorn cX5_mostWorn 3 (some .int), Cond.methodLink RL 113 yX4_spareStrings, Cond.instanceMethod yX4_spareStrings, Cond.selects RX4 yX4_spareStrings yX4_spareStrings, Cond.code yX4_spareStrings cX4_spareStrings 1 (some .int), Cond.methodLink RL 116 yX5_spareStrings, Cond.instanceMethod yX5_spareStrings, Cond.selects RX5 yX5_spareStrings yX5_spareStrings, Cond.code yX5_spareStrings cX5_spareStrings 1 (some .int), Cond.methodLink RL 117 yL_awayFor, Cond.static yL_awayFor, Cond.codeWith yL_awayFor cL_awayFor 4 (some .int) [(0, 9, 12, 19)], Cond.methodLink RL 40 yX4_awayFor, Cond.instanceMethod yX4_awayFor, Cond.selects RX4 yX4_awayFor yX4_awayFor, Cond.code yX4_awayFor cX4_awayFor 2 (some .int), Cond.methodLink RL 119 yX5_awayFor, Cond.instanceMethod yX5_awayFor, Cond.selects RX5 yX5_awayFor yX5_awayFor, Cond.code yX5_awayFor cX5_awayFor 2 (some .int), Cond.methodLink RL 120 yX4_players, Cond.instanceMethod yX4_players, Cond.selects RX4 yX4_players yX4_players]
def wsL_law0_r19 : List Cond := [Cond.code yX4_players cX4_players 1 (some .int), Cond.methodLink RL 123 yX5_players, Cond.instanceMethod yX5_players, Cond.selects RX5 yX5_players yX5_players, Cond.code yX5_players cX5_players 1 (some .int), Cond.methodLink RL 124 yX4_playerInTurn, Cond.methodLink RL 127 yX5_playerInTurn, Cond.instanceMethod yX5_playerInTurn, Cond.selects RX5 yX5_playerInTurn yX5_playerInTurn, Cond.code yX5_playerInTurn cX5_playerInTurn 1 (some .int), Cond.methodLink RX5 149 yX5_turnNow, Cond.instanceMethod yX5_turnNow, Cond.selects RX5 yX5_turnNow yX5_turnNow, Cond.code yX5_turnNow cX5_turnNow 1 (some .int), Cond.methodLink RL 128 yX4_frame, Cond.instanceMethod yX4_frame, Cond.selects RX4 yX4_frame yX4_frame, Cond.code yX4_frame cX4_frame 1 (some .int), Cond.methodLink RL 131 yX5_frame, Cond.instanceMethod yX5_frame, Cond.selects RX5 yX5_frame yX5_frame, Cond.code yX5_frame cX5_frame 1 (some .int), Cond.methodLink RL 132 yX4_throwsInFrame, Cond.instanceMethod yX4_throwsInFrame]
def wsL_law0_r20 : List Cond := [Cond.selects RX4 yX4_throwsInFrame yX4_throwsInFrame, Cond.code yX4_throwsInFrame cX4_throwsInFrame 1 (some .int), Cond.methodLink RL 135 yX5_throwsInFrame, Cond.instanceMethod yX5_throwsInFrame, Cond.selects RX5 yX5_throwsInFrame yX5_throwsInFrame, Cond.code yX5_throwsInFrame cX5_throwsInFrame 1 (some .int), Cond.methodLink RL 136 yX4_isOver, Cond.methodLink RL 140 yX5_isOver, Cond.instanceMethod yX5_isOver, Cond.selects RX5 yX5_isOver yX5_isOver, Cond.code yX5_isOver cX5_isOver 1 (some .boolean), Cond.methodLink RL 141 yL_throwsOf, Cond.static yL_throwsOf, Cond.codeWith yL_throwsOf cL_throwsOf 4 (some .int) [(0, 9, 12, 19)], Cond.methodLink RL 43 yX4_throwsOf, Cond.instanceMethod yX4_throwsOf, Cond.selects RX4 yX4_throwsOf yX4_throwsOf, Cond.code yX4_throwsOf cX4_throwsOf 2 (some .int), Cond.methodLink RX4 147 yX4_checkPlayer, Cond.instanceMethod yX4_checkPlayer, Cond.selects RX4 yX4_checkPlayer yX4_checkPlayer, Cond.code yX4_checkPlayer cX4_checkPlayer 2 none, Cond.methodLink RL 143 yX5_throwsOf, Cond.instanceMethod yX5_throwsOf]
def wsL_law0_r21 : List Cond := [Cond.selects RX5 yX5_throwsOf yX5_throwsOf, Cond.code yX5_throwsOf cX5_throwsOf 2 (some .int), Cond.methodLink RX5 155 yX5_of, Cond.instanceMethod yX5_of, Cond.selects RX5 yX5_of yX5_of, Cond.code yX5_of cX5_of 3 (some .int), Cond.methodLink RX5 152 yX5_isPlayer, Cond.instanceMethod yX5_isPlayer, Cond.selects RX5 yX5_isPlayer yX5_isPlayer, Cond.code yX5_isPlayer cX5_isPlayer 2 (some .boolean), Cond.methodLink RL 144 yL_scoreOf, Cond.static yL_scoreOf, Cond.codeWith yL_scoreOf cL_scoreOf 4 (some .int) [(0, 9, 12, 19)], Cond.methodLink RL 46 yX4_scoreOf, Cond.instanceMethod yX4_scoreOf, Cond.selects RX4 yX4_scoreOf yX4_scoreOf, Cond.code yX4_scoreOf cX4_scoreOf 2 (some .int), Cond.methodLink RL 146 yX5_scoreOf, Cond.instanceMethod yX5_scoreOf, Cond.selects RX5 yX5_scoreOf yX5_scoreOf, Cond.code yX5_scoreOf cX5_scoreOf 2 (some .int), Cond.methodLink RL 147 yL_pointsOf, Cond.static yL_pointsOf, Cond.codeWith yL_pointsOf cL_pointsOf 5 (some .int) [(0, 10, 13, 19)]]
def wsL_law0_r22 : List Cond := [Cond.methodLink RL 49 yX4_pointsOf, Cond.instanceMethod yX4_pointsOf, Cond.selects RX4 yX4_pointsOf yX4_pointsOf, Cond.code yX4_pointsOf cX4_pointsOf 3 (some .int), Cond.methodLink RX4 159 yX3_points, Cond.methodLink RL 149 yX5_pointsOf, Cond.instanceMethod yX5_pointsOf, Cond.selects RX5 yX5_pointsOf yX5_pointsOf, Cond.code yX5_pointsOf cX5_pointsOf 3 (some .int), Cond.methodLink RL 150 yL_strikesOf, Cond.static yL_strikesOf, Cond.codeWith yL_strikesOf cL_strikesOf 4 (some .int) [(0, 9, 12, 19)], Cond.methodLink RL 52 yX4_strikesOf, Cond.instanceMethod yX4_strikesOf, Cond.selects RX4 yX4_strikesOf yX4_strikesOf, Cond.code yX4_strikesOf cX4_strikesOf 2 (some .int), Cond.methodLink RX4 162 yX3_strikes, Cond.instanceMethod yX3_strikes, Cond.selects RX3 yX3_strikes yX3_strikes, Cond.code yX3_strikes cX3_strikes 1 (some .int), Cond.methodLink RX3 38 yX3_framesWithBonus, Cond.instanceMethod yX3_framesWithBonus, Cond.selects RX3 yX3_framesWithBonus yX3_framesWithBonus, Cond.code yX3_framesWithBonus cX3_framesWithBonus 4 (some .int)]
def wsL_law0_r23 : List Cond := [Cond.methodLink RL 152 yX5_strikesOf, Cond.instanceMethod yX5_strikesOf, Cond.selects RX5 yX5_strikesOf yX5_strikesOf, Cond.code yX5_strikesOf cX5_strikesOf 2 (some .int), Cond.methodLink RL 153 yL_sparesOf, Cond.static yL_sparesOf, Cond.codeWith yL_sparesOf cL_sparesOf 4 (some .int) [(0, 9, 12, 19)], Cond.methodLink RL 55 yX4_sparesOf, Cond.instanceMethod yX4_sparesOf, Cond.selects RX4 yX4_sparesOf yX4_sparesOf, Cond.code yX4_sparesOf cX4_sparesOf 2 (some .int), Cond.methodLink RX4 165 yX3_spares, Cond.instanceMethod yX3_spares, Cond.selects RX3 yX3_spares yX3_spares, Cond.code yX3_spares cX3_spares 1 (some .int), Cond.methodLink RL 155 yX5_sparesOf, Cond.instanceMethod yX5_sparesOf, Cond.selects RX5 yX5_sparesOf yX5_sparesOf, Cond.code yX5_sparesOf cX5_sparesOf 2 (some .int), Cond.methodLink RL 156 yX4_leader, Cond.methodLink RL 159 yX5_leader, Cond.instanceMethod yX5_leader, Cond.selects RX5 yX5_leader yX5_leader, Cond.code yX5_leader cX5_leader 1 (some .int)]
def wsL_law0_r24 : List Cond := [Cond.methodLink RL 160 yL_wouldFall, Cond.static yL_wouldFall, Cond.codeWith yL_wouldFall cL_wouldFall 5 (some .int) [(0, 10, 13, 19)], Cond.methodLink RL 58 yX4_wouldFall, Cond.instanceMethod yX4_wouldFall, Cond.selects RX4 yX4_wouldFall yX4_wouldFall, Cond.code yX4_wouldFall cX4_wouldFall 3 (some .int), Cond.methodLink RX4 166 yX1_felled, Cond.methodLink RL 162 yX5_wouldFall, Cond.instanceMethod yX5_wouldFall, Cond.selects RX5 yX5_wouldFall yX5_wouldFall, Cond.code yX5_wouldFall cX5_wouldFall 3 (some .int), Cond.methodLink RL 163 yL_lastToFall, Cond.static yL_lastToFall, Cond.codeWith yL_lastToFall cL_lastToFall 5 (some .int) [(0, 10, 13, 19)], Cond.methodLink RL 61 yX4_lastToFall, Cond.instanceMethod yX4_lastToFall, Cond.selects RX4 yX4_lastToFall yX4_lastToFall, Cond.code yX4_lastToFall cX4_lastToFall 3 (some .int), Cond.methodLink RX4 170 yX1_last, Cond.static yX1_last, Cond.code yX1_last cX1_last 2 (some .int), Cond.methodLink RL 165 yX5_lastToFall, Cond.instanceMethod yX5_lastToFall]
def wsL_law0_r25 : List Cond := [Cond.selects RX5 yX5_lastToFall yX5_lastToFall, Cond.code yX5_lastToFall cX5_lastToFall 4 (some .int), Cond.methodLink RX5 159 yJ6_numberOfLeadingZeros_0f7a4, Cond.static yJ6_numberOfLeadingZeros_0f7a4, Cond.code yJ6_numberOfLeadingZeros_0f7a4 cJ6_numberOfLeadingZeros_0f7a4 2 (some .int), Cond.constant RJ6 264 (65536), Cond.methodLink RL 166 yX4_bestThrow, Cond.instanceMethod yX4_bestThrow, Cond.selects RX4 yX4_bestThrow yX4_bestThrow, Cond.code yX4_bestThrow cX4_bestThrow 6 (some .int), Cond.methodLink RL 169 yX5_bestThrow, Cond.instanceMethod yX5_bestThrow, Cond.selects RX5 yX5_bestThrow yX5_bestThrow, Cond.code yX5_bestThrow cX5_bestThrow 1 (some .int), Cond.methodLink RX5 162 yX5_best, Cond.instanceMethod yX5_best, Cond.selects RX5 yX5_best yX5_best, Cond.code yX5_best cX5_best 6 (some .int), Cond.methodLink RL 170 yX4_throwsToClear, Cond.instanceMethod yX4_throwsToClear, Cond.selects RX4 yX4_throwsToClear yX4_throwsToClear, Cond.code yX4_throwsToClear cX4_throwsToClear 2 (some .int), Cond.static yX1_canClear, Cond.code yX1_canClear cX1_canClear 6 (some .boolean)]
def wsL_law0_r26 : List Cond := [Cond.methodLink RX1 23 yX1_felled, Cond.methodLink RX1 27 yX1_canClear, Cond.methodLink RL 173 yX5_throwsToClear, Cond.instanceMethod yX5_throwsToClear, Cond.selects RX5 yX5_throwsToClear yX5_throwsToClear, Cond.code yX5_throwsToClear cX5_throwsToClear 1 (some .int), Cond.methodLink RX5 168 yX5_clear, Cond.instanceMethod yX5_clear, Cond.selects RX5 yX5_clear yX5_clear, Cond.code yX5_clear cX5_clear 2 (some .int), Cond.methodLink RX5 165 yX5_isCleared, Cond.static yX5_isCleared, Cond.code yX5_isCleared cX5_isCleared 6 (some .boolean), Cond.methodLink RL 174 yX4_wouldBreak, Cond.instanceMethod yX4_wouldBreak, Cond.selects RX4 yX4_wouldBreak yX4_wouldBreak, Cond.code yX4_wouldBreak cX4_wouldBreak 1 (some .int), Cond.methodLink RX4 177 yX0_brokenIfAllFell, Cond.instanceMethod yX0_brokenIfAllFell, Cond.selects RX0 yX0_brokenIfAllFell yX0_brokenIfAllFell, Cond.code yX0_brokenIfAllFell cX0_brokenIfAllFell 4 (some .int), Cond.methodLink RL 177 yX5_wouldBreak, Cond.instanceMethod yX5_wouldBreak, Cond.selects RX5 yX5_wouldBreak yX5_wouldBreak]
def wsL_law0_r27 : List Cond := [Cond.code yX5_wouldBreak cX5_wouldBreak 3 (some .int), Cond.methodLink RL 178 yX4_meanScore, Cond.instanceMethod yX4_meanScore, Cond.selects RX4 yX4_meanScore yX4_meanScore, Cond.code yX4_meanScore cX4_meanScore 3 (some .double), Cond.methodLink RL 182 yX5_meanScore, Cond.instanceMethod yX5_meanScore, Cond.selects RX5 yX5_meanScore yX5_meanScore, Cond.code yX5_meanScore cX5_meanScore 3 (some .double), Cond.methodLink RL 183 yX4_digest, Cond.instanceMethod yX4_digest, Cond.selects RX4 yX4_digest yX4_digest, Cond.code yX4_digest cX4_digest 4 (some .long), Cond.constantLong RX4 180 (1999), Cond.constantLong RX4 182 (31), Cond.methodLink RX4 184 yX4_bestThrow, Cond.methodLink RX4 187 yX4_throwsToClear, Cond.methodLink RX4 190 yX0_digestOn, Cond.instanceMethod yX0_digestOn, Cond.selects RX0 yX0_digestOn yX0_digestOn, Cond.code yX0_digestOn cX0_digestOn 6 (some .long), Cond.constantLong RX0 42 (31), Cond.methodLink RX4 194 yX2_digestOn, Cond.instanceMethod yX2_digestOn]
def wsL_law0_r28 : List Cond := [Cond.selects RX2 yX2_digestOn yX2_digestOn, Cond.code yX2_digestOn cX2_digestOn 6 (some .long), Cond.constantLong RX2 21 (31), Cond.methodLink RX4 195 yX3_digestOn, Cond.instanceMethod yX3_digestOn, Cond.selects RX3 yX3_digestOn yX3_digestOn, Cond.code yX3_digestOn cX3_digestOn 6 (some .long), Cond.constantLong RX3 41 (31), Cond.methodLink RX3 43 yX3_score, Cond.methodLink RX3 47 yX3_strikes, Cond.methodLink RX3 50 yX3_spares, Cond.methodLink RL 187 yX5_digest, Cond.instanceMethod yX5_digest, Cond.selects RX5 yX5_digest yX5_digest, Cond.code yX5_digest cX5_digest 8 (some .long), Cond.constantLong RX5 171 (1999), Cond.constantLong RX5 173 (31)]
def wsL_law0 : List Cond := (wsL_law0_r1 ++ (wsL_law0_r2 ++ (wsL_law0_r3 ++ (wsL_law0_r4 ++ (wsL_law0_r5 ++ (wsL_law0_r6 ++ (wsL_law0_r7 ++ (wsL_law0_r8 ++ (wsL_law0_r9 ++ (wsL_law0_r10 ++ (wsL_law0_r11 ++ (wsL_law0_r12 ++ (wsL_law0_r13 ++ (wsL_law0_r14 ++ (wsL_law0_r15 ++ (wsL_law0_r16 ++ (wsL_law0_r17 ++ (wsL_law0_r18 ++ (wsL_law0_r19 ++ (wsL_law0_r20 ++ (wsL_law0_r21 ++ (wsL_law0_r22 ++ (wsL_law0_r23 ++ (wsL_law0_r24 ++ (wsL_law0_r25 ++ (wsL_law0_r26 ++ (wsL_law0_r27 ++ wsL_law0_r28))))))))))))))))))))))))))) ++ wsX40 ++ wsX50 ++ wsX00 ++ wsX20 ++ wsX30 ++ ([] : List Cond)
def wsL_law : List Cond := wsL_law0 ++ (vx_atS RX4 42 "java/lang/IllegalStateException" ["java/lang/RuntimeException", "java/lang/Exception"]).filter goodWord ++ (vx_atS RX4 200 "java/lang/IndexOutOfBoundsException" ["java/lang/RuntimeException", "java/lang/Exception"]).filter goodWord ++ (vx_atS RX4 98 "java/lang/IllegalArgumentException" ["java/lang/RuntimeException", "java/lang/Exception"]).filter goodWord
abbrev vwCl : List vw_C := [(RX0, TX0, 3), (RX2, TX2, 1), (RX3, TX3, 5), (RX4, TX4, 7), (RX5, TX5, 15)]
end
section
/-! THE WRITER'S OWN KIT, 1: worlds, facts that never change, contracts, rows -/
abbrev EV : Type := va_G × ClassId × ClassId × ClassId
abbrev eT (E : EV) : List (ClassId × FieldType) := [(E.2.1, .int), (E.2.2.1, .long), (E.2.2.2, .object "SkittleStrings$Sheet")]
def tPL : Nat → Int32 := fun j => ([-1, -1, 0, -1, -1, -1, 1, -1, 2, -1, 3, -1, 4, -1, 5, -1, 6, -1, 7, -1, -1, -1, 8, -1, -1] : List Int32).getD j 0
def tRO : Nat → Int32 := fun j => ([0, 1, 1, 2, 2, 2, 3, 3, 4] : List Int32).getD j 0
def tLA : Nat → Int32 := fun j => ([2, 1, 3, 0, 2, 4, 1, 3, 2] : List Int32).getD j 0
/-- an int array of n places that holds the numbers w -/
abbrev aI (E : EV) (n : Nat) (w : Nat → Nat) : va_E := .inl (E.2.1, n, .inl (fun j => nI (w j)))
def upN {α : Type} (w : Nat → α) (k : Nat) (v : α) : Nat → α := fun j => if j = k then v else w j
theorem upN_s {α : Type} (w : Nat → α) (k : Nat) (v : α) : upN w k v k = v := by simp [upN]
theorem upN_n {α : Type} (w : Nat → α) (k : Nat) (v : α) {j : Nat} (h : j ≠ k) : upN w k v j = w j := by simp [upN, h]
theorem upd_nI (w : Nat → Nat) (k v : Nat) : upd (fun j => nI (w j)) k (nI v) = fun j => nI (upN w k v j) := by
  funext j
  by_cases h : j = k
  · subst h; simp [upd, upN]
  · simp [upd, upN, h]
/-- a static table that nobody writes -/
def gS (C n : String) (N : Nat) (f : Nat → Int32) (A : Nat → Prop) (U : State) (H : Heap) : Prop := ∃ t : Nat, va_Z C n "[I" (.ref t) A U H ∧ va_T .int t N (fun j => .int (f j)) A U H
def gN (U : State) : Prop := va_Nw (.methodLinkNest RX4 9 yX0_init RX4) U ∧ va_Nw (.methodLinkNest RX4 18 yX2_init RX4) U ∧ va_Nw (.methodLinkNest RX4 29 yX3_init RX4) U ∧ va_Nw (.methodLinkNest RX4 173 yX1_canClear RX4) U
def gR (U : State) : Prop := (∃ a, vk_R RX4 40 "there are 4 players, or the game has begun" a U) ∧ (∃ a, vk_R RX4 57 "nobody's turn, or the ball is away" a U) ∧ (∃ a, vk_R RX4 89 "no spare string is left" a U) ∧ (∃ a, vk_R RX4 96 "strings is not 1 to 20" a U) ∧ (∃ a, vk_R RX4 198 "there is no such number" a U)
def GF (A : Nat → Prop) (U : State) (H : Heap) : Prop := gS RX1 "PLACES" 25 tPL A U H ∧ gS RX5 "PIN" 25 tPL A U H ∧ gS RX5 "ROW" 9 tRO A U H ∧ gS RX5 "LANE" 9 tLA A U H ∧ vx_Zq Bundle.tN "UNASSIGNED_STACK" Bundle.steD A U H ∧ vx_Zq Bundle.tN "SUPPRESSED_SENTINEL" Bundle.listD A U H ∧ gN U ∧ gR U
theorem gS.to {C n : String} {N : Nat} {f : Nat → Int32} {A B : Nat → Prop} {s U : State} {H : Heap} (h : gS C n N f A s s.heap) (hk : ∀ q, q < s.heap.size → ¬ A q → H[q]? = s.heap[q]?) (hB : ∀ q, B q → A q) (hW : s.WarmedH U.vm) : gS C n N f B U H := by
  obtain ⟨t, h1, h2⟩ := h
  exact ⟨t, va_Z.moved hW.alike ((h1.kept hk).narrow hB), va_T.moved hW.alike ((h2.kept hk).narrow hB)⟩
theorem GF.to {A B : Nat → Prop} {s U : State} {H : Heap} (h : GF A s s.heap) (hk : ∀ q, q < s.heap.size → ¬ A q → H[q]? = s.heap[q]?) (hB : ∀ q, B q → A q) (hW : s.WarmedH U.vm) : GF B U H := by
  obtain ⟨h1, h2, h3, h4, h5, h6, ⟨n1, n2, n3, n4⟩, ⟨a1, r1⟩, ⟨a2, r2⟩, ⟨a3, r3⟩, ⟨a4, r4⟩, ⟨a5, r5⟩⟩ := h
  exact ⟨h1.to hk hB hW, h2.to hk hB hW, h3.to hk hB hW, h4.to hk hB hW, vx_Zq.moved hW.alike ((h5.kept hk).narrow hB), vx_Zq.moved hW.alike ((h6.kept hk).narrow hB),
    ⟨va_Nw.warmM hW n1, va_Nw.warmM hW n2, va_Nw.warmM hW n3, va_Nw.warmM hW n4⟩, ⟨a1, vk_R.warm hW r1⟩, ⟨a2, vk_R.warm hW r2⟩, ⟨a3, vk_R.warm hW r3⟩, ⟨a4, vk_R.warm hW r4⟩, ⟨a5, vk_R.warm hW r5⟩⟩
/-- a method's start: its cells, and what never changes -/
def XP (E : EV) (wc : va_W) (sz : Nat) (U : State) : Prop := U.heap.size = sz ∧ va_P E.1 vwCl wc U.heap ∧ va_K E.1 vwCl (eT E) U ∧ va_D (fun _ => True) wc ∧ GF (va_A wc sz) U U.heap
def XQ (E : EV) (wc : va_W) (sz : Nat) (w1 : va_W) (t : State) : Prop := va_P E.1 vwCl w1 t.heap ∧ va_K E.1 vwCl (eT E) t ∧ va_D (va_A wc sz) w1
theorem XP.calling {E : EV} {wc : va_W} {sz : Nat} {U : State} {g : JFrame} {mk : MethodId} {a : Array Value} (h : XP E wc sz U) : XP E wc sz (U.calling g mk a) := by
  obtain ⟨h1, h2, h3, h4, h5⟩ := h
  exact ⟨h1, h2, va_K.moved (u := U) (U := U.calling g mk a) (Vm.Alike.refl U.vm) h3, h4, GF.to (U := U.calling g mk a) h5 (fun _ _ _ => rfl) (fun _ h => h) (State.WarmedH.refl U)⟩
/-- contracts: the answer and the cells behind the call, as said -/
def MI (l : Launch) (y : MethodName) (ws : List Cond) (rm : Room) (E : EV) (args : List Value) (wc : va_W) (r : Int32) (w1 : va_W) : Prop := ∀ sz, Met l y ws rm (va_Pc args (XP E wc sz)) (va_Qi (fun (r' : Int32) (_ : Unit) => r' = r) (fun _ t => XQ E wc sz w1 t) (va_A wc sz)) 0 0 (va_A wc sz)
def ML (l : Launch) (y : MethodName) (ws : List Cond) (rm : Room) (E : EV) (args : List Value) (wc : va_W) (r : Int64) (w1 : va_W) : Prop := ∀ sz, Met l y ws rm (va_Pc args (XP E wc sz)) (va_Ql (fun (r' : Int64) (_ : Unit) => r' = r) (fun _ t => XQ E wc sz w1 t) (va_A wc sz)) 0 0 (va_A wc sz)
def MD (l : Launch) (y : MethodName) (ws : List Cond) (rm : Room) (E : EV) (args : List Value) (wc : va_W) (r : UInt64) (w1 : va_W) : Prop := ∀ sz, Met l y ws rm (va_Pc args (XP E wc sz)) (va_Qd (fun (r' : UInt64) (_ : Unit) => r' = r) (fun _ t => XQ E wc sz w1 t) (va_A wc sz)) 0 0 (va_A wc sz)
def MV (l : Launch) (y : MethodName) (ws : List Cond) (rm : Room) (E : EV) (args : List Value) (wc : va_W) (w1 : va_W) : Prop := ∀ sz, Met l y ws rm (va_Pc args (XP E wc sz)) (va_Qv (fun (_ : Unit) => True) (fun _ t => XQ E wc sz w1 t) (va_A wc sz)) 0 0 (va_A wc sz)
/-- a method that makes cells -/
def MC (l : Launch) (y : MethodName) (ws : List Cond) (rm : Room) (E : EV) (args : List Value) (wc : va_W) (mc ms : Nat) (post : va_W → Prop) : Prop := ∀ sz, Met l y ws rm (va_Pc args (XP E wc sz)) (va_Qv post (fun w1 t => XQ E wc sz w1 t) (va_A wc sz)) mc ms (va_A wc sz)
/-- what a body owes at its end -/
def QI (E : EV) (wc : va_W) (r : Int32) (w1 : va_W) (below : List Frame) (args : Array Value) (s : State) : State → Prop := MQ below (va_Qi (fun (r' : Int32) (_ : Unit) => r' = r) (fun _ t => XQ E wc s.heap.size w1 t) (va_A wc s.heap.size)) args s 0 0 (va_A wc s.heap.size)
def QL (E : EV) (wc : va_W) (r : Int64) (w1 : va_W) (below : List Frame) (args : Array Value) (s : State) : State → Prop := MQ below (va_Ql (fun (r' : Int64) (_ : Unit) => r' = r) (fun _ t => XQ E wc s.heap.size w1 t) (va_A wc s.heap.size)) args s 0 0 (va_A wc s.heap.size)
def QD (E : EV) (wc : va_W) (r : UInt64) (w1 : va_W) (below : List Frame) (args : Array Value) (s : State) : State → Prop := MQ below (va_Qd (fun (r' : UInt64) (_ : Unit) => r' = r) (fun _ t => XQ E wc s.heap.size w1 t) (va_A wc s.heap.size)) args s 0 0 (va_A wc s.heap.size)
def QV (E : EV) (wc : va_W) (w1 : va_W) (below : List Frame) (args : Array Value) (s : State) : State → Prop := MQ below (va_Qv (fun (_ : Unit) => True) (fun _ t => XQ E wc s.heap.size w1 t) (va_A wc s.heap.size)) args s 0 0 (va_A wc s.heap.size)
def QC (E : EV) (wc : va_W) (mc ms : Nat) (post : va_W → Prop) (below : List Frame) (args : Array Value) (s : State) : State → Prop := MQ below (va_Qv post (fun w1 t => XQ E wc s.heap.size w1 t) (va_A wc s.heap.size)) args s mc ms (va_A wc s.heap.size)
/-- what stands all through a body -/
def CX (p : Program) (s : State) (m : MethodId) (args : Array Value) (meth : Method) (c : Code) (cc : ByteArray) (nL : Nat) (own : String) (Ts : List Cond) (ret : Option FieldType) (E : EV) (A : Nat → Prop) : Prop :=
  p.tables.exec = Jvm.exec ∧ c.code = cc ∧ c.maxLocals = nL ∧ s.vm.findClass own = some m.cls ∧ (∀ w ∈ Ts, w.before args s = true) ∧ meth.sig.returnType = ret ∧ meth.locks = false ∧ va_K E.1 vwCl (eT E) s ∧ GF A s s.heap ∧ (∀ q, s.heap.size ≤ q → A q)
/-- the cells, at some point of a body -/
def WD (E : EV) (A : Nat → Prop) (s : State) (w : va_W) (H : Heap) (locs : List Loc) : Prop := va_P E.1 vwCl w H ∧ va_D A w ∧ va_S A s.heap H locs
theorem WD.to {E : EV} {A : Nat → Prop} {s : State} {w w' : va_W} {H : Heap} {locs : List Loc} (h : WD E A s w H locs) (e : w = w') : WD E A s w' H locs := e ▸ h
theorem lv_to {ls : Array Slot} {nL : Nat} {l l' : List (Nat × Value)} (h : lv_has ls nL l) (e : l = l') : lv_has ls nL l' := e ▸ h
theorem map_fm {w wc : va_W} {is : List Nat} (h : is.map (fun i => w[i]?) = wc.map some) : is.filterMap (fun i => w[i]?) = wc := by
  have e : is.filterMap (fun i => w[i]?) = (is.map (fun i => w[i]?)).filterMap id := by
    rw [List.filterMap_map]; rfl
  rw [e, h, List.filterMap_map]
  induction wc with
  | nil => rfl
  | cons a l ih => simp
section Starts
variable {l : Launch} {y : MethodName} {ws ws' : List Cond} {rm : Room} {E : EV} {args : List Value} {wc w1 : va_W} {cc : ByteArray} {maxL : Nat} {own : String}
theorem x_start {Pq : Nat → Array Value → State → Outcome → State → Prop} {ret : Option FieldType} {mc ms : Nat} (hown : y.cls = own) (hy : plainName y.cls = true) (hw : ws = Cond.code y cc maxL ret :: ws') (hlen : (lg_sl args).length ≤ maxL)
    (body : ∀ (p : Program) (e : Env) (s : State) (m : MethodId) (below : List Frame) (meth : Method) (c : Code), CX p s m args.toArray meth c cc maxL own ws ret E (va_A wc s.heap.size) → meth.name = y.name → ∀ ls : Array Slot, lv_has ls maxL (lv_args 0 args) → WD E (va_A wc s.heap.size) s wc s.heap [] →
      W p l e rm s m args.toArray below meth c s.heap [] 0 0 (MQ below (Pq s.heap.size) args.toArray s mc ms (va_A wc s.heap.size)) (F0 m 0 ls [])) :
    ∀ sz, Met l y ws rm (va_Pc args (XP E wc sz)) (Pq sz) mc ms (va_A wc sz) := by
  intro sz
  refine Met.ofW (cc := cc) (maxL := maxL) (ret := ret) hy hw ?_
  intro p e s m args' below meth c s₁ B hml hv
  obtain ⟨rfl, hsz, hP, hK, hD0, hG⟩ := hv
  subst hsz
  have hl := lv_entry args (n := maxL) hlen
  rw [lg_entry_eq]
  exact body p e s m below meth c ⟨B.exec, B.bytes, hml, by rw [← hown]; exact findClass_of_methodNamed B.named, atoms_spec (ws := ws) B.pre, B.returns, B.notSynchronized, hK, hG, fun q h => Or.inr h⟩ (name_of_methodNamed B.named B.method).1 _ hl ⟨hP, hD0.self, va_S.rf⟩
end Starts
end
section
theorem z_and (a b : Nat) : nI a &&& nI b = nI (a &&& b) := Int32.toBitVec_inj.mp (by simp [nI])
theorem z_or (a b : Nat) : nI a ||| nI b = nI (a ||| b) := Int32.toBitVec_inj.mp (by simp [nI])
theorem z_xor (a b : Nat) : nI a ^^^ nI b = nI (a ^^^ b) := Int32.toBitVec_inj.mp (by simp [nI])
theorem z_sm : ∀ b, b < 31 → ((nI b &&& 31).toBitVec.smod 32).toNat = b := by decide +kernel
theorem z_shl {a b : Nat} (hb : b < 31) (ha : a * 2 ^ b < 2 ^ 32) : nI a <<< (nI b &&& 31) = nI (a * 2 ^ b) := pk_shlN _ b (z_sm b hb) ha
theorem z_shr {a b : Nat} (hb : b < 31) (ha : a < 2 ^ 31) : nI a >>> (nI b &&& 31) = nI (a / 2 ^ b) := pk_shrN ha _ b (z_sm b hb)
theorem z_eq0 {a : Nat} (ha : a < 2 ^ 31) : nI a = 0 ↔ a = 0 := nI_eq (b := 0) ha (by decide)
theorem z_lt0 {a : Nat} (ha : a < 2 ^ 31) : nI a < 0 ↔ a < 0 := nI_ltI (b := 0) ha (by decide)
theorem z_ge0 {a : Nat} (ha : a < 2 ^ 31) : 0 ≤ nI a ↔ 0 ≤ a := nI_leI (a := 0) (by decide) ha
theorem z_gt0 {a : Nat} (ha : a < 2 ^ 31) : 0 < nI a ↔ 0 < a := nI_ltI (a := 0) (by decide) ha
theorem z_le0 {a : Nat} (ha : a < 2 ^ 31) : nI a ≤ 0 ↔ a ≤ 0 := nI_leI (b := 0) ha (by decide)
/-! THE WRITER'S OWN KIT, 2: rows over WD -/
section XR
variable {p : Program} {l : Launch} {e : Env} {R : Room} {s : State} {m : MethodId} {args : Array Value} {below : List Frame} {meth : Method} {c : Code} {H : Heap} {locs : List Loc} {cells slots : Nat} {Q : State → Prop}
variable {cc : ByteArray} {pc nL : Nat} {ls : Array Slot} {rest st0 : List Value} {own : String} {Ts : List Cond} {ret : Option FieldType} {E : EV} {A : Nat → Prop} {w : va_W}
theorem CX.x (C : CX p s m args meth c cc nL own Ts ret E A) : p.tables.exec = Jvm.exec := C.1
theorem CX.b (C : CX p s m args meth c cc nL own Ts ret E A) : c.code = cc := C.2.1
theorem CX.fix (C : CX p s m args meth c cc nL own Ts ret E A) : CallFix p m c cc nL s args Ts own := ⟨C.1, C.2.1, C.2.2.1, C.2.2.2.1, C.2.2.2.2.1⟩
theorem CX.ow (C : CX p s m args meth c cc nL own Ts ret E A) : s.vm.findClass own = some m.cls := C.2.2.2.1
theorem CX.ts (C : CX p s m args meth c cc nL own Ts ret E A) : ∀ w ∈ Ts, w.before args s = true := C.2.2.2.2.1
theorem CX.r (C : CX p s m args meth c cc nL own Ts ret E A) : meth.sig.returnType = ret := C.2.2.2.2.2.1
theorem CX.lk (C : CX p s m args meth c cc nL own Ts ret E A) : meth.locks = false := C.2.2.2.2.2.2.1
theorem CX.K (C : CX p s m args meth c cc nL own Ts ret E A) : va_K E.1 vwCl (eT E) s := C.2.2.2.2.2.2.2.1
theorem CX.G (C : CX p s m args meth c cc nL own Ts ret E A) : GF A s s.heap := C.2.2.2.2.2.2.2.2.1
theorem CX.ar (C : CX p s m args meth c cc nL own Ts ret E A) : ∀ q, s.heap.size ≤ q → A q := C.2.2.2.2.2.2.2.2.2
/-- a field is read -/
theorem x_get (C : CX p s m args meth c cc nL own Ts ret E A) (hW : WD E A s w H locs) (q0 ci k : Nat) {a : Nat} {fs : List Value} {Cn : String} {T : u_T} {N index : Nat} {v : Value} (hc : vwCl[ci]? = some (Cn, T, N)) (he : w[q0]? = some (a, .inr (ci, fs))) (hk : k < N) (hin : ∀ w ∈ u_ws Cn T N, w ∈ Ts) (hl : Cond.fieldLink own index (T k).1 (T k).2.1 (T k).2.2.1 ∈ Ts) (hv : fs[k]? = some v) (hdg : decode cc pc = .ok (.getfield index, 3))
    (kk : W p l e R s m args below meth c H locs cells slots Q (F0 m (pc + 3) ls (v :: rest))) : W p l e R s m args below meth c H locs cells slots Q (F0 m pc ls (.ref a :: rest)) :=
  va_get C.x C.b C.ts hin C.ow C.K hW.1 q0 he hc k hk (C.ts _ hl) (fun _ h9 => h9) hv hdg kk
/-- an int field is written -/
theorem x_put (C : CX p s m args meth c cc nL own Ts ret E A) (hW : WD E A s w H locs) (q0 ci k : Nat) {a : Nat} {fs : List Value} {Cn : String} {T : u_T} {N index : Nat} {x : Int32} {w' : va_W} (ty0 : Nat → FieldType) (hty : ∀ k, k < N → parseFieldDescriptor (T k).2.2.1 = some (ty0 k)) (hnm : ∀ a, a < N → ∀ b, b < N → a ≠ b → (T a).2.1 ≠ (T b).2.1) (hc : vwCl[ci]? = some (Cn, T, N)) (he : w[q0]? = some (a, .inr (ci, fs))) (hk : k < N) (hin : ∀ w ∈ u_ws Cn T N, w ∈ Ts) (hl : Cond.fieldLink own index (T k).1 (T k).2.1 (T k).2.2.1 ∈ Ts) (hfin : (T k).2.2.2 = false) (hd : parseFieldDescriptor (T k).2.2.1 = some .int) (hlen : k < fs.length) (hdg : decode cc pc = .ok (.putfield index, 3)) (hw : w.set q0 (a, .inr (ci, fs.set k (.int x))) = w')
    (kk : ∀ (H1 : Heap) (locs1 : List Loc), WD E A s w' H1 locs1 → W p l e R s m args below meth c H1 locs1 cells slots Q (F0 m (pc + 3) ls rest)) : W p l e R s m args below meth c H locs cells slots Q (F0 m pc ls (.int x :: .ref a :: rest)) := by
  subst hw
  exact va_put C.x C.b C.ts hin ty0 hty hnm C.ow C.K hW.1 hW.2.1 hW.2.2 q0 he hc k hk (C.ts _ hl) (fun _ h9 => h9) hfin hd rfl rfl hlen hdg (fun H1 locs1 h1 h2 h3 => kk H1 locs1 ⟨h1, h2, h3⟩)
/-- a place of an int array is read -/
theorem x_ald (C : CX p s m args meth c cc nL own Ts ret E A) (hW : WD E A s w H locs) (q0 : Nat) {a n : Nat} {f : Nat → Nat} {i : Int32} (j : Nat) (he : w[q0]? = some (a, aI E n f)) (hi : i = nI j) (hj : j < n) (hn : n < 2 ^ 31) (hdg : decode cc pc = .ok (.iaload, 1))
    (kk : W p l e R s m args below meth c H locs cells slots Q (F0 m (pc + 1) ls (.int (nI (f j)) :: rest))) : W p l e R s m args below meth c H locs cells slots Q (F0 m pc ls (.int i :: .ref a :: rest)) := by
  subst hi
  have hj2 : j < 2 ^ 31 := Nat.lt_trans hj hn
  refine va_iald C.x C.b C.K hW.1 q0 0 he rfl (vp_in_nI hj hn) hdg ?_
  rw [nI_clamp hj2]
  exact kk
/-- .. and written -/
theorem x_ast (C : CX p s m args meth c cc nL own Ts ret E A) (hW : WD E A s w H locs) (q0 : Nat) {a n : Nat} {f : Nat → Nat} {i x : Int32} {w' : va_W} (j v : Nat) (he : w[q0]? = some (a, aI E n f)) (hi : i = nI j) (hx : x = nI v) (hj : j < n) (hn : n < 2 ^ 31) (hdg : decode cc pc = .ok (.iastore, 1)) (hw : w.set q0 (a, aI E n (upN f j v)) = w')
    (kk : ∀ (H1 : Heap) (locs1 : List Loc), WD E A s w' H1 locs1 → W p l e R s m args below meth c H1 locs1 cells slots Q (F0 m (pc + 1) ls rest)) : W p l e R s m args below meth c H locs cells slots Q (F0 m pc ls (.int x :: .int i :: .ref a :: rest)) := by
  subst hi; subst hx; subst hw
  have hj2 : j < 2 ^ 31 := Nat.lt_trans hj hn
  refine va_iast C.x C.b C.K hW.1 hW.2.1 hW.2.2 q0 0 he rfl (vp_in_nI hj hn) hdg (fun H1 locs1 h1 h2 h3 => ?_)
  rw [nI_clamp hj2, upd_nI] at h1 h2
  exact kk H1 locs1 ⟨h1, h2, h3⟩
/-- a static table: its reference, and a place of it -/
theorem x_gets (C : CX p s m args meth c cc nL own Ts ret E A) (hW : WD E A s w H locs) {Cn n : String} {N index : Nat} {f : Nat → Int32} (hg : gS Cn n N f A s s.heap) (hl : Cond.fieldLink own index Cn n "[I" ∈ Ts) (hdg : decode cc pc = .ok (.getstatic index, 3))
    (kk : ∀ t : Nat, va_T .int t N (fun j => .int (f j)) A s s.heap → W p l e R s m args below meth c H locs cells slots Q (F0 m (pc + 3) ls (.ref t :: rest))) : W p l e R s m args below meth c H locs cells slots Q (F0 m pc ls rest) := by
  obtain ⟨t, h1, h2⟩ := hg
  exact va_gets C.x C.b h1 hW.2.2 C.ow (C.ts _ hl) (fun _ h9 => h9) hdg (kk t h2)
theorem x_tab (C : CX p s m args meth c cc nL own Ts ret E A) (hW : WD E A s w H locs) {t N : Nat} {f : Nat → Int32} {i : Int32} (hT : va_T .int t N (fun j => .int (f j)) A s s.heap) (j : Nat) (hi : i = nI j) (hj : j < N) (hN : N < 2 ^ 31) (hdg : decode cc pc = .ok (.iaload, 1))
    (kk : W p l e R s m args below meth c H locs cells slots Q (F0 m (pc + 1) ls (.int (f j) :: rest))) : W p l e R s m args below meth c H locs cells slots Q (F0 m pc ls (.int i :: .ref t :: rest)) := by
  subst hi
  exact va_ti C.x C.b hT hW.2.2 (vp_in_nI hj hN) (by rw [nI_clamp (Nat.lt_trans hj hN)]) hdg kk
/-- the sheets' array -/
theorem x_aldq (C : CX p s m args meth c cc nL own Ts ret E A) (hW : WD E A s w H locs) (q0 : Nat) {a n : Nat} {f : Nat → Nat} {i : Int32} (j : Nat) (he : w[q0]? = some (a, .inl (E.2.2.2, n, .inr (.inr (.inr (.inr (fun k => some (f k)))))))) (hi : i = nI j) (hj : j < n) (hn : n < 2 ^ 31) (hdg : decode cc pc = .ok (.aaload, 1))
    (kk : W p l e R s m args below meth c H locs cells slots Q (F0 m (pc + 1) ls (.ref (f j) :: rest))) : W p l e R s m args below meth c H locs cells slots Q (F0 m pc ls (.int i :: .ref a :: rest)) := by
  subst hi
  have hj2 : j < 2 ^ 31 := Nat.lt_trans hj hn
  refine va_aldq C.x C.b C.K hW.1 q0 2 he rfl (vp_in_nI hj hn) hdg ?_
  rw [nI_clamp hj2]
  exact kk
theorem x_alen (C : CX p s m args meth c cc nL own Ts ret E A) (hW : WD E A s w H locs) (q0 t0 : Nat) {a : Nat} {cA : ClassId} {x : vp_A} (he : w[q0]? = some (a, .inl (cA, x))) {ty : FieldType} (ht : (eT E)[t0]? = some (cA, ty)) (hdg : decode cc pc = .ok (.arraylength, 1))
    (kk : W p l e R s m args below meth c H locs cells slots Q (F0 m (pc + 1) ls (.int (nI x.1) :: rest))) : W p l e R s m args below meth c H locs cells slots Q (F0 m pc ls (.ref a :: rest)) :=
  va_alen C.x C.b C.K hW.1 q0 t0 he ht rfl hdg kk
/-! arithmetic on numbers -/
theorem x_iadd (C : CX p s m args meth c cc nL own Ts ret E A) {a b : Nat}  (hdg : decode cc pc = .ok (.iadd, 1))
    (kk : W p l e R s m args below meth c H locs cells slots Q (F0 m (pc + 1) ls (.int (nI (a + b)) :: rest))) : W p l e R s m args below meth c H locs cells slots Q (F0 m pc ls (.int (nI b) :: .int (nI a) :: rest)) := by
  refine lv_iadd C.x C.b hdg ?_
  rw [show nI a + nI b = nI (a + b) from nI_add a b]
  exact kk
theorem x_isub (C : CX p s m args meth c cc nL own Ts ret E A) {a b : Nat} (hle : b ≤ a) (hdg : decode cc pc = .ok (.isub, 1))
    (kk : W p l e R s m args below meth c H locs cells slots Q (F0 m (pc + 1) ls (.int (nI (a - b)) :: rest))) : W p l e R s m args below meth c H locs cells slots Q (F0 m pc ls (.int (nI b) :: .int (nI a) :: rest)) := by
  refine lv_isub C.x C.b hdg ?_
  rw [show nI a - nI b = nI (a - b) from pk_sub hle]
  exact kk
theorem x_imul (C : CX p s m args meth c cc nL own Ts ret E A) {a b : Nat}  (hdg : decode cc pc = .ok (.imul, 1))
    (kk : W p l e R s m args below meth c H locs cells slots Q (F0 m (pc + 1) ls (.int (nI (a * b)) :: rest))) : W p l e R s m args below meth c H locs cells slots Q (F0 m pc ls (.int (nI b) :: .int (nI a) :: rest)) := by
  refine lv_imul C.x C.b hdg ?_
  rw [show nI a * nI b = nI (a * b) from pk_mul a b]
  exact kk
theorem x_iand (C : CX p s m args meth c cc nL own Ts ret E A) {a b : Nat}  (hdg : decode cc pc = .ok (.iand, 1))
    (kk : W p l e R s m args below meth c H locs cells slots Q (F0 m (pc + 1) ls (.int (nI (a &&& b)) :: rest))) : W p l e R s m args below meth c H locs cells slots Q (F0 m pc ls (.int (nI b) :: .int (nI a) :: rest)) := by
  refine lv_iand C.x C.b hdg ?_
  rw [show nI a &&& nI b = nI (a &&& b) from z_and a b]
  exact kk
theorem x_ior (C : CX p s m args meth c cc nL own Ts ret E A) {a b : Nat}  (hdg : decode cc pc = .ok (.ior, 1))
    (kk : W p l e R s m args below meth c H locs cells slots Q (F0 m (pc + 1) ls (.int (nI (a ||| b)) :: rest))) : W p l e R s m args below meth c H locs cells slots Q (F0 m pc ls (.int (nI b) :: .int (nI a) :: rest)) := by
  refine lv_ior C.x C.b hdg ?_
  rw [show nI a ||| nI b = nI (a ||| b) from z_or a b]
  exact kk
theorem x_ixor (C : CX p s m args meth c cc nL own Ts ret E A) {a b : Nat}  (hdg : decode cc pc = .ok (.ixor, 1))
    (kk : W p l e R s m args below meth c H locs cells slots Q (F0 m (pc + 1) ls (.int (nI (a ^^^ b)) :: rest))) : W p l e R s m args below meth c H locs cells slots Q (F0 m pc ls (.int (nI b) :: .int (nI a) :: rest)) := by
  refine lv_ixor C.x C.b hdg ?_
  rw [show nI a ^^^ nI b = nI (a ^^^ b) from z_xor a b]
  exact kk
theorem x_ishl (C : CX p s m args meth c cc nL own Ts ret E A) {a b : Nat} (hb : b < 31) (ha : a * 2 ^ b < 2 ^ 32) (hdg : decode cc pc = .ok (.ishl, 1))
    (kk : W p l e R s m args below meth c H locs cells slots Q (F0 m (pc + 1) ls (.int (nI (a * 2 ^ b)) :: rest))) : W p l e R s m args below meth c H locs cells slots Q (F0 m pc ls (.int (nI b) :: .int (nI a) :: rest)) := by
  refine lv_ishl C.x C.b hdg ?_
  rw [show nI a <<< (nI b &&& 31) = nI (a * 2 ^ b) from z_shl hb ha]
  exact kk
theorem x_ishr (C : CX p s m args meth c cc nL own Ts ret E A) {a b : Nat} (hb : b < 31) (ha : a < 2 ^ 31) (hdg : decode cc pc = .ok (.ishr, 1))
    (kk : W p l e R s m args below meth c H locs cells slots Q (F0 m (pc + 1) ls (.int (nI (a / 2 ^ b)) :: rest))) : W p l e R s m args below meth c H locs cells slots Q (F0 m pc ls (.int (nI b) :: .int (nI a) :: rest)) := by
  refine lv_ishr C.x C.b hdg ?_
  rw [show nI a >>> (nI b &&& 31) = nI (a / 2 ^ b) from z_shr hb ha]
  exact kk
theorem x_icmp_eq (C : CX p s m args meth c cc nL own Ts ret E A) {a b : Nat} (ha : a < 2 ^ 31) (hb : b < 2 ^ 31) {off : Int} {tgt : Nat} (hdg : decode cc pc = .ok (.if_icmp .eq off, 3)) (ht : (pc : Int) + off = (tgt : Int))
    (kt : a = b → W p l e R s m args below meth c H locs cells slots Q (F0 m tgt ls rest)) (kf : ¬ (a = b) → W p l e R s m args below meth c H locs cells slots Q (F0 m (pc + 3) ls rest)) : W p l e R s m args below meth c H locs cells slots Q (F0 m pc ls (.int (nI b) :: .int (nI a) :: rest)) :=
  lv_icmp_eq C.x C.b hdg ht (fun h => kt ((nI_eq ha hb).mp h)) (fun h => kf (fun q => h ((nI_eq ha hb).mpr q)))
theorem x_if_eq (C : CX p s m args meth c cc nL own Ts ret E A) {a : Nat} (ha : a < 2 ^ 31) {off : Int} {tgt : Nat} (hdg : decode cc pc = .ok (.ifCond .eq off, 3)) (ht : (pc : Int) + off = (tgt : Int))
    (kt : a = 0 → W p l e R s m args below meth c H locs cells slots Q (F0 m tgt ls rest)) (kf : ¬ (a = 0) → W p l e R s m args below meth c H locs cells slots Q (F0 m (pc + 3) ls rest)) : W p l e R s m args below meth c H locs cells slots Q (F0 m pc ls (.int (nI a) :: rest)) :=
  lv_if_eq C.x C.b hdg ht (fun h => kt ((z_eq0 ha).mp h)) (fun h => kf (fun q => h ((z_eq0 ha).mpr q)))
theorem x_icmp_ne (C : CX p s m args meth c cc nL own Ts ret E A) {a b : Nat} (ha : a < 2 ^ 31) (hb : b < 2 ^ 31) {off : Int} {tgt : Nat} (hdg : decode cc pc = .ok (.if_icmp .ne off, 3)) (ht : (pc : Int) + off = (tgt : Int))
    (kt : a ≠ b → W p l e R s m args below meth c H locs cells slots Q (F0 m tgt ls rest)) (kf : a = b → W p l e R s m args below meth c H locs cells slots Q (F0 m (pc + 3) ls rest)) : W p l e R s m args below meth c H locs cells slots Q (F0 m pc ls (.int (nI b) :: .int (nI a) :: rest)) :=
  lv_icmp_ne C.x C.b hdg ht (fun h => kt ((not_congr (nI_eq ha hb)).mp h)) (fun h => kf ((nI_eq ha hb).mp h))
theorem x_if_ne (C : CX p s m args meth c cc nL own Ts ret E A) {a : Nat} (ha : a < 2 ^ 31) {off : Int} {tgt : Nat} (hdg : decode cc pc = .ok (.ifCond .ne off, 3)) (ht : (pc : Int) + off = (tgt : Int))
    (kt : a ≠ 0 → W p l e R s m args below meth c H locs cells slots Q (F0 m tgt ls rest)) (kf : a = 0 → W p l e R s m args below meth c H locs cells slots Q (F0 m (pc + 3) ls rest)) : W p l e R s m args below meth c H locs cells slots Q (F0 m pc ls (.int (nI a) :: rest)) :=
  lv_if_ne C.x C.b hdg ht (fun h => kt ((not_congr (z_eq0 ha)).mp h)) (fun h => kf ((z_eq0 ha).mp h))
theorem x_icmp_lt (C : CX p s m args meth c cc nL own Ts ret E A) {a b : Nat} (ha : a < 2 ^ 31) (hb : b < 2 ^ 31) {off : Int} {tgt : Nat} (hdg : decode cc pc = .ok (.if_icmp .lt off, 3)) (ht : (pc : Int) + off = (tgt : Int))
    (kt : a < b → W p l e R s m args below meth c H locs cells slots Q (F0 m tgt ls rest)) (kf : ¬ (a < b) → W p l e R s m args below meth c H locs cells slots Q (F0 m (pc + 3) ls rest)) : W p l e R s m args below meth c H locs cells slots Q (F0 m pc ls (.int (nI b) :: .int (nI a) :: rest)) :=
  lv_icmp_lt C.x C.b hdg ht (fun h => kt ((nI_ltI ha hb).mp h)) (fun h => kf (fun q => h ((nI_ltI ha hb).mpr q)))
theorem x_if_lt (C : CX p s m args meth c cc nL own Ts ret E A) {a : Nat} (ha : a < 2 ^ 31) {off : Int} {tgt : Nat} (hdg : decode cc pc = .ok (.ifCond .lt off, 3)) (ht : (pc : Int) + off = (tgt : Int))
    (kt : a < 0 → W p l e R s m args below meth c H locs cells slots Q (F0 m tgt ls rest)) (kf : ¬ (a < 0) → W p l e R s m args below meth c H locs cells slots Q (F0 m (pc + 3) ls rest)) : W p l e R s m args below meth c H locs cells slots Q (F0 m pc ls (.int (nI a) :: rest)) :=
  lv_if_lt C.x C.b hdg ht (fun h => kt ((z_lt0 ha).mp h)) (fun h => kf (fun q => h ((z_lt0 ha).mpr q)))
theorem x_icmp_ge (C : CX p s m args meth c cc nL own Ts ret E A) {a b : Nat} (ha : a < 2 ^ 31) (hb : b < 2 ^ 31) {off : Int} {tgt : Nat} (hdg : decode cc pc = .ok (.if_icmp .ge off, 3)) (ht : (pc : Int) + off = (tgt : Int))
    (kt : b ≤ a → W p l e R s m args below meth c H locs cells slots Q (F0 m tgt ls rest)) (kf : ¬ (b ≤ a) → W p l e R s m args below meth c H locs cells slots Q (F0 m (pc + 3) ls rest)) : W p l e R s m args below meth c H locs cells slots Q (F0 m pc ls (.int (nI b) :: .int (nI a) :: rest)) :=
  lv_icmp_ge C.x C.b hdg ht (fun h => kt ((nI_leI hb ha).mp h)) (fun h => kf (fun q => h ((nI_leI hb ha).mpr q)))
theorem x_if_ge (C : CX p s m args meth c cc nL own Ts ret E A) {a : Nat} (ha : a < 2 ^ 31) {off : Int} {tgt : Nat} (hdg : decode cc pc = .ok (.ifCond .ge off, 3)) (ht : (pc : Int) + off = (tgt : Int))
    (kt : 0 ≤ a → W p l e R s m args below meth c H locs cells slots Q (F0 m tgt ls rest)) (kf : ¬ (0 ≤ a) → W p l e R s m args below meth c H locs cells slots Q (F0 m (pc + 3) ls rest)) : W p l e R s m args below meth c H locs cells slots Q (F0 m pc ls (.int (nI a) :: rest)) :=
  lv_if_ge C.x C.b hdg ht (fun h => kt ((z_ge0 ha).mp h)) (fun h => kf (fun q => h ((z_ge0 ha).mpr q)))
theorem x_icmp_gt (C : CX p s m args meth c cc nL own Ts ret E A) {a b : Nat} (ha : a < 2 ^ 31) (hb : b < 2 ^ 31) {off : Int} {tgt : Nat} (hdg : decode cc pc = .ok (.if_icmp .gt off, 3)) (ht : (pc : Int) + off = (tgt : Int))
    (kt : b < a → W p l e R s m args below meth c H locs cells slots Q (F0 m tgt ls rest)) (kf : ¬ (b < a) → W p l e R s m args below meth c H locs cells slots Q (F0 m (pc + 3) ls rest)) : W p l e R s m args below meth c H locs cells slots Q (F0 m pc ls (.int (nI b) :: .int (nI a) :: rest)) :=
  lv_icmp_gt C.x C.b hdg ht (fun h => kt ((nI_ltI hb ha).mp h)) (fun h => kf (fun q => h ((nI_ltI hb ha).mpr q)))
theorem x_if_gt (C : CX p s m args meth c cc nL own Ts ret E A) {a : Nat} (ha : a < 2 ^ 31) {off : Int} {tgt : Nat} (hdg : decode cc pc = .ok (.ifCond .gt off, 3)) (ht : (pc : Int) + off = (tgt : Int))
    (kt : 0 < a → W p l e R s m args below meth c H locs cells slots Q (F0 m tgt ls rest)) (kf : ¬ (0 < a) → W p l e R s m args below meth c H locs cells slots Q (F0 m (pc + 3) ls rest)) : W p l e R s m args below meth c H locs cells slots Q (F0 m pc ls (.int (nI a) :: rest)) :=
  lv_if_gt C.x C.b hdg ht (fun h => kt ((z_gt0 ha).mp h)) (fun h => kf (fun q => h ((z_gt0 ha).mpr q)))
theorem x_icmp_le (C : CX p s m args meth c cc nL own Ts ret E A) {a b : Nat} (ha : a < 2 ^ 31) (hb : b < 2 ^ 31) {off : Int} {tgt : Nat} (hdg : decode cc pc = .ok (.if_icmp .le off, 3)) (ht : (pc : Int) + off = (tgt : Int))
    (kt : a ≤ b → W p l e R s m args below meth c H locs cells slots Q (F0 m tgt ls rest)) (kf : ¬ (a ≤ b) → W p l e R s m args below meth c H locs cells slots Q (F0 m (pc + 3) ls rest)) : W p l e R s m args below meth c H locs cells slots Q (F0 m pc ls (.int (nI b) :: .int (nI a) :: rest)) :=
  lv_icmp_le C.x C.b hdg ht (fun h => kt ((nI_leI ha hb).mp h)) (fun h => kf (fun q => h ((nI_leI ha hb).mpr q)))
theorem x_if_le (C : CX p s m args meth c cc nL own Ts ret E A) {a : Nat} (ha : a < 2 ^ 31) {off : Int} {tgt : Nat} (hdg : decode cc pc = .ok (.ifCond .le off, 3)) (ht : (pc : Int) + off = (tgt : Int))
    (kt : a ≤ 0 → W p l e R s m args below meth c H locs cells slots Q (F0 m tgt ls rest)) (kf : ¬ (a ≤ 0) → W p l e R s m args below meth c H locs cells slots Q (F0 m (pc + 3) ls rest)) : W p l e R s m args below meth c H locs cells slots Q (F0 m pc ls (.int (nI a) :: rest)) :=
  lv_if_le C.x C.b hdg ht (fun h => kt ((z_le0 ha).mp h)) (fun h => kf (fun q => h ((z_le0 ha).mpr q)))
theorem x_cVI (C : CX p s m args meth c cc nL own Ts ret E A) (hW : WD E A s w H locs) {y : MethodName} {wsY wsY' : List Cond} {rm : Room} {b : Nat} {As : List Value} {wc wr w1 wn : va_W} {r : Int32} (hM : MI l y wsY rm E (.ref b :: As) wc r w1) {Cn : String} {index maxL : Nat} {bytes : ByteArray} {rty : Option FieldType} (hg : GoodIn Ts (wsV own index Cn y wsY)) (hwY : wsY = Cond.code y bytes maxL rty :: wsY') (na : Nat) (hna : As.length = na) (h0 : rm.cells = 0 ∧ rm.slots = 0) (hd : y.cls = Cn ∧ y.cls ≠ "java/lang/invoke/MethodHandle" ∧ y.cls ≠ "java/lang/invoke/VarHandle" ∧ (parseMethodDescriptor y.desc).map (fun d => d.parameters.length) = some na) (hR : rm.frames + 1 ≤ R.frames ∧ 8 + (maxL + 11) + rm.locals ≤ R.locals)
    (isC isR isN : List Nat) (hC : isC.map (fun i => w[i]?) = wc.map some) (hCn : va_nd isC = true) (hRr : isR.map (fun i => w[i]?) = wr.map some) (hRn : va_nd isR = true) (hdis : ∀ i ∈ isR, i ∉ isC) (hN : isN.map (fun i => (wr ++ w1)[i]?) = wn.map some) (hNn : va_nd isN = true) (q0 ci : Nat) {fs : List Value} {T : u_T} {N : Nat} (hc : vwCl[ci]? = some (Cn, T, N)) (he : w[q0]? = some (b, .inr (ci, fs))) (hls : ls.size = nL) (hst : st0 = As.reverse ++ .ref b :: rest) (hrest : (rest.map fun v => v.category).sum ≤ 8) (hdg : decode cc pc = .ok (.invokevirtual index, 3)) (hf : cells + 0 ≤ R.cells ∧ slots + 0 ≤ R.slots)
    (kk : ∀ (H1 : Heap) (locs1 : List Loc), WD E A s wn H1 locs1 → W p l e R s m args below meth c H1 locs1 cells slots Q (F0 m (pc + 3) ls (.int r :: rest))) : W p l e R s m args below meth c H locs cells slots Q (F0 m pc ls st0) := by
  obtain ⟨hP, hD, hS⟩ := hW
  subst hst
  have hPc := hP.sub isC (map_fm hC)
  have hDc := hD.sub isC hCn hC
  have hFc := va_free (wc := wc) hD hS C.ar isC hC
  have hPre : ∀ U : State, U.heap = H → s.WarmedH U.vm → va_Pc (.ref b :: As) (XP E wc H.size) (Value.ref b :: As).toArray U := fun U hU hW => ⟨rfl, by rw [hU], by rw [hU]; exact hPc, va_K.moved hW.alike C.K, hDc.weaken (fun _ _ _ _ => trivial), C.G.to (by rw [hU]; exact hS.2.1) hFc hW⟩
  refine va_calli (va_runV (As := As) (rest := rest) C.fix (hM H.size) (cwV na C.ts hg hwY h0.1 h0.2 hd hR) ⟨fun a U g mk q => ⟨q.1, q.2.calling⟩, va_recv C.K hP hc he, hPre⟩ rfl hna hls rfl (lv_room hrest) hdg hf) hS (fun q _ h => hFc q h) hFc (fun r2 u t H1 locs1 ht hvm hw2 hB hz1 hk1 hS1 => ?_)
  subst hw2
  obtain ⟨hP1, hK1, hD1⟩ := hB
  rw [ht] at hP1
  obtain ⟨hP2, hD2⟩ := va_join (wr := wr) (w1 := w1) hP hD isC isR hC hRr hRn hdis hk1 hFc hP1 hD1
  exact kk H1 locs1 ⟨hP2.sub isN (map_fm hN), hD2.sub isN hNn hN, hS1⟩
theorem x_cSI (C : CX p s m args meth c cc nL own Ts ret E A) (hW : WD E A s w H locs) {y : MethodName} {wsY wsY' : List Cond} {rm : Room} {As : List Value} {wc wr w1 wn : va_W} {r : Int32} (hM : MI l y wsY rm E As wc r w1) {index maxL : Nat} {bytes : ByteArray} {rty : Option FieldType} (hg : GoodIn Ts (va_wsS own index y wsY)) (hwY : wsY = Cond.code y bytes maxL rty :: wsY') (na : Nat) (hna : As.length = na) (h0 : rm.cells = 0 ∧ rm.slots = 0) (hd : y.cls ≠ "java/lang/invoke/MethodHandle" ∧ y.cls ≠ "java/lang/invoke/VarHandle" ∧ (parseMethodDescriptor y.desc).map (fun d => d.parameters.length) = some na) (hR : rm.frames + 1 ≤ R.frames ∧ 8 + (maxL + 11) + rm.locals ≤ R.locals)
    (isC isR isN : List Nat) (hC : isC.map (fun i => w[i]?) = wc.map some) (hCn : va_nd isC = true) (hRr : isR.map (fun i => w[i]?) = wr.map some) (hRn : va_nd isR = true) (hdis : ∀ i ∈ isR, i ∉ isC) (hN : isN.map (fun i => (wr ++ w1)[i]?) = wn.map some) (hNn : va_nd isN = true)  (hls : ls.size = nL) (hst : st0 = As.reverse ++ rest) (hrest : (rest.map fun v => v.category).sum ≤ 8) (hdg : decode cc pc = .ok (.invokestatic index, 3)) (hf : cells + 0 ≤ R.cells ∧ slots + 0 ≤ R.slots)
    (kk : ∀ (H1 : Heap) (locs1 : List Loc), WD E A s wn H1 locs1 → W p l e R s m args below meth c H1 locs1 cells slots Q (F0 m (pc + 3) ls (.int r :: rest))) : W p l e R s m args below meth c H locs cells slots Q (F0 m pc ls st0) := by
  obtain ⟨hP, hD, hS⟩ := hW
  subst hst
  have hPc := hP.sub isC (map_fm hC)
  have hDc := hD.sub isC hCn hC
  have hFc := va_free (wc := wc) hD hS C.ar isC hC
  have hPre : ∀ U : State, U.heap = H → s.WarmedH U.vm → va_Pc As (XP E wc H.size) (As).toArray U := fun U hU hW => ⟨rfl, by rw [hU], by rw [hU]; exact hPc, va_K.moved hW.alike C.K, hDc.weaken (fun _ _ _ _ => trivial), C.G.to (by rw [hU]; exact hS.2.1) hFc hW⟩
  refine va_calli (va_runS (As := As) (rest := rest) C.fix (hM H.size) (va_cwS na C.ts hg hwY h0.1 h0.2 hd hR) ⟨fun a U g mk q => ⟨q.1, q.2.calling⟩, hPre⟩ rfl hna hls rfl (lv_room hrest) hdg hf) hS (fun q _ h => hFc q h) hFc (fun r2 u t H1 locs1 ht hvm hw2 hB hz1 hk1 hS1 => ?_)
  subst hw2
  obtain ⟨hP1, hK1, hD1⟩ := hB
  rw [ht] at hP1
  obtain ⟨hP2, hD2⟩ := va_join (wr := wr) (w1 := w1) hP hD isC isR hC hRr hRn hdis hk1 hFc hP1 hD1
  exact kk H1 locs1 ⟨hP2.sub isN (map_fm hN), hD2.sub isN hNn hN, hS1⟩
theorem x_cSNI (C : CX p s m args meth c cc nL own Ts ret E A) (hW : WD E A s w H locs) {y : MethodName} {wsY wsY' : List Cond} {rm : Room} {As : List Value} {wc wr w1 wn : va_W} {r : Int32} (hM : MI l y wsY rm E As wc r w1) {index maxL : Nat} {bytes : ByteArray} {rty : Option FieldType} (hg : GoodIn Ts wsY) {host : String} (hnw : va_Nw (.methodLinkNest own index y host) s) (hini : Cond.initialized y.cls ∈ Ts) (hsta : Cond.static y ∈ Ts) (hwY : wsY = Cond.code y bytes maxL rty :: wsY') (na : Nat) (hna : As.length = na) (h0 : rm.cells = 0 ∧ rm.slots = 0) (hd : y.cls ≠ "java/lang/invoke/MethodHandle" ∧ y.cls ≠ "java/lang/invoke/VarHandle" ∧ (parseMethodDescriptor y.desc).map (fun d => d.parameters.length) = some na) (hR : rm.frames + 1 ≤ R.frames ∧ 8 + (maxL + 11) + rm.locals ≤ R.locals)
    (isC isR isN : List Nat) (hC : isC.map (fun i => w[i]?) = wc.map some) (hCn : va_nd isC = true) (hRr : isR.map (fun i => w[i]?) = wr.map some) (hRn : va_nd isR = true) (hdis : ∀ i ∈ isR, i ∉ isC) (hN : isN.map (fun i => (wr ++ w1)[i]?) = wn.map some) (hNn : va_nd isN = true)  (hls : ls.size = nL) (hst : st0 = As.reverse ++ rest) (hrest : (rest.map fun v => v.category).sum ≤ 8) (hdg : decode cc pc = .ok (.invokestatic index, 3)) (hf : cells + 0 ≤ R.cells ∧ slots + 0 ≤ R.slots)
    (kk : ∀ (H1 : Heap) (locs1 : List Loc), WD E A s wn H1 locs1 → W p l e R s m args below meth c H1 locs1 cells slots Q (F0 m (pc + 3) ls (.int r :: rest))) : W p l e R s m args below meth c H locs cells slots Q (F0 m pc ls st0) := by
  obtain ⟨hP, hD, hS⟩ := hW
  subst hst
  have hPc := hP.sub isC (map_fm hC)
  have hDc := hD.sub isC hCn hC
  have hFc := va_free (wc := wc) hD hS C.ar isC hC
  have hPre : ∀ U : State, U.heap = H → s.WarmedH U.vm → va_Pc As (XP E wc H.size) (As).toArray U := fun U hU hW => ⟨rfl, by rw [hU], by rw [hU]; exact hPc, va_K.moved hW.alike C.K, hDc.weaken (fun _ _ _ _ => trivial), C.G.to (by rw [hU]; exact hS.2.1) hFc hW⟩
  refine va_calli (va_runSN (As := As) (rest := rest) C.fix (hM H.size) ⟨va_cnB na C.ts hg hwY h0.1 h0.2 hnw (C.ts _ hini) hd hR, C.ts _ hsta, trivial⟩ ⟨fun a U g mk q => ⟨q.1, q.2.calling⟩, hPre⟩ rfl hna hls rfl (lv_room hrest) hdg hf) hS (fun q _ h => hFc q h) hFc (fun r2 u t H1 locs1 ht hvm hw2 hB hz1 hk1 hS1 => ?_)
  subst hw2
  obtain ⟨hP1, hK1, hD1⟩ := hB
  rw [ht] at hP1
  obtain ⟨hP2, hD2⟩ := va_join (wr := wr) (w1 := w1) hP hD isC isR hC hRr hRn hdis hk1 hFc hP1 hD1
  exact kk H1 locs1 ⟨hP2.sub isN (map_fm hN), hD2.sub isN hNn hN, hS1⟩
theorem x_cVL (C : CX p s m args meth c cc nL own Ts ret E A) (hW : WD E A s w H locs) {y : MethodName} {wsY wsY' : List Cond} {rm : Room} {b : Nat} {As : List Value} {wc wr w1 wn : va_W} {r : Int64} (hM : ML l y wsY rm E (.ref b :: As) wc r w1) {Cn : String} {index maxL : Nat} {bytes : ByteArray} {rty : Option FieldType} (hg : GoodIn Ts (wsV own index Cn y wsY)) (hwY : wsY = Cond.code y bytes maxL rty :: wsY') (na : Nat) (hna : As.length = na) (h0 : rm.cells = 0 ∧ rm.slots = 0) (hd : y.cls = Cn ∧ y.cls ≠ "java/lang/invoke/MethodHandle" ∧ y.cls ≠ "java/lang/invoke/VarHandle" ∧ (parseMethodDescriptor y.desc).map (fun d => d.parameters.length) = some na) (hR : rm.frames + 1 ≤ R.frames ∧ 8 + (maxL + 11) + rm.locals ≤ R.locals)
    (isC isR isN : List Nat) (hC : isC.map (fun i => w[i]?) = wc.map some) (hCn : va_nd isC = true) (hRr : isR.map (fun i => w[i]?) = wr.map some) (hRn : va_nd isR = true) (hdis : ∀ i ∈ isR, i ∉ isC) (hN : isN.map (fun i => (wr ++ w1)[i]?) = wn.map some) (hNn : va_nd isN = true) (q0 ci : Nat) {fs : List Value} {T : u_T} {N : Nat} (hc : vwCl[ci]? = some (Cn, T, N)) (he : w[q0]? = some (b, .inr (ci, fs))) (hls : ls.size = nL) (hst : st0 = As.reverse ++ .ref b :: rest) (hrest : (rest.map fun v => v.category).sum ≤ 8) (hdg : decode cc pc = .ok (.invokevirtual index, 3)) (hf : cells + 0 ≤ R.cells ∧ slots + 0 ≤ R.slots)
    (kk : ∀ (H1 : Heap) (locs1 : List Loc), WD E A s wn H1 locs1 → W p l e R s m args below meth c H1 locs1 cells slots Q (F0 m (pc + 3) ls (.long r :: rest))) : W p l e R s m args below meth c H locs cells slots Q (F0 m pc ls st0) := by
  obtain ⟨hP, hD, hS⟩ := hW
  subst hst
  have hPc := hP.sub isC (map_fm hC)
  have hDc := hD.sub isC hCn hC
  have hFc := va_free (wc := wc) hD hS C.ar isC hC
  have hPre : ∀ U : State, U.heap = H → s.WarmedH U.vm → va_Pc (.ref b :: As) (XP E wc H.size) (Value.ref b :: As).toArray U := fun U hU hW => ⟨rfl, by rw [hU], by rw [hU]; exact hPc, va_K.moved hW.alike C.K, hDc.weaken (fun _ _ _ _ => trivial), C.G.to (by rw [hU]; exact hS.2.1) hFc hW⟩
  refine va_calll (va_runV (As := As) (rest := rest) C.fix (hM H.size) (cwV na C.ts hg hwY h0.1 h0.2 hd hR) ⟨fun a U g mk q => ⟨q.1, q.2.calling⟩, va_recv C.K hP hc he, hPre⟩ rfl hna hls rfl (lv_room hrest) hdg hf) hS (fun q _ h => hFc q h) hFc (fun r2 u t H1 locs1 ht hvm hw2 hB hz1 hk1 hS1 => ?_)
  subst hw2
  obtain ⟨hP1, hK1, hD1⟩ := hB
  rw [ht] at hP1
  obtain ⟨hP2, hD2⟩ := va_join (wr := wr) (w1 := w1) hP hD isC isR hC hRr hRn hdis hk1 hFc hP1 hD1
  exact kk H1 locs1 ⟨hP2.sub isN (map_fm hN), hD2.sub isN hNn hN, hS1⟩
theorem x_cSL (C : CX p s m args meth c cc nL own Ts ret E A) (hW : WD E A s w H locs) {y : MethodName} {wsY wsY' : List Cond} {rm : Room} {As : List Value} {wc wr w1 wn : va_W} {r : Int64} (hM : ML l y wsY rm E As wc r w1) {index maxL : Nat} {bytes : ByteArray} {rty : Option FieldType} (hg : GoodIn Ts (va_wsS own index y wsY)) (hwY : wsY = Cond.code y bytes maxL rty :: wsY') (na : Nat) (hna : As.length = na) (h0 : rm.cells = 0 ∧ rm.slots = 0) (hd : y.cls ≠ "java/lang/invoke/MethodHandle" ∧ y.cls ≠ "java/lang/invoke/VarHandle" ∧ (parseMethodDescriptor y.desc).map (fun d => d.parameters.length) = some na) (hR : rm.frames + 1 ≤ R.frames ∧ 8 + (maxL + 11) + rm.locals ≤ R.locals)
    (isC isR isN : List Nat) (hC : isC.map (fun i => w[i]?) = wc.map some) (hCn : va_nd isC = true) (hRr : isR.map (fun i => w[i]?) = wr.map some) (hRn : va_nd isR = true) (hdis : ∀ i ∈ isR, i ∉ isC) (hN : isN.map (fun i => (wr ++ w1)[i]?) = wn.map some) (hNn : va_nd isN = true)  (hls : ls.size = nL) (hst : st0 = As.reverse ++ rest) (hrest : (rest.map fun v => v.category).sum ≤ 8) (hdg : decode cc pc = .ok (.invokestatic index, 3)) (hf : cells + 0 ≤ R.cells ∧ slots + 0 ≤ R.slots)
    (kk : ∀ (H1 : Heap) (locs1 : List Loc), WD E A s wn H1 locs1 → W p l e R s m args below meth c H1 locs1 cells slots Q (F0 m (pc + 3) ls (.long r :: rest))) : W p l e R s m args below meth c H locs cells slots Q (F0 m pc ls st0) := by
  obtain ⟨hP, hD, hS⟩ := hW
  subst hst
  have hPc := hP.sub isC (map_fm hC)
  have hDc := hD.sub isC hCn hC
  have hFc := va_free (wc := wc) hD hS C.ar isC hC
  have hPre : ∀ U : State, U.heap = H → s.WarmedH U.vm → va_Pc As (XP E wc H.size) (As).toArray U := fun U hU hW => ⟨rfl, by rw [hU], by rw [hU]; exact hPc, va_K.moved hW.alike C.K, hDc.weaken (fun _ _ _ _ => trivial), C.G.to (by rw [hU]; exact hS.2.1) hFc hW⟩
  refine va_calll (va_runS (As := As) (rest := rest) C.fix (hM H.size) (va_cwS na C.ts hg hwY h0.1 h0.2 hd hR) ⟨fun a U g mk q => ⟨q.1, q.2.calling⟩, hPre⟩ rfl hna hls rfl (lv_room hrest) hdg hf) hS (fun q _ h => hFc q h) hFc (fun r2 u t H1 locs1 ht hvm hw2 hB hz1 hk1 hS1 => ?_)
  subst hw2
  obtain ⟨hP1, hK1, hD1⟩ := hB
  rw [ht] at hP1
  obtain ⟨hP2, hD2⟩ := va_join (wr := wr) (w1 := w1) hP hD isC isR hC hRr hRn hdis hk1 hFc hP1 hD1
  exact kk H1 locs1 ⟨hP2.sub isN (map_fm hN), hD2.sub isN hNn hN, hS1⟩
theorem x_cVD (C : CX p s m args meth c cc nL own Ts ret E A) (hW : WD E A s w H locs) {y : MethodName} {wsY wsY' : List Cond} {rm : Room} {b : Nat} {As : List Value} {wc wr w1 wn : va_W} {r : UInt64} (hM : MD l y wsY rm E (.ref b :: As) wc r w1) {Cn : String} {index maxL : Nat} {bytes : ByteArray} {rty : Option FieldType} (hg : GoodIn Ts (wsV own index Cn y wsY)) (hwY : wsY = Cond.code y bytes maxL rty :: wsY') (na : Nat) (hna : As.length = na) (h0 : rm.cells = 0 ∧ rm.slots = 0) (hd : y.cls = Cn ∧ y.cls ≠ "java/lang/invoke/MethodHandle" ∧ y.cls ≠ "java/lang/invoke/VarHandle" ∧ (parseMethodDescriptor y.desc).map (fun d => d.parameters.length) = some na) (hR : rm.frames + 1 ≤ R.frames ∧ 8 + (maxL + 11) + rm.locals ≤ R.locals)
    (isC isR isN : List Nat) (hC : isC.map (fun i => w[i]?) = wc.map some) (hCn : va_nd isC = true) (hRr : isR.map (fun i => w[i]?) = wr.map some) (hRn : va_nd isR = true) (hdis : ∀ i ∈ isR, i ∉ isC) (hN : isN.map (fun i => (wr ++ w1)[i]?) = wn.map some) (hNn : va_nd isN = true) (q0 ci : Nat) {fs : List Value} {T : u_T} {N : Nat} (hc : vwCl[ci]? = some (Cn, T, N)) (he : w[q0]? = some (b, .inr (ci, fs))) (hls : ls.size = nL) (hst : st0 = As.reverse ++ .ref b :: rest) (hrest : (rest.map fun v => v.category).sum ≤ 8) (hdg : decode cc pc = .ok (.invokevirtual index, 3)) (hf : cells + 0 ≤ R.cells ∧ slots + 0 ≤ R.slots)
    (kk : ∀ (H1 : Heap) (locs1 : List Loc), WD E A s wn H1 locs1 → W p l e R s m args below meth c H1 locs1 cells slots Q (F0 m (pc + 3) ls (.double r :: rest))) : W p l e R s m args below meth c H locs cells slots Q (F0 m pc ls st0) := by
  obtain ⟨hP, hD, hS⟩ := hW
  subst hst
  have hPc := hP.sub isC (map_fm hC)
  have hDc := hD.sub isC hCn hC
  have hFc := va_free (wc := wc) hD hS C.ar isC hC
  have hPre : ∀ U : State, U.heap = H → s.WarmedH U.vm → va_Pc (.ref b :: As) (XP E wc H.size) (Value.ref b :: As).toArray U := fun U hU hW => ⟨rfl, by rw [hU], by rw [hU]; exact hPc, va_K.moved hW.alike C.K, hDc.weaken (fun _ _ _ _ => trivial), C.G.to (by rw [hU]; exact hS.2.1) hFc hW⟩
  refine va_calld (va_runV (As := As) (rest := rest) C.fix (hM H.size) (cwV na C.ts hg hwY h0.1 h0.2 hd hR) ⟨fun a U g mk q => ⟨q.1, q.2.calling⟩, va_recv C.K hP hc he, hPre⟩ rfl hna hls rfl (lv_room hrest) hdg hf) hS (fun q _ h => hFc q h) hFc (fun r2 u t H1 locs1 ht hvm hw2 hB hz1 hk1 hS1 => ?_)
  subst hw2
  obtain ⟨hP1, hK1, hD1⟩ := hB
  rw [ht] at hP1
  obtain ⟨hP2, hD2⟩ := va_join (wr := wr) (w1 := w1) hP hD isC isR hC hRr hRn hdis hk1 hFc hP1 hD1
  exact kk H1 locs1 ⟨hP2.sub isN (map_fm hN), hD2.sub isN hNn hN, hS1⟩
theorem x_cSD (C : CX p s m args meth c cc nL own Ts ret E A) (hW : WD E A s w H locs) {y : MethodName} {wsY wsY' : List Cond} {rm : Room} {As : List Value} {wc wr w1 wn : va_W} {r : UInt64} (hM : MD l y wsY rm E As wc r w1) {index maxL : Nat} {bytes : ByteArray} {rty : Option FieldType} (hg : GoodIn Ts (va_wsS own index y wsY)) (hwY : wsY = Cond.code y bytes maxL rty :: wsY') (na : Nat) (hna : As.length = na) (h0 : rm.cells = 0 ∧ rm.slots = 0) (hd : y.cls ≠ "java/lang/invoke/MethodHandle" ∧ y.cls ≠ "java/lang/invoke/VarHandle" ∧ (parseMethodDescriptor y.desc).map (fun d => d.parameters.length) = some na) (hR : rm.frames + 1 ≤ R.frames ∧ 8 + (maxL + 11) + rm.locals ≤ R.locals)
    (isC isR isN : List Nat) (hC : isC.map (fun i => w[i]?) = wc.map some) (hCn : va_nd isC = true) (hRr : isR.map (fun i => w[i]?) = wr.map some) (hRn : va_nd isR = true) (hdis : ∀ i ∈ isR, i ∉ isC) (hN : isN.map (fun i => (wr ++ w1)[i]?) = wn.map some) (hNn : va_nd isN = true)  (hls : ls.size = nL) (hst : st0 = As.reverse ++ rest) (hrest : (rest.map fun v => v.category).sum ≤ 8) (hdg : decode cc pc = .ok (.invokestatic index, 3)) (hf : cells + 0 ≤ R.cells ∧ slots + 0 ≤ R.slots)
    (kk : ∀ (H1 : Heap) (locs1 : List Loc), WD E A s wn H1 locs1 → W p l e R s m args below meth c H1 locs1 cells slots Q (F0 m (pc + 3) ls (.double r :: rest))) : W p l e R s m args below meth c H locs cells slots Q (F0 m pc ls st0) := by
  obtain ⟨hP, hD, hS⟩ := hW
  subst hst
  have hPc := hP.sub isC (map_fm hC)
  have hDc := hD.sub isC hCn hC
  have hFc := va_free (wc := wc) hD hS C.ar isC hC
  have hPre : ∀ U : State, U.heap = H → s.WarmedH U.vm → va_Pc As (XP E wc H.size) (As).toArray U := fun U hU hW => ⟨rfl, by rw [hU], by rw [hU]; exact hPc, va_K.moved hW.alike C.K, hDc.weaken (fun _ _ _ _ => trivial), C.G.to (by rw [hU]; exact hS.2.1) hFc hW⟩
  refine va_calld (va_runS (As := As) (rest := rest) C.fix (hM H.size) (va_cwS na C.ts hg hwY h0.1 h0.2 hd hR) ⟨fun a U g mk q => ⟨q.1, q.2.calling⟩, hPre⟩ rfl hna hls rfl (lv_room hrest) hdg hf) hS (fun q _ h => hFc q h) hFc (fun r2 u t H1 locs1 ht hvm hw2 hB hz1 hk1 hS1 => ?_)
  subst hw2
  obtain ⟨hP1, hK1, hD1⟩ := hB
  rw [ht] at hP1
  obtain ⟨hP2, hD2⟩ := va_join (wr := wr) (w1 := w1) hP hD isC isR hC hRr hRn hdis hk1 hFc hP1 hD1
  exact kk H1 locs1 ⟨hP2.sub isN (map_fm hN), hD2.sub isN hNn hN, hS1⟩
theorem x_cVV (C : CX p s m args meth c cc nL own Ts ret E A) (hW : WD E A s w H locs) {y : MethodName} {wsY wsY' : List Cond} {rm : Room} {b : Nat} {As : List Value} {wc wr w1 wn : va_W} (hM : MV l y wsY rm E (.ref b :: As) wc w1) {Cn : String} {index maxL : Nat} {bytes : ByteArray} {rty : Option FieldType} (hg : GoodIn Ts (wsV own index Cn y wsY)) (hwY : wsY = Cond.code y bytes maxL rty :: wsY') (na : Nat) (hna : As.length = na) (h0 : rm.cells = 0 ∧ rm.slots = 0) (hd : y.cls = Cn ∧ y.cls ≠ "java/lang/invoke/MethodHandle" ∧ y.cls ≠ "java/lang/invoke/VarHandle" ∧ (parseMethodDescriptor y.desc).map (fun d => d.parameters.length) = some na) (hR : rm.frames + 1 ≤ R.frames ∧ 8 + (maxL + 11) + rm.locals ≤ R.locals)
    (isC isR isN : List Nat) (hC : isC.map (fun i => w[i]?) = wc.map some) (hCn : va_nd isC = true) (hRr : isR.map (fun i => w[i]?) = wr.map some) (hRn : va_nd isR = true) (hdis : ∀ i ∈ isR, i ∉ isC) (hN : isN.map (fun i => (wr ++ w1)[i]?) = wn.map some) (hNn : va_nd isN = true) (q0 ci : Nat) {fs : List Value} {T : u_T} {N : Nat} (hc : vwCl[ci]? = some (Cn, T, N)) (he : w[q0]? = some (b, .inr (ci, fs))) (hls : ls.size = nL) (hst : st0 = As.reverse ++ .ref b :: rest) (hrest : (rest.map fun v => v.category).sum ≤ 8) (hdg : decode cc pc = .ok (.invokevirtual index, 3)) (hf : cells + 0 ≤ R.cells ∧ slots + 0 ≤ R.slots)
    (kk : ∀ (H1 : Heap) (locs1 : List Loc), WD E A s wn H1 locs1 → W p l e R s m args below meth c H1 locs1 cells slots Q (F0 m (pc + 3) ls (rest))) : W p l e R s m args below meth c H locs cells slots Q (F0 m pc ls st0) := by
  obtain ⟨hP, hD, hS⟩ := hW
  subst hst
  have hPc := hP.sub isC (map_fm hC)
  have hDc := hD.sub isC hCn hC
  have hFc := va_free (wc := wc) hD hS C.ar isC hC
  have hPre : ∀ U : State, U.heap = H → s.WarmedH U.vm → va_Pc (.ref b :: As) (XP E wc H.size) (Value.ref b :: As).toArray U := fun U hU hW => ⟨rfl, by rw [hU], by rw [hU]; exact hPc, va_K.moved hW.alike C.K, hDc.weaken (fun _ _ _ _ => trivial), C.G.to (by rw [hU]; exact hS.2.1) hFc hW⟩
  refine va_callv (va_runV (As := As) (rest := rest) C.fix (hM H.size) (cwV na C.ts hg hwY h0.1 h0.2 hd hR) ⟨fun a U g mk q => ⟨q.1, q.2.calling⟩, va_recv C.K hP hc he, hPre⟩ rfl hna hls rfl (lv_room hrest) hdg hf) hS (fun q _ h => hFc q h) hFc (fun u t H1 locs1 ht hvm hw2 hB hz1 hk1 hS1 => ?_)
  obtain ⟨hP1, hK1, hD1⟩ := hB
  rw [ht] at hP1
  obtain ⟨hP2, hD2⟩ := va_join (wr := wr) (w1 := w1) hP hD isC isR hC hRr hRn hdis hk1 hFc hP1 hD1
  exact kk H1 locs1 ⟨hP2.sub isN (map_fm hN), hD2.sub isN hNn hN, hS1⟩
theorem x_cSV (C : CX p s m args meth c cc nL own Ts ret E A) (hW : WD E A s w H locs) {y : MethodName} {wsY wsY' : List Cond} {rm : Room} {As : List Value} {wc wr w1 wn : va_W} (hM : MV l y wsY rm E As wc w1) {index maxL : Nat} {bytes : ByteArray} {rty : Option FieldType} (hg : GoodIn Ts (va_wsS own index y wsY)) (hwY : wsY = Cond.code y bytes maxL rty :: wsY') (na : Nat) (hna : As.length = na) (h0 : rm.cells = 0 ∧ rm.slots = 0) (hd : y.cls ≠ "java/lang/invoke/MethodHandle" ∧ y.cls ≠ "java/lang/invoke/VarHandle" ∧ (parseMethodDescriptor y.desc).map (fun d => d.parameters.length) = some na) (hR : rm.frames + 1 ≤ R.frames ∧ 8 + (maxL + 11) + rm.locals ≤ R.locals)
    (isC isR isN : List Nat) (hC : isC.map (fun i => w[i]?) = wc.map some) (hCn : va_nd isC = true) (hRr : isR.map (fun i => w[i]?) = wr.map some) (hRn : va_nd isR = true) (hdis : ∀ i ∈ isR, i ∉ isC) (hN : isN.map (fun i => (wr ++ w1)[i]?) = wn.map some) (hNn : va_nd isN = true)  (hls : ls.size = nL) (hst : st0 = As.reverse ++ rest) (hrest : (rest.map fun v => v.category).sum ≤ 8) (hdg : decode cc pc = .ok (.invokestatic index, 3)) (hf : cells + 0 ≤ R.cells ∧ slots + 0 ≤ R.slots)
    (kk : ∀ (H1 : Heap) (locs1 : List Loc), WD E A s wn H1 locs1 → W p l e R s m args below meth c H1 locs1 cells slots Q (F0 m (pc + 3) ls (rest))) : W p l e R s m args below meth c H locs cells slots Q (F0 m pc ls st0) := by
  obtain ⟨hP, hD, hS⟩ := hW
  subst hst
  have hPc := hP.sub isC (map_fm hC)
  have hDc := hD.sub isC hCn hC
  have hFc := va_free (wc := wc) hD hS C.ar isC hC
  have hPre : ∀ U : State, U.heap = H → s.WarmedH U.vm → va_Pc As (XP E wc H.size) (As).toArray U := fun U hU hW => ⟨rfl, by rw [hU], by rw [hU]; exact hPc, va_K.moved hW.alike C.K, hDc.weaken (fun _ _ _ _ => trivial), C.G.to (by rw [hU]; exact hS.2.1) hFc hW⟩
  refine va_callv (va_runS (As := As) (rest := rest) C.fix (hM H.size) (va_cwS na C.ts hg hwY h0.1 h0.2 hd hR) ⟨fun a U g mk q => ⟨q.1, q.2.calling⟩, hPre⟩ rfl hna hls rfl (lv_room hrest) hdg hf) hS (fun q _ h => hFc q h) hFc (fun u t H1 locs1 ht hvm hw2 hB hz1 hk1 hS1 => ?_)
  obtain ⟨hP1, hK1, hD1⟩ := hB
  rw [ht] at hP1
  obtain ⟨hP2, hD2⟩ := va_join (wr := wr) (w1 := w1) hP hD isC isR hC hRr hRn hdis hk1 hFc hP1 hD1
  exact kk H1 locs1 ⟨hP2.sub isN (map_fm hN), hD2.sub isN hNn hN, hS1⟩
/-! ends -/
theorem x_iret {wc w1 : va_W} {r v : Int32} {ty : FieldType} (C : CX p s m args meth c cc nL own Ts (some ty) E (va_A wc s.heap.size)) (hW : WD E (va_A wc s.heap.size) s w H locs) (hn : narrow ty (.int v) = .int v) (hv : v = r) (hw : w = w1) (hdg : decode cc pc = .ok (.ireturn, 1)) : W p l e R s m args below meth c H locs 0 0 (QI E wc r w1 below args s) (F0 m pc ls [.int v]) := by
  subst hv; subst hw
  have hlocks := C.lk
  exact W.zret C.x C.b C.r hn (fun t ht hWm => ⟨⟨v, (), rfl, rfl, by rw [ht]; exact hW.1, va_K.moved hWm.alike C.K, hW.2.1⟩, hW.2.2.F ht⟩) hW.2.2.2.2 hdg
theorem x_lret {wc w1 : va_W} {r v : Int64} (C : CX p s m args meth c cc nL own Ts (some .long) E (va_A wc s.heap.size)) (hW : WD E (va_A wc s.heap.size) s w H locs) (hv : v = r) (hw : w = w1) (hdg : decode cc pc = .ok (.lreturn, 1)) : W p l e R s m args below meth c H locs 0 0 (QL E wc r w1 below args s) (F0 m pc ls [.long v]) := by
  subst hv; subst hw
  have hlocks := C.lk
  exact W.lret C.x C.b C.r (fun t ht hWm => ⟨⟨v, (), rfl, rfl, by rw [ht]; exact hW.1, va_K.moved hWm.alike C.K, hW.2.1⟩, hW.2.2.F ht⟩) hW.2.2.2.2 hdg
theorem x_dret {wc w1 : va_W} {r v : UInt64} (C : CX p s m args meth c cc nL own Ts (some .double) E (va_A wc s.heap.size)) (hW : WD E (va_A wc s.heap.size) s w H locs) (hv : v = r) (hw : w = w1) (hdg : decode cc pc = .ok (.dreturn, 1)) : W p l e R s m args below meth c H locs 0 0 (QD E wc r w1 below args s) (F0 m pc ls [.double v]) := by
  subst hv; subst hw
  have hlocks := C.lk
  exact W.dret C.x C.b C.r (fun t ht hWm => ⟨⟨v, (), rfl, rfl, by rw [ht]; exact hW.1, va_K.moved hWm.alike C.K, hW.2.1⟩, hW.2.2.F ht⟩) hW.2.2.2.2 hdg
theorem x_vret {wc w1 : va_W} (C : CX p s m args meth c cc nL own Ts none E (va_A wc s.heap.size)) (hW : WD E (va_A wc s.heap.size) s w H locs) (hw : w = w1) (hdg : decode cc pc = .ok (.return_, 1)) : W p l e R s m args below meth c H locs 0 0 (QV E wc w1 below args s) (F0 m pc ls []) := by
  subst hw
  have hlocks := C.lk
  exact W.vret C.x C.b C.r (fun t ht hWm => ⟨⟨(), rfl, trivial, by rw [ht]; exact hW.1, va_K.moved hWm.alike C.K, hW.2.1⟩, hW.2.2.F ht⟩) hW.2.2.2.2 hdg
theorem x_vretC {wc : va_W} {mc ms : Nat} {post : va_W → Prop} (C : CX p s m args meth c cc nL own Ts none E (va_A wc s.heap.size)) (hW : WD E (va_A wc s.heap.size) s w H locs) (hp : post w) (hc : cells = mc) (hs : slots = ms) (hdg : decode cc pc = .ok (.return_, 1)) : W p l e R s m args below meth c H locs cells slots (QC E wc mc ms post below args s) (F0 m pc ls []) := by
  subst hc; subst hs
  have hlocks := C.lk
  exact W.vret C.x C.b C.r (fun t ht hWm => ⟨⟨w, rfl, hp, by rw [ht]; exact hW.1, va_K.moved hWm.alike C.K, hW.2.1⟩, hW.2.2.F ht⟩) hW.2.2.2.2 hdg
end XR
end
section
theorem dX0_init_0 : decode cX0_init 0 = .ok (.aload_n 0, 1) := by decide +kernel
theorem dX0_init_1 : decode cX0_init 1 = .ok (.invokespecial 3, 3) := by decide +kernel
theorem dX0_init_4 : decode cX0_init 4 = .ok (.aload_n 0, 1) := by decide +kernel
theorem dX0_init_5 : decode cX0_init 5 = .ok (.bipush 9, 2) := by decide +kernel
theorem dX0_init_7 : decode cX0_init 7 = .ok (.newarray .int, 2) := by decide +kernel
theorem dX0_init_9 : decode cX0_init 9 = .ok (.putfield 9, 3) := by decide +kernel
theorem dX0_init_12 : decode cX0_init 12 = .ok (.aload_n 0, 1) := by decide +kernel
theorem dX0_init_13 : decode cX0_init 13 = .ok (.sipush 511, 3) := by decide +kernel
theorem dX0_init_16 : decode cX0_init 16 = .ok (.putfield 17, 3) := by decide +kernel
theorem dX0_init_19 : decode cX0_init 19 = .ok (.aload_n 0, 1) := by decide +kernel
theorem dX0_init_20 : decode cX0_init 20 = .ok (.iconst 3, 1) := by decide +kernel
theorem dX0_init_21 : decode cX0_init 21 = .ok (.putfield 21, 3) := by decide +kernel
theorem dX0_init_24 : decode cX0_init 24 = .ok (.return_, 1) := by decide +kernel
theorem dX0_standingPins_0 : decode cX0_standingPins 0 = .ok (.aload_n 0, 1) := by decide +kernel
theorem dX0_standingPins_1 : decode cX0_standingPins 1 = .ok (.getfield 17, 3) := by decide +kernel
theorem dX0_standingPins_4 : decode cX0_standingPins 4 = .ok (.ireturn, 1) := by decide +kernel
theorem dX0_spares_0 : decode cX0_spares 0 = .ok (.aload_n 0, 1) := by decide +kernel
theorem dX0_spares_1 : decode cX0_spares 1 = .ok (.getfield 21, 3) := by decide +kernel
theorem dX0_spares_4 : decode cX0_spares 4 = .ok (.ireturn, 1) := by decide +kernel
theorem dX0_wear_0 : decode cX0_wear 0 = .ok (.aload_n 0, 1) := by decide +kernel
theorem dX0_wear_1 : decode cX0_wear 1 = .ok (.getfield 9, 3) := by decide +kernel
theorem dX0_wear_4 : decode cX0_wear 4 = .ok (.iload_n 1, 1) := by decide +kernel
theorem dX0_wear_5 : decode cX0_wear 5 = .ok (.iaload, 1) := by decide +kernel
theorem dX0_wear_6 : decode cX0_wear 6 = .ok (.ireturn, 1) := by decide +kernel
theorem dX0_broken_0 : decode cX0_broken 0 = .ok (.aload_n 0, 1) := by decide +kernel
theorem dX0_broken_1 : decode cX0_broken 1 = .ok (.getfield 9, 3) := by decide +kernel
theorem dX0_broken_4 : decode cX0_broken 4 = .ok (.iload_n 1, 1) := by decide +kernel
theorem dX0_broken_5 : decode cX0_broken 5 = .ok (.iaload, 1) := by decide +kernel
theorem dX0_broken_6 : decode cX0_broken 6 = .ok (.bipush 12, 2) := by decide +kernel
theorem dX0_broken_8 : decode cX0_broken 8 = .ok (.if_icmp .lt 7, 3) := by decide +kernel
theorem dX0_broken_11 : decode cX0_broken 11 = .ok (.iconst 1, 1) := by decide +kernel
theorem dX0_broken_12 : decode cX0_broken 12 = .ok (.goto 4, 3) := by decide +kernel
theorem dX0_broken_15 : decode cX0_broken 15 = .ok (.iconst 0, 1) := by decide +kernel
theorem dX0_broken_16 : decode cX0_broken 16 = .ok (.ireturn, 1) := by decide +kernel
set_option maxRecDepth 20000 in
theorem ggX0_setUp_X0_broken : GoodIn wsX0_setUp wsX0_broken := goodIn_r _ [6, 7, 8, 9, 10] (by decide +kernel) (by decide +kernel)
set_option maxRecDepth 20000 in
theorem gX0_setUp_X0_broken : GoodIn wsX0_setUp (wsV RX0 24 RX0 yX0_broken wsX0_broken) := goodIn_app (goodIn_of _ (by decide +kernel)) ggX0_setUp_X0_broken
theorem dX0_setUp_0 : decode cX0_setUp 0 = .ok (.aload_n 0, 1) := by decide +kernel
theorem dX0_setUp_1 : decode cX0_setUp 1 = .ok (.iconst 0, 1) := by decide +kernel
theorem dX0_setUp_2 : decode cX0_setUp 2 = .ok (.putfield 17, 3) := by decide +kernel
theorem dX0_setUp_5 : decode cX0_setUp 5 = .ok (.iconst 0, 1) := by decide +kernel
theorem dX0_setUp_6 : decode cX0_setUp 6 = .ok (.istore_n 1, 1) := by decide +kernel
theorem dX0_setUp_7 : decode cX0_setUp 7 = .ok (.iload_n 1, 1) := by decide +kernel
theorem dX0_setUp_8 : decode cX0_setUp 8 = .ok (.bipush 9, 2) := by decide +kernel
theorem dX0_setUp_10 : decode cX0_setUp 10 = .ok (.if_icmp .ge 29, 3) := by decide +kernel
theorem dX0_setUp_13 : decode cX0_setUp 13 = .ok (.aload_n 0, 1) := by decide +kernel
theorem dX0_setUp_14 : decode cX0_setUp 14 = .ok (.iload_n 1, 1) := by decide +kernel
theorem dX0_setUp_15 : decode cX0_setUp 15 = .ok (.invokevirtual 24, 3) := by decide +kernel
theorem dX0_setUp_18 : decode cX0_setUp 18 = .ok (.ifCond .ne 15, 3) := by decide +kernel
theorem dX0_setUp_21 : decode cX0_setUp 21 = .ok (.aload_n 0, 1) := by decide +kernel
theorem dX0_setUp_22 : decode cX0_setUp 22 = .ok (.dup, 1) := by decide +kernel
theorem dX0_setUp_23 : decode cX0_setUp 23 = .ok (.getfield 17, 3) := by decide +kernel
theorem dX0_setUp_26 : decode cX0_setUp 26 = .ok (.iconst 1, 1) := by decide +kernel
theorem dX0_setUp_27 : decode cX0_setUp 27 = .ok (.iload_n 1, 1) := by decide +kernel
theorem dX0_setUp_28 : decode cX0_setUp 28 = .ok (.ishl, 1) := by decide +kernel
theorem dX0_setUp_29 : decode cX0_setUp 29 = .ok (.ior, 1) := by decide +kernel
theorem dX0_setUp_30 : decode cX0_setUp 30 = .ok (.putfield 17, 3) := by decide +kernel
theorem dX0_setUp_33 : decode cX0_setUp 33 = .ok (.iinc 1 1, 3) := by decide +kernel
theorem dX0_setUp_36 : decode cX0_setUp 36 = .ok (.goto (-29), 3) := by decide +kernel
theorem dX0_setUp_39 : decode cX0_setUp 39 = .ok (.return_, 1) := by decide +kernel
set_option maxRecDepth 20000 in
theorem ggX0_roll_X1_felled : GoodIn wsX0_roll wsX1_felled := goodIn_r _ [6, 7, 8, 5, 9, 10, 11, 12, 13, 14, 15, 16] (by decide +kernel) (by decide +kernel)
set_option maxRecDepth 20000 in
theorem gX0_roll_X1_felled : GoodIn wsX0_roll (va_wsS RX0 28 yX1_felled wsX1_felled) := goodIn_app (goodIn_of _ (by decide +kernel)) ggX0_roll_X1_felled
set_option maxRecDepth 20000 in
theorem ggX0_roll_X1_holds : GoodIn wsX0_roll wsX1_holds := goodIn_r _ [16] (by decide +kernel) (by decide +kernel)
set_option maxRecDepth 20000 in
theorem gX0_roll_X1_holds : GoodIn wsX0_roll (va_wsS RX0 32 yX1_holds wsX1_holds) := goodIn_app (goodIn_of _ (by decide +kernel)) ggX0_roll_X1_holds
set_option maxRecDepth 20000 in
theorem ggX0_roll_J6_bitCount_0f7a4 : GoodIn wsX0_roll wsJ6_bitCount_0f7a4 := goodIn_r _ [21, 22, 23, 24] (by decide +kernel) (by decide +kernel)
set_option maxRecDepth 20000 in
theorem gX0_roll_J6_bitCount_0f7a4 : GoodIn wsX0_roll (va_wsS RX0 36 yJ6_bitCount_0f7a4 wsJ6_bitCount_0f7a4) := goodIn_app (goodIn_of _ (by decide +kernel)) ggX0_roll_J6_bitCount_0f7a4
theorem dX0_roll_0 : decode cX0_roll 0 = .ok (.aload_n 0, 1) := by decide +kernel
theorem dX0_roll_1 : decode cX0_roll 1 = .ok (.getfield 17, 3) := by decide +kernel
theorem dX0_roll_4 : decode cX0_roll 4 = .ok (.iload_n 1, 1) := by decide +kernel
theorem dX0_roll_5 : decode cX0_roll 5 = .ok (.iload_n 2, 1) := by decide +kernel
theorem dX0_roll_6 : decode cX0_roll 6 = .ok (.invokestatic 28, 3) := by decide +kernel
theorem dX0_roll_9 : decode cX0_roll 9 = .ok (.istore_n 3, 1) := by decide +kernel
theorem dX0_roll_10 : decode cX0_roll 10 = .ok (.iconst 0, 1) := by decide +kernel
theorem dX0_roll_11 : decode cX0_roll 11 = .ok (.istore 4, 2) := by decide +kernel
theorem dX0_roll_13 : decode cX0_roll 13 = .ok (.iload 4, 2) := by decide +kernel
theorem dX0_roll_15 : decode cX0_roll 15 = .ok (.bipush 9, 2) := by decide +kernel
theorem dX0_roll_17 : decode cX0_roll 17 = .ok (.if_icmp .ge 29, 3) := by decide +kernel
theorem dX0_roll_20 : decode cX0_roll 20 = .ok (.iload_n 3, 1) := by decide +kernel
theorem dX0_roll_21 : decode cX0_roll 21 = .ok (.iload 4, 2) := by decide +kernel
theorem dX0_roll_23 : decode cX0_roll 23 = .ok (.invokestatic 32, 3) := by decide +kernel
theorem dX0_roll_26 : decode cX0_roll 26 = .ok (.ifCond .eq 14, 3) := by decide +kernel
theorem dX0_roll_29 : decode cX0_roll 29 = .ok (.aload_n 0, 1) := by decide +kernel
theorem dX0_roll_30 : decode cX0_roll 30 = .ok (.getfield 9, 3) := by decide +kernel
theorem dX0_roll_33 : decode cX0_roll 33 = .ok (.iload 4, 2) := by decide +kernel
theorem dX0_roll_35 : decode cX0_roll 35 = .ok (.dup2, 1) := by decide +kernel
theorem dX0_roll_36 : decode cX0_roll 36 = .ok (.iaload, 1) := by decide +kernel
theorem dX0_roll_37 : decode cX0_roll 37 = .ok (.iconst 1, 1) := by decide +kernel
theorem dX0_roll_38 : decode cX0_roll 38 = .ok (.iadd, 1) := by decide +kernel
theorem dX0_roll_39 : decode cX0_roll 39 = .ok (.iastore, 1) := by decide +kernel
theorem dX0_roll_40 : decode cX0_roll 40 = .ok (.iinc 4 1, 3) := by decide +kernel
theorem dX0_roll_43 : decode cX0_roll 43 = .ok (.goto (-30), 3) := by decide +kernel
theorem dX0_roll_46 : decode cX0_roll 46 = .ok (.aload_n 0, 1) := by decide +kernel
theorem dX0_roll_47 : decode cX0_roll 47 = .ok (.dup, 1) := by decide +kernel
theorem dX0_roll_48 : decode cX0_roll 48 = .ok (.getfield 17, 3) := by decide +kernel
theorem dX0_roll_51 : decode cX0_roll 51 = .ok (.iload_n 3, 1) := by decide +kernel
theorem dX0_roll_52 : decode cX0_roll 52 = .ok (.iconst (-1), 1) := by decide +kernel
theorem dX0_roll_53 : decode cX0_roll 53 = .ok (.ixor, 1) := by decide +kernel
theorem dX0_roll_54 : decode cX0_roll 54 = .ok (.iand, 1) := by decide +kernel
theorem dX0_roll_55 : decode cX0_roll 55 = .ok (.putfield 17, 3) := by decide +kernel
theorem dX0_roll_58 : decode cX0_roll 58 = .ok (.iload_n 3, 1) := by decide +kernel
theorem dX0_roll_59 : decode cX0_roll 59 = .ok (.invokestatic 36, 3) := by decide +kernel
theorem dX0_roll_62 : decode cX0_roll 62 = .ok (.ireturn, 1) := by decide +kernel
theorem dX0_replace_0 : decode cX0_replace 0 = .ok (.aload_n 0, 1) := by decide +kernel
theorem dX0_replace_1 : decode cX0_replace 1 = .ok (.dup, 1) := by decide +kernel
theorem dX0_replace_2 : decode cX0_replace 2 = .ok (.getfield 21, 3) := by decide +kernel
theorem dX0_replace_5 : decode cX0_replace 5 = .ok (.iconst 1, 1) := by decide +kernel
theorem dX0_replace_6 : decode cX0_replace 6 = .ok (.isub, 1) := by decide +kernel
theorem dX0_replace_7 : decode cX0_replace 7 = .ok (.putfield 21, 3) := by decide +kernel
theorem dX0_replace_10 : decode cX0_replace 10 = .ok (.aload_n 0, 1) := by decide +kernel
theorem dX0_replace_11 : decode cX0_replace 11 = .ok (.getfield 9, 3) := by decide +kernel
theorem dX0_replace_14 : decode cX0_replace 14 = .ok (.iload_n 1, 1) := by decide +kernel
theorem dX0_replace_15 : decode cX0_replace 15 = .ok (.iconst 0, 1) := by decide +kernel
theorem dX0_replace_16 : decode cX0_replace 16 = .ok (.iastore, 1) := by decide +kernel
theorem dX0_replace_17 : decode cX0_replace 17 = .ok (.return_, 1) := by decide +kernel
theorem dX0_stock_0 : decode cX0_stock 0 = .ok (.aload_n 0, 1) := by decide +kernel
theorem dX0_stock_1 : decode cX0_stock 1 = .ok (.dup, 1) := by decide +kernel
theorem dX0_stock_2 : decode cX0_stock 2 = .ok (.getfield 21, 3) := by decide +kernel
theorem dX0_stock_5 : decode cX0_stock 5 = .ok (.iload_n 1, 1) := by decide +kernel
theorem dX0_stock_6 : decode cX0_stock 6 = .ok (.iadd, 1) := by decide +kernel
theorem dX0_stock_7 : decode cX0_stock 7 = .ok (.putfield 21, 3) := by decide +kernel
theorem dX0_stock_10 : decode cX0_stock 10 = .ok (.return_, 1) := by decide +kernel
set_option maxRecDepth 20000 in
theorem ggX0_brokenCount_X0_broken : GoodIn wsX0_brokenCount wsX0_broken := goodIn_r _ [5, 6, 7, 8, 9] (by decide +kernel) (by decide +kernel)
set_option maxRecDepth 20000 in
theorem gX0_brokenCount_X0_broken : GoodIn wsX0_brokenCount (wsV RX0 24 RX0 yX0_broken wsX0_broken) := goodIn_app (goodIn_of _ (by decide +kernel)) ggX0_brokenCount_X0_broken
theorem dX0_brokenCount_0 : decode cX0_brokenCount 0 = .ok (.iconst 0, 1) := by decide +kernel
theorem dX0_brokenCount_1 : decode cX0_brokenCount 1 = .ok (.istore_n 1, 1) := by decide +kernel
theorem dX0_brokenCount_2 : decode cX0_brokenCount 2 = .ok (.iconst 0, 1) := by decide +kernel
theorem dX0_brokenCount_3 : decode cX0_brokenCount 3 = .ok (.istore_n 2, 1) := by decide +kernel
theorem dX0_brokenCount_4 : decode cX0_brokenCount 4 = .ok (.iload_n 2, 1) := by decide +kernel
theorem dX0_brokenCount_5 : decode cX0_brokenCount 5 = .ok (.bipush 9, 2) := by decide +kernel
theorem dX0_brokenCount_7 : decode cX0_brokenCount 7 = .ok (.if_icmp .ge 20, 3) := by decide +kernel
theorem dX0_brokenCount_10 : decode cX0_brokenCount 10 = .ok (.aload_n 0, 1) := by decide +kernel
theorem dX0_brokenCount_11 : decode cX0_brokenCount 11 = .ok (.iload_n 2, 1) := by decide +kernel
theorem dX0_brokenCount_12 : decode cX0_brokenCount 12 = .ok (.invokevirtual 24, 3) := by decide +kernel
theorem dX0_brokenCount_15 : decode cX0_brokenCount 15 = .ok (.ifCond .eq 6, 3) := by decide +kernel
theorem dX0_brokenCount_18 : decode cX0_brokenCount 18 = .ok (.iinc 1 1, 3) := by decide +kernel
theorem dX0_brokenCount_21 : decode cX0_brokenCount 21 = .ok (.iinc 2 1, 3) := by decide +kernel
theorem dX0_brokenCount_24 : decode cX0_brokenCount 24 = .ok (.goto (-20), 3) := by decide +kernel
theorem dX0_brokenCount_27 : decode cX0_brokenCount 27 = .ok (.iload_n 1, 1) := by decide +kernel
theorem dX0_brokenCount_28 : decode cX0_brokenCount 28 = .ok (.ireturn, 1) := by decide +kernel
set_option maxRecDepth 20000 in
theorem ggX0_brokenIfAllFell_X1_holds : GoodIn wsX0_brokenIfAllFell wsX1_holds := goodIn_r _ [6] (by decide +kernel) (by decide +kernel)
set_option maxRecDepth 20000 in
theorem gX0_brokenIfAllFell_X1_holds : GoodIn wsX0_brokenIfAllFell (va_wsS RX0 32 yX1_holds wsX1_holds) := goodIn_app (goodIn_of _ (by decide +kernel)) ggX0_brokenIfAllFell_X1_holds
theorem dX0_brokenIfAllFell_0 : decode cX0_brokenIfAllFell 0 = .ok (.iconst 0, 1) := by decide +kernel
theorem dX0_brokenIfAllFell_1 : decode cX0_brokenIfAllFell 1 = .ok (.istore_n 1, 1) := by decide +kernel
theorem dX0_brokenIfAllFell_2 : decode cX0_brokenIfAllFell 2 = .ok (.iconst 0, 1) := by decide +kernel
theorem dX0_brokenIfAllFell_3 : decode cX0_brokenIfAllFell 3 = .ok (.istore_n 2, 1) := by decide +kernel
theorem dX0_brokenIfAllFell_4 : decode cX0_brokenIfAllFell 4 = .ok (.iload_n 2, 1) := by decide +kernel
theorem dX0_brokenIfAllFell_5 : decode cX0_brokenIfAllFell 5 = .ok (.bipush 9, 2) := by decide +kernel
theorem dX0_brokenIfAllFell_7 : decode cX0_brokenIfAllFell 7 = .ok (.if_icmp .ge 42, 3) := by decide +kernel
theorem dX0_brokenIfAllFell_10 : decode cX0_brokenIfAllFell 10 = .ok (.aload_n 0, 1) := by decide +kernel
theorem dX0_brokenIfAllFell_11 : decode cX0_brokenIfAllFell 11 = .ok (.getfield 17, 3) := by decide +kernel
theorem dX0_brokenIfAllFell_14 : decode cX0_brokenIfAllFell 14 = .ok (.iload_n 2, 1) := by decide +kernel
theorem dX0_brokenIfAllFell_15 : decode cX0_brokenIfAllFell 15 = .ok (.invokestatic 32, 3) := by decide +kernel
theorem dX0_brokenIfAllFell_18 : decode cX0_brokenIfAllFell 18 = .ok (.ifCond .eq 7, 3) := by decide +kernel
theorem dX0_brokenIfAllFell_21 : decode cX0_brokenIfAllFell 21 = .ok (.iconst 1, 1) := by decide +kernel
theorem dX0_brokenIfAllFell_22 : decode cX0_brokenIfAllFell 22 = .ok (.goto 4, 3) := by decide +kernel
theorem dX0_brokenIfAllFell_25 : decode cX0_brokenIfAllFell 25 = .ok (.iconst 0, 1) := by decide +kernel
theorem dX0_brokenIfAllFell_26 : decode cX0_brokenIfAllFell 26 = .ok (.istore_n 3, 1) := by decide +kernel
theorem dX0_brokenIfAllFell_27 : decode cX0_brokenIfAllFell 27 = .ok (.aload_n 0, 1) := by decide +kernel
theorem dX0_brokenIfAllFell_28 : decode cX0_brokenIfAllFell 28 = .ok (.getfield 9, 3) := by decide +kernel
theorem dX0_brokenIfAllFell_31 : decode cX0_brokenIfAllFell 31 = .ok (.iload_n 2, 1) := by decide +kernel
theorem dX0_brokenIfAllFell_32 : decode cX0_brokenIfAllFell 32 = .ok (.iaload, 1) := by decide +kernel
theorem dX0_brokenIfAllFell_33 : decode cX0_brokenIfAllFell 33 = .ok (.iload_n 3, 1) := by decide +kernel
theorem dX0_brokenIfAllFell_34 : decode cX0_brokenIfAllFell 34 = .ok (.iadd, 1) := by decide +kernel
theorem dX0_brokenIfAllFell_35 : decode cX0_brokenIfAllFell 35 = .ok (.bipush 12, 2) := by decide +kernel
theorem dX0_brokenIfAllFell_37 : decode cX0_brokenIfAllFell 37 = .ok (.if_icmp .lt 6, 3) := by decide +kernel
theorem dX0_brokenIfAllFell_40 : decode cX0_brokenIfAllFell 40 = .ok (.iinc 1 1, 3) := by decide +kernel
theorem dX0_brokenIfAllFell_43 : decode cX0_brokenIfAllFell 43 = .ok (.iinc 2 1, 3) := by decide +kernel
theorem dX0_brokenIfAllFell_46 : decode cX0_brokenIfAllFell 46 = .ok (.goto (-42), 3) := by decide +kernel
theorem dX0_brokenIfAllFell_49 : decode cX0_brokenIfAllFell 49 = .ok (.iload_n 1, 1) := by decide +kernel
theorem dX0_brokenIfAllFell_50 : decode cX0_brokenIfAllFell 50 = .ok (.ireturn, 1) := by decide +kernel
set_option maxRecDepth 20000 in
theorem ggX0_mostWornPin_X0_broken : GoodIn wsX0_mostWornPin wsX0_broken := goodIn_r _ [6, 1, 7, 8, 9] (by decide +kernel) (by decide +kernel)
set_option maxRecDepth 20000 in
theorem gX0_mostWornPin_X0_broken : GoodIn wsX0_mostWornPin (wsV RX0 24 RX0 yX0_broken wsX0_broken) := goodIn_app (goodIn_of _ (by decide +kernel)) ggX0_mostWornPin_X0_broken
theorem dX0_mostWornPin_0 : decode cX0_mostWornPin 0 = .ok (.iconst (-1), 1) := by decide +kernel
theorem dX0_mostWornPin_1 : decode cX0_mostWornPin 1 = .ok (.istore_n 1, 1) := by decide +kernel
theorem dX0_mostWornPin_2 : decode cX0_mostWornPin 2 = .ok (.iconst (-1), 1) := by decide +kernel
theorem dX0_mostWornPin_3 : decode cX0_mostWornPin 3 = .ok (.istore_n 2, 1) := by decide +kernel
theorem dX0_mostWornPin_4 : decode cX0_mostWornPin 4 = .ok (.iconst 0, 1) := by decide +kernel
theorem dX0_mostWornPin_5 : decode cX0_mostWornPin 5 = .ok (.istore_n 3, 1) := by decide +kernel
theorem dX0_mostWornPin_6 : decode cX0_mostWornPin 6 = .ok (.iload_n 3, 1) := by decide +kernel
theorem dX0_mostWornPin_7 : decode cX0_mostWornPin 7 = .ok (.bipush 9, 2) := by decide +kernel
theorem dX0_mostWornPin_9 : decode cX0_mostWornPin 9 = .ok (.if_icmp .ge 36, 3) := by decide +kernel
theorem dX0_mostWornPin_12 : decode cX0_mostWornPin 12 = .ok (.aload_n 0, 1) := by decide +kernel
theorem dX0_mostWornPin_13 : decode cX0_mostWornPin 13 = .ok (.iload_n 3, 1) := by decide +kernel
theorem dX0_mostWornPin_14 : decode cX0_mostWornPin 14 = .ok (.invokevirtual 24, 3) := by decide +kernel
theorem dX0_mostWornPin_17 : decode cX0_mostWornPin 17 = .ok (.ifCond .ne 22, 3) := by decide +kernel
theorem dX0_mostWornPin_20 : decode cX0_mostWornPin 20 = .ok (.aload_n 0, 1) := by decide +kernel
theorem dX0_mostWornPin_21 : decode cX0_mostWornPin 21 = .ok (.getfield 9, 3) := by decide +kernel
theorem dX0_mostWornPin_24 : decode cX0_mostWornPin 24 = .ok (.iload_n 3, 1) := by decide +kernel
theorem dX0_mostWornPin_25 : decode cX0_mostWornPin 25 = .ok (.iaload, 1) := by decide +kernel
theorem dX0_mostWornPin_26 : decode cX0_mostWornPin 26 = .ok (.iload_n 2, 1) := by decide +kernel
theorem dX0_mostWornPin_27 : decode cX0_mostWornPin 27 = .ok (.if_icmp .le 12, 3) := by decide +kernel
theorem dX0_mostWornPin_30 : decode cX0_mostWornPin 30 = .ok (.iload_n 3, 1) := by decide +kernel
theorem dX0_mostWornPin_31 : decode cX0_mostWornPin 31 = .ok (.istore_n 1, 1) := by decide +kernel
theorem dX0_mostWornPin_32 : decode cX0_mostWornPin 32 = .ok (.aload_n 0, 1) := by decide +kernel
theorem dX0_mostWornPin_33 : decode cX0_mostWornPin 33 = .ok (.getfield 9, 3) := by decide +kernel
theorem dX0_mostWornPin_36 : decode cX0_mostWornPin 36 = .ok (.iload_n 3, 1) := by decide +kernel
theorem dX0_mostWornPin_37 : decode cX0_mostWornPin 37 = .ok (.iaload, 1) := by decide +kernel
theorem dX0_mostWornPin_38 : decode cX0_mostWornPin 38 = .ok (.istore_n 2, 1) := by decide +kernel
theorem dX0_mostWornPin_39 : decode cX0_mostWornPin 39 = .ok (.iinc 3 1, 3) := by decide +kernel
theorem dX0_mostWornPin_42 : decode cX0_mostWornPin 42 = .ok (.goto (-36), 3) := by decide +kernel
theorem dX0_mostWornPin_45 : decode cX0_mostWornPin 45 = .ok (.iload_n 1, 1) := by decide +kernel
theorem dX0_mostWornPin_46 : decode cX0_mostWornPin 46 = .ok (.ireturn, 1) := by decide +kernel
set_option maxRecDepth 20000 in
theorem ggX0_digestOn_X1_holds : GoodIn wsX0_digestOn wsX1_holds := goodIn_r _ [7] (by decide +kernel) (by decide +kernel)
set_option maxRecDepth 20000 in
theorem gX0_digestOn_X1_holds : GoodIn wsX0_digestOn (va_wsS RX0 32 yX1_holds wsX1_holds) := goodIn_app (goodIn_of _ (by decide +kernel)) ggX0_digestOn_X1_holds
theorem dX0_digestOn_0 : decode cX0_digestOn 0 = .ok (.lload_n 1, 1) := by decide +kernel
theorem dX0_digestOn_1 : decode cX0_digestOn 1 = .ok (.lstore_n 3, 1) := by decide +kernel
theorem dX0_digestOn_2 : decode cX0_digestOn 2 = .ok (.iconst 0, 1) := by decide +kernel
theorem dX0_digestOn_3 : decode cX0_digestOn 3 = .ok (.istore 5, 2) := by decide +kernel
theorem dX0_digestOn_5 : decode cX0_digestOn 5 = .ok (.iload 5, 2) := by decide +kernel
theorem dX0_digestOn_7 : decode cX0_digestOn 7 = .ok (.bipush 9, 2) := by decide +kernel
theorem dX0_digestOn_9 : decode cX0_digestOn 9 = .ok (.if_icmp .ge 49, 3) := by decide +kernel
theorem dX0_digestOn_12 : decode cX0_digestOn 12 = .ok (.lload_n 3, 1) := by decide +kernel
theorem dX0_digestOn_13 : decode cX0_digestOn 13 = .ok (.ldc2_w 42, 3) := by decide +kernel
theorem dX0_digestOn_16 : decode cX0_digestOn 16 = .ok (.lmul, 1) := by decide +kernel
theorem dX0_digestOn_17 : decode cX0_digestOn 17 = .ok (.aload_n 0, 1) := by decide +kernel
theorem dX0_digestOn_18 : decode cX0_digestOn 18 = .ok (.getfield 17, 3) := by decide +kernel
theorem dX0_digestOn_21 : decode cX0_digestOn 21 = .ok (.iload 5, 2) := by decide +kernel
theorem dX0_digestOn_23 : decode cX0_digestOn 23 = .ok (.invokestatic 32, 3) := by decide +kernel
theorem dX0_digestOn_26 : decode cX0_digestOn 26 = .ok (.ifCond .eq 7, 3) := by decide +kernel
theorem dX0_digestOn_29 : decode cX0_digestOn 29 = .ok (.iconst 1, 1) := by decide +kernel
theorem dX0_digestOn_30 : decode cX0_digestOn 30 = .ok (.goto 4, 3) := by decide +kernel
theorem dX0_digestOn_33 : decode cX0_digestOn 33 = .ok (.iconst 0, 1) := by decide +kernel
theorem dX0_digestOn_34 : decode cX0_digestOn 34 = .ok (.i2l, 1) := by decide +kernel
theorem dX0_digestOn_35 : decode cX0_digestOn 35 = .ok (.ladd, 1) := by decide +kernel
theorem dX0_digestOn_36 : decode cX0_digestOn 36 = .ok (.lstore_n 3, 1) := by decide +kernel
theorem dX0_digestOn_37 : decode cX0_digestOn 37 = .ok (.lload_n 3, 1) := by decide +kernel
theorem dX0_digestOn_38 : decode cX0_digestOn 38 = .ok (.ldc2_w 42, 3) := by decide +kernel
theorem dX0_digestOn_41 : decode cX0_digestOn 41 = .ok (.lmul, 1) := by decide +kernel
theorem dX0_digestOn_42 : decode cX0_digestOn 42 = .ok (.aload_n 0, 1) := by decide +kernel
theorem dX0_digestOn_43 : decode cX0_digestOn 43 = .ok (.getfield 9, 3) := by decide +kernel
theorem dX0_digestOn_46 : decode cX0_digestOn 46 = .ok (.iload 5, 2) := by decide +kernel
theorem dX0_digestOn_48 : decode cX0_digestOn 48 = .ok (.iaload, 1) := by decide +kernel
theorem dX0_digestOn_49 : decode cX0_digestOn 49 = .ok (.i2l, 1) := by decide +kernel
theorem dX0_digestOn_50 : decode cX0_digestOn 50 = .ok (.ladd, 1) := by decide +kernel
theorem dX0_digestOn_51 : decode cX0_digestOn 51 = .ok (.lstore_n 3, 1) := by decide +kernel
theorem dX0_digestOn_52 : decode cX0_digestOn 52 = .ok (.iinc 5 1, 3) := by decide +kernel
theorem dX0_digestOn_55 : decode cX0_digestOn 55 = .ok (.goto (-50), 3) := by decide +kernel
theorem dX0_digestOn_58 : decode cX0_digestOn 58 = .ok (.lload_n 3, 1) := by decide +kernel
theorem dX0_digestOn_59 : decode cX0_digestOn 59 = .ok (.lreturn, 1) := by decide +kernel
theorem dX1_holds_0 : decode cX1_holds 0 = .ok (.iload_n 0, 1) := by decide +kernel
theorem dX1_holds_1 : decode cX1_holds 1 = .ok (.iload_n 1, 1) := by decide +kernel
theorem dX1_holds_2 : decode cX1_holds 2 = .ok (.ishr, 1) := by decide +kernel
theorem dX1_holds_3 : decode cX1_holds 3 = .ok (.iconst 1, 1) := by decide +kernel
theorem dX1_holds_4 : decode cX1_holds 4 = .ok (.iand, 1) := by decide +kernel
theorem dX1_holds_5 : decode cX1_holds 5 = .ok (.ifCond .eq 7, 3) := by decide +kernel
theorem dX1_holds_8 : decode cX1_holds 8 = .ok (.iconst 1, 1) := by decide +kernel
theorem dX1_holds_9 : decode cX1_holds 9 = .ok (.goto 4, 3) := by decide +kernel
theorem dX1_holds_12 : decode cX1_holds 12 = .ok (.iconst 0, 1) := by decide +kernel
theorem dX1_holds_13 : decode cX1_holds 13 = .ok (.ireturn, 1) := by decide +kernel
set_option maxRecDepth 20000 in
theorem ggX1_last_X1_holds : GoodIn wsX1_last wsX1_holds := goodIn_r _ [4] (by decide +kernel) (by decide +kernel)
set_option maxRecDepth 20000 in
theorem gX1_last_X1_holds : GoodIn wsX1_last (va_wsS RX1 9 yX1_holds wsX1_holds) := goodIn_app (goodIn_of _ (by decide +kernel)) ggX1_last_X1_holds
theorem dX1_last_0 : decode cX1_last 0 = .ok (.bipush 8, 2) := by decide +kernel
theorem dX1_last_2 : decode cX1_last 2 = .ok (.istore_n 1, 1) := by decide +kernel
theorem dX1_last_3 : decode cX1_last 3 = .ok (.iload_n 1, 1) := by decide +kernel
theorem dX1_last_4 : decode cX1_last 4 = .ok (.ifCond .lt 19, 3) := by decide +kernel
theorem dX1_last_7 : decode cX1_last 7 = .ok (.iload_n 0, 1) := by decide +kernel
theorem dX1_last_8 : decode cX1_last 8 = .ok (.iload_n 1, 1) := by decide +kernel
theorem dX1_last_9 : decode cX1_last 9 = .ok (.invokestatic 9, 3) := by decide +kernel
theorem dX1_last_12 : decode cX1_last 12 = .ok (.ifCond .eq 5, 3) := by decide +kernel
theorem dX1_last_15 : decode cX1_last 15 = .ok (.iload_n 1, 1) := by decide +kernel
theorem dX1_last_16 : decode cX1_last 16 = .ok (.ireturn, 1) := by decide +kernel
theorem dX1_last_17 : decode cX1_last 17 = .ok (.iinc 1 (-1), 3) := by decide +kernel
theorem dX1_last_20 : decode cX1_last 20 = .ok (.goto (-17), 3) := by decide +kernel
theorem dX1_last_23 : decode cX1_last 23 = .ok (.iconst (-1), 1) := by decide +kernel
theorem dX1_last_24 : decode cX1_last 24 = .ok (.ireturn, 1) := by decide +kernel
set_option maxRecDepth 20000 in
theorem ggX1_felled_X1_afterHit : GoodIn wsX1_felled wsX1_afterHit := goodIn_r _ [4, 5, 6, 3, 7, 8, 9, 10, 11, 1, 2] (by decide +kernel) (by decide +kernel)
set_option maxRecDepth 20000 in
theorem gX1_felled_X1_afterHit : GoodIn wsX1_felled (va_wsS RX1 15 yX1_afterHit wsX1_afterHit) := goodIn_app (goodIn_of _ (by decide +kernel)) ggX1_felled_X1_afterHit
theorem dX1_felled_0 : decode cX1_felled 0 = .ok (.iload_n 0, 1) := by decide +kernel
theorem dX1_felled_1 : decode cX1_felled 1 = .ok (.istore_n 3, 1) := by decide +kernel
theorem dX1_felled_2 : decode cX1_felled 2 = .ok (.iload_n 1, 1) := by decide +kernel
theorem dX1_felled_3 : decode cX1_felled 3 = .ok (.iconst 2, 1) := by decide +kernel
theorem dX1_felled_4 : decode cX1_felled 4 = .ok (.iadd, 1) := by decide +kernel
theorem dX1_felled_5 : decode cX1_felled 5 = .ok (.istore 4, 2) := by decide +kernel
theorem dX1_felled_7 : decode cX1_felled 7 = .ok (.iconst 0, 1) := by decide +kernel
theorem dX1_felled_8 : decode cX1_felled 8 = .ok (.istore 5, 2) := by decide +kernel
theorem dX1_felled_10 : decode cX1_felled 10 = .ok (.iload 5, 2) := by decide +kernel
theorem dX1_felled_12 : decode cX1_felled 12 = .ok (.iconst 5, 1) := by decide +kernel
theorem dX1_felled_13 : decode cX1_felled 13 = .ok (.if_icmp .ge 37, 3) := by decide +kernel
theorem dX1_felled_16 : decode cX1_felled 16 = .ok (.iload 4, 2) := by decide +kernel
theorem dX1_felled_18 : decode cX1_felled 18 = .ok (.ifCond .le 32, 3) := by decide +kernel
theorem dX1_felled_21 : decode cX1_felled 21 = .ok (.iload_n 3, 1) := by decide +kernel
theorem dX1_felled_22 : decode cX1_felled 22 = .ok (.iload 5, 2) := by decide +kernel
theorem dX1_felled_24 : decode cX1_felled 24 = .ok (.iload_n 2, 1) := by decide +kernel
theorem dX1_felled_25 : decode cX1_felled 25 = .ok (.iload 4, 2) := by decide +kernel
theorem dX1_felled_27 : decode cX1_felled 27 = .ok (.invokestatic 15, 3) := by decide +kernel
theorem dX1_felled_30 : decode cX1_felled 30 = .ok (.istore 6, 2) := by decide +kernel
theorem dX1_felled_32 : decode cX1_felled 32 = .ok (.iload 6, 2) := by decide +kernel
theorem dX1_felled_34 : decode cX1_felled 34 = .ok (.iload_n 3, 1) := by decide +kernel
theorem dX1_felled_35 : decode cX1_felled 35 = .ok (.if_icmp .eq 9, 3) := by decide +kernel
theorem dX1_felled_38 : decode cX1_felled 38 = .ok (.iload 6, 2) := by decide +kernel
theorem dX1_felled_40 : decode cX1_felled 40 = .ok (.istore_n 3, 1) := by decide +kernel
theorem dX1_felled_41 : decode cX1_felled 41 = .ok (.iinc 4 (-1), 3) := by decide +kernel
theorem dX1_felled_44 : decode cX1_felled 44 = .ok (.iinc 5 1, 3) := by decide +kernel
theorem dX1_felled_47 : decode cX1_felled 47 = .ok (.goto (-37), 3) := by decide +kernel
theorem dX1_felled_50 : decode cX1_felled 50 = .ok (.iload_n 0, 1) := by decide +kernel
theorem dX1_felled_51 : decode cX1_felled 51 = .ok (.iload_n 3, 1) := by decide +kernel
theorem dX1_felled_52 : decode cX1_felled 52 = .ok (.iconst (-1), 1) := by decide +kernel
theorem dX1_felled_53 : decode cX1_felled 53 = .ok (.ixor, 1) := by decide +kernel
theorem dX1_felled_54 : decode cX1_felled 54 = .ok (.iand, 1) := by decide +kernel
theorem dX1_felled_55 : decode cX1_felled 55 = .ok (.ireturn, 1) := by decide +kernel
set_option maxRecDepth 20000 in
theorem ggX1_afterHit_X1_pinAt : GoodIn wsX1_afterHit wsX1_pinAt := goodIn_r _ [4, 5] (by decide +kernel) (by decide +kernel)
set_option maxRecDepth 20000 in
theorem gX1_afterHit_X1_pinAt : GoodIn wsX1_afterHit (va_wsS RX1 19 yX1_pinAt wsX1_pinAt) := goodIn_app (goodIn_of _ (by decide +kernel)) ggX1_afterHit_X1_pinAt
set_option maxRecDepth 20000 in
theorem ggX1_afterHit_X1_holds : GoodIn wsX1_afterHit wsX1_holds := goodIn_r _ [8] (by decide +kernel) (by decide +kernel)
set_option maxRecDepth 20000 in
theorem gX1_afterHit_X1_holds : GoodIn wsX1_afterHit (va_wsS RX1 9 yX1_holds wsX1_holds) := goodIn_app (goodIn_of _ (by decide +kernel)) ggX1_afterHit_X1_holds
set_option maxRecDepth 20000 in
theorem ggX1_afterHit_X1_afterHit : GoodIn wsX1_afterHit wsX1_afterHit := goodIn_r _ [0, 1, 2, 3, 4, 5, 6, 7, 8, 9, 10] (by decide +kernel) (by decide +kernel)
set_option maxRecDepth 20000 in
theorem gX1_afterHit_X1_afterHit : GoodIn wsX1_afterHit (va_wsS RX1 15 yX1_afterHit wsX1_afterHit) := goodIn_app (goodIn_of _ (by decide +kernel)) ggX1_afterHit_X1_afterHit
theorem dX1_afterHit_0 : decode cX1_afterHit 0 = .ok (.iload_n 1, 1) := by decide +kernel
theorem dX1_afterHit_1 : decode cX1_afterHit 1 = .ok (.iload_n 2, 1) := by decide +kernel
theorem dX1_afterHit_2 : decode cX1_afterHit 2 = .ok (.invokestatic 19, 3) := by decide +kernel
theorem dX1_afterHit_5 : decode cX1_afterHit 5 = .ok (.istore 4, 2) := by decide +kernel
theorem dX1_afterHit_7 : decode cX1_afterHit 7 = .ok (.iload_n 3, 1) := by decide +kernel
theorem dX1_afterHit_8 : decode cX1_afterHit 8 = .ok (.iconst 1, 1) := by decide +kernel
theorem dX1_afterHit_9 : decode cX1_afterHit 9 = .ok (.if_icmp .lt 18, 3) := by decide +kernel
theorem dX1_afterHit_12 : decode cX1_afterHit 12 = .ok (.iload 4, 2) := by decide +kernel
theorem dX1_afterHit_14 : decode cX1_afterHit 14 = .ok (.iconst (-1), 1) := by decide +kernel
theorem dX1_afterHit_15 : decode cX1_afterHit 15 = .ok (.if_icmp .eq 12, 3) := by decide +kernel
theorem dX1_afterHit_18 : decode cX1_afterHit 18 = .ok (.iload_n 0, 1) := by decide +kernel
theorem dX1_afterHit_19 : decode cX1_afterHit 19 = .ok (.iload 4, 2) := by decide +kernel
theorem dX1_afterHit_21 : decode cX1_afterHit 21 = .ok (.invokestatic 9, 3) := by decide +kernel
theorem dX1_afterHit_24 : decode cX1_afterHit 24 = .ok (.ifCond .ne 5, 3) := by decide +kernel
theorem dX1_afterHit_27 : decode cX1_afterHit 27 = .ok (.iload_n 0, 1) := by decide +kernel
theorem dX1_afterHit_28 : decode cX1_afterHit 28 = .ok (.ireturn, 1) := by decide +kernel
theorem dX1_afterHit_29 : decode cX1_afterHit 29 = .ok (.iload_n 0, 1) := by decide +kernel
theorem dX1_afterHit_30 : decode cX1_afterHit 30 = .ok (.iconst 1, 1) := by decide +kernel
theorem dX1_afterHit_31 : decode cX1_afterHit 31 = .ok (.iload 4, 2) := by decide +kernel
theorem dX1_afterHit_33 : decode cX1_afterHit 33 = .ok (.ishl, 1) := by decide +kernel
theorem dX1_afterHit_34 : decode cX1_afterHit 34 = .ok (.iconst (-1), 1) := by decide +kernel
theorem dX1_afterHit_35 : decode cX1_afterHit 35 = .ok (.ixor, 1) := by decide +kernel
theorem dX1_afterHit_36 : decode cX1_afterHit 36 = .ok (.iand, 1) := by decide +kernel
theorem dX1_afterHit_37 : decode cX1_afterHit 37 = .ok (.istore 5, 2) := by decide +kernel
theorem dX1_afterHit_39 : decode cX1_afterHit 39 = .ok (.iload 5, 2) := by decide +kernel
theorem dX1_afterHit_41 : decode cX1_afterHit 41 = .ok (.iload_n 1, 1) := by decide +kernel
theorem dX1_afterHit_42 : decode cX1_afterHit 42 = .ok (.iconst 1, 1) := by decide +kernel
theorem dX1_afterHit_43 : decode cX1_afterHit 43 = .ok (.iadd, 1) := by decide +kernel
theorem dX1_afterHit_44 : decode cX1_afterHit 44 = .ok (.iload_n 2, 1) := by decide +kernel
theorem dX1_afterHit_45 : decode cX1_afterHit 45 = .ok (.iconst 1, 1) := by decide +kernel
theorem dX1_afterHit_46 : decode cX1_afterHit 46 = .ok (.isub, 1) := by decide +kernel
theorem dX1_afterHit_47 : decode cX1_afterHit 47 = .ok (.iload_n 3, 1) := by decide +kernel
theorem dX1_afterHit_48 : decode cX1_afterHit 48 = .ok (.iconst 2, 1) := by decide +kernel
theorem dX1_afterHit_49 : decode cX1_afterHit 49 = .ok (.isub, 1) := by decide +kernel
theorem dX1_afterHit_50 : decode cX1_afterHit 50 = .ok (.invokestatic 15, 3) := by decide +kernel
theorem dX1_afterHit_53 : decode cX1_afterHit 53 = .ok (.istore 5, 2) := by decide +kernel
theorem dX1_afterHit_55 : decode cX1_afterHit 55 = .ok (.iload 5, 2) := by decide +kernel
theorem dX1_afterHit_57 : decode cX1_afterHit 57 = .ok (.iload_n 1, 1) := by decide +kernel
theorem dX1_afterHit_58 : decode cX1_afterHit 58 = .ok (.iconst 1, 1) := by decide +kernel
theorem dX1_afterHit_59 : decode cX1_afterHit 59 = .ok (.iadd, 1) := by decide +kernel
theorem dX1_afterHit_60 : decode cX1_afterHit 60 = .ok (.iload_n 2, 1) := by decide +kernel
theorem dX1_afterHit_61 : decode cX1_afterHit 61 = .ok (.iconst 1, 1) := by decide +kernel
theorem dX1_afterHit_62 : decode cX1_afterHit 62 = .ok (.iadd, 1) := by decide +kernel
theorem dX1_afterHit_63 : decode cX1_afterHit 63 = .ok (.iload_n 3, 1) := by decide +kernel
theorem dX1_afterHit_64 : decode cX1_afterHit 64 = .ok (.iconst 2, 1) := by decide +kernel
theorem dX1_afterHit_65 : decode cX1_afterHit 65 = .ok (.isub, 1) := by decide +kernel
theorem dX1_afterHit_66 : decode cX1_afterHit 66 = .ok (.invokestatic 15, 3) := by decide +kernel
theorem dX1_afterHit_69 : decode cX1_afterHit 69 = .ok (.ireturn, 1) := by decide +kernel
set_option maxRecDepth 20000 in
theorem ggX1_canClear_X1_holds : GoodIn wsX1_canClear wsX1_holds := goodIn_r _ [4] (by decide +kernel) (by decide +kernel)
set_option maxRecDepth 20000 in
theorem gX1_canClear_X1_holds : GoodIn wsX1_canClear (va_wsS RX1 9 yX1_holds wsX1_holds) := goodIn_app (goodIn_of _ (by decide +kernel)) ggX1_canClear_X1_holds
set_option maxRecDepth 20000 in
theorem ggX1_canClear_X1_felled : GoodIn wsX1_canClear wsX1_felled := goodIn_r _ [7, 8, 9, 3, 10, 11, 12, 13, 14, 1, 2, 4] (by decide +kernel) (by decide +kernel)
set_option maxRecDepth 20000 in
theorem gX1_canClear_X1_felled : GoodIn wsX1_canClear (va_wsS RX1 23 yX1_felled wsX1_felled) := goodIn_app (goodIn_of _ (by decide +kernel)) ggX1_canClear_X1_felled
set_option maxRecDepth 20000 in
theorem ggX1_canClear_X1_canClear : GoodIn wsX1_canClear wsX1_canClear := goodIn_r _ [0, 1, 2, 3, 4, 5, 6, 7, 8, 9, 10, 11, 12, 13, 14, 15, 16] (by decide +kernel) (by decide +kernel)
set_option maxRecDepth 20000 in
theorem gX1_canClear_X1_canClear : GoodIn wsX1_canClear (va_wsS RX1 27 yX1_canClear wsX1_canClear) := goodIn_app (goodIn_of _ (by decide +kernel)) ggX1_canClear_X1_canClear
theorem dX1_canClear_0 : decode cX1_canClear 0 = .ok (.iload_n 0, 1) := by decide +kernel
theorem dX1_canClear_1 : decode cX1_canClear 1 = .ok (.ifCond .eq 7, 3) := by decide +kernel
theorem dX1_canClear_4 : decode cX1_canClear 4 = .ok (.iload_n 2, 1) := by decide +kernel
theorem dX1_canClear_5 : decode cX1_canClear 5 = .ok (.ifCond .gt 13, 3) := by decide +kernel
theorem dX1_canClear_8 : decode cX1_canClear 8 = .ok (.iload_n 0, 1) := by decide +kernel
theorem dX1_canClear_9 : decode cX1_canClear 9 = .ok (.ifCond .ne 7, 3) := by decide +kernel
theorem dX1_canClear_12 : decode cX1_canClear 12 = .ok (.iconst 1, 1) := by decide +kernel
theorem dX1_canClear_13 : decode cX1_canClear 13 = .ok (.goto 4, 3) := by decide +kernel
theorem dX1_canClear_16 : decode cX1_canClear 16 = .ok (.iconst 0, 1) := by decide +kernel
theorem dX1_canClear_17 : decode cX1_canClear 17 = .ok (.ireturn, 1) := by decide +kernel
theorem dX1_canClear_18 : decode cX1_canClear 18 = .ok (.iconst 0, 1) := by decide +kernel
theorem dX1_canClear_19 : decode cX1_canClear 19 = .ok (.istore_n 3, 1) := by decide +kernel
theorem dX1_canClear_20 : decode cX1_canClear 20 = .ok (.iload_n 3, 1) := by decide +kernel
theorem dX1_canClear_21 : decode cX1_canClear 21 = .ok (.iconst 5, 1) := by decide +kernel
theorem dX1_canClear_22 : decode cX1_canClear 22 = .ok (.if_icmp .ge 68, 3) := by decide +kernel
theorem dX1_canClear_25 : decode cX1_canClear 25 = .ok (.iconst 0, 1) := by decide +kernel
theorem dX1_canClear_26 : decode cX1_canClear 26 = .ok (.istore 4, 2) := by decide +kernel
theorem dX1_canClear_28 : decode cX1_canClear 28 = .ok (.iload 4, 2) := by decide +kernel
theorem dX1_canClear_30 : decode cX1_canClear 30 = .ok (.iconst 5, 1) := by decide +kernel
theorem dX1_canClear_31 : decode cX1_canClear 31 = .ok (.if_icmp .ge 53, 3) := by decide +kernel
theorem dX1_canClear_34 : decode cX1_canClear 34 = .ok (.iload_n 1, 1) := by decide +kernel
theorem dX1_canClear_35 : decode cX1_canClear 35 = .ok (.iload_n 3, 1) := by decide +kernel
theorem dX1_canClear_36 : decode cX1_canClear 36 = .ok (.invokestatic 9, 3) := by decide +kernel
theorem dX1_canClear_39 : decode cX1_canClear 39 = .ok (.ifCond .ne 45, 3) := by decide +kernel
theorem dX1_canClear_42 : decode cX1_canClear 42 = .ok (.iload_n 0, 1) := by decide +kernel
theorem dX1_canClear_43 : decode cX1_canClear 43 = .ok (.iload_n 3, 1) := by decide +kernel
theorem dX1_canClear_44 : decode cX1_canClear 44 = .ok (.iload 4, 2) := by decide +kernel
theorem dX1_canClear_46 : decode cX1_canClear 46 = .ok (.invokestatic 23, 3) := by decide +kernel
theorem dX1_canClear_49 : decode cX1_canClear 49 = .ok (.istore 5, 2) := by decide +kernel
theorem dX1_canClear_51 : decode cX1_canClear 51 = .ok (.iload 5, 2) := by decide +kernel
theorem dX1_canClear_53 : decode cX1_canClear 53 = .ok (.ifCond .eq 25, 3) := by decide +kernel
theorem dX1_canClear_56 : decode cX1_canClear 56 = .ok (.iload_n 0, 1) := by decide +kernel
theorem dX1_canClear_57 : decode cX1_canClear 57 = .ok (.iload 5, 2) := by decide +kernel
theorem dX1_canClear_59 : decode cX1_canClear 59 = .ok (.iconst (-1), 1) := by decide +kernel
theorem dX1_canClear_60 : decode cX1_canClear 60 = .ok (.ixor, 1) := by decide +kernel
theorem dX1_canClear_61 : decode cX1_canClear 61 = .ok (.iand, 1) := by decide +kernel
theorem dX1_canClear_62 : decode cX1_canClear 62 = .ok (.iload_n 1, 1) := by decide +kernel
theorem dX1_canClear_63 : decode cX1_canClear 63 = .ok (.iconst 1, 1) := by decide +kernel
theorem dX1_canClear_64 : decode cX1_canClear 64 = .ok (.iload_n 3, 1) := by decide +kernel
theorem dX1_canClear_65 : decode cX1_canClear 65 = .ok (.ishl, 1) := by decide +kernel
theorem dX1_canClear_66 : decode cX1_canClear 66 = .ok (.ior, 1) := by decide +kernel
theorem dX1_canClear_67 : decode cX1_canClear 67 = .ok (.iload_n 2, 1) := by decide +kernel
theorem dX1_canClear_68 : decode cX1_canClear 68 = .ok (.iconst 1, 1) := by decide +kernel
theorem dX1_canClear_69 : decode cX1_canClear 69 = .ok (.isub, 1) := by decide +kernel
theorem dX1_canClear_70 : decode cX1_canClear 70 = .ok (.invokestatic 27, 3) := by decide +kernel
theorem dX1_canClear_73 : decode cX1_canClear 73 = .ok (.ifCond .eq 5, 3) := by decide +kernel
theorem dX1_canClear_76 : decode cX1_canClear 76 = .ok (.iconst 1, 1) := by decide +kernel
theorem dX1_canClear_77 : decode cX1_canClear 77 = .ok (.ireturn, 1) := by decide +kernel
theorem dX1_canClear_78 : decode cX1_canClear 78 = .ok (.iinc 4 1, 3) := by decide +kernel
theorem dX1_canClear_81 : decode cX1_canClear 81 = .ok (.goto (-53), 3) := by decide +kernel
theorem dX1_canClear_84 : decode cX1_canClear 84 = .ok (.iinc 3 1, 3) := by decide +kernel
theorem dX1_canClear_87 : decode cX1_canClear 87 = .ok (.goto (-67), 3) := by decide +kernel
theorem dX1_canClear_90 : decode cX1_canClear 90 = .ok (.iconst 0, 1) := by decide +kernel
theorem dX1_canClear_91 : decode cX1_canClear 91 = .ok (.ireturn, 1) := by decide +kernel
theorem dX1_pinAt_0 : decode cX1_pinAt 0 = .ok (.iload_n 0, 1) := by decide +kernel
theorem dX1_pinAt_1 : decode cX1_pinAt 1 = .ok (.ifCond .lt 17, 3) := by decide +kernel
theorem dX1_pinAt_4 : decode cX1_pinAt 4 = .ok (.iload_n 0, 1) := by decide +kernel
theorem dX1_pinAt_5 : decode cX1_pinAt 5 = .ok (.iconst 5, 1) := by decide +kernel
theorem dX1_pinAt_6 : decode cX1_pinAt 6 = .ok (.if_icmp .ge 12, 3) := by decide +kernel
theorem dX1_pinAt_9 : decode cX1_pinAt 9 = .ok (.iload_n 1, 1) := by decide +kernel
theorem dX1_pinAt_10 : decode cX1_pinAt 10 = .ok (.ifCond .lt 8, 3) := by decide +kernel
theorem dX1_pinAt_13 : decode cX1_pinAt 13 = .ok (.iload_n 1, 1) := by decide +kernel
theorem dX1_pinAt_14 : decode cX1_pinAt 14 = .ok (.iconst 5, 1) := by decide +kernel
theorem dX1_pinAt_15 : decode cX1_pinAt 15 = .ok (.if_icmp .lt 5, 3) := by decide +kernel
theorem dX1_pinAt_18 : decode cX1_pinAt 18 = .ok (.iconst (-1), 1) := by decide +kernel
theorem dX1_pinAt_19 : decode cX1_pinAt 19 = .ok (.ireturn, 1) := by decide +kernel
theorem dX1_pinAt_20 : decode cX1_pinAt 20 = .ok (.getstatic 31, 3) := by decide +kernel
theorem dX1_pinAt_23 : decode cX1_pinAt 23 = .ok (.iload_n 0, 1) := by decide +kernel
theorem dX1_pinAt_24 : decode cX1_pinAt 24 = .ok (.iconst 5, 1) := by decide +kernel
theorem dX1_pinAt_25 : decode cX1_pinAt 25 = .ok (.imul, 1) := by decide +kernel
theorem dX1_pinAt_26 : decode cX1_pinAt 26 = .ok (.iload_n 1, 1) := by decide +kernel
theorem dX1_pinAt_27 : decode cX1_pinAt 27 = .ok (.iadd, 1) := by decide +kernel
theorem dX1_pinAt_28 : decode cX1_pinAt 28 = .ok (.iaload, 1) := by decide +kernel
theorem dX1_pinAt_29 : decode cX1_pinAt 29 = .ok (.ireturn, 1) := by decide +kernel
theorem dX2_init_0 : decode cX2_init 0 = .ok (.aload_n 0, 1) := by decide +kernel
theorem dX2_init_1 : decode cX2_init 1 = .ok (.invokespecial 3, 3) := by decide +kernel
theorem dX2_init_4 : decode cX2_init 4 = .ok (.aload_n 0, 1) := by decide +kernel
theorem dX2_init_5 : decode cX2_init 5 = .ok (.iconst 5, 1) := by decide +kernel
theorem dX2_init_6 : decode cX2_init 6 = .ok (.newarray .int, 2) := by decide +kernel
theorem dX2_init_8 : decode cX2_init 8 = .ok (.putfield 9, 3) := by decide +kernel
theorem dX2_init_11 : decode cX2_init 11 = .ok (.return_, 1) := by decide +kernel
theorem dX2_throwsAway_0 : decode cX2_throwsAway 0 = .ok (.aload_n 0, 1) := by decide +kernel
theorem dX2_throwsAway_1 : decode cX2_throwsAway 1 = .ok (.getfield 9, 3) := by decide +kernel
theorem dX2_throwsAway_4 : decode cX2_throwsAway 4 = .ok (.iload_n 1, 1) := by decide +kernel
theorem dX2_throwsAway_5 : decode cX2_throwsAway 5 = .ok (.iaload, 1) := by decide +kernel
theorem dX2_throwsAway_6 : decode cX2_throwsAway 6 = .ok (.ireturn, 1) := by decide +kernel
theorem dX2_send_0 : decode cX2_send 0 = .ok (.iconst 0, 1) := by decide +kernel
theorem dX2_send_1 : decode cX2_send 1 = .ok (.istore_n 2, 1) := by decide +kernel
theorem dX2_send_2 : decode cX2_send 2 = .ok (.iload_n 2, 1) := by decide +kernel
theorem dX2_send_3 : decode cX2_send 3 = .ok (.iconst 5, 1) := by decide +kernel
theorem dX2_send_4 : decode cX2_send 4 = .ok (.if_icmp .ge 27, 3) := by decide +kernel
theorem dX2_send_7 : decode cX2_send 7 = .ok (.aload_n 0, 1) := by decide +kernel
theorem dX2_send_8 : decode cX2_send 8 = .ok (.getfield 9, 3) := by decide +kernel
theorem dX2_send_11 : decode cX2_send 11 = .ok (.iload_n 2, 1) := by decide +kernel
theorem dX2_send_12 : decode cX2_send 12 = .ok (.iconst 0, 1) := by decide +kernel
theorem dX2_send_13 : decode cX2_send 13 = .ok (.aload_n 0, 1) := by decide +kernel
theorem dX2_send_14 : decode cX2_send 14 = .ok (.getfield 9, 3) := by decide +kernel
theorem dX2_send_17 : decode cX2_send 17 = .ok (.iload_n 2, 1) := by decide +kernel
theorem dX2_send_18 : decode cX2_send 18 = .ok (.iaload, 1) := by decide +kernel
theorem dX2_send_19 : decode cX2_send 19 = .ok (.iconst 1, 1) := by decide +kernel
theorem dX2_send_20 : decode cX2_send 20 = .ok (.isub, 1) := by decide +kernel
theorem dX2_send_21 : decode cX2_send 21 = .ok (.invokestatic 15, 3) := by decide +kernel
theorem dX2_send_24 : decode cX2_send 24 = .ok (.iastore, 1) := by decide +kernel
theorem dX2_send_25 : decode cX2_send 25 = .ok (.iinc 2 1, 3) := by decide +kernel
theorem dX2_send_28 : decode cX2_send 28 = .ok (.goto (-26), 3) := by decide +kernel
theorem dX2_send_31 : decode cX2_send 31 = .ok (.aload_n 0, 1) := by decide +kernel
theorem dX2_send_32 : decode cX2_send 32 = .ok (.getfield 9, 3) := by decide +kernel
theorem dX2_send_35 : decode cX2_send 35 = .ok (.iload_n 1, 1) := by decide +kernel
theorem dX2_send_36 : decode cX2_send 36 = .ok (.iconst 2, 1) := by decide +kernel
theorem dX2_send_37 : decode cX2_send 37 = .ok (.iastore, 1) := by decide +kernel
theorem dX2_send_38 : decode cX2_send 38 = .ok (.return_, 1) := by decide +kernel
theorem dX2_returnAll_0 : decode cX2_returnAll 0 = .ok (.iconst 0, 1) := by decide +kernel
theorem dX2_returnAll_1 : decode cX2_returnAll 1 = .ok (.istore_n 1, 1) := by decide +kernel
theorem dX2_returnAll_2 : decode cX2_returnAll 2 = .ok (.iload_n 1, 1) := by decide +kernel
theorem dX2_returnAll_3 : decode cX2_returnAll 3 = .ok (.iconst 5, 1) := by decide +kernel
theorem dX2_returnAll_4 : decode cX2_returnAll 4 = .ok (.if_icmp .ge 16, 3) := by decide +kernel
theorem dX2_returnAll_7 : decode cX2_returnAll 7 = .ok (.aload_n 0, 1) := by decide +kernel
theorem dX2_returnAll_8 : decode cX2_returnAll 8 = .ok (.getfield 9, 3) := by decide +kernel
theorem dX2_returnAll_11 : decode cX2_returnAll 11 = .ok (.iload_n 1, 1) := by decide +kernel
theorem dX2_returnAll_12 : decode cX2_returnAll 12 = .ok (.iconst 0, 1) := by decide +kernel
theorem dX2_returnAll_13 : decode cX2_returnAll 13 = .ok (.iastore, 1) := by decide +kernel
theorem dX2_returnAll_14 : decode cX2_returnAll 14 = .ok (.iinc 1 1, 3) := by decide +kernel
theorem dX2_returnAll_17 : decode cX2_returnAll 17 = .ok (.goto (-15), 3) := by decide +kernel
theorem dX2_returnAll_20 : decode cX2_returnAll 20 = .ok (.return_, 1) := by decide +kernel
theorem dX2_digestOn_0 : decode cX2_digestOn 0 = .ok (.lload_n 1, 1) := by decide +kernel
theorem dX2_digestOn_1 : decode cX2_digestOn 1 = .ok (.lstore_n 3, 1) := by decide +kernel
theorem dX2_digestOn_2 : decode cX2_digestOn 2 = .ok (.iconst 0, 1) := by decide +kernel
theorem dX2_digestOn_3 : decode cX2_digestOn 3 = .ok (.istore 5, 2) := by decide +kernel
theorem dX2_digestOn_5 : decode cX2_digestOn 5 = .ok (.iload 5, 2) := by decide +kernel
theorem dX2_digestOn_7 : decode cX2_digestOn 7 = .ok (.iconst 5, 1) := by decide +kernel
theorem dX2_digestOn_8 : decode cX2_digestOn 8 = .ok (.if_icmp .ge 24, 3) := by decide +kernel
theorem dX2_digestOn_11 : decode cX2_digestOn 11 = .ok (.lload_n 3, 1) := by decide +kernel
theorem dX2_digestOn_12 : decode cX2_digestOn 12 = .ok (.ldc2_w 21, 3) := by decide +kernel
theorem dX2_digestOn_15 : decode cX2_digestOn 15 = .ok (.lmul, 1) := by decide +kernel
theorem dX2_digestOn_16 : decode cX2_digestOn 16 = .ok (.aload_n 0, 1) := by decide +kernel
theorem dX2_digestOn_17 : decode cX2_digestOn 17 = .ok (.getfield 9, 3) := by decide +kernel
theorem dX2_digestOn_20 : decode cX2_digestOn 20 = .ok (.iload 5, 2) := by decide +kernel
theorem dX2_digestOn_22 : decode cX2_digestOn 22 = .ok (.iaload, 1) := by decide +kernel
theorem dX2_digestOn_23 : decode cX2_digestOn 23 = .ok (.i2l, 1) := by decide +kernel
theorem dX2_digestOn_24 : decode cX2_digestOn 24 = .ok (.ladd, 1) := by decide +kernel
theorem dX2_digestOn_25 : decode cX2_digestOn 25 = .ok (.lstore_n 3, 1) := by decide +kernel
theorem dX2_digestOn_26 : decode cX2_digestOn 26 = .ok (.iinc 5 1, 3) := by decide +kernel
theorem dX2_digestOn_29 : decode cX2_digestOn 29 = .ok (.goto (-24), 3) := by decide +kernel
theorem dX2_digestOn_32 : decode cX2_digestOn 32 = .ok (.lload_n 3, 1) := by decide +kernel
theorem dX2_digestOn_33 : decode cX2_digestOn 33 = .ok (.lreturn, 1) := by decide +kernel
theorem dX3_init_0 : decode cX3_init 0 = .ok (.aload_n 0, 1) := by decide +kernel
theorem dX3_init_1 : decode cX3_init 1 = .ok (.invokespecial 3, 3) := by decide +kernel
theorem dX3_init_4 : decode cX3_init 4 = .ok (.aload_n 0, 1) := by decide +kernel
theorem dX3_init_5 : decode cX3_init 5 = .ok (.bipush 30, 2) := by decide +kernel
theorem dX3_init_7 : decode cX3_init 7 = .ok (.newarray .int, 2) := by decide +kernel
theorem dX3_init_9 : decode cX3_init 9 = .ok (.putfield 9, 3) := by decide +kernel
theorem dX3_init_12 : decode cX3_init 12 = .ok (.aload_n 0, 1) := by decide +kernel
theorem dX3_init_13 : decode cX3_init 13 = .ok (.bipush 10, 2) := by decide +kernel
theorem dX3_init_15 : decode cX3_init 15 = .ok (.newarray .int, 2) := by decide +kernel
theorem dX3_init_17 : decode cX3_init 17 = .ok (.putfield 15, 3) := by decide +kernel
theorem dX3_init_20 : decode cX3_init 20 = .ok (.aload_n 0, 1) := by decide +kernel
theorem dX3_init_21 : decode cX3_init 21 = .ok (.bipush 10, 2) := by decide +kernel
theorem dX3_init_23 : decode cX3_init 23 = .ok (.newarray .int, 2) := by decide +kernel
theorem dX3_init_25 : decode cX3_init 25 = .ok (.putfield 18, 3) := by decide +kernel
theorem dX3_init_28 : decode cX3_init 28 = .ok (.aload_n 0, 1) := by decide +kernel
theorem dX3_init_29 : decode cX3_init 29 = .ok (.bipush 10, 2) := by decide +kernel
theorem dX3_init_31 : decode cX3_init 31 = .ok (.newarray .int, 2) := by decide +kernel
theorem dX3_init_33 : decode cX3_init 33 = .ok (.putfield 21, 3) := by decide +kernel
theorem dX3_init_36 : decode cX3_init 36 = .ok (.return_, 1) := by decide +kernel
theorem dX3_thrown_0 : decode cX3_thrown 0 = .ok (.aload_n 0, 1) := by decide +kernel
theorem dX3_thrown_1 : decode cX3_thrown 1 = .ok (.getfield 24, 3) := by decide +kernel
theorem dX3_thrown_4 : decode cX3_thrown 4 = .ok (.ireturn, 1) := by decide +kernel
theorem dX3_clear_0 : decode cX3_clear 0 = .ok (.aload_n 0, 1) := by decide +kernel
theorem dX3_clear_1 : decode cX3_clear 1 = .ok (.iconst 0, 1) := by decide +kernel
theorem dX3_clear_2 : decode cX3_clear 2 = .ok (.putfield 24, 3) := by decide +kernel
theorem dX3_clear_5 : decode cX3_clear 5 = .ok (.iconst 0, 1) := by decide +kernel
theorem dX3_clear_6 : decode cX3_clear 6 = .ok (.istore_n 1, 1) := by decide +kernel
theorem dX3_clear_7 : decode cX3_clear 7 = .ok (.iload_n 1, 1) := by decide +kernel
theorem dX3_clear_8 : decode cX3_clear 8 = .ok (.bipush 10, 2) := by decide +kernel
theorem dX3_clear_10 : decode cX3_clear 10 = .ok (.if_icmp .ge 30, 3) := by decide +kernel
theorem dX3_clear_13 : decode cX3_clear 13 = .ok (.aload_n 0, 1) := by decide +kernel
theorem dX3_clear_14 : decode cX3_clear 14 = .ok (.getfield 15, 3) := by decide +kernel
theorem dX3_clear_17 : decode cX3_clear 17 = .ok (.iload_n 1, 1) := by decide +kernel
theorem dX3_clear_18 : decode cX3_clear 18 = .ok (.iconst 0, 1) := by decide +kernel
theorem dX3_clear_19 : decode cX3_clear 19 = .ok (.iastore, 1) := by decide +kernel
theorem dX3_clear_20 : decode cX3_clear 20 = .ok (.aload_n 0, 1) := by decide +kernel
theorem dX3_clear_21 : decode cX3_clear 21 = .ok (.getfield 18, 3) := by decide +kernel
theorem dX3_clear_24 : decode cX3_clear 24 = .ok (.iload_n 1, 1) := by decide +kernel
theorem dX3_clear_25 : decode cX3_clear 25 = .ok (.iconst 0, 1) := by decide +kernel
theorem dX3_clear_26 : decode cX3_clear 26 = .ok (.iastore, 1) := by decide +kernel
theorem dX3_clear_27 : decode cX3_clear 27 = .ok (.aload_n 0, 1) := by decide +kernel
theorem dX3_clear_28 : decode cX3_clear 28 = .ok (.getfield 21, 3) := by decide +kernel
theorem dX3_clear_31 : decode cX3_clear 31 = .ok (.iload_n 1, 1) := by decide +kernel
theorem dX3_clear_32 : decode cX3_clear 32 = .ok (.iconst 0, 1) := by decide +kernel
theorem dX3_clear_33 : decode cX3_clear 33 = .ok (.iastore, 1) := by decide +kernel
theorem dX3_clear_34 : decode cX3_clear 34 = .ok (.iinc 1 1, 3) := by decide +kernel
theorem dX3_clear_37 : decode cX3_clear 37 = .ok (.goto (-30), 3) := by decide +kernel
theorem dX3_clear_40 : decode cX3_clear 40 = .ok (.return_, 1) := by decide +kernel
theorem dX3_enter_0 : decode cX3_enter 0 = .ok (.iload_n 1, 1) := by decide +kernel
theorem dX3_enter_1 : decode cX3_enter 1 = .ok (.ifCond .lt 21, 3) := by decide +kernel
theorem dX3_enter_4 : decode cX3_enter 4 = .ok (.iload_n 1, 1) := by decide +kernel
theorem dX3_enter_5 : decode cX3_enter 5 = .ok (.bipush 10, 2) := by decide +kernel
theorem dX3_enter_7 : decode cX3_enter 7 = .ok (.if_icmp .ge 15, 3) := by decide +kernel
theorem dX3_enter_10 : decode cX3_enter 10 = .ok (.aload_n 0, 1) := by decide +kernel
theorem dX3_enter_11 : decode cX3_enter 11 = .ok (.getfield 24, 3) := by decide +kernel
theorem dX3_enter_14 : decode cX3_enter 14 = .ok (.aload_n 0, 1) := by decide +kernel
theorem dX3_enter_15 : decode cX3_enter 15 = .ok (.getfield 9, 3) := by decide +kernel
theorem dX3_enter_18 : decode cX3_enter 18 = .ok (.arraylength, 1) := by decide +kernel
theorem dX3_enter_19 : decode cX3_enter 19 = .ok (.if_icmp .lt 4, 3) := by decide +kernel
theorem dX3_enter_22 : decode cX3_enter 22 = .ok (.return_, 1) := by decide +kernel
theorem dX3_enter_23 : decode cX3_enter 23 = .ok (.aload_n 0, 1) := by decide +kernel
theorem dX3_enter_24 : decode cX3_enter 24 = .ok (.getfield 18, 3) := by decide +kernel
theorem dX3_enter_27 : decode cX3_enter 27 = .ok (.iload_n 1, 1) := by decide +kernel
theorem dX3_enter_28 : decode cX3_enter 28 = .ok (.iaload, 1) := by decide +kernel
theorem dX3_enter_29 : decode cX3_enter 29 = .ok (.ifCond .ne 13, 3) := by decide +kernel
theorem dX3_enter_32 : decode cX3_enter 32 = .ok (.aload_n 0, 1) := by decide +kernel
theorem dX3_enter_33 : decode cX3_enter 33 = .ok (.getfield 15, 3) := by decide +kernel
theorem dX3_enter_36 : decode cX3_enter 36 = .ok (.iload_n 1, 1) := by decide +kernel
theorem dX3_enter_37 : decode cX3_enter 37 = .ok (.aload_n 0, 1) := by decide +kernel
theorem dX3_enter_38 : decode cX3_enter 38 = .ok (.getfield 24, 3) := by decide +kernel
theorem dX3_enter_41 : decode cX3_enter 41 = .ok (.iastore, 1) := by decide +kernel
theorem dX3_enter_42 : decode cX3_enter 42 = .ok (.aload_n 0, 1) := by decide +kernel
theorem dX3_enter_43 : decode cX3_enter 43 = .ok (.getfield 9, 3) := by decide +kernel
theorem dX3_enter_46 : decode cX3_enter 46 = .ok (.aload_n 0, 1) := by decide +kernel
theorem dX3_enter_47 : decode cX3_enter 47 = .ok (.getfield 24, 3) := by decide +kernel
theorem dX3_enter_50 : decode cX3_enter 50 = .ok (.iload_n 2, 1) := by decide +kernel
theorem dX3_enter_51 : decode cX3_enter 51 = .ok (.iastore, 1) := by decide +kernel
theorem dX3_enter_52 : decode cX3_enter 52 = .ok (.aload_n 0, 1) := by decide +kernel
theorem dX3_enter_53 : decode cX3_enter 53 = .ok (.dup, 1) := by decide +kernel
theorem dX3_enter_54 : decode cX3_enter 54 = .ok (.getfield 24, 3) := by decide +kernel
theorem dX3_enter_57 : decode cX3_enter 57 = .ok (.iconst 1, 1) := by decide +kernel
theorem dX3_enter_58 : decode cX3_enter 58 = .ok (.iadd, 1) := by decide +kernel
theorem dX3_enter_59 : decode cX3_enter 59 = .ok (.putfield 24, 3) := by decide +kernel
theorem dX3_enter_62 : decode cX3_enter 62 = .ok (.aload_n 0, 1) := by decide +kernel
theorem dX3_enter_63 : decode cX3_enter 63 = .ok (.getfield 18, 3) := by decide +kernel
theorem dX3_enter_66 : decode cX3_enter 66 = .ok (.iload_n 1, 1) := by decide +kernel
theorem dX3_enter_67 : decode cX3_enter 67 = .ok (.dup2, 1) := by decide +kernel
theorem dX3_enter_68 : decode cX3_enter 68 = .ok (.iaload, 1) := by decide +kernel
theorem dX3_enter_69 : decode cX3_enter 69 = .ok (.iconst 1, 1) := by decide +kernel
theorem dX3_enter_70 : decode cX3_enter 70 = .ok (.iadd, 1) := by decide +kernel
theorem dX3_enter_71 : decode cX3_enter 71 = .ok (.iastore, 1) := by decide +kernel
theorem dX3_enter_72 : decode cX3_enter 72 = .ok (.iload_n 3, 1) := by decide +kernel
theorem dX3_enter_73 : decode cX3_enter 73 = .ok (.ifCond .eq 28, 3) := by decide +kernel
theorem dX3_enter_76 : decode cX3_enter 76 = .ok (.iload_n 2, 1) := by decide +kernel
theorem dX3_enter_77 : decode cX3_enter 77 = .ok (.ifCond .le 24, 3) := by decide +kernel
theorem dX3_enter_80 : decode cX3_enter 80 = .ok (.aload_n 0, 1) := by decide +kernel
theorem dX3_enter_81 : decode cX3_enter 81 = .ok (.getfield 21, 3) := by decide +kernel
theorem dX3_enter_84 : decode cX3_enter 84 = .ok (.iload_n 1, 1) := by decide +kernel
theorem dX3_enter_85 : decode cX3_enter 85 = .ok (.aload_n 0, 1) := by decide +kernel
theorem dX3_enter_86 : decode cX3_enter 86 = .ok (.getfield 18, 3) := by decide +kernel
theorem dX3_enter_89 : decode cX3_enter 89 = .ok (.iload_n 1, 1) := by decide +kernel
theorem dX3_enter_90 : decode cX3_enter 90 = .ok (.iaload, 1) := by decide +kernel
theorem dX3_enter_91 : decode cX3_enter 91 = .ok (.iconst 1, 1) := by decide +kernel
theorem dX3_enter_92 : decode cX3_enter 92 = .ok (.if_icmp .ne 7, 3) := by decide +kernel
theorem dX3_enter_95 : decode cX3_enter 95 = .ok (.iconst 2, 1) := by decide +kernel
theorem dX3_enter_96 : decode cX3_enter 96 = .ok (.goto 4, 3) := by decide +kernel
theorem dX3_enter_99 : decode cX3_enter 99 = .ok (.iconst 1, 1) := by decide +kernel
theorem dX3_enter_100 : decode cX3_enter 100 = .ok (.iastore, 1) := by decide +kernel
theorem dX3_enter_101 : decode cX3_enter 101 = .ok (.return_, 1) := by decide +kernel
theorem dX3_points_0 : decode cX3_points 0 = .ok (.aload_n 0, 1) := by decide +kernel
theorem dX3_points_1 : decode cX3_points 1 = .ok (.getfield 24, 3) := by decide +kernel
theorem dX3_points_4 : decode cX3_points 4 = .ok (.aload_n 0, 1) := by decide +kernel
theorem dX3_points_5 : decode cX3_points 5 = .ok (.getfield 15, 3) := by decide +kernel
theorem dX3_points_8 : decode cX3_points 8 = .ok (.iload_n 1, 1) := by decide +kernel
theorem dX3_points_9 : decode cX3_points 9 = .ok (.iaload, 1) := by decide +kernel
theorem dX3_points_10 : decode cX3_points 10 = .ok (.aload_n 0, 1) := by decide +kernel
theorem dX3_points_11 : decode cX3_points 11 = .ok (.getfield 18, 3) := by decide +kernel
theorem dX3_points_14 : decode cX3_points 14 = .ok (.iload_n 1, 1) := by decide +kernel
theorem dX3_points_15 : decode cX3_points 15 = .ok (.iaload, 1) := by decide +kernel
theorem dX3_points_16 : decode cX3_points 16 = .ok (.iadd, 1) := by decide +kernel
theorem dX3_points_17 : decode cX3_points 17 = .ok (.aload_n 0, 1) := by decide +kernel
theorem dX3_points_18 : decode cX3_points 18 = .ok (.getfield 21, 3) := by decide +kernel
theorem dX3_points_21 : decode cX3_points 21 = .ok (.iload_n 1, 1) := by decide +kernel
theorem dX3_points_22 : decode cX3_points 22 = .ok (.iaload, 1) := by decide +kernel
theorem dX3_points_23 : decode cX3_points 23 = .ok (.iadd, 1) := by decide +kernel
theorem dX3_points_24 : decode cX3_points 24 = .ok (.invokestatic 28, 3) := by decide +kernel
theorem dX3_points_27 : decode cX3_points 27 = .ok (.istore_n 2, 1) := by decide +kernel
theorem dX3_points_28 : decode cX3_points 28 = .ok (.iconst 0, 1) := by decide +kernel
theorem dX3_points_29 : decode cX3_points 29 = .ok (.istore_n 3, 1) := by decide +kernel
theorem dX3_points_30 : decode cX3_points 30 = .ok (.aload_n 0, 1) := by decide +kernel
theorem dX3_points_31 : decode cX3_points 31 = .ok (.getfield 15, 3) := by decide +kernel
theorem dX3_points_34 : decode cX3_points 34 = .ok (.iload_n 1, 1) := by decide +kernel
theorem dX3_points_35 : decode cX3_points 35 = .ok (.iaload, 1) := by decide +kernel
theorem dX3_points_36 : decode cX3_points 36 = .ok (.istore 4, 2) := by decide +kernel
theorem dX3_points_38 : decode cX3_points 38 = .ok (.iload 4, 2) := by decide +kernel
theorem dX3_points_40 : decode cX3_points 40 = .ok (.iload_n 2, 1) := by decide +kernel
theorem dX3_points_41 : decode cX3_points 41 = .ok (.if_icmp .ge 19, 3) := by decide +kernel
theorem dX3_points_44 : decode cX3_points 44 = .ok (.iload_n 3, 1) := by decide +kernel
theorem dX3_points_45 : decode cX3_points 45 = .ok (.aload_n 0, 1) := by decide +kernel
theorem dX3_points_46 : decode cX3_points 46 = .ok (.getfield 9, 3) := by decide +kernel
theorem dX3_points_49 : decode cX3_points 49 = .ok (.iload 4, 2) := by decide +kernel
theorem dX3_points_51 : decode cX3_points 51 = .ok (.iaload, 1) := by decide +kernel
theorem dX3_points_52 : decode cX3_points 52 = .ok (.iadd, 1) := by decide +kernel
theorem dX3_points_53 : decode cX3_points 53 = .ok (.istore_n 3, 1) := by decide +kernel
theorem dX3_points_54 : decode cX3_points 54 = .ok (.iinc 4 1, 3) := by decide +kernel
theorem dX3_points_57 : decode cX3_points 57 = .ok (.goto (-19), 3) := by decide +kernel
theorem dX3_points_60 : decode cX3_points 60 = .ok (.iload_n 3, 1) := by decide +kernel
theorem dX3_points_61 : decode cX3_points 61 = .ok (.ireturn, 1) := by decide +kernel
set_option maxRecDepth 20000 in
theorem ggX3_score_X3_points : GoodIn wsX3_score wsX3_points := goodIn_r _ [5, 6, 7, 8, 9, 10, 11, 12, 13, 14, 15, 16, 17, 18, 19] (by decide +kernel) (by decide +kernel)
set_option maxRecDepth 20000 in
theorem gX3_score_X3_points : GoodIn wsX3_score (wsV RX3 34 RX3 yX3_points wsX3_points) := goodIn_app (goodIn_of _ (by decide +kernel)) ggX3_score_X3_points
theorem dX3_score_0 : decode cX3_score 0 = .ok (.iconst 0, 1) := by decide +kernel
theorem dX3_score_1 : decode cX3_score 1 = .ok (.istore_n 1, 1) := by decide +kernel
theorem dX3_score_2 : decode cX3_score 2 = .ok (.iconst 0, 1) := by decide +kernel
theorem dX3_score_3 : decode cX3_score 3 = .ok (.istore_n 2, 1) := by decide +kernel
theorem dX3_score_4 : decode cX3_score 4 = .ok (.iload_n 2, 1) := by decide +kernel
theorem dX3_score_5 : decode cX3_score 5 = .ok (.bipush 10, 2) := by decide +kernel
theorem dX3_score_7 : decode cX3_score 7 = .ok (.if_icmp .ge 17, 3) := by decide +kernel
theorem dX3_score_10 : decode cX3_score 10 = .ok (.iload_n 1, 1) := by decide +kernel
theorem dX3_score_11 : decode cX3_score 11 = .ok (.aload_n 0, 1) := by decide +kernel
theorem dX3_score_12 : decode cX3_score 12 = .ok (.iload_n 2, 1) := by decide +kernel
theorem dX3_score_13 : decode cX3_score 13 = .ok (.invokevirtual 34, 3) := by decide +kernel
theorem dX3_score_16 : decode cX3_score 16 = .ok (.iadd, 1) := by decide +kernel
theorem dX3_score_17 : decode cX3_score 17 = .ok (.istore_n 1, 1) := by decide +kernel
theorem dX3_score_18 : decode cX3_score 18 = .ok (.iinc 2 1, 3) := by decide +kernel
theorem dX3_score_21 : decode cX3_score 21 = .ok (.goto (-17), 3) := by decide +kernel
theorem dX3_score_24 : decode cX3_score 24 = .ok (.iload_n 1, 1) := by decide +kernel
theorem dX3_score_25 : decode cX3_score 25 = .ok (.ireturn, 1) := by decide +kernel
set_option maxRecDepth 20000 in
theorem ggX3_strikes_X3_framesWithBonus : GoodIn wsX3_strikes wsX3_framesWithBonus := goodIn_r _ [5, 6, 7, 8, 9, 10, 11] (by decide +kernel) (by decide +kernel)
set_option maxRecDepth 20000 in
theorem gX3_strikes_X3_framesWithBonus : GoodIn wsX3_strikes (wsV RX3 38 RX3 yX3_framesWithBonus wsX3_framesWithBonus) := goodIn_app (goodIn_of _ (by decide +kernel)) ggX3_strikes_X3_framesWithBonus
theorem dX3_strikes_0 : decode cX3_strikes 0 = .ok (.aload_n 0, 1) := by decide +kernel
theorem dX3_strikes_1 : decode cX3_strikes 1 = .ok (.iconst 2, 1) := by decide +kernel
theorem dX3_strikes_2 : decode cX3_strikes 2 = .ok (.invokevirtual 38, 3) := by decide +kernel
theorem dX3_strikes_5 : decode cX3_strikes 5 = .ok (.ireturn, 1) := by decide +kernel
set_option maxRecDepth 20000 in
theorem ggX3_spares_X3_framesWithBonus : GoodIn wsX3_spares wsX3_framesWithBonus := goodIn_r _ [5, 6, 7, 8, 9, 10, 11] (by decide +kernel) (by decide +kernel)
set_option maxRecDepth 20000 in
theorem gX3_spares_X3_framesWithBonus : GoodIn wsX3_spares (wsV RX3 38 RX3 yX3_framesWithBonus wsX3_framesWithBonus) := goodIn_app (goodIn_of _ (by decide +kernel)) ggX3_spares_X3_framesWithBonus
theorem dX3_spares_0 : decode cX3_spares 0 = .ok (.aload_n 0, 1) := by decide +kernel
theorem dX3_spares_1 : decode cX3_spares 1 = .ok (.iconst 1, 1) := by decide +kernel
theorem dX3_spares_2 : decode cX3_spares 2 = .ok (.invokevirtual 38, 3) := by decide +kernel
theorem dX3_spares_5 : decode cX3_spares 5 = .ok (.ireturn, 1) := by decide +kernel
set_option maxRecDepth 20000 in
theorem ggX3_digestOn_X3_score : GoodIn wsX3_digestOn wsX3_score := goodIn_r _ [7, 8, 9, 10, 6, 11, 2, 12, 13, 14, 15, 16, 17, 18, 19, 32, 33, 34, 35, 36] (by decide +kernel) (by decide +kernel)
set_option maxRecDepth 20000 in
theorem gX3_digestOn_X3_score : GoodIn wsX3_digestOn (wsV RX3 43 RX3 yX3_score wsX3_score) := goodIn_app (goodIn_of _ (by decide +kernel)) ggX3_digestOn_X3_score
set_option maxRecDepth 20000 in
theorem ggX3_digestOn_X3_strikes : GoodIn wsX3_digestOn wsX3_strikes := goodIn_r _ [23, 24, 25, 26, 6, 27, 14, 32, 33, 34, 35, 36] (by decide +kernel) (by decide +kernel)
set_option maxRecDepth 20000 in
theorem gX3_digestOn_X3_strikes : GoodIn wsX3_digestOn (wsV RX3 47 RX3 yX3_strikes wsX3_strikes) := goodIn_app (goodIn_of _ (by decide +kernel)) ggX3_digestOn_X3_strikes
set_option maxRecDepth 20000 in
theorem ggX3_digestOn_X3_spares : GoodIn wsX3_digestOn wsX3_spares := goodIn_r _ [31, 24, 25, 26, 6, 27, 14, 32, 33, 34, 35, 36] (by decide +kernel) (by decide +kernel)
set_option maxRecDepth 20000 in
theorem gX3_digestOn_X3_spares : GoodIn wsX3_digestOn (wsV RX3 50 RX3 yX3_spares wsX3_spares) := goodIn_app (goodIn_of _ (by decide +kernel)) ggX3_digestOn_X3_spares
set_option maxRecDepth 20000 in
theorem ggX3_digestOn_X3_points : GoodIn wsX3_digestOn wsX3_points := goodIn_r _ [11, 2, 12, 13, 14, 15, 16, 17, 18, 19, 32, 33, 34, 35, 36] (by decide +kernel) (by decide +kernel)
set_option maxRecDepth 20000 in
theorem gX3_digestOn_X3_points : GoodIn wsX3_digestOn (wsV RX3 34 RX3 yX3_points wsX3_points) := goodIn_app (goodIn_of _ (by decide +kernel)) ggX3_digestOn_X3_points
theorem dX3_digestOn_0 : decode cX3_digestOn 0 = .ok (.lload_n 1, 1) := by decide +kernel
theorem dX3_digestOn_1 : decode cX3_digestOn 1 = .ok (.ldc2_w 41, 3) := by decide +kernel
theorem dX3_digestOn_4 : decode cX3_digestOn 4 = .ok (.lmul, 1) := by decide +kernel
theorem dX3_digestOn_5 : decode cX3_digestOn 5 = .ok (.aload_n 0, 1) := by decide +kernel
theorem dX3_digestOn_6 : decode cX3_digestOn 6 = .ok (.getfield 24, 3) := by decide +kernel
theorem dX3_digestOn_9 : decode cX3_digestOn 9 = .ok (.i2l, 1) := by decide +kernel
theorem dX3_digestOn_10 : decode cX3_digestOn 10 = .ok (.ladd, 1) := by decide +kernel
theorem dX3_digestOn_11 : decode cX3_digestOn 11 = .ok (.lstore_n 3, 1) := by decide +kernel
theorem dX3_digestOn_12 : decode cX3_digestOn 12 = .ok (.lload_n 3, 1) := by decide +kernel
theorem dX3_digestOn_13 : decode cX3_digestOn 13 = .ok (.ldc2_w 41, 3) := by decide +kernel
theorem dX3_digestOn_16 : decode cX3_digestOn 16 = .ok (.lmul, 1) := by decide +kernel
theorem dX3_digestOn_17 : decode cX3_digestOn 17 = .ok (.aload_n 0, 1) := by decide +kernel
theorem dX3_digestOn_18 : decode cX3_digestOn 18 = .ok (.invokevirtual 43, 3) := by decide +kernel
theorem dX3_digestOn_21 : decode cX3_digestOn 21 = .ok (.i2l, 1) := by decide +kernel
theorem dX3_digestOn_22 : decode cX3_digestOn 22 = .ok (.ladd, 1) := by decide +kernel
theorem dX3_digestOn_23 : decode cX3_digestOn 23 = .ok (.lstore_n 3, 1) := by decide +kernel
theorem dX3_digestOn_24 : decode cX3_digestOn 24 = .ok (.lload_n 3, 1) := by decide +kernel
theorem dX3_digestOn_25 : decode cX3_digestOn 25 = .ok (.ldc2_w 41, 3) := by decide +kernel
theorem dX3_digestOn_28 : decode cX3_digestOn 28 = .ok (.lmul, 1) := by decide +kernel
theorem dX3_digestOn_29 : decode cX3_digestOn 29 = .ok (.aload_n 0, 1) := by decide +kernel
theorem dX3_digestOn_30 : decode cX3_digestOn 30 = .ok (.invokevirtual 47, 3) := by decide +kernel
theorem dX3_digestOn_33 : decode cX3_digestOn 33 = .ok (.i2l, 1) := by decide +kernel
theorem dX3_digestOn_34 : decode cX3_digestOn 34 = .ok (.ladd, 1) := by decide +kernel
theorem dX3_digestOn_35 : decode cX3_digestOn 35 = .ok (.lstore_n 3, 1) := by decide +kernel
theorem dX3_digestOn_36 : decode cX3_digestOn 36 = .ok (.lload_n 3, 1) := by decide +kernel
theorem dX3_digestOn_37 : decode cX3_digestOn 37 = .ok (.ldc2_w 41, 3) := by decide +kernel
theorem dX3_digestOn_40 : decode cX3_digestOn 40 = .ok (.lmul, 1) := by decide +kernel
theorem dX3_digestOn_41 : decode cX3_digestOn 41 = .ok (.aload_n 0, 1) := by decide +kernel
theorem dX3_digestOn_42 : decode cX3_digestOn 42 = .ok (.invokevirtual 50, 3) := by decide +kernel
theorem dX3_digestOn_45 : decode cX3_digestOn 45 = .ok (.i2l, 1) := by decide +kernel
theorem dX3_digestOn_46 : decode cX3_digestOn 46 = .ok (.ladd, 1) := by decide +kernel
theorem dX3_digestOn_47 : decode cX3_digestOn 47 = .ok (.lstore_n 3, 1) := by decide +kernel
theorem dX3_digestOn_48 : decode cX3_digestOn 48 = .ok (.iconst 0, 1) := by decide +kernel
theorem dX3_digestOn_49 : decode cX3_digestOn 49 = .ok (.istore 5, 2) := by decide +kernel
theorem dX3_digestOn_51 : decode cX3_digestOn 51 = .ok (.iload 5, 2) := by decide +kernel
theorem dX3_digestOn_53 : decode cX3_digestOn 53 = .ok (.bipush 10, 2) := by decide +kernel
theorem dX3_digestOn_55 : decode cX3_digestOn 55 = .ok (.if_icmp .ge 23, 3) := by decide +kernel
theorem dX3_digestOn_58 : decode cX3_digestOn 58 = .ok (.lload_n 3, 1) := by decide +kernel
theorem dX3_digestOn_59 : decode cX3_digestOn 59 = .ok (.ldc2_w 41, 3) := by decide +kernel
theorem dX3_digestOn_62 : decode cX3_digestOn 62 = .ok (.lmul, 1) := by decide +kernel
theorem dX3_digestOn_63 : decode cX3_digestOn 63 = .ok (.aload_n 0, 1) := by decide +kernel
theorem dX3_digestOn_64 : decode cX3_digestOn 64 = .ok (.iload 5, 2) := by decide +kernel
theorem dX3_digestOn_66 : decode cX3_digestOn 66 = .ok (.invokevirtual 34, 3) := by decide +kernel
theorem dX3_digestOn_69 : decode cX3_digestOn 69 = .ok (.i2l, 1) := by decide +kernel
theorem dX3_digestOn_70 : decode cX3_digestOn 70 = .ok (.ladd, 1) := by decide +kernel
theorem dX3_digestOn_71 : decode cX3_digestOn 71 = .ok (.lstore_n 3, 1) := by decide +kernel
theorem dX3_digestOn_72 : decode cX3_digestOn 72 = .ok (.iinc 5 1, 3) := by decide +kernel
theorem dX3_digestOn_75 : decode cX3_digestOn 75 = .ok (.goto (-24), 3) := by decide +kernel
theorem dX3_digestOn_78 : decode cX3_digestOn 78 = .ok (.lload_n 3, 1) := by decide +kernel
theorem dX3_digestOn_79 : decode cX3_digestOn 79 = .ok (.lreturn, 1) := by decide +kernel
theorem dX3_framesWithBonus_0 : decode cX3_framesWithBonus 0 = .ok (.iconst 0, 1) := by decide +kernel
theorem dX3_framesWithBonus_1 : decode cX3_framesWithBonus 1 = .ok (.istore_n 2, 1) := by decide +kernel
theorem dX3_framesWithBonus_2 : decode cX3_framesWithBonus 2 = .ok (.iconst 0, 1) := by decide +kernel
theorem dX3_framesWithBonus_3 : decode cX3_framesWithBonus 3 = .ok (.istore_n 3, 1) := by decide +kernel
theorem dX3_framesWithBonus_4 : decode cX3_framesWithBonus 4 = .ok (.iload_n 3, 1) := by decide +kernel
theorem dX3_framesWithBonus_5 : decode cX3_framesWithBonus 5 = .ok (.bipush 10, 2) := by decide +kernel
theorem dX3_framesWithBonus_7 : decode cX3_framesWithBonus 7 = .ok (.if_icmp .ge 22, 3) := by decide +kernel
theorem dX3_framesWithBonus_10 : decode cX3_framesWithBonus 10 = .ok (.aload_n 0, 1) := by decide +kernel
theorem dX3_framesWithBonus_11 : decode cX3_framesWithBonus 11 = .ok (.getfield 21, 3) := by decide +kernel
theorem dX3_framesWithBonus_14 : decode cX3_framesWithBonus 14 = .ok (.iload_n 3, 1) := by decide +kernel
theorem dX3_framesWithBonus_15 : decode cX3_framesWithBonus 15 = .ok (.iaload, 1) := by decide +kernel
theorem dX3_framesWithBonus_16 : decode cX3_framesWithBonus 16 = .ok (.iload_n 1, 1) := by decide +kernel
theorem dX3_framesWithBonus_17 : decode cX3_framesWithBonus 17 = .ok (.if_icmp .ne 6, 3) := by decide +kernel
theorem dX3_framesWithBonus_20 : decode cX3_framesWithBonus 20 = .ok (.iinc 2 1, 3) := by decide +kernel
theorem dX3_framesWithBonus_23 : decode cX3_framesWithBonus 23 = .ok (.iinc 3 1, 3) := by decide +kernel
theorem dX3_framesWithBonus_26 : decode cX3_framesWithBonus 26 = .ok (.goto (-22), 3) := by decide +kernel
theorem dX3_framesWithBonus_29 : decode cX3_framesWithBonus 29 = .ok (.iload_n 2, 1) := by decide +kernel
theorem dX3_framesWithBonus_30 : decode cX3_framesWithBonus 30 = .ok (.ireturn, 1) := by decide +kernel
set_option maxRecDepth 20000 in
theorem ggX4_init_X0_init : GoodIn wsX4_init wsX0_init := goodIn_r _ [17, 18, 2, 3, 19, 20, 21, 22, 34, 35, 36] (by decide +kernel) (by decide +kernel)
set_option maxRecDepth 20000 in
theorem gX4_init_X0_init_n9 : GoodIn wsX4_init (wsX0_init) := ggX4_init_X0_init
set_option maxRecDepth 20000 in
theorem ggX4_init_X2_init : GoodIn wsX4_init wsX2_init := goodIn_r _ [24, 25, 2, 3, 19, 26, 44] (by decide +kernel) (by decide +kernel)
set_option maxRecDepth 20000 in
theorem gX4_init_X2_init_n18 : GoodIn wsX4_init (wsX2_init) := ggX4_init_X2_init
set_option maxRecDepth 20000 in
theorem ggX4_init_X3_init : GoodIn wsX4_init wsX3_init := goodIn_r _ [28, 29, 2, 3, 19, 30, 31, 32, 33, 45, 46, 47, 48, 49] (by decide +kernel) (by decide +kernel)
set_option maxRecDepth 20000 in
theorem gX4_init_X3_init_n29 : GoodIn wsX4_init (wsX3_init) := ggX4_init_X3_init
theorem dX4_init_0 : decode cX4_init 0 = .ok (.aload_n 0, 1) := by decide +kernel
theorem dX4_init_1 : decode cX4_init 1 = .ok (.invokespecial 1, 3) := by decide +kernel
theorem dX4_init_4 : decode cX4_init 4 = .ok (.aload_n 0, 1) := by decide +kernel
theorem dX4_init_5 : decode cX4_init 5 = .ok (.new 7, 3) := by decide +kernel
theorem dX4_init_8 : decode cX4_init 8 = .ok (.dup, 1) := by decide +kernel
theorem dX4_init_9 : decode cX4_init 9 = .ok (.invokespecial 9, 3) := by decide +kernel
theorem dX4_init_12 : decode cX4_init 12 = .ok (.putfield 10, 3) := by decide +kernel
theorem dX4_init_15 : decode cX4_init 15 = .ok (.aload_n 0, 1) := by decide +kernel
theorem dX4_init_16 : decode cX4_init 16 = .ok (.new 16, 3) := by decide +kernel
theorem dX4_init_19 : decode cX4_init 19 = .ok (.dup, 1) := by decide +kernel
theorem dX4_init_20 : decode cX4_init 20 = .ok (.invokespecial 18, 3) := by decide +kernel
theorem dX4_init_23 : decode cX4_init 23 = .ok (.putfield 19, 3) := by decide +kernel
theorem dX4_init_26 : decode cX4_init 26 = .ok (.aload_n 0, 1) := by decide +kernel
theorem dX4_init_27 : decode cX4_init 27 = .ok (.iconst 4, 1) := by decide +kernel
theorem dX4_init_28 : decode cX4_init 28 = .ok (.anewarray 23, 3) := by decide +kernel
theorem dX4_init_31 : decode cX4_init 31 = .ok (.putfield 25, 3) := by decide +kernel
theorem dX4_init_34 : decode cX4_init 34 = .ok (.iconst 0, 1) := by decide +kernel
theorem dX4_init_35 : decode cX4_init 35 = .ok (.istore_n 1, 1) := by decide +kernel
theorem dX4_init_36 : decode cX4_init 36 = .ok (.iload_n 1, 1) := by decide +kernel
theorem dX4_init_37 : decode cX4_init 37 = .ok (.aload_n 0, 1) := by decide +kernel
theorem dX4_init_38 : decode cX4_init 38 = .ok (.getfield 25, 3) := by decide +kernel
theorem dX4_init_41 : decode cX4_init 41 = .ok (.arraylength, 1) := by decide +kernel
theorem dX4_init_42 : decode cX4_init 42 = .ok (.if_icmp .ge 22, 3) := by decide +kernel
theorem dX4_init_45 : decode cX4_init 45 = .ok (.aload_n 0, 1) := by decide +kernel
theorem dX4_init_46 : decode cX4_init 46 = .ok (.getfield 25, 3) := by decide +kernel
theorem dX4_init_49 : decode cX4_init 49 = .ok (.iload_n 1, 1) := by decide +kernel
theorem dX4_init_50 : decode cX4_init 50 = .ok (.new 23, 3) := by decide +kernel
theorem dX4_init_53 : decode cX4_init 53 = .ok (.dup, 1) := by decide +kernel
theorem dX4_init_54 : decode cX4_init 54 = .ok (.invokespecial 29, 3) := by decide +kernel
theorem dX4_init_57 : decode cX4_init 57 = .ok (.aastore, 1) := by decide +kernel
theorem dX4_init_58 : decode cX4_init 58 = .ok (.iinc 1 1, 3) := by decide +kernel
theorem dX4_init_61 : decode cX4_init 61 = .ok (.goto (-25), 3) := by decide +kernel
theorem dX4_init_64 : decode cX4_init 64 = .ok (.return_, 1) := by decide +kernel
set_option maxRecDepth 20000 in
theorem ggX4_addPlayer_X4_somethingThrown : GoodIn wsX4_addPlayer wsX4_somethingThrown := goodIn_r _ [8, 9, 10, 11, 12, 13, 14, 15, 16, 17, 18, 19, 20, 21, 22, 23, 24, 25, 26, 27] (by decide +kernel) (by decide +kernel)
set_option maxRecDepth 20000 in
theorem gX4_addPlayer_X4_somethingThrown : GoodIn wsX4_addPlayer (wsV RX4 34 RX4 yX4_somethingThrown wsX4_somethingThrown) := goodIn_app (goodIn_of _ (by decide +kernel)) ggX4_addPlayer_X4_somethingThrown
theorem dX4_addPlayer_0 : decode cX4_addPlayer 0 = .ok (.aload_n 0, 1) := by decide +kernel
theorem dX4_addPlayer_1 : decode cX4_addPlayer 1 = .ok (.getfield 30, 3) := by decide +kernel
theorem dX4_addPlayer_4 : decode cX4_addPlayer 4 = .ok (.iconst 4, 1) := by decide +kernel
theorem dX4_addPlayer_5 : decode cX4_addPlayer 5 = .ok (.if_icmp .ge 10, 3) := by decide +kernel
theorem dX4_addPlayer_8 : decode cX4_addPlayer 8 = .ok (.aload_n 0, 1) := by decide +kernel
theorem dX4_addPlayer_9 : decode cX4_addPlayer 9 = .ok (.invokevirtual 34, 3) := by decide +kernel
theorem dX4_addPlayer_12 : decode cX4_addPlayer 12 = .ok (.ifCond .eq 13, 3) := by decide +kernel
theorem dX4_addPlayer_15 : decode cX4_addPlayer 15 = .ok (.new 38, 3) := by decide +kernel
theorem dX4_addPlayer_18 : decode cX4_addPlayer 18 = .ok (.dup, 1) := by decide +kernel
theorem dX4_addPlayer_19 : decode cX4_addPlayer 19 = .ok (.ldc 40, 2) := by decide +kernel
theorem dX4_addPlayer_21 : decode cX4_addPlayer 21 = .ok (.invokespecial 42, 3) := by decide +kernel
theorem dX4_addPlayer_24 : decode cX4_addPlayer 24 = .ok (.athrow, 1) := by decide +kernel
theorem dX4_addPlayer_25 : decode cX4_addPlayer 25 = .ok (.aload_n 0, 1) := by decide +kernel
theorem dX4_addPlayer_26 : decode cX4_addPlayer 26 = .ok (.getfield 30, 3) := by decide +kernel
theorem dX4_addPlayer_29 : decode cX4_addPlayer 29 = .ok (.istore_n 1, 1) := by decide +kernel
theorem dX4_addPlayer_30 : decode cX4_addPlayer 30 = .ok (.aload_n 0, 1) := by decide +kernel
theorem dX4_addPlayer_31 : decode cX4_addPlayer 31 = .ok (.dup, 1) := by decide +kernel
theorem dX4_addPlayer_32 : decode cX4_addPlayer 32 = .ok (.getfield 30, 3) := by decide +kernel
theorem dX4_addPlayer_35 : decode cX4_addPlayer 35 = .ok (.iconst 1, 1) := by decide +kernel
theorem dX4_addPlayer_36 : decode cX4_addPlayer 36 = .ok (.iadd, 1) := by decide +kernel
theorem dX4_addPlayer_37 : decode cX4_addPlayer 37 = .ok (.putfield 30, 3) := by decide +kernel
theorem dX4_addPlayer_40 : decode cX4_addPlayer 40 = .ok (.iload_n 1, 1) := by decide +kernel
theorem dX4_addPlayer_41 : decode cX4_addPlayer 41 = .ok (.ireturn, 1) := by decide +kernel
set_option maxRecDepth 20000 in
theorem ggX4_throwBall_X4_checkThrow : GoodIn wsX4_throwBall wsX4_checkThrow := goodIn_ca (goodIn_r _ [11, 12, 13, 10, 14, 15, 16, 17, 18, 19] (by decide +kernel) (by decide +kernel)) (goodIn_sub (fun _ h => List.mem_cons_of_mem _ (List.mem_append_right _ h)) (by decide +kernel))
set_option maxRecDepth 20000 in
theorem gX4_throwBall_X4_checkThrow : GoodIn wsX4_throwBall (va_wsS RX4 45 yX4_checkThrow wsX4_checkThrow) := goodIn_app (goodIn_of _ (by decide +kernel)) ggX4_throwBall_X4_checkThrow
set_option maxRecDepth 20000 in
theorem ggX4_throwBall_X4_playerInTurn : GoodIn wsX4_throwBall wsX4_playerInTurn := goodIn_r _ [23, 24, 25, 26, 27, 28, 10, 29, 6, 99, 100, 101, 102, 103, 104, 105] (by decide +kernel) (by decide +kernel)
set_option maxRecDepth 20000 in
theorem gX4_throwBall_X4_playerInTurn : GoodIn wsX4_throwBall (wsV RX4 49 RX4 yX4_playerInTurn wsX4_playerInTurn) := goodIn_app (goodIn_of _ (by decide +kernel)) ggX4_throwBall_X4_playerInTurn
set_option maxRecDepth 20000 in
theorem ggX4_throwBall_X2_throwsAway : GoodIn wsX4_throwBall wsX2_throwsAway := goodIn_r _ [34, 35, 106] (by decide +kernel) (by decide +kernel)
set_option maxRecDepth 20000 in
theorem gX4_throwBall_X2_throwsAway : GoodIn wsX4_throwBall (wsV RX4 53 RX2 yX2_throwsAway wsX2_throwsAway) := goodIn_app (goodIn_of _ (by decide +kernel)) ggX4_throwBall_X2_throwsAway
set_option maxRecDepth 20000 in
theorem ggX4_throwBall_X0_roll : GoodIn wsX4_throwBall wsX0_roll := goodIn_r _ [40, 41, 42, 43, 44, 45, 46, 47, 48, 49, 50, 51, 52, 53, 54, 55, 56, 57, 58, 59, 60, 61, 62, 63, 64, 107, 108, 109] (by decide +kernel) (by decide +kernel)
set_option maxRecDepth 20000 in
theorem gX4_throwBall_X0_roll : GoodIn wsX4_throwBall (wsV RX4 59 RX0 yX0_roll wsX0_roll) := goodIn_app (goodIn_of _ (by decide +kernel)) ggX4_throwBall_X0_roll
set_option maxRecDepth 20000 in
theorem ggX4_throwBall_X2_send : GoodIn wsX4_throwBall wsX2_send := goodIn_r _ [68, 35, 69, 70, 71, 72, 106] (by decide +kernel) (by decide +kernel)
set_option maxRecDepth 20000 in
theorem gX4_throwBall_X2_send : GoodIn wsX4_throwBall (wsV RX4 63 RX2 yX2_send wsX2_send) := goodIn_app (goodIn_of _ (by decide +kernel)) ggX4_throwBall_X2_send
set_option maxRecDepth 20000 in
theorem ggX4_throwBall_X0_standingPins : GoodIn wsX4_throwBall wsX0_standingPins := goodIn_r _ [76, 41, 107, 108, 109] (by decide +kernel) (by decide +kernel)
set_option maxRecDepth 20000 in
theorem gX4_throwBall_X0_standingPins : GoodIn wsX4_throwBall (wsV RX4 67 RX0 yX0_standingPins wsX0_standingPins) := goodIn_app (goodIn_of _ (by decide +kernel)) ggX4_throwBall_X0_standingPins
set_option maxRecDepth 20000 in
theorem ggX4_throwBall_X3_enter : GoodIn wsX4_throwBall wsX3_enter := goodIn_r _ [81, 82, 83, 84, 85, 86, 110, 111, 112, 113, 114] (by decide +kernel) (by decide +kernel)
set_option maxRecDepth 20000 in
theorem gX4_throwBall_X3_enter : GoodIn wsX4_throwBall (wsV RX4 73 RX3 yX3_enter wsX3_enter) := goodIn_app (goodIn_of _ (by decide +kernel)) ggX4_throwBall_X3_enter
set_option maxRecDepth 20000 in
theorem ggX4_throwBall_X4_endFrame : GoodIn wsX4_throwBall wsX4_endFrame := goodIn_r _ [90, 7, 25, 24, 6, 4, 26, 27, 28, 10, 29, 91, 92, 93, 39, 94, 41, 95, 96, 97, 98, 42, 99, 100, 101, 102, 103, 104, 105, 107, 108, 109] (by decide +kernel) (by decide +kernel)
set_option maxRecDepth 20000 in
theorem gX4_throwBall_X4_endFrame : GoodIn wsX4_throwBall (wsV RX4 80 RX4 yX4_endFrame wsX4_endFrame) := goodIn_app (goodIn_of _ (by decide +kernel)) ggX4_throwBall_X4_endFrame
theorem dX4_throwBall_0 : decode cX4_throwBall 0 = .ok (.iload_n 1, 1) := by decide +kernel
theorem dX4_throwBall_1 : decode cX4_throwBall 1 = .ok (.iload_n 2, 1) := by decide +kernel
theorem dX4_throwBall_2 : decode cX4_throwBall 2 = .ok (.invokestatic 45, 3) := by decide +kernel
theorem dX4_throwBall_5 : decode cX4_throwBall 5 = .ok (.aload_n 0, 1) := by decide +kernel
theorem dX4_throwBall_6 : decode cX4_throwBall 6 = .ok (.invokevirtual 49, 3) := by decide +kernel
theorem dX4_throwBall_9 : decode cX4_throwBall 9 = .ok (.istore_n 3, 1) := by decide +kernel
theorem dX4_throwBall_10 : decode cX4_throwBall 10 = .ok (.iload_n 3, 1) := by decide +kernel
theorem dX4_throwBall_11 : decode cX4_throwBall 11 = .ok (.iconst (-1), 1) := by decide +kernel
theorem dX4_throwBall_12 : decode cX4_throwBall 12 = .ok (.if_icmp .eq 14, 3) := by decide +kernel
theorem dX4_throwBall_15 : decode cX4_throwBall 15 = .ok (.aload_n 0, 1) := by decide +kernel
theorem dX4_throwBall_16 : decode cX4_throwBall 16 = .ok (.getfield 19, 3) := by decide +kernel
theorem dX4_throwBall_19 : decode cX4_throwBall 19 = .ok (.iload_n 1, 1) := by decide +kernel
theorem dX4_throwBall_20 : decode cX4_throwBall 20 = .ok (.invokevirtual 53, 3) := by decide +kernel
theorem dX4_throwBall_23 : decode cX4_throwBall 23 = .ok (.ifCond .le 13, 3) := by decide +kernel
theorem dX4_throwBall_26 : decode cX4_throwBall 26 = .ok (.new 38, 3) := by decide +kernel
theorem dX4_throwBall_29 : decode cX4_throwBall 29 = .ok (.dup, 1) := by decide +kernel
theorem dX4_throwBall_30 : decode cX4_throwBall 30 = .ok (.ldc 57, 2) := by decide +kernel
theorem dX4_throwBall_32 : decode cX4_throwBall 32 = .ok (.invokespecial 42, 3) := by decide +kernel
theorem dX4_throwBall_35 : decode cX4_throwBall 35 = .ok (.athrow, 1) := by decide +kernel
theorem dX4_throwBall_36 : decode cX4_throwBall 36 = .ok (.aload_n 0, 1) := by decide +kernel
theorem dX4_throwBall_37 : decode cX4_throwBall 37 = .ok (.getfield 10, 3) := by decide +kernel
theorem dX4_throwBall_40 : decode cX4_throwBall 40 = .ok (.iload_n 1, 1) := by decide +kernel
theorem dX4_throwBall_41 : decode cX4_throwBall 41 = .ok (.iload_n 2, 1) := by decide +kernel
theorem dX4_throwBall_42 : decode cX4_throwBall 42 = .ok (.invokevirtual 59, 3) := by decide +kernel
theorem dX4_throwBall_45 : decode cX4_throwBall 45 = .ok (.istore 4, 2) := by decide +kernel
theorem dX4_throwBall_47 : decode cX4_throwBall 47 = .ok (.aload_n 0, 1) := by decide +kernel
theorem dX4_throwBall_48 : decode cX4_throwBall 48 = .ok (.getfield 19, 3) := by decide +kernel
theorem dX4_throwBall_51 : decode cX4_throwBall 51 = .ok (.iload_n 1, 1) := by decide +kernel
theorem dX4_throwBall_52 : decode cX4_throwBall 52 = .ok (.invokevirtual 63, 3) := by decide +kernel
theorem dX4_throwBall_55 : decode cX4_throwBall 55 = .ok (.aload_n 0, 1) := by decide +kernel
theorem dX4_throwBall_56 : decode cX4_throwBall 56 = .ok (.getfield 10, 3) := by decide +kernel
theorem dX4_throwBall_59 : decode cX4_throwBall 59 = .ok (.invokevirtual 67, 3) := by decide +kernel
theorem dX4_throwBall_62 : decode cX4_throwBall 62 = .ok (.ifCond .ne 7, 3) := by decide +kernel
theorem dX4_throwBall_65 : decode cX4_throwBall 65 = .ok (.iconst 1, 1) := by decide +kernel
theorem dX4_throwBall_66 : decode cX4_throwBall 66 = .ok (.goto 4, 3) := by decide +kernel
theorem dX4_throwBall_69 : decode cX4_throwBall 69 = .ok (.iconst 0, 1) := by decide +kernel
theorem dX4_throwBall_70 : decode cX4_throwBall 70 = .ok (.istore 5, 2) := by decide +kernel
theorem dX4_throwBall_72 : decode cX4_throwBall 72 = .ok (.aload_n 0, 1) := by decide +kernel
theorem dX4_throwBall_73 : decode cX4_throwBall 73 = .ok (.getfield 25, 3) := by decide +kernel
theorem dX4_throwBall_76 : decode cX4_throwBall 76 = .ok (.iload_n 3, 1) := by decide +kernel
theorem dX4_throwBall_77 : decode cX4_throwBall 77 = .ok (.aaload, 1) := by decide +kernel
theorem dX4_throwBall_78 : decode cX4_throwBall 78 = .ok (.aload_n 0, 1) := by decide +kernel
theorem dX4_throwBall_79 : decode cX4_throwBall 79 = .ok (.getfield 70, 3) := by decide +kernel
theorem dX4_throwBall_82 : decode cX4_throwBall 82 = .ok (.iload 4, 2) := by decide +kernel
theorem dX4_throwBall_84 : decode cX4_throwBall 84 = .ok (.iload 5, 2) := by decide +kernel
theorem dX4_throwBall_86 : decode cX4_throwBall 86 = .ok (.invokevirtual 73, 3) := by decide +kernel
theorem dX4_throwBall_89 : decode cX4_throwBall 89 = .ok (.aload_n 0, 1) := by decide +kernel
theorem dX4_throwBall_90 : decode cX4_throwBall 90 = .ok (.dup, 1) := by decide +kernel
theorem dX4_throwBall_91 : decode cX4_throwBall 91 = .ok (.getfield 77, 3) := by decide +kernel
theorem dX4_throwBall_94 : decode cX4_throwBall 94 = .ok (.iconst 1, 1) := by decide +kernel
theorem dX4_throwBall_95 : decode cX4_throwBall 95 = .ok (.iadd, 1) := by decide +kernel
theorem dX4_throwBall_96 : decode cX4_throwBall 96 = .ok (.putfield 77, 3) := by decide +kernel
theorem dX4_throwBall_99 : decode cX4_throwBall 99 = .ok (.iload 5, 2) := by decide +kernel
theorem dX4_throwBall_101 : decode cX4_throwBall 101 = .ok (.ifCond .ne 11, 3) := by decide +kernel
theorem dX4_throwBall_104 : decode cX4_throwBall 104 = .ok (.aload_n 0, 1) := by decide +kernel
theorem dX4_throwBall_105 : decode cX4_throwBall 105 = .ok (.getfield 77, 3) := by decide +kernel
theorem dX4_throwBall_108 : decode cX4_throwBall 108 = .ok (.iconst 3, 1) := by decide +kernel
theorem dX4_throwBall_109 : decode cX4_throwBall 109 = .ok (.if_icmp .lt 7, 3) := by decide +kernel
theorem dX4_throwBall_112 : decode cX4_throwBall 112 = .ok (.aload_n 0, 1) := by decide +kernel
theorem dX4_throwBall_113 : decode cX4_throwBall 113 = .ok (.invokevirtual 80, 3) := by decide +kernel
theorem dX4_throwBall_116 : decode cX4_throwBall 116 = .ok (.iload 4, 2) := by decide +kernel
end
section
theorem dX4_throwBall_118 : decode cX4_throwBall 118 = .ok (.ireturn, 1) := by decide +kernel
set_option maxRecDepth 20000 in
theorem ggX4_replaceString_X4_checkPin : GoodIn wsX4_replaceString wsX4_checkPin := goodIn_ca (goodIn_r _ [7, 8, 9, 6, 10, 11, 12] (by decide +kernel) (by decide +kernel)) (goodIn_sub (fun _ h => List.mem_cons_of_mem _ (List.mem_append_right _ h)) (by decide +kernel))
set_option maxRecDepth 20000 in
theorem gX4_replaceString_X4_checkPin : GoodIn wsX4_replaceString (va_wsS RX4 83 yX4_checkPin wsX4_checkPin) := goodIn_app (goodIn_of _ (by decide +kernel)) ggX4_replaceString_X4_checkPin
set_option maxRecDepth 20000 in
theorem ggX4_replaceString_X0_spares : GoodIn wsX4_replaceString wsX0_spares := goodIn_r _ [17, 18, 31, 32, 33] (by decide +kernel) (by decide +kernel)
set_option maxRecDepth 20000 in
theorem gX4_replaceString_X0_spares : GoodIn wsX4_replaceString (wsV RX4 86 RX0 yX0_spares wsX0_spares) := goodIn_app (goodIn_of _ (by decide +kernel)) ggX4_replaceString_X0_spares
set_option maxRecDepth 20000 in
theorem ggX4_replaceString_X0_replace : GoodIn wsX4_replaceString wsX0_replace := goodIn_r _ [22, 18, 23, 31, 32, 33] (by decide +kernel) (by decide +kernel)
set_option maxRecDepth 20000 in
theorem gX4_replaceString_X0_replace : GoodIn wsX4_replaceString (wsV RX4 91 RX0 yX0_replace wsX0_replace) := goodIn_app (goodIn_of _ (by decide +kernel)) ggX4_replaceString_X0_replace
theorem dX4_replaceString_0 : decode cX4_replaceString 0 = .ok (.iload_n 1, 1) := by decide +kernel
theorem dX4_replaceString_1 : decode cX4_replaceString 1 = .ok (.invokestatic 83, 3) := by decide +kernel
theorem dX4_replaceString_4 : decode cX4_replaceString 4 = .ok (.aload_n 0, 1) := by decide +kernel
theorem dX4_replaceString_5 : decode cX4_replaceString 5 = .ok (.getfield 10, 3) := by decide +kernel
theorem dX4_replaceString_8 : decode cX4_replaceString 8 = .ok (.invokevirtual 86, 3) := by decide +kernel
theorem dX4_replaceString_11 : decode cX4_replaceString 11 = .ok (.ifCond .gt 13, 3) := by decide +kernel
theorem dX4_replaceString_14 : decode cX4_replaceString 14 = .ok (.new 38, 3) := by decide +kernel
theorem dX4_replaceString_17 : decode cX4_replaceString 17 = .ok (.dup, 1) := by decide +kernel
theorem dX4_replaceString_18 : decode cX4_replaceString 18 = .ok (.ldc 89, 2) := by decide +kernel
theorem dX4_replaceString_20 : decode cX4_replaceString 20 = .ok (.invokespecial 42, 3) := by decide +kernel
theorem dX4_replaceString_23 : decode cX4_replaceString 23 = .ok (.athrow, 1) := by decide +kernel
theorem dX4_replaceString_24 : decode cX4_replaceString 24 = .ok (.aload_n 0, 1) := by decide +kernel
theorem dX4_replaceString_25 : decode cX4_replaceString 25 = .ok (.getfield 10, 3) := by decide +kernel
theorem dX4_replaceString_28 : decode cX4_replaceString 28 = .ok (.iload_n 1, 1) := by decide +kernel
theorem dX4_replaceString_29 : decode cX4_replaceString 29 = .ok (.invokevirtual 91, 3) := by decide +kernel
theorem dX4_replaceString_32 : decode cX4_replaceString 32 = .ok (.aload_n 0, 1) := by decide +kernel
theorem dX4_replaceString_33 : decode cX4_replaceString 33 = .ok (.getfield 10, 3) := by decide +kernel
theorem dX4_replaceString_36 : decode cX4_replaceString 36 = .ok (.invokevirtual 86, 3) := by decide +kernel
theorem dX4_replaceString_39 : decode cX4_replaceString 39 = .ok (.ireturn, 1) := by decide +kernel
set_option maxRecDepth 20000 in
theorem ggX4_buyStrings_X0_stock : GoodIn wsX4_buyStrings wsX0_stock := goodIn_r _ [8, 9, 21, 22, 23] (by decide +kernel) (by decide +kernel)
set_option maxRecDepth 20000 in
theorem gX4_buyStrings_X0_stock : GoodIn wsX4_buyStrings (wsV RX4 99 RX0 yX0_stock wsX0_stock) := goodIn_app (goodIn_of _ (by decide +kernel)) ggX4_buyStrings_X0_stock
set_option maxRecDepth 20000 in
theorem ggX4_buyStrings_X0_spares : GoodIn wsX4_buyStrings wsX0_spares := goodIn_r _ [13, 9, 21, 22, 23] (by decide +kernel) (by decide +kernel)
set_option maxRecDepth 20000 in
theorem gX4_buyStrings_X0_spares : GoodIn wsX4_buyStrings (wsV RX4 86 RX0 yX0_spares wsX0_spares) := goodIn_app (goodIn_of _ (by decide +kernel)) ggX4_buyStrings_X0_spares
theorem dX4_buyStrings_0 : decode cX4_buyStrings 0 = .ok (.iload_n 1, 1) := by decide +kernel
theorem dX4_buyStrings_1 : decode cX4_buyStrings 1 = .ok (.iconst 1, 1) := by decide +kernel
theorem dX4_buyStrings_2 : decode cX4_buyStrings 2 = .ok (.if_icmp .lt 9, 3) := by decide +kernel
theorem dX4_buyStrings_5 : decode cX4_buyStrings 5 = .ok (.iload_n 1, 1) := by decide +kernel
theorem dX4_buyStrings_6 : decode cX4_buyStrings 6 = .ok (.bipush 20, 2) := by decide +kernel
theorem dX4_buyStrings_8 : decode cX4_buyStrings 8 = .ok (.if_icmp .le 13, 3) := by decide +kernel
theorem dX4_buyStrings_11 : decode cX4_buyStrings 11 = .ok (.new 94, 3) := by decide +kernel
theorem dX4_buyStrings_14 : decode cX4_buyStrings 14 = .ok (.dup, 1) := by decide +kernel
theorem dX4_buyStrings_15 : decode cX4_buyStrings 15 = .ok (.ldc 96, 2) := by decide +kernel
theorem dX4_buyStrings_17 : decode cX4_buyStrings 17 = .ok (.invokespecial 98, 3) := by decide +kernel
theorem dX4_buyStrings_20 : decode cX4_buyStrings 20 = .ok (.athrow, 1) := by decide +kernel
theorem dX4_buyStrings_21 : decode cX4_buyStrings 21 = .ok (.aload_n 0, 1) := by decide +kernel
theorem dX4_buyStrings_22 : decode cX4_buyStrings 22 = .ok (.getfield 10, 3) := by decide +kernel
theorem dX4_buyStrings_25 : decode cX4_buyStrings 25 = .ok (.iload_n 1, 1) := by decide +kernel
theorem dX4_buyStrings_26 : decode cX4_buyStrings 26 = .ok (.invokevirtual 99, 3) := by decide +kernel
theorem dX4_buyStrings_29 : decode cX4_buyStrings 29 = .ok (.aload_n 0, 1) := by decide +kernel
theorem dX4_buyStrings_30 : decode cX4_buyStrings 30 = .ok (.getfield 10, 3) := by decide +kernel
theorem dX4_buyStrings_33 : decode cX4_buyStrings 33 = .ok (.invokevirtual 86, 3) := by decide +kernel
theorem dX4_buyStrings_36 : decode cX4_buyStrings 36 = .ok (.ireturn, 1) := by decide +kernel
set_option maxRecDepth 20000 in
theorem ggX4_newGame_X4_leader : GoodIn wsX4_newGame wsX4_leader := goodIn_r _ [11, 12, 1, 13, 14, 15, 16, 17, 18, 19, 20, 21, 22, 23, 24, 25, 26, 27, 28, 29, 30, 52, 53, 54, 55, 56, 57, 58, 59, 60, 61, 62, 63] (by decide +kernel) (by decide +kernel)
set_option maxRecDepth 20000 in
theorem gX4_newGame_X4_leader : GoodIn wsX4_newGame (wsV RX4 102 RX4 yX4_leader wsX4_leader) := goodIn_app (goodIn_of _ (by decide +kernel)) ggX4_newGame_X4_leader
set_option maxRecDepth 20000 in
theorem ggX4_newGame_X3_clear : GoodIn wsX4_newGame wsX3_clear := goodIn_r _ [34, 22, 23, 24, 25, 59, 60, 61, 62, 63] (by decide +kernel) (by decide +kernel)
set_option maxRecDepth 20000 in
theorem gX4_newGame_X3_clear : GoodIn wsX4_newGame (wsV RX4 105 RX3 yX3_clear wsX3_clear) := goodIn_app (goodIn_of _ (by decide +kernel)) ggX4_newGame_X3_clear
set_option maxRecDepth 20000 in
theorem ggX4_newGame_X2_returnAll : GoodIn wsX4_newGame wsX2_returnAll := goodIn_r _ [39, 40, 64] (by decide +kernel) (by decide +kernel)
set_option maxRecDepth 20000 in
theorem gX4_newGame_X2_returnAll : GoodIn wsX4_newGame (wsV RX4 111 RX2 yX2_returnAll wsX2_returnAll) := goodIn_app (goodIn_of _ (by decide +kernel)) ggX4_newGame_X2_returnAll
set_option maxRecDepth 20000 in
theorem ggX4_newGame_X0_setUp : GoodIn wsX4_newGame wsX0_setUp := goodIn_r _ [45, 46, 47, 48, 49, 44, 50, 51, 65, 66, 67] (by decide +kernel) (by decide +kernel)
set_option maxRecDepth 20000 in
theorem gX4_newGame_X0_setUp : GoodIn wsX4_newGame (wsV RX4 114 RX0 yX0_setUp wsX0_setUp) := goodIn_app (goodIn_of _ (by decide +kernel)) ggX4_newGame_X0_setUp
theorem dX4_newGame_0 : decode cX4_newGame 0 = .ok (.aload_n 0, 1) := by decide +kernel
theorem dX4_newGame_1 : decode cX4_newGame 1 = .ok (.invokevirtual 102, 3) := by decide +kernel
theorem dX4_newGame_4 : decode cX4_newGame 4 = .ok (.istore_n 1, 1) := by decide +kernel
theorem dX4_newGame_5 : decode cX4_newGame 5 = .ok (.iconst 0, 1) := by decide +kernel
theorem dX4_newGame_6 : decode cX4_newGame 6 = .ok (.istore_n 2, 1) := by decide +kernel
theorem dX4_newGame_7 : decode cX4_newGame 7 = .ok (.iload_n 2, 1) := by decide +kernel
theorem dX4_newGame_8 : decode cX4_newGame 8 = .ok (.aload_n 0, 1) := by decide +kernel
theorem dX4_newGame_9 : decode cX4_newGame 9 = .ok (.getfield 25, 3) := by decide +kernel
theorem dX4_newGame_12 : decode cX4_newGame 12 = .ok (.arraylength, 1) := by decide +kernel
theorem dX4_newGame_13 : decode cX4_newGame 13 = .ok (.if_icmp .ge 18, 3) := by decide +kernel
theorem dX4_newGame_16 : decode cX4_newGame 16 = .ok (.aload_n 0, 1) := by decide +kernel
theorem dX4_newGame_17 : decode cX4_newGame 17 = .ok (.getfield 25, 3) := by decide +kernel
theorem dX4_newGame_20 : decode cX4_newGame 20 = .ok (.iload_n 2, 1) := by decide +kernel
theorem dX4_newGame_21 : decode cX4_newGame 21 = .ok (.aaload, 1) := by decide +kernel
theorem dX4_newGame_22 : decode cX4_newGame 22 = .ok (.invokevirtual 105, 3) := by decide +kernel
theorem dX4_newGame_25 : decode cX4_newGame 25 = .ok (.iinc 2 1, 3) := by decide +kernel
theorem dX4_newGame_28 : decode cX4_newGame 28 = .ok (.goto (-21), 3) := by decide +kernel
theorem dX4_newGame_31 : decode cX4_newGame 31 = .ok (.aload_n 0, 1) := by decide +kernel
theorem dX4_newGame_32 : decode cX4_newGame 32 = .ok (.iconst 0, 1) := by decide +kernel
theorem dX4_newGame_33 : decode cX4_newGame 33 = .ok (.putfield 108, 3) := by decide +kernel
theorem dX4_newGame_36 : decode cX4_newGame 36 = .ok (.aload_n 0, 1) := by decide +kernel
theorem dX4_newGame_37 : decode cX4_newGame 37 = .ok (.iconst 0, 1) := by decide +kernel
theorem dX4_newGame_38 : decode cX4_newGame 38 = .ok (.putfield 70, 3) := by decide +kernel
theorem dX4_newGame_41 : decode cX4_newGame 41 = .ok (.aload_n 0, 1) := by decide +kernel
theorem dX4_newGame_42 : decode cX4_newGame 42 = .ok (.iconst 0, 1) := by decide +kernel
theorem dX4_newGame_43 : decode cX4_newGame 43 = .ok (.putfield 77, 3) := by decide +kernel
theorem dX4_newGame_46 : decode cX4_newGame 46 = .ok (.aload_n 0, 1) := by decide +kernel
theorem dX4_newGame_47 : decode cX4_newGame 47 = .ok (.getfield 19, 3) := by decide +kernel
theorem dX4_newGame_50 : decode cX4_newGame 50 = .ok (.invokevirtual 111, 3) := by decide +kernel
theorem dX4_newGame_53 : decode cX4_newGame 53 = .ok (.aload_n 0, 1) := by decide +kernel
theorem dX4_newGame_54 : decode cX4_newGame 54 = .ok (.getfield 10, 3) := by decide +kernel
theorem dX4_newGame_57 : decode cX4_newGame 57 = .ok (.invokevirtual 114, 3) := by decide +kernel
theorem dX4_newGame_60 : decode cX4_newGame 60 = .ok (.iload_n 1, 1) := by decide +kernel
theorem dX4_newGame_61 : decode cX4_newGame 61 = .ok (.ireturn, 1) := by decide +kernel
set_option maxRecDepth 20000 in
theorem ggX4_isStanding_X4_checkPin : GoodIn wsX4_isStanding wsX4_checkPin := goodIn_ca (goodIn_r _ [5, 6, 7, 4, 8, 9, 10] (by decide +kernel) (by decide +kernel)) (goodIn_sub (fun _ h => List.mem_cons_of_mem _ (List.mem_append_right _ h)) (by decide +kernel))
set_option maxRecDepth 20000 in
theorem gX4_isStanding_X4_checkPin : GoodIn wsX4_isStanding (va_wsS RX4 83 yX4_checkPin wsX4_checkPin) := goodIn_app (goodIn_of _ (by decide +kernel)) ggX4_isStanding_X4_checkPin
set_option maxRecDepth 20000 in
theorem ggX4_isStanding_X0_standingPins : GoodIn wsX4_isStanding wsX0_standingPins := goodIn_r _ [15, 16, 28, 29, 30] (by decide +kernel) (by decide +kernel)
set_option maxRecDepth 20000 in
theorem gX4_isStanding_X0_standingPins : GoodIn wsX4_isStanding (wsV RX4 67 RX0 yX0_standingPins wsX0_standingPins) := goodIn_app (goodIn_of _ (by decide +kernel)) ggX4_isStanding_X0_standingPins
set_option maxRecDepth 20000 in
theorem ggX4_isStanding_X1_holds : GoodIn wsX4_isStanding wsX1_holds := goodIn_r _ [20] (by decide +kernel) (by decide +kernel)
set_option maxRecDepth 20000 in
theorem gX4_isStanding_X1_holds : GoodIn wsX4_isStanding (va_wsS RX4 117 yX1_holds wsX1_holds) := goodIn_app (goodIn_of _ (by decide +kernel)) ggX4_isStanding_X1_holds
theorem dX4_isStanding_0 : decode cX4_isStanding 0 = .ok (.iload_n 1, 1) := by decide +kernel
theorem dX4_isStanding_1 : decode cX4_isStanding 1 = .ok (.invokestatic 83, 3) := by decide +kernel
theorem dX4_isStanding_4 : decode cX4_isStanding 4 = .ok (.aload_n 0, 1) := by decide +kernel
theorem dX4_isStanding_5 : decode cX4_isStanding 5 = .ok (.getfield 10, 3) := by decide +kernel
theorem dX4_isStanding_8 : decode cX4_isStanding 8 = .ok (.invokevirtual 67, 3) := by decide +kernel
theorem dX4_isStanding_11 : decode cX4_isStanding 11 = .ok (.iload_n 1, 1) := by decide +kernel
theorem dX4_isStanding_12 : decode cX4_isStanding 12 = .ok (.invokestatic 117, 3) := by decide +kernel
theorem dX4_isStanding_15 : decode cX4_isStanding 15 = .ok (.ireturn, 1) := by decide +kernel
set_option maxRecDepth 20000 in
theorem ggX4_standing_X0_standingPins : GoodIn wsX4_standing wsX0_standingPins := goodIn_r _ [6, 7, 22, 23, 24] (by decide +kernel) (by decide +kernel)
set_option maxRecDepth 20000 in
theorem gX4_standing_X0_standingPins : GoodIn wsX4_standing (wsV RX4 67 RX0 yX0_standingPins wsX0_standingPins) := goodIn_app (goodIn_of _ (by decide +kernel)) ggX4_standing_X0_standingPins
set_option maxRecDepth 20000 in
theorem ggX4_standing_J6_bitCount_0f7a4 : GoodIn wsX4_standing wsJ6_bitCount_0f7a4 := goodIn_r _ [11, 12, 13, 14] (by decide +kernel) (by decide +kernel)
set_option maxRecDepth 20000 in
theorem gX4_standing_J6_bitCount_0f7a4 : GoodIn wsX4_standing (va_wsS RX4 123 yJ6_bitCount_0f7a4 wsJ6_bitCount_0f7a4) := goodIn_app (goodIn_of _ (by decide +kernel)) ggX4_standing_J6_bitCount_0f7a4
theorem dX4_standing_0 : decode cX4_standing 0 = .ok (.aload_n 0, 1) := by decide +kernel
theorem dX4_standing_1 : decode cX4_standing 1 = .ok (.getfield 10, 3) := by decide +kernel
theorem dX4_standing_4 : decode cX4_standing 4 = .ok (.invokevirtual 67, 3) := by decide +kernel
theorem dX4_standing_7 : decode cX4_standing 7 = .ok (.invokestatic 123, 3) := by decide +kernel
theorem dX4_standing_10 : decode cX4_standing 10 = .ok (.ireturn, 1) := by decide +kernel
set_option maxRecDepth 20000 in
theorem ggX4_wearOf_X4_checkPin : GoodIn wsX4_wearOf wsX4_checkPin := goodIn_ca (goodIn_r _ [5, 6, 7, 4, 8, 9, 10] (by decide +kernel) (by decide +kernel)) (goodIn_sub (fun _ h => List.mem_cons_of_mem _ (List.mem_append_right _ h)) (by decide +kernel))
set_option maxRecDepth 20000 in
theorem gX4_wearOf_X4_checkPin : GoodIn wsX4_wearOf (va_wsS RX4 83 yX4_checkPin wsX4_checkPin) := goodIn_app (goodIn_of _ (by decide +kernel)) ggX4_wearOf_X4_checkPin
set_option maxRecDepth 20000 in
theorem ggX4_wearOf_X0_wear : GoodIn wsX4_wearOf wsX0_wear := goodIn_r _ [15, 16, 24, 25, 26] (by decide +kernel) (by decide +kernel)
set_option maxRecDepth 20000 in
theorem gX4_wearOf_X0_wear : GoodIn wsX4_wearOf (wsV RX4 128 RX0 yX0_wear wsX0_wear) := goodIn_app (goodIn_of _ (by decide +kernel)) ggX4_wearOf_X0_wear
theorem dX4_wearOf_0 : decode cX4_wearOf 0 = .ok (.iload_n 1, 1) := by decide +kernel
theorem dX4_wearOf_1 : decode cX4_wearOf 1 = .ok (.invokestatic 83, 3) := by decide +kernel
theorem dX4_wearOf_4 : decode cX4_wearOf 4 = .ok (.aload_n 0, 1) := by decide +kernel
theorem dX4_wearOf_5 : decode cX4_wearOf 5 = .ok (.getfield 10, 3) := by decide +kernel
theorem dX4_wearOf_8 : decode cX4_wearOf 8 = .ok (.iload_n 1, 1) := by decide +kernel
theorem dX4_wearOf_9 : decode cX4_wearOf 9 = .ok (.invokevirtual 128, 3) := by decide +kernel
theorem dX4_wearOf_12 : decode cX4_wearOf 12 = .ok (.ireturn, 1) := by decide +kernel
set_option maxRecDepth 20000 in
theorem ggX4_isBroken_X4_checkPin : GoodIn wsX4_isBroken wsX4_checkPin := goodIn_ca (goodIn_r _ [5, 6, 7, 4, 8, 9, 10] (by decide +kernel) (by decide +kernel)) (goodIn_sub (fun _ h => List.mem_cons_of_mem _ (List.mem_append_right _ h)) (by decide +kernel))
set_option maxRecDepth 20000 in
theorem gX4_isBroken_X4_checkPin : GoodIn wsX4_isBroken (va_wsS RX4 83 yX4_checkPin wsX4_checkPin) := goodIn_app (goodIn_of _ (by decide +kernel)) ggX4_isBroken_X4_checkPin
set_option maxRecDepth 20000 in
theorem ggX4_isBroken_X0_broken : GoodIn wsX4_isBroken wsX0_broken := goodIn_r _ [15, 16, 24, 25, 26] (by decide +kernel) (by decide +kernel)
set_option maxRecDepth 20000 in
theorem gX4_isBroken_X0_broken : GoodIn wsX4_isBroken (wsV RX4 131 RX0 yX0_broken wsX0_broken) := goodIn_app (goodIn_of _ (by decide +kernel)) ggX4_isBroken_X0_broken
theorem dX4_isBroken_0 : decode cX4_isBroken 0 = .ok (.iload_n 1, 1) := by decide +kernel
theorem dX4_isBroken_1 : decode cX4_isBroken 1 = .ok (.invokestatic 83, 3) := by decide +kernel
theorem dX4_isBroken_4 : decode cX4_isBroken 4 = .ok (.aload_n 0, 1) := by decide +kernel
theorem dX4_isBroken_5 : decode cX4_isBroken 5 = .ok (.getfield 10, 3) := by decide +kernel
theorem dX4_isBroken_8 : decode cX4_isBroken 8 = .ok (.iload_n 1, 1) := by decide +kernel
theorem dX4_isBroken_9 : decode cX4_isBroken 9 = .ok (.invokevirtual 131, 3) := by decide +kernel
theorem dX4_isBroken_12 : decode cX4_isBroken 12 = .ok (.ireturn, 1) := by decide +kernel
set_option maxRecDepth 20000 in
theorem ggX4_brokenStrings_X0_brokenCount : GoodIn wsX4_brokenStrings wsX0_brokenCount := goodIn_r _ [6, 7, 8, 9, 5, 10, 11, 19, 20, 21] (by decide +kernel) (by decide +kernel)
set_option maxRecDepth 20000 in
theorem gX4_brokenStrings_X0_brokenCount : GoodIn wsX4_brokenStrings (wsV RX4 135 RX0 yX0_brokenCount wsX0_brokenCount) := goodIn_app (goodIn_of _ (by decide +kernel)) ggX4_brokenStrings_X0_brokenCount
theorem dX4_brokenStrings_0 : decode cX4_brokenStrings 0 = .ok (.aload_n 0, 1) := by decide +kernel
theorem dX4_brokenStrings_1 : decode cX4_brokenStrings 1 = .ok (.getfield 10, 3) := by decide +kernel
theorem dX4_brokenStrings_4 : decode cX4_brokenStrings 4 = .ok (.invokevirtual 135, 3) := by decide +kernel
theorem dX4_brokenStrings_7 : decode cX4_brokenStrings 7 = .ok (.ireturn, 1) := by decide +kernel
set_option maxRecDepth 20000 in
theorem ggX4_mostWorn_X0_mostWornPin : GoodIn wsX4_mostWorn wsX0_mostWornPin := goodIn_r _ [6, 7, 8, 9, 10, 5, 11, 19, 20, 21] (by decide +kernel) (by decide +kernel)
set_option maxRecDepth 20000 in
theorem gX4_mostWorn_X0_mostWornPin : GoodIn wsX4_mostWorn (wsV RX4 138 RX0 yX0_mostWornPin wsX0_mostWornPin) := goodIn_app (goodIn_of _ (by decide +kernel)) ggX4_mostWorn_X0_mostWornPin
theorem dX4_mostWorn_0 : decode cX4_mostWorn 0 = .ok (.aload_n 0, 1) := by decide +kernel
theorem dX4_mostWorn_1 : decode cX4_mostWorn 1 = .ok (.getfield 10, 3) := by decide +kernel
theorem dX4_mostWorn_4 : decode cX4_mostWorn 4 = .ok (.invokevirtual 138, 3) := by decide +kernel
theorem dX4_mostWorn_7 : decode cX4_mostWorn 7 = .ok (.ireturn, 1) := by decide +kernel
set_option maxRecDepth 20000 in
theorem ggX4_spareStrings_X0_spares : GoodIn wsX4_spareStrings wsX0_spares := goodIn_r _ [6, 7, 15, 16, 17] (by decide +kernel) (by decide +kernel)
set_option maxRecDepth 20000 in
theorem gX4_spareStrings_X0_spares : GoodIn wsX4_spareStrings (wsV RX4 86 RX0 yX0_spares wsX0_spares) := goodIn_app (goodIn_of _ (by decide +kernel)) ggX4_spareStrings_X0_spares
theorem dX4_spareStrings_0 : decode cX4_spareStrings 0 = .ok (.aload_n 0, 1) := by decide +kernel
theorem dX4_spareStrings_1 : decode cX4_spareStrings 1 = .ok (.getfield 10, 3) := by decide +kernel
theorem dX4_spareStrings_4 : decode cX4_spareStrings 4 = .ok (.invokevirtual 86, 3) := by decide +kernel
theorem dX4_spareStrings_7 : decode cX4_spareStrings 7 = .ok (.ireturn, 1) := by decide +kernel
set_option maxRecDepth 20000 in
theorem ggX4_awayFor_X4_checkBall : GoodIn wsX4_awayFor wsX4_checkBall := goodIn_ca (goodIn_r _ [5, 6, 7, 4, 8, 9, 10] (by decide +kernel) (by decide +kernel)) (goodIn_sub (fun _ h => List.mem_cons_of_mem _ (List.mem_append_right _ h)) (by decide +kernel))
set_option maxRecDepth 20000 in
theorem gX4_awayFor_X4_checkBall : GoodIn wsX4_awayFor (va_wsS RX4 141 yX4_checkBall wsX4_checkBall) := goodIn_app (goodIn_of _ (by decide +kernel)) ggX4_awayFor_X4_checkBall
set_option maxRecDepth 20000 in
theorem ggX4_awayFor_X2_throwsAway : GoodIn wsX4_awayFor wsX2_throwsAway := goodIn_r _ [15, 16, 24] (by decide +kernel) (by decide +kernel)
set_option maxRecDepth 20000 in
theorem gX4_awayFor_X2_throwsAway : GoodIn wsX4_awayFor (wsV RX4 53 RX2 yX2_throwsAway wsX2_throwsAway) := goodIn_app (goodIn_of _ (by decide +kernel)) ggX4_awayFor_X2_throwsAway
theorem dX4_awayFor_0 : decode cX4_awayFor 0 = .ok (.iload_n 1, 1) := by decide +kernel
theorem dX4_awayFor_1 : decode cX4_awayFor 1 = .ok (.invokestatic 141, 3) := by decide +kernel
theorem dX4_awayFor_4 : decode cX4_awayFor 4 = .ok (.aload_n 0, 1) := by decide +kernel
theorem dX4_awayFor_5 : decode cX4_awayFor 5 = .ok (.getfield 19, 3) := by decide +kernel
theorem dX4_awayFor_8 : decode cX4_awayFor 8 = .ok (.iload_n 1, 1) := by decide +kernel
theorem dX4_awayFor_9 : decode cX4_awayFor 9 = .ok (.invokevirtual 53, 3) := by decide +kernel
theorem dX4_awayFor_12 : decode cX4_awayFor 12 = .ok (.ireturn, 1) := by decide +kernel
theorem dX4_players_0 : decode cX4_players 0 = .ok (.aload_n 0, 1) := by decide +kernel
theorem dX4_players_1 : decode cX4_players 1 = .ok (.getfield 30, 3) := by decide +kernel
theorem dX4_players_4 : decode cX4_players 4 = .ok (.ireturn, 1) := by decide +kernel
set_option maxRecDepth 20000 in
theorem ggX4_playerInTurn_X4_isOver : GoodIn wsX4_playerInTurn wsX4_isOver := goodIn_r _ [7, 8, 9, 10, 11, 12, 13, 14, 15] (by decide +kernel) (by decide +kernel)
set_option maxRecDepth 20000 in
theorem gX4_playerInTurn_X4_isOver : GoodIn wsX4_playerInTurn (wsV RX4 144 RX4 yX4_isOver wsX4_isOver) := goodIn_app (goodIn_of _ (by decide +kernel)) ggX4_playerInTurn_X4_isOver
theorem dX4_playerInTurn_0 : decode cX4_playerInTurn 0 = .ok (.aload_n 0, 1) := by decide +kernel
theorem dX4_playerInTurn_1 : decode cX4_playerInTurn 1 = .ok (.getfield 30, 3) := by decide +kernel
theorem dX4_playerInTurn_4 : decode cX4_playerInTurn 4 = .ok (.ifCond .eq 10, 3) := by decide +kernel
theorem dX4_playerInTurn_7 : decode cX4_playerInTurn 7 = .ok (.aload_n 0, 1) := by decide +kernel
theorem dX4_playerInTurn_8 : decode cX4_playerInTurn 8 = .ok (.invokevirtual 144, 3) := by decide +kernel
theorem dX4_playerInTurn_11 : decode cX4_playerInTurn 11 = .ok (.ifCond .eq 7, 3) := by decide +kernel
theorem dX4_playerInTurn_14 : decode cX4_playerInTurn 14 = .ok (.iconst (-1), 1) := by decide +kernel
theorem dX4_playerInTurn_15 : decode cX4_playerInTurn 15 = .ok (.goto 7, 3) := by decide +kernel
theorem dX4_playerInTurn_18 : decode cX4_playerInTurn 18 = .ok (.aload_n 0, 1) := by decide +kernel
theorem dX4_playerInTurn_19 : decode cX4_playerInTurn 19 = .ok (.getfield 108, 3) := by decide +kernel
theorem dX4_playerInTurn_22 : decode cX4_playerInTurn 22 = .ok (.ireturn, 1) := by decide +kernel
theorem dX4_frame_0 : decode cX4_frame 0 = .ok (.aload_n 0, 1) := by decide +kernel
theorem dX4_frame_1 : decode cX4_frame 1 = .ok (.getfield 70, 3) := by decide +kernel
theorem dX4_frame_4 : decode cX4_frame 4 = .ok (.ireturn, 1) := by decide +kernel
theorem dX4_throwsInFrame_0 : decode cX4_throwsInFrame 0 = .ok (.aload_n 0, 1) := by decide +kernel
theorem dX4_throwsInFrame_1 : decode cX4_throwsInFrame 1 = .ok (.getfield 77, 3) := by decide +kernel
theorem dX4_throwsInFrame_4 : decode cX4_throwsInFrame 4 = .ok (.ireturn, 1) := by decide +kernel
theorem dX4_isOver_0 : decode cX4_isOver 0 = .ok (.aload_n 0, 1) := by decide +kernel
theorem dX4_isOver_1 : decode cX4_isOver 1 = .ok (.getfield 70, 3) := by decide +kernel
theorem dX4_isOver_4 : decode cX4_isOver 4 = .ok (.bipush 10, 2) := by decide +kernel
theorem dX4_isOver_6 : decode cX4_isOver 6 = .ok (.if_icmp .lt 7, 3) := by decide +kernel
theorem dX4_isOver_9 : decode cX4_isOver 9 = .ok (.iconst 1, 1) := by decide +kernel
theorem dX4_isOver_10 : decode cX4_isOver 10 = .ok (.goto 4, 3) := by decide +kernel
theorem dX4_isOver_13 : decode cX4_isOver 13 = .ok (.iconst 0, 1) := by decide +kernel
theorem dX4_isOver_14 : decode cX4_isOver 14 = .ok (.ireturn, 1) := by decide +kernel
set_option maxRecDepth 20000 in
theorem ggX4_throwsOf_X4_checkPlayer : GoodIn wsX4_throwsOf wsX4_checkPlayer := goodIn_ca (goodIn_r _ [6, 7, 8, 9, 5, 10, 11, 12, 19, 20, 21, 22, 23, 24, 25] (by decide +kernel) (by decide +kernel)) (goodIn_sub (fun _ h => List.mem_cons_of_mem _ (List.mem_append_right _ h)) (by decide +kernel))
set_option maxRecDepth 20000 in
theorem gX4_throwsOf_X4_checkPlayer : GoodIn wsX4_throwsOf (wsV RX4 147 RX4 yX4_checkPlayer wsX4_checkPlayer) := goodIn_app (goodIn_of _ (by decide +kernel)) ggX4_throwsOf_X4_checkPlayer
set_option maxRecDepth 20000 in
theorem ggX4_throwsOf_X3_thrown : GoodIn wsX4_throwsOf wsX3_thrown := goodIn_r _ [17, 18, 26, 27, 28, 29, 30] (by decide +kernel) (by decide +kernel)
set_option maxRecDepth 20000 in
theorem gX4_throwsOf_X3_thrown : GoodIn wsX4_throwsOf (wsV RX4 150 RX3 yX3_thrown wsX3_thrown) := goodIn_app (goodIn_of _ (by decide +kernel)) ggX4_throwsOf_X3_thrown
theorem dX4_throwsOf_0 : decode cX4_throwsOf 0 = .ok (.aload_n 0, 1) := by decide +kernel
theorem dX4_throwsOf_1 : decode cX4_throwsOf 1 = .ok (.iload_n 1, 1) := by decide +kernel
theorem dX4_throwsOf_2 : decode cX4_throwsOf 2 = .ok (.invokevirtual 147, 3) := by decide +kernel
theorem dX4_throwsOf_5 : decode cX4_throwsOf 5 = .ok (.aload_n 0, 1) := by decide +kernel
theorem dX4_throwsOf_6 : decode cX4_throwsOf 6 = .ok (.getfield 25, 3) := by decide +kernel
theorem dX4_throwsOf_9 : decode cX4_throwsOf 9 = .ok (.iload_n 1, 1) := by decide +kernel
theorem dX4_throwsOf_10 : decode cX4_throwsOf 10 = .ok (.aaload, 1) := by decide +kernel
theorem dX4_throwsOf_11 : decode cX4_throwsOf 11 = .ok (.invokevirtual 150, 3) := by decide +kernel
theorem dX4_throwsOf_14 : decode cX4_throwsOf 14 = .ok (.ireturn, 1) := by decide +kernel
set_option maxRecDepth 20000 in
theorem ggX4_scoreOf_X4_checkPlayer : GoodIn wsX4_scoreOf wsX4_checkPlayer := goodIn_ca (goodIn_r _ [6, 7, 8, 9, 5, 10, 11, 12, 31, 32, 33, 34, 35, 36, 37] (by decide +kernel) (by decide +kernel)) (goodIn_sub (fun _ h => List.mem_cons_of_mem _ (List.mem_append_right _ h)) (by decide +kernel))
set_option maxRecDepth 20000 in
theorem gX4_scoreOf_X4_checkPlayer : GoodIn wsX4_scoreOf (wsV RX4 147 RX4 yX4_checkPlayer wsX4_checkPlayer) := goodIn_app (goodIn_of _ (by decide +kernel)) ggX4_scoreOf_X4_checkPlayer
set_option maxRecDepth 20000 in
theorem ggX4_scoreOf_X3_score : GoodIn wsX4_scoreOf wsX3_score := goodIn_r _ [17, 18, 19, 20, 16, 21, 22, 23, 24, 25, 26, 27, 28, 29, 30, 38, 39, 40, 41, 42] (by decide +kernel) (by decide +kernel)
set_option maxRecDepth 20000 in
theorem gX4_scoreOf_X3_score : GoodIn wsX4_scoreOf (wsV RX4 153 RX3 yX3_score wsX3_score) := goodIn_app (goodIn_of _ (by decide +kernel)) ggX4_scoreOf_X3_score
theorem dX4_scoreOf_0 : decode cX4_scoreOf 0 = .ok (.aload_n 0, 1) := by decide +kernel
theorem dX4_scoreOf_1 : decode cX4_scoreOf 1 = .ok (.iload_n 1, 1) := by decide +kernel
theorem dX4_scoreOf_2 : decode cX4_scoreOf 2 = .ok (.invokevirtual 147, 3) := by decide +kernel
theorem dX4_scoreOf_5 : decode cX4_scoreOf 5 = .ok (.aload_n 0, 1) := by decide +kernel
theorem dX4_scoreOf_6 : decode cX4_scoreOf 6 = .ok (.getfield 25, 3) := by decide +kernel
theorem dX4_scoreOf_9 : decode cX4_scoreOf 9 = .ok (.iload_n 1, 1) := by decide +kernel
theorem dX4_scoreOf_10 : decode cX4_scoreOf 10 = .ok (.aaload, 1) := by decide +kernel
theorem dX4_scoreOf_11 : decode cX4_scoreOf 11 = .ok (.invokevirtual 153, 3) := by decide +kernel
theorem dX4_scoreOf_14 : decode cX4_scoreOf 14 = .ok (.ireturn, 1) := by decide +kernel
set_option maxRecDepth 20000 in
theorem ggX4_pointsOf_X4_checkPlayer : GoodIn wsX4_pointsOf wsX4_checkPlayer := goodIn_ca (goodIn_r _ [6, 7, 8, 9, 5, 10, 11, 12, 27, 28, 29, 30, 31, 32, 33] (by decide +kernel) (by decide +kernel)) (goodIn_sub (fun _ h => List.mem_cons_of_mem _ (List.mem_append_right _ h)) (by decide +kernel))
set_option maxRecDepth 20000 in
theorem gX4_pointsOf_X4_checkPlayer : GoodIn wsX4_pointsOf (wsV RX4 147 RX4 yX4_checkPlayer wsX4_checkPlayer) := goodIn_app (goodIn_of _ (by decide +kernel)) ggX4_pointsOf_X4_checkPlayer
set_option maxRecDepth 20000 in
theorem ggX4_pointsOf_X4_checkIndex : GoodIn wsX4_pointsOf wsX4_checkIndex := goodIn_ca (goodIn_r _ [10, 11, 12] (by decide +kernel) (by decide +kernel)) (goodIn_sub (fun _ h => List.mem_cons_of_mem _ (List.mem_append_right _ h)) (by decide +kernel))
set_option maxRecDepth 20000 in
theorem gX4_pointsOf_X4_checkIndex : GoodIn wsX4_pointsOf (va_wsS RX4 156 yX4_checkIndex wsX4_checkIndex) := goodIn_app (goodIn_of _ (by decide +kernel)) ggX4_pointsOf_X4_checkIndex
set_option maxRecDepth 20000 in
theorem ggX4_pointsOf_X3_points : GoodIn wsX4_pointsOf wsX3_points := goodIn_r _ [17, 18, 19, 20, 21, 22, 23, 24, 25, 26, 34, 35, 36, 37, 38] (by decide +kernel) (by decide +kernel)
set_option maxRecDepth 20000 in
theorem gX4_pointsOf_X3_points : GoodIn wsX4_pointsOf (wsV RX4 159 RX3 yX3_points wsX3_points) := goodIn_app (goodIn_of _ (by decide +kernel)) ggX4_pointsOf_X3_points
theorem dX4_pointsOf_0 : decode cX4_pointsOf 0 = .ok (.aload_n 0, 1) := by decide +kernel
theorem dX4_pointsOf_1 : decode cX4_pointsOf 1 = .ok (.iload_n 1, 1) := by decide +kernel
theorem dX4_pointsOf_2 : decode cX4_pointsOf 2 = .ok (.invokevirtual 147, 3) := by decide +kernel
theorem dX4_pointsOf_5 : decode cX4_pointsOf 5 = .ok (.iload_n 2, 1) := by decide +kernel
theorem dX4_pointsOf_6 : decode cX4_pointsOf 6 = .ok (.bipush 10, 2) := by decide +kernel
theorem dX4_pointsOf_8 : decode cX4_pointsOf 8 = .ok (.invokestatic 156, 3) := by decide +kernel
theorem dX4_pointsOf_11 : decode cX4_pointsOf 11 = .ok (.aload_n 0, 1) := by decide +kernel
theorem dX4_pointsOf_12 : decode cX4_pointsOf 12 = .ok (.getfield 25, 3) := by decide +kernel
theorem dX4_pointsOf_15 : decode cX4_pointsOf 15 = .ok (.iload_n 1, 1) := by decide +kernel
theorem dX4_pointsOf_16 : decode cX4_pointsOf 16 = .ok (.aaload, 1) := by decide +kernel
theorem dX4_pointsOf_17 : decode cX4_pointsOf 17 = .ok (.iload_n 2, 1) := by decide +kernel
theorem dX4_pointsOf_18 : decode cX4_pointsOf 18 = .ok (.invokevirtual 159, 3) := by decide +kernel
theorem dX4_pointsOf_21 : decode cX4_pointsOf 21 = .ok (.ireturn, 1) := by decide +kernel
set_option maxRecDepth 20000 in
theorem ggX4_strikesOf_X4_checkPlayer : GoodIn wsX4_strikesOf wsX4_checkPlayer := goodIn_ca (goodIn_r _ [6, 7, 8, 9, 5, 10, 11, 12, 23, 24, 25, 26, 27, 28, 29] (by decide +kernel) (by decide +kernel)) (goodIn_sub (fun _ h => List.mem_cons_of_mem _ (List.mem_append_right _ h)) (by decide +kernel))
set_option maxRecDepth 20000 in
theorem gX4_strikesOf_X4_checkPlayer : GoodIn wsX4_strikesOf (wsV RX4 147 RX4 yX4_checkPlayer wsX4_checkPlayer) := goodIn_app (goodIn_of _ (by decide +kernel)) ggX4_strikesOf_X4_checkPlayer
set_option maxRecDepth 20000 in
theorem ggX4_strikesOf_X3_strikes : GoodIn wsX4_strikesOf wsX3_strikes := goodIn_r _ [17, 18, 19, 20, 16, 21, 22, 30, 31, 32, 33, 34] (by decide +kernel) (by decide +kernel)
set_option maxRecDepth 20000 in
theorem gX4_strikesOf_X3_strikes : GoodIn wsX4_strikesOf (wsV RX4 162 RX3 yX3_strikes wsX3_strikes) := goodIn_app (goodIn_of _ (by decide +kernel)) ggX4_strikesOf_X3_strikes
theorem dX4_strikesOf_0 : decode cX4_strikesOf 0 = .ok (.aload_n 0, 1) := by decide +kernel
theorem dX4_strikesOf_1 : decode cX4_strikesOf 1 = .ok (.iload_n 1, 1) := by decide +kernel
theorem dX4_strikesOf_2 : decode cX4_strikesOf 2 = .ok (.invokevirtual 147, 3) := by decide +kernel
theorem dX4_strikesOf_5 : decode cX4_strikesOf 5 = .ok (.aload_n 0, 1) := by decide +kernel
theorem dX4_strikesOf_6 : decode cX4_strikesOf 6 = .ok (.getfield 25, 3) := by decide +kernel
theorem dX4_strikesOf_9 : decode cX4_strikesOf 9 = .ok (.iload_n 1, 1) := by decide +kernel
theorem dX4_strikesOf_10 : decode cX4_strikesOf 10 = .ok (.aaload, 1) := by decide +kernel
theorem dX4_strikesOf_11 : decode cX4_strikesOf 11 = .ok (.invokevirtual 162, 3) := by decide +kernel
theorem dX4_strikesOf_14 : decode cX4_strikesOf 14 = .ok (.ireturn, 1) := by decide +kernel
set_option maxRecDepth 20000 in
theorem ggX4_sparesOf_X4_checkPlayer : GoodIn wsX4_sparesOf wsX4_checkPlayer := goodIn_ca (goodIn_r _ [6, 7, 8, 9, 5, 10, 11, 12, 23, 24, 25, 26, 27, 28, 29] (by decide +kernel) (by decide +kernel)) (goodIn_sub (fun _ h => List.mem_cons_of_mem _ (List.mem_append_right _ h)) (by decide +kernel))
set_option maxRecDepth 20000 in
theorem gX4_sparesOf_X4_checkPlayer : GoodIn wsX4_sparesOf (wsV RX4 147 RX4 yX4_checkPlayer wsX4_checkPlayer) := goodIn_app (goodIn_of _ (by decide +kernel)) ggX4_sparesOf_X4_checkPlayer
set_option maxRecDepth 20000 in
theorem ggX4_sparesOf_X3_spares : GoodIn wsX4_sparesOf wsX3_spares := goodIn_r _ [17, 18, 19, 20, 16, 21, 22, 30, 31, 32, 33, 34] (by decide +kernel) (by decide +kernel)
set_option maxRecDepth 20000 in
theorem gX4_sparesOf_X3_spares : GoodIn wsX4_sparesOf (wsV RX4 165 RX3 yX3_spares wsX3_spares) := goodIn_app (goodIn_of _ (by decide +kernel)) ggX4_sparesOf_X3_spares
theorem dX4_sparesOf_0 : decode cX4_sparesOf 0 = .ok (.aload_n 0, 1) := by decide +kernel
theorem dX4_sparesOf_1 : decode cX4_sparesOf 1 = .ok (.iload_n 1, 1) := by decide +kernel
theorem dX4_sparesOf_2 : decode cX4_sparesOf 2 = .ok (.invokevirtual 147, 3) := by decide +kernel
theorem dX4_sparesOf_5 : decode cX4_sparesOf 5 = .ok (.aload_n 0, 1) := by decide +kernel
theorem dX4_sparesOf_6 : decode cX4_sparesOf 6 = .ok (.getfield 25, 3) := by decide +kernel
theorem dX4_sparesOf_9 : decode cX4_sparesOf 9 = .ok (.iload_n 1, 1) := by decide +kernel
theorem dX4_sparesOf_10 : decode cX4_sparesOf 10 = .ok (.aaload, 1) := by decide +kernel
theorem dX4_sparesOf_11 : decode cX4_sparesOf 11 = .ok (.invokevirtual 165, 3) := by decide +kernel
theorem dX4_sparesOf_14 : decode cX4_sparesOf 14 = .ok (.ireturn, 1) := by decide +kernel
set_option maxRecDepth 20000 in
theorem ggX4_leader_X3_score : GoodIn wsX4_leader wsX3_score := goodIn_r _ [7, 8, 9, 10, 6, 11, 12, 13, 14, 15, 16, 17, 18, 19, 20, 28, 29, 30, 31, 32] (by decide +kernel) (by decide +kernel)
set_option maxRecDepth 20000 in
theorem gX4_leader_X3_score : GoodIn wsX4_leader (wsV RX4 153 RX3 yX3_score wsX3_score) := goodIn_app (goodIn_of _ (by decide +kernel)) ggX4_leader_X3_score
theorem dX4_leader_0 : decode cX4_leader 0 = .ok (.iconst (-1), 1) := by decide +kernel
theorem dX4_leader_1 : decode cX4_leader 1 = .ok (.istore_n 1, 1) := by decide +kernel
theorem dX4_leader_2 : decode cX4_leader 2 = .ok (.iconst (-1), 1) := by decide +kernel
theorem dX4_leader_3 : decode cX4_leader 3 = .ok (.istore_n 2, 1) := by decide +kernel
theorem dX4_leader_4 : decode cX4_leader 4 = .ok (.iconst 0, 1) := by decide +kernel
theorem dX4_leader_5 : decode cX4_leader 5 = .ok (.istore_n 3, 1) := by decide +kernel
theorem dX4_leader_6 : decode cX4_leader 6 = .ok (.iload_n 3, 1) := by decide +kernel
theorem dX4_leader_7 : decode cX4_leader 7 = .ok (.aload_n 0, 1) := by decide +kernel
theorem dX4_leader_8 : decode cX4_leader 8 = .ok (.getfield 30, 3) := by decide +kernel
theorem dX4_leader_11 : decode cX4_leader 11 = .ok (.if_icmp .ge 31, 3) := by decide +kernel
theorem dX4_leader_14 : decode cX4_leader 14 = .ok (.aload_n 0, 1) := by decide +kernel
theorem dX4_leader_15 : decode cX4_leader 15 = .ok (.getfield 25, 3) := by decide +kernel
theorem dX4_leader_18 : decode cX4_leader 18 = .ok (.iload_n 3, 1) := by decide +kernel
theorem dX4_leader_19 : decode cX4_leader 19 = .ok (.aaload, 1) := by decide +kernel
theorem dX4_leader_20 : decode cX4_leader 20 = .ok (.invokevirtual 153, 3) := by decide +kernel
theorem dX4_leader_23 : decode cX4_leader 23 = .ok (.istore 4, 2) := by decide +kernel
theorem dX4_leader_25 : decode cX4_leader 25 = .ok (.iload 4, 2) := by decide +kernel
theorem dX4_leader_27 : decode cX4_leader 27 = .ok (.iload_n 2, 1) := by decide +kernel
theorem dX4_leader_28 : decode cX4_leader 28 = .ok (.if_icmp .le 8, 3) := by decide +kernel
theorem dX4_leader_31 : decode cX4_leader 31 = .ok (.iload_n 3, 1) := by decide +kernel
theorem dX4_leader_32 : decode cX4_leader 32 = .ok (.istore_n 1, 1) := by decide +kernel
theorem dX4_leader_33 : decode cX4_leader 33 = .ok (.iload 4, 2) := by decide +kernel
theorem dX4_leader_35 : decode cX4_leader 35 = .ok (.istore_n 2, 1) := by decide +kernel
theorem dX4_leader_36 : decode cX4_leader 36 = .ok (.iinc 3 1, 3) := by decide +kernel
theorem dX4_leader_39 : decode cX4_leader 39 = .ok (.goto (-33), 3) := by decide +kernel
theorem dX4_leader_42 : decode cX4_leader 42 = .ok (.iload_n 1, 1) := by decide +kernel
theorem dX4_leader_43 : decode cX4_leader 43 = .ok (.ireturn, 1) := by decide +kernel
set_option maxRecDepth 20000 in
theorem ggX4_wouldFall_X4_checkThrow : GoodIn wsX4_wouldFall wsX4_checkThrow := goodIn_ca (goodIn_r _ [5, 6, 7, 4, 8, 9, 10, 11, 12, 13] (by decide +kernel) (by decide +kernel)) (goodIn_sub (fun _ h => List.mem_cons_of_mem _ (List.mem_append_right _ h)) (by decide +kernel))
set_option maxRecDepth 20000 in
theorem gX4_wouldFall_X4_checkThrow : GoodIn wsX4_wouldFall (va_wsS RX4 45 yX4_checkThrow wsX4_checkThrow) := goodIn_app (goodIn_of _ (by decide +kernel)) ggX4_wouldFall_X4_checkThrow
set_option maxRecDepth 20000 in
theorem ggX4_wouldFall_X0_standingPins : GoodIn wsX4_wouldFall wsX0_standingPins := goodIn_r _ [18, 19, 48, 49, 50] (by decide +kernel) (by decide +kernel)
set_option maxRecDepth 20000 in
theorem gX4_wouldFall_X0_standingPins : GoodIn wsX4_wouldFall (wsV RX4 67 RX0 yX0_standingPins wsX0_standingPins) := goodIn_app (goodIn_of _ (by decide +kernel)) ggX4_wouldFall_X0_standingPins
set_option maxRecDepth 20000 in
theorem ggX4_wouldFall_X1_felled : GoodIn wsX4_wouldFall wsX1_felled := goodIn_r _ [23, 24, 25, 22, 26, 27, 28, 29, 30, 31, 32, 33] (by decide +kernel) (by decide +kernel)
set_option maxRecDepth 20000 in
theorem gX4_wouldFall_X1_felled : GoodIn wsX4_wouldFall (va_wsS RX4 166 yX1_felled wsX1_felled) := goodIn_app (goodIn_of _ (by decide +kernel)) ggX4_wouldFall_X1_felled
set_option maxRecDepth 20000 in
theorem ggX4_wouldFall_J6_bitCount_0f7a4 : GoodIn wsX4_wouldFall wsJ6_bitCount_0f7a4 := goodIn_r _ [37, 38, 39, 40] (by decide +kernel) (by decide +kernel)
set_option maxRecDepth 20000 in
theorem gX4_wouldFall_J6_bitCount_0f7a4 : GoodIn wsX4_wouldFall (va_wsS RX4 123 yJ6_bitCount_0f7a4 wsJ6_bitCount_0f7a4) := goodIn_app (goodIn_of _ (by decide +kernel)) ggX4_wouldFall_J6_bitCount_0f7a4
theorem dX4_wouldFall_0 : decode cX4_wouldFall 0 = .ok (.iload_n 1, 1) := by decide +kernel
theorem dX4_wouldFall_1 : decode cX4_wouldFall 1 = .ok (.iload_n 2, 1) := by decide +kernel
theorem dX4_wouldFall_2 : decode cX4_wouldFall 2 = .ok (.invokestatic 45, 3) := by decide +kernel
theorem dX4_wouldFall_5 : decode cX4_wouldFall 5 = .ok (.aload_n 0, 1) := by decide +kernel
theorem dX4_wouldFall_6 : decode cX4_wouldFall 6 = .ok (.getfield 10, 3) := by decide +kernel
theorem dX4_wouldFall_9 : decode cX4_wouldFall 9 = .ok (.invokevirtual 67, 3) := by decide +kernel
theorem dX4_wouldFall_12 : decode cX4_wouldFall 12 = .ok (.iload_n 1, 1) := by decide +kernel
theorem dX4_wouldFall_13 : decode cX4_wouldFall 13 = .ok (.iload_n 2, 1) := by decide +kernel
theorem dX4_wouldFall_14 : decode cX4_wouldFall 14 = .ok (.invokestatic 166, 3) := by decide +kernel
theorem dX4_wouldFall_17 : decode cX4_wouldFall 17 = .ok (.invokestatic 123, 3) := by decide +kernel
theorem dX4_wouldFall_20 : decode cX4_wouldFall 20 = .ok (.ireturn, 1) := by decide +kernel
set_option maxRecDepth 20000 in
theorem ggX4_lastToFall_X4_checkThrow : GoodIn wsX4_lastToFall wsX4_checkThrow := goodIn_ca (goodIn_r _ [5, 6, 7, 4, 8, 9, 10, 11, 12, 13] (by decide +kernel) (by decide +kernel)) (goodIn_sub (fun _ h => List.mem_cons_of_mem _ (List.mem_append_right _ h)) (by decide +kernel))
set_option maxRecDepth 20000 in
theorem gX4_lastToFall_X4_checkThrow : GoodIn wsX4_lastToFall (va_wsS RX4 45 yX4_checkThrow wsX4_checkThrow) := goodIn_app (goodIn_of _ (by decide +kernel)) ggX4_lastToFall_X4_checkThrow
set_option maxRecDepth 20000 in
theorem ggX4_lastToFall_X0_standingPins : GoodIn wsX4_lastToFall wsX0_standingPins := goodIn_r _ [18, 19, 44, 45, 46] (by decide +kernel) (by decide +kernel)
set_option maxRecDepth 20000 in
theorem gX4_lastToFall_X0_standingPins : GoodIn wsX4_lastToFall (wsV RX4 67 RX0 yX0_standingPins wsX0_standingPins) := goodIn_app (goodIn_of _ (by decide +kernel)) ggX4_lastToFall_X0_standingPins
set_option maxRecDepth 20000 in
theorem ggX4_lastToFall_X1_felled : GoodIn wsX4_lastToFall wsX1_felled := goodIn_r _ [23, 24, 25, 22, 26, 27, 28, 29, 30, 31, 32, 33] (by decide +kernel) (by decide +kernel)
set_option maxRecDepth 20000 in
theorem gX4_lastToFall_X1_felled : GoodIn wsX4_lastToFall (va_wsS RX4 166 yX1_felled wsX1_felled) := goodIn_app (goodIn_of _ (by decide +kernel)) ggX4_lastToFall_X1_felled
set_option maxRecDepth 20000 in
theorem ggX4_lastToFall_X1_last : GoodIn wsX4_lastToFall wsX1_last := goodIn_r _ [36, 31, 32, 22, 33] (by decide +kernel) (by decide +kernel)
set_option maxRecDepth 20000 in
theorem gX4_lastToFall_X1_last : GoodIn wsX4_lastToFall (va_wsS RX4 170 yX1_last wsX1_last) := goodIn_app (goodIn_of _ (by decide +kernel)) ggX4_lastToFall_X1_last
theorem dX4_lastToFall_0 : decode cX4_lastToFall 0 = .ok (.iload_n 1, 1) := by decide +kernel
theorem dX4_lastToFall_1 : decode cX4_lastToFall 1 = .ok (.iload_n 2, 1) := by decide +kernel
theorem dX4_lastToFall_2 : decode cX4_lastToFall 2 = .ok (.invokestatic 45, 3) := by decide +kernel
theorem dX4_lastToFall_5 : decode cX4_lastToFall 5 = .ok (.aload_n 0, 1) := by decide +kernel
theorem dX4_lastToFall_6 : decode cX4_lastToFall 6 = .ok (.getfield 10, 3) := by decide +kernel
theorem dX4_lastToFall_9 : decode cX4_lastToFall 9 = .ok (.invokevirtual 67, 3) := by decide +kernel
theorem dX4_lastToFall_12 : decode cX4_lastToFall 12 = .ok (.iload_n 1, 1) := by decide +kernel
theorem dX4_lastToFall_13 : decode cX4_lastToFall 13 = .ok (.iload_n 2, 1) := by decide +kernel
theorem dX4_lastToFall_14 : decode cX4_lastToFall 14 = .ok (.invokestatic 166, 3) := by decide +kernel
theorem dX4_lastToFall_17 : decode cX4_lastToFall 17 = .ok (.invokestatic 170, 3) := by decide +kernel
theorem dX4_lastToFall_20 : decode cX4_lastToFall 20 = .ok (.ireturn, 1) := by decide +kernel
set_option maxRecDepth 20000 in
theorem ggX4_bestThrow_X2_throwsAway : GoodIn wsX4_bestThrow wsX2_throwsAway := goodIn_r _ [7, 8, 43] (by decide +kernel) (by decide +kernel)
set_option maxRecDepth 20000 in
theorem gX4_bestThrow_X2_throwsAway : GoodIn wsX4_bestThrow (wsV RX4 53 RX2 yX2_throwsAway wsX2_throwsAway) := goodIn_app (goodIn_of _ (by decide +kernel)) ggX4_bestThrow_X2_throwsAway
set_option maxRecDepth 20000 in
theorem ggX4_bestThrow_X0_standingPins : GoodIn wsX4_bestThrow wsX0_standingPins := goodIn_r _ [13, 14, 44, 45, 46] (by decide +kernel) (by decide +kernel)
set_option maxRecDepth 20000 in
theorem gX4_bestThrow_X0_standingPins : GoodIn wsX4_bestThrow (wsV RX4 67 RX0 yX0_standingPins wsX0_standingPins) := goodIn_app (goodIn_of _ (by decide +kernel)) ggX4_bestThrow_X0_standingPins
set_option maxRecDepth 20000 in
theorem ggX4_bestThrow_X1_felled : GoodIn wsX4_bestThrow wsX1_felled := goodIn_r _ [18, 19, 20, 17, 21, 22, 23, 24, 25, 26, 27, 28] (by decide +kernel) (by decide +kernel)
set_option maxRecDepth 20000 in
theorem gX4_bestThrow_X1_felled : GoodIn wsX4_bestThrow (va_wsS RX4 166 yX1_felled wsX1_felled) := goodIn_app (goodIn_of _ (by decide +kernel)) ggX4_bestThrow_X1_felled
set_option maxRecDepth 20000 in
theorem ggX4_bestThrow_J6_bitCount_0f7a4 : GoodIn wsX4_bestThrow wsJ6_bitCount_0f7a4 := goodIn_r _ [32, 33, 34, 35] (by decide +kernel) (by decide +kernel)
set_option maxRecDepth 20000 in
theorem gX4_bestThrow_J6_bitCount_0f7a4 : GoodIn wsX4_bestThrow (va_wsS RX4 123 yJ6_bitCount_0f7a4 wsJ6_bitCount_0f7a4) := goodIn_app (goodIn_of _ (by decide +kernel)) ggX4_bestThrow_J6_bitCount_0f7a4
theorem dX4_bestThrow_0 : decode cX4_bestThrow 0 = .ok (.iconst (-1), 1) := by decide +kernel
theorem dX4_bestThrow_1 : decode cX4_bestThrow 1 = .ok (.istore_n 1, 1) := by decide +kernel
theorem dX4_bestThrow_2 : decode cX4_bestThrow 2 = .ok (.iconst (-1), 1) := by decide +kernel
theorem dX4_bestThrow_3 : decode cX4_bestThrow 3 = .ok (.istore_n 2, 1) := by decide +kernel
theorem dX4_bestThrow_4 : decode cX4_bestThrow 4 = .ok (.iconst 0, 1) := by decide +kernel
theorem dX4_bestThrow_5 : decode cX4_bestThrow 5 = .ok (.istore_n 3, 1) := by decide +kernel
theorem dX4_bestThrow_6 : decode cX4_bestThrow 6 = .ok (.iload_n 3, 1) := by decide +kernel
theorem dX4_bestThrow_7 : decode cX4_bestThrow 7 = .ok (.iconst 5, 1) := by decide +kernel
theorem dX4_bestThrow_8 : decode cX4_bestThrow 8 = .ok (.if_icmp .ge 70, 3) := by decide +kernel
theorem dX4_bestThrow_11 : decode cX4_bestThrow 11 = .ok (.iconst 0, 1) := by decide +kernel
theorem dX4_bestThrow_12 : decode cX4_bestThrow 12 = .ok (.istore 4, 2) := by decide +kernel
theorem dX4_bestThrow_14 : decode cX4_bestThrow 14 = .ok (.iload 4, 2) := by decide +kernel
theorem dX4_bestThrow_16 : decode cX4_bestThrow 16 = .ok (.iconst 5, 1) := by decide +kernel
theorem dX4_bestThrow_17 : decode cX4_bestThrow 17 = .ok (.if_icmp .ge 55, 3) := by decide +kernel
theorem dX4_bestThrow_20 : decode cX4_bestThrow 20 = .ok (.aload_n 0, 1) := by decide +kernel
theorem dX4_bestThrow_21 : decode cX4_bestThrow 21 = .ok (.getfield 19, 3) := by decide +kernel
theorem dX4_bestThrow_24 : decode cX4_bestThrow 24 = .ok (.iload_n 3, 1) := by decide +kernel
theorem dX4_bestThrow_25 : decode cX4_bestThrow 25 = .ok (.invokevirtual 53, 3) := by decide +kernel
theorem dX4_bestThrow_28 : decode cX4_bestThrow 28 = .ok (.ifCond .ne 44, 3) := by decide +kernel
theorem dX4_bestThrow_31 : decode cX4_bestThrow 31 = .ok (.aload_n 0, 1) := by decide +kernel
theorem dX4_bestThrow_32 : decode cX4_bestThrow 32 = .ok (.getfield 10, 3) := by decide +kernel
theorem dX4_bestThrow_35 : decode cX4_bestThrow 35 = .ok (.invokevirtual 67, 3) := by decide +kernel
theorem dX4_bestThrow_38 : decode cX4_bestThrow 38 = .ok (.iload_n 3, 1) := by decide +kernel
theorem dX4_bestThrow_39 : decode cX4_bestThrow 39 = .ok (.iload 4, 2) := by decide +kernel
theorem dX4_bestThrow_41 : decode cX4_bestThrow 41 = .ok (.invokestatic 166, 3) := by decide +kernel
theorem dX4_bestThrow_44 : decode cX4_bestThrow 44 = .ok (.invokestatic 123, 3) := by decide +kernel
theorem dX4_bestThrow_47 : decode cX4_bestThrow 47 = .ok (.istore 5, 2) := by decide +kernel
theorem dX4_bestThrow_49 : decode cX4_bestThrow 49 = .ok (.iload 5, 2) := by decide +kernel
theorem dX4_bestThrow_51 : decode cX4_bestThrow 51 = .ok (.iload_n 2, 1) := by decide +kernel
theorem dX4_bestThrow_52 : decode cX4_bestThrow 52 = .ok (.if_icmp .le 14, 3) := by decide +kernel
theorem dX4_bestThrow_55 : decode cX4_bestThrow 55 = .ok (.bipush 10, 2) := by decide +kernel
theorem dX4_bestThrow_57 : decode cX4_bestThrow 57 = .ok (.iload_n 3, 1) := by decide +kernel
theorem dX4_bestThrow_58 : decode cX4_bestThrow 58 = .ok (.imul, 1) := by decide +kernel
theorem dX4_bestThrow_59 : decode cX4_bestThrow 59 = .ok (.iload 4, 2) := by decide +kernel
theorem dX4_bestThrow_61 : decode cX4_bestThrow 61 = .ok (.iadd, 1) := by decide +kernel
theorem dX4_bestThrow_62 : decode cX4_bestThrow 62 = .ok (.istore_n 1, 1) := by decide +kernel
theorem dX4_bestThrow_63 : decode cX4_bestThrow 63 = .ok (.iload 5, 2) := by decide +kernel
theorem dX4_bestThrow_65 : decode cX4_bestThrow 65 = .ok (.istore_n 2, 1) := by decide +kernel
theorem dX4_bestThrow_66 : decode cX4_bestThrow 66 = .ok (.iinc 4 1, 3) := by decide +kernel
theorem dX4_bestThrow_69 : decode cX4_bestThrow 69 = .ok (.goto (-55), 3) := by decide +kernel
theorem dX4_bestThrow_72 : decode cX4_bestThrow 72 = .ok (.iinc 3 1, 3) := by decide +kernel
theorem dX4_bestThrow_75 : decode cX4_bestThrow 75 = .ok (.goto (-69), 3) := by decide +kernel
theorem dX4_bestThrow_78 : decode cX4_bestThrow 78 = .ok (.iload_n 1, 1) := by decide +kernel
theorem dX4_bestThrow_79 : decode cX4_bestThrow 79 = .ok (.ireturn, 1) := by decide +kernel
set_option maxRecDepth 20000 in
theorem ggX4_throwsToClear_X0_standingPins : GoodIn wsX4_throwsToClear wsX0_standingPins := goodIn_r _ [6, 7, 32, 33, 34] (by decide +kernel) (by decide +kernel)
set_option maxRecDepth 20000 in
theorem gX4_throwsToClear_X0_standingPins : GoodIn wsX4_throwsToClear (wsV RX4 67 RX0 yX0_standingPins wsX0_standingPins) := goodIn_app (goodIn_of _ (by decide +kernel)) ggX4_throwsToClear_X0_standingPins
set_option maxRecDepth 20000 in
theorem ggX4_throwsToClear_X1_canClear : GoodIn wsX4_throwsToClear wsX1_canClear := goodIn_r _ [10, 11, 12, 9, 13, 14, 15, 16, 17, 18, 19, 20, 21, 22, 23, 24, 8] (by decide +kernel) (by decide +kernel)
set_option maxRecDepth 20000 in
theorem gX4_throwsToClear_X1_canClear_n173 : GoodIn wsX4_throwsToClear (wsX1_canClear) := ggX4_throwsToClear_X1_canClear
theorem dX4_throwsToClear_0 : decode cX4_throwsToClear 0 = .ok (.iconst 0, 1) := by decide +kernel
theorem dX4_throwsToClear_1 : decode cX4_throwsToClear 1 = .ok (.istore_n 1, 1) := by decide +kernel
theorem dX4_throwsToClear_2 : decode cX4_throwsToClear 2 = .ok (.iload_n 1, 1) := by decide +kernel
theorem dX4_throwsToClear_3 : decode cX4_throwsToClear 3 = .ok (.iconst 3, 1) := by decide +kernel
theorem dX4_throwsToClear_4 : decode cX4_throwsToClear 4 = .ok (.if_icmp .gt 26, 3) := by decide +kernel
theorem dX4_throwsToClear_7 : decode cX4_throwsToClear 7 = .ok (.aload_n 0, 1) := by decide +kernel
theorem dX4_throwsToClear_8 : decode cX4_throwsToClear 8 = .ok (.getfield 10, 3) := by decide +kernel
theorem dX4_throwsToClear_11 : decode cX4_throwsToClear 11 = .ok (.invokevirtual 67, 3) := by decide +kernel
theorem dX4_throwsToClear_14 : decode cX4_throwsToClear 14 = .ok (.iconst 0, 1) := by decide +kernel
theorem dX4_throwsToClear_15 : decode cX4_throwsToClear 15 = .ok (.iload_n 1, 1) := by decide +kernel
theorem dX4_throwsToClear_16 : decode cX4_throwsToClear 16 = .ok (.invokestatic 173, 3) := by decide +kernel
theorem dX4_throwsToClear_19 : decode cX4_throwsToClear 19 = .ok (.ifCond .eq 5, 3) := by decide +kernel
theorem dX4_throwsToClear_22 : decode cX4_throwsToClear 22 = .ok (.iload_n 1, 1) := by decide +kernel
theorem dX4_throwsToClear_23 : decode cX4_throwsToClear 23 = .ok (.ireturn, 1) := by decide +kernel
theorem dX4_throwsToClear_24 : decode cX4_throwsToClear 24 = .ok (.iinc 1 1, 3) := by decide +kernel
theorem dX4_throwsToClear_27 : decode cX4_throwsToClear 27 = .ok (.goto (-25), 3) := by decide +kernel
theorem dX4_throwsToClear_30 : decode cX4_throwsToClear 30 = .ok (.iconst (-1), 1) := by decide +kernel
theorem dX4_throwsToClear_31 : decode cX4_throwsToClear 31 = .ok (.ireturn, 1) := by decide +kernel
set_option maxRecDepth 20000 in
theorem ggX4_wouldBreak_X0_brokenIfAllFell : GoodIn wsX4_wouldBreak wsX0_brokenIfAllFell := goodIn_r _ [6, 7, 8, 9, 10, 11, 12, 20, 21, 22] (by decide +kernel) (by decide +kernel)
set_option maxRecDepth 20000 in
theorem gX4_wouldBreak_X0_brokenIfAllFell : GoodIn wsX4_wouldBreak (wsV RX4 177 RX0 yX0_brokenIfAllFell wsX0_brokenIfAllFell) := goodIn_app (goodIn_of _ (by decide +kernel)) ggX4_wouldBreak_X0_brokenIfAllFell
theorem dX4_wouldBreak_0 : decode cX4_wouldBreak 0 = .ok (.aload_n 0, 1) := by decide +kernel
theorem dX4_wouldBreak_1 : decode cX4_wouldBreak 1 = .ok (.getfield 10, 3) := by decide +kernel
theorem dX4_wouldBreak_4 : decode cX4_wouldBreak 4 = .ok (.invokevirtual 177, 3) := by decide +kernel
theorem dX4_wouldBreak_7 : decode cX4_wouldBreak 7 = .ok (.ireturn, 1) := by decide +kernel
set_option maxRecDepth 20000 in
theorem ggX4_meanScore_X3_score : GoodIn wsX4_meanScore wsX3_score := goodIn_r _ [7, 8, 9, 10, 6, 11, 12, 13, 14, 15, 16, 17, 18, 19, 20, 28, 29, 30, 31, 32] (by decide +kernel) (by decide +kernel)
set_option maxRecDepth 20000 in
theorem gX4_meanScore_X3_score : GoodIn wsX4_meanScore (wsV RX4 153 RX3 yX3_score wsX3_score) := goodIn_app (goodIn_of _ (by decide +kernel)) ggX4_meanScore_X3_score
theorem dX4_meanScore_0 : decode cX4_meanScore 0 = .ok (.aload_n 0, 1) := by decide +kernel
theorem dX4_meanScore_1 : decode cX4_meanScore 1 = .ok (.getfield 30, 3) := by decide +kernel
theorem dX4_meanScore_4 : decode cX4_meanScore 4 = .ok (.ifCond .ne 5, 3) := by decide +kernel
theorem dX4_meanScore_7 : decode cX4_meanScore 7 = .ok (.dconst 0, 1) := by decide +kernel
theorem dX4_meanScore_8 : decode cX4_meanScore 8 = .ok (.dreturn, 1) := by decide +kernel
theorem dX4_meanScore_9 : decode cX4_meanScore 9 = .ok (.iconst 0, 1) := by decide +kernel
theorem dX4_meanScore_10 : decode cX4_meanScore 10 = .ok (.istore_n 1, 1) := by decide +kernel
theorem dX4_meanScore_11 : decode cX4_meanScore 11 = .ok (.iconst 0, 1) := by decide +kernel
theorem dX4_meanScore_12 : decode cX4_meanScore 12 = .ok (.istore_n 2, 1) := by decide +kernel
theorem dX4_meanScore_13 : decode cX4_meanScore 13 = .ok (.iload_n 2, 1) := by decide +kernel
theorem dX4_meanScore_14 : decode cX4_meanScore 14 = .ok (.aload_n 0, 1) := by decide +kernel
theorem dX4_meanScore_15 : decode cX4_meanScore 15 = .ok (.getfield 30, 3) := by decide +kernel
theorem dX4_meanScore_18 : decode cX4_meanScore 18 = .ok (.if_icmp .ge 21, 3) := by decide +kernel
theorem dX4_meanScore_21 : decode cX4_meanScore 21 = .ok (.iload_n 1, 1) := by decide +kernel
theorem dX4_meanScore_22 : decode cX4_meanScore 22 = .ok (.aload_n 0, 1) := by decide +kernel
theorem dX4_meanScore_23 : decode cX4_meanScore 23 = .ok (.getfield 25, 3) := by decide +kernel
theorem dX4_meanScore_26 : decode cX4_meanScore 26 = .ok (.iload_n 2, 1) := by decide +kernel
theorem dX4_meanScore_27 : decode cX4_meanScore 27 = .ok (.aaload, 1) := by decide +kernel
theorem dX4_meanScore_28 : decode cX4_meanScore 28 = .ok (.invokevirtual 153, 3) := by decide +kernel
theorem dX4_meanScore_31 : decode cX4_meanScore 31 = .ok (.iadd, 1) := by decide +kernel
theorem dX4_meanScore_32 : decode cX4_meanScore 32 = .ok (.istore_n 1, 1) := by decide +kernel
theorem dX4_meanScore_33 : decode cX4_meanScore 33 = .ok (.iinc 2 1, 3) := by decide +kernel
theorem dX4_meanScore_36 : decode cX4_meanScore 36 = .ok (.goto (-23), 3) := by decide +kernel
theorem dX4_meanScore_39 : decode cX4_meanScore 39 = .ok (.iload_n 1, 1) := by decide +kernel
theorem dX4_meanScore_40 : decode cX4_meanScore 40 = .ok (.i2d, 1) := by decide +kernel
theorem dX4_meanScore_41 : decode cX4_meanScore 41 = .ok (.aload_n 0, 1) := by decide +kernel
theorem dX4_meanScore_42 : decode cX4_meanScore 42 = .ok (.getfield 30, 3) := by decide +kernel
theorem dX4_meanScore_45 : decode cX4_meanScore 45 = .ok (.i2d, 1) := by decide +kernel
theorem dX4_meanScore_46 : decode cX4_meanScore 46 = .ok (.ddiv, 1) := by decide +kernel
theorem dX4_meanScore_47 : decode cX4_meanScore 47 = .ok (.dreturn, 1) := by decide +kernel
set_option maxRecDepth 20000 in
theorem ggX4_digest_X4_playerInTurn : GoodIn wsX4_digest wsX4_playerInTurn := goodIn_r _ [13, 3, 14, 15, 16, 17, 12, 18, 4, 116, 117, 118, 119, 120, 121, 122] (by decide +kernel) (by decide +kernel)
set_option maxRecDepth 20000 in
theorem gX4_digest_X4_playerInTurn : GoodIn wsX4_digest (wsV RX4 49 RX4 yX4_playerInTurn wsX4_playerInTurn) := goodIn_app (goodIn_of _ (by decide +kernel)) ggX4_digest_X4_playerInTurn
set_option maxRecDepth 20000 in
theorem ggX4_digest_X0_spares : GoodIn wsX4_digest wsX0_spares := goodIn_r _ [23, 24, 123, 124, 125] (by decide +kernel) (by decide +kernel)
set_option maxRecDepth 20000 in
theorem gX4_digest_X0_spares : GoodIn wsX4_digest (wsV RX4 86 RX0 yX0_spares wsX0_spares) := goodIn_app (goodIn_of _ (by decide +kernel)) ggX4_digest_X0_spares
set_option maxRecDepth 20000 in
theorem ggX4_digest_X4_bestThrow : GoodIn wsX4_digest wsX4_bestThrow := goodIn_r _ [28, 7, 6, 29, 30, 31, 32, 33, 34, 35, 36, 37, 22, 38, 39, 40, 41, 42, 43, 44, 45, 46, 47, 48, 49, 50, 51, 52, 53, 54, 55, 56, 57, 58, 59, 60, 116, 117, 118, 119, 120, 121, 122, 126, 123, 124, 125] (by decide +kernel) (by decide +kernel)
set_option maxRecDepth 20000 in
theorem gX4_digest_X4_bestThrow : GoodIn wsX4_digest (wsV RX4 184 RX4 yX4_bestThrow wsX4_bestThrow) := goodIn_app (goodIn_of _ (by decide +kernel)) ggX4_digest_X4_bestThrow
set_option maxRecDepth 20000 in
theorem ggX4_digest_X4_throwsToClear : GoodIn wsX4_digest wsX4_throwsToClear := goodIn_r _ [64, 6, 35, 36, 37, 22, 38, 39, 65, 42, 66, 51, 52, 53, 67, 41, 43, 44, 45, 46, 47, 48, 49, 50, 68, 116, 117, 118, 119, 120, 121, 122, 123, 124, 125] (by decide +kernel) (by decide +kernel)
set_option maxRecDepth 20000 in
theorem gX4_digest_X4_throwsToClear : GoodIn wsX4_digest (wsV RX4 187 RX4 yX4_throwsToClear wsX4_throwsToClear) := goodIn_app (goodIn_of _ (by decide +kernel)) ggX4_digest_X4_throwsToClear
set_option maxRecDepth 20000 in
theorem ggX4_digest_X0_digestOn : GoodIn wsX4_digest wsX0_digestOn := goodIn_r _ [72, 73, 39, 74, 75, 52, 42, 53, 123, 124, 125] (by decide +kernel) (by decide +kernel)
set_option maxRecDepth 20000 in
theorem gX4_digest_X0_digestOn : GoodIn wsX4_digest (wsV RX4 190 RX0 yX0_digestOn wsX0_digestOn) := goodIn_app (goodIn_of _ (by decide +kernel)) ggX4_digest_X0_digestOn
set_option maxRecDepth 20000 in
theorem ggX4_digest_X2_digestOn : GoodIn wsX4_digest wsX2_digestOn := goodIn_r _ [79, 80, 34, 126] (by decide +kernel) (by decide +kernel)
set_option maxRecDepth 20000 in
theorem gX4_digest_X2_digestOn : GoodIn wsX4_digest (wsV RX4 194 RX2 yX2_digestOn wsX2_digestOn) := goodIn_app (goodIn_of _ (by decide +kernel)) ggX4_digest_X2_digestOn
set_option maxRecDepth 20000 in
theorem ggX4_digest_X3_digestOn : GoodIn wsX4_digest wsX3_digestOn := goodIn_r _ [85, 86, 87, 88, 89, 90, 84, 91, 92, 93, 94, 95, 96, 97, 98, 99, 100, 101, 102, 103, 104, 105, 106, 107, 108, 109, 110, 111, 112, 113, 114, 115, 127, 128, 129, 130, 131] (by decide +kernel) (by decide +kernel)
set_option maxRecDepth 20000 in
theorem gX4_digest_X3_digestOn : GoodIn wsX4_digest (wsV RX4 195 RX3 yX3_digestOn wsX3_digestOn) := goodIn_app (goodIn_of _ (by decide +kernel)) ggX4_digest_X3_digestOn
theorem dX4_digest_0 : decode cX4_digest 0 = .ok (.ldc2_w 180, 3) := by decide +kernel
theorem dX4_digest_3 : decode cX4_digest 3 = .ok (.lstore_n 1, 1) := by decide +kernel
theorem dX4_digest_4 : decode cX4_digest 4 = .ok (.lload_n 1, 1) := by decide +kernel
theorem dX4_digest_5 : decode cX4_digest 5 = .ok (.ldc2_w 182, 3) := by decide +kernel
theorem dX4_digest_8 : decode cX4_digest 8 = .ok (.lmul, 1) := by decide +kernel
theorem dX4_digest_9 : decode cX4_digest 9 = .ok (.aload_n 0, 1) := by decide +kernel
theorem dX4_digest_10 : decode cX4_digest 10 = .ok (.getfield 30, 3) := by decide +kernel
theorem dX4_digest_13 : decode cX4_digest 13 = .ok (.i2l, 1) := by decide +kernel
theorem dX4_digest_14 : decode cX4_digest 14 = .ok (.ladd, 1) := by decide +kernel
theorem dX4_digest_15 : decode cX4_digest 15 = .ok (.lstore_n 1, 1) := by decide +kernel
theorem dX4_digest_16 : decode cX4_digest 16 = .ok (.lload_n 1, 1) := by decide +kernel
theorem dX4_digest_17 : decode cX4_digest 17 = .ok (.ldc2_w 182, 3) := by decide +kernel
theorem dX4_digest_20 : decode cX4_digest 20 = .ok (.lmul, 1) := by decide +kernel
theorem dX4_digest_21 : decode cX4_digest 21 = .ok (.aload_n 0, 1) := by decide +kernel
theorem dX4_digest_22 : decode cX4_digest 22 = .ok (.invokevirtual 49, 3) := by decide +kernel
theorem dX4_digest_25 : decode cX4_digest 25 = .ok (.i2l, 1) := by decide +kernel
theorem dX4_digest_26 : decode cX4_digest 26 = .ok (.ladd, 1) := by decide +kernel
theorem dX4_digest_27 : decode cX4_digest 27 = .ok (.lstore_n 1, 1) := by decide +kernel
theorem dX4_digest_28 : decode cX4_digest 28 = .ok (.lload_n 1, 1) := by decide +kernel
theorem dX4_digest_29 : decode cX4_digest 29 = .ok (.ldc2_w 182, 3) := by decide +kernel
theorem dX4_digest_32 : decode cX4_digest 32 = .ok (.lmul, 1) := by decide +kernel
theorem dX4_digest_33 : decode cX4_digest 33 = .ok (.aload_n 0, 1) := by decide +kernel
theorem dX4_digest_34 : decode cX4_digest 34 = .ok (.getfield 70, 3) := by decide +kernel
theorem dX4_digest_37 : decode cX4_digest 37 = .ok (.i2l, 1) := by decide +kernel
theorem dX4_digest_38 : decode cX4_digest 38 = .ok (.ladd, 1) := by decide +kernel
theorem dX4_digest_39 : decode cX4_digest 39 = .ok (.lstore_n 1, 1) := by decide +kernel
theorem dX4_digest_40 : decode cX4_digest 40 = .ok (.lload_n 1, 1) := by decide +kernel
theorem dX4_digest_41 : decode cX4_digest 41 = .ok (.ldc2_w 182, 3) := by decide +kernel
theorem dX4_digest_44 : decode cX4_digest 44 = .ok (.lmul, 1) := by decide +kernel
theorem dX4_digest_45 : decode cX4_digest 45 = .ok (.aload_n 0, 1) := by decide +kernel
theorem dX4_digest_46 : decode cX4_digest 46 = .ok (.getfield 77, 3) := by decide +kernel
theorem dX4_digest_49 : decode cX4_digest 49 = .ok (.i2l, 1) := by decide +kernel
theorem dX4_digest_50 : decode cX4_digest 50 = .ok (.ladd, 1) := by decide +kernel
theorem dX4_digest_51 : decode cX4_digest 51 = .ok (.lstore_n 1, 1) := by decide +kernel
theorem dX4_digest_52 : decode cX4_digest 52 = .ok (.lload_n 1, 1) := by decide +kernel
theorem dX4_digest_53 : decode cX4_digest 53 = .ok (.ldc2_w 182, 3) := by decide +kernel
theorem dX4_digest_56 : decode cX4_digest 56 = .ok (.lmul, 1) := by decide +kernel
theorem dX4_digest_57 : decode cX4_digest 57 = .ok (.aload_n 0, 1) := by decide +kernel
theorem dX4_digest_58 : decode cX4_digest 58 = .ok (.getfield 10, 3) := by decide +kernel
theorem dX4_digest_61 : decode cX4_digest 61 = .ok (.invokevirtual 86, 3) := by decide +kernel
theorem dX4_digest_64 : decode cX4_digest 64 = .ok (.i2l, 1) := by decide +kernel
theorem dX4_digest_65 : decode cX4_digest 65 = .ok (.ladd, 1) := by decide +kernel
theorem dX4_digest_66 : decode cX4_digest 66 = .ok (.lstore_n 1, 1) := by decide +kernel
theorem dX4_digest_67 : decode cX4_digest 67 = .ok (.lload_n 1, 1) := by decide +kernel
theorem dX4_digest_68 : decode cX4_digest 68 = .ok (.ldc2_w 182, 3) := by decide +kernel
theorem dX4_digest_71 : decode cX4_digest 71 = .ok (.lmul, 1) := by decide +kernel
theorem dX4_digest_72 : decode cX4_digest 72 = .ok (.aload_n 0, 1) := by decide +kernel
theorem dX4_digest_73 : decode cX4_digest 73 = .ok (.invokevirtual 184, 3) := by decide +kernel
theorem dX4_digest_76 : decode cX4_digest 76 = .ok (.i2l, 1) := by decide +kernel
theorem dX4_digest_77 : decode cX4_digest 77 = .ok (.ladd, 1) := by decide +kernel
theorem dX4_digest_78 : decode cX4_digest 78 = .ok (.lstore_n 1, 1) := by decide +kernel
theorem dX4_digest_79 : decode cX4_digest 79 = .ok (.lload_n 1, 1) := by decide +kernel
theorem dX4_digest_80 : decode cX4_digest 80 = .ok (.ldc2_w 182, 3) := by decide +kernel
theorem dX4_digest_83 : decode cX4_digest 83 = .ok (.lmul, 1) := by decide +kernel
theorem dX4_digest_84 : decode cX4_digest 84 = .ok (.aload_n 0, 1) := by decide +kernel
theorem dX4_digest_85 : decode cX4_digest 85 = .ok (.invokevirtual 187, 3) := by decide +kernel
theorem dX4_digest_88 : decode cX4_digest 88 = .ok (.i2l, 1) := by decide +kernel
theorem dX4_digest_89 : decode cX4_digest 89 = .ok (.ladd, 1) := by decide +kernel
theorem dX4_digest_90 : decode cX4_digest 90 = .ok (.lstore_n 1, 1) := by decide +kernel
theorem dX4_digest_91 : decode cX4_digest 91 = .ok (.aload_n 0, 1) := by decide +kernel
theorem dX4_digest_92 : decode cX4_digest 92 = .ok (.getfield 10, 3) := by decide +kernel
theorem dX4_digest_95 : decode cX4_digest 95 = .ok (.lload_n 1, 1) := by decide +kernel
theorem dX4_digest_96 : decode cX4_digest 96 = .ok (.invokevirtual 190, 3) := by decide +kernel
theorem dX4_digest_99 : decode cX4_digest 99 = .ok (.lstore_n 1, 1) := by decide +kernel
theorem dX4_digest_100 : decode cX4_digest 100 = .ok (.aload_n 0, 1) := by decide +kernel
theorem dX4_digest_101 : decode cX4_digest 101 = .ok (.getfield 19, 3) := by decide +kernel
theorem dX4_digest_104 : decode cX4_digest 104 = .ok (.lload_n 1, 1) := by decide +kernel
theorem dX4_digest_105 : decode cX4_digest 105 = .ok (.invokevirtual 194, 3) := by decide +kernel
theorem dX4_digest_108 : decode cX4_digest 108 = .ok (.lstore_n 1, 1) := by decide +kernel
theorem dX4_digest_109 : decode cX4_digest 109 = .ok (.iconst 0, 1) := by decide +kernel
theorem dX4_digest_110 : decode cX4_digest 110 = .ok (.istore_n 3, 1) := by decide +kernel
theorem dX4_digest_111 : decode cX4_digest 111 = .ok (.iload_n 3, 1) := by decide +kernel
theorem dX4_digest_112 : decode cX4_digest 112 = .ok (.aload_n 0, 1) := by decide +kernel
theorem dX4_digest_113 : decode cX4_digest 113 = .ok (.getfield 30, 3) := by decide +kernel
theorem dX4_digest_116 : decode cX4_digest 116 = .ok (.if_icmp .ge 20, 3) := by decide +kernel
theorem dX4_digest_119 : decode cX4_digest 119 = .ok (.aload_n 0, 1) := by decide +kernel
theorem dX4_digest_120 : decode cX4_digest 120 = .ok (.getfield 25, 3) := by decide +kernel
theorem dX4_digest_123 : decode cX4_digest 123 = .ok (.iload_n 3, 1) := by decide +kernel
theorem dX4_digest_124 : decode cX4_digest 124 = .ok (.aaload, 1) := by decide +kernel
theorem dX4_digest_125 : decode cX4_digest 125 = .ok (.lload_n 1, 1) := by decide +kernel
theorem dX4_digest_126 : decode cX4_digest 126 = .ok (.invokevirtual 195, 3) := by decide +kernel
theorem dX4_digest_129 : decode cX4_digest 129 = .ok (.lstore_n 1, 1) := by decide +kernel
theorem dX4_digest_130 : decode cX4_digest 130 = .ok (.iinc 3 1, 3) := by decide +kernel
theorem dX4_digest_133 : decode cX4_digest 133 = .ok (.goto (-22), 3) := by decide +kernel
theorem dX4_digest_136 : decode cX4_digest 136 = .ok (.lload_n 1, 1) := by decide +kernel
theorem dX4_digest_137 : decode cX4_digest 137 = .ok (.lreturn, 1) := by decide +kernel
set_option maxRecDepth 20000 in
theorem ggX4_somethingThrown_X3_thrown : GoodIn wsX4_somethingThrown wsX3_thrown := goodIn_r _ [6, 7, 15, 16, 17, 18, 19] (by decide +kernel) (by decide +kernel)
set_option maxRecDepth 20000 in
theorem gX4_somethingThrown_X3_thrown : GoodIn wsX4_somethingThrown (wsV RX4 150 RX3 yX3_thrown wsX3_thrown) := goodIn_app (goodIn_of _ (by decide +kernel)) ggX4_somethingThrown_X3_thrown
theorem dX4_somethingThrown_0 : decode cX4_somethingThrown 0 = .ok (.aload_n 0, 1) := by decide +kernel
theorem dX4_somethingThrown_1 : decode cX4_somethingThrown 1 = .ok (.getfield 25, 3) := by decide +kernel
theorem dX4_somethingThrown_4 : decode cX4_somethingThrown 4 = .ok (.iconst 0, 1) := by decide +kernel
theorem dX4_somethingThrown_5 : decode cX4_somethingThrown 5 = .ok (.aaload, 1) := by decide +kernel
theorem dX4_somethingThrown_6 : decode cX4_somethingThrown 6 = .ok (.invokevirtual 150, 3) := by decide +kernel
theorem dX4_somethingThrown_9 : decode cX4_somethingThrown 9 = .ok (.ifCond .le 7, 3) := by decide +kernel
theorem dX4_somethingThrown_12 : decode cX4_somethingThrown 12 = .ok (.iconst 1, 1) := by decide +kernel
theorem dX4_somethingThrown_13 : decode cX4_somethingThrown 13 = .ok (.goto 4, 3) := by decide +kernel
theorem dX4_somethingThrown_16 : decode cX4_somethingThrown 16 = .ok (.iconst 0, 1) := by decide +kernel
theorem dX4_somethingThrown_17 : decode cX4_somethingThrown 17 = .ok (.ireturn, 1) := by decide +kernel
set_option maxRecDepth 20000 in
theorem ggX4_endFrame_X4_isOver : GoodIn wsX4_endFrame wsX4_isOver := goodIn_r _ [10, 4, 22, 23, 24, 25, 26, 27, 28] (by decide +kernel) (by decide +kernel)
set_option maxRecDepth 20000 in
theorem gX4_endFrame_X4_isOver : GoodIn wsX4_endFrame (wsV RX4 144 RX4 yX4_isOver wsX4_isOver) := goodIn_app (goodIn_of _ (by decide +kernel)) ggX4_endFrame_X4_isOver
set_option maxRecDepth 20000 in
theorem ggX4_endFrame_X0_setUp : GoodIn wsX4_endFrame wsX0_setUp := goodIn_r _ [15, 16, 17, 18, 19, 14, 20, 21, 29, 30, 31] (by decide +kernel) (by decide +kernel)
set_option maxRecDepth 20000 in
theorem gX4_endFrame_X0_setUp : GoodIn wsX4_endFrame (wsV RX4 114 RX0 yX0_setUp wsX0_setUp) := goodIn_app (goodIn_of _ (by decide +kernel)) ggX4_endFrame_X0_setUp
theorem dX4_endFrame_0 : decode cX4_endFrame 0 = .ok (.aload_n 0, 1) := by decide +kernel
theorem dX4_endFrame_1 : decode cX4_endFrame 1 = .ok (.iconst 0, 1) := by decide +kernel
theorem dX4_endFrame_2 : decode cX4_endFrame 2 = .ok (.putfield 77, 3) := by decide +kernel
theorem dX4_endFrame_5 : decode cX4_endFrame 5 = .ok (.aload_n 0, 1) := by decide +kernel
theorem dX4_endFrame_6 : decode cX4_endFrame 6 = .ok (.dup, 1) := by decide +kernel
theorem dX4_endFrame_7 : decode cX4_endFrame 7 = .ok (.getfield 108, 3) := by decide +kernel
theorem dX4_endFrame_10 : decode cX4_endFrame 10 = .ok (.iconst 1, 1) := by decide +kernel
theorem dX4_endFrame_11 : decode cX4_endFrame 11 = .ok (.iadd, 1) := by decide +kernel
theorem dX4_endFrame_12 : decode cX4_endFrame 12 = .ok (.putfield 108, 3) := by decide +kernel
theorem dX4_endFrame_15 : decode cX4_endFrame 15 = .ok (.aload_n 0, 1) := by decide +kernel
theorem dX4_endFrame_16 : decode cX4_endFrame 16 = .ok (.getfield 108, 3) := by decide +kernel
theorem dX4_endFrame_19 : decode cX4_endFrame 19 = .ok (.aload_n 0, 1) := by decide +kernel
theorem dX4_endFrame_20 : decode cX4_endFrame 20 = .ok (.getfield 30, 3) := by decide +kernel
theorem dX4_endFrame_23 : decode cX4_endFrame 23 = .ok (.if_icmp .lt 18, 3) := by decide +kernel
theorem dX4_endFrame_26 : decode cX4_endFrame 26 = .ok (.aload_n 0, 1) := by decide +kernel
theorem dX4_endFrame_27 : decode cX4_endFrame 27 = .ok (.iconst 0, 1) := by decide +kernel
theorem dX4_endFrame_28 : decode cX4_endFrame 28 = .ok (.putfield 108, 3) := by decide +kernel
theorem dX4_endFrame_31 : decode cX4_endFrame 31 = .ok (.aload_n 0, 1) := by decide +kernel
theorem dX4_endFrame_32 : decode cX4_endFrame 32 = .ok (.dup, 1) := by decide +kernel
theorem dX4_endFrame_33 : decode cX4_endFrame 33 = .ok (.getfield 70, 3) := by decide +kernel
theorem dX4_endFrame_36 : decode cX4_endFrame 36 = .ok (.iconst 1, 1) := by decide +kernel
theorem dX4_endFrame_37 : decode cX4_endFrame 37 = .ok (.iadd, 1) := by decide +kernel
theorem dX4_endFrame_38 : decode cX4_endFrame 38 = .ok (.putfield 70, 3) := by decide +kernel
theorem dX4_endFrame_41 : decode cX4_endFrame 41 = .ok (.aload_n 0, 1) := by decide +kernel
theorem dX4_endFrame_42 : decode cX4_endFrame 42 = .ok (.invokevirtual 144, 3) := by decide +kernel
theorem dX4_endFrame_45 : decode cX4_endFrame 45 = .ok (.ifCond .ne 10, 3) := by decide +kernel
theorem dX4_endFrame_48 : decode cX4_endFrame 48 = .ok (.aload_n 0, 1) := by decide +kernel
theorem dX4_endFrame_49 : decode cX4_endFrame 49 = .ok (.getfield 10, 3) := by decide +kernel
theorem dX4_endFrame_52 : decode cX4_endFrame 52 = .ok (.invokevirtual 114, 3) := by decide +kernel
theorem dX4_endFrame_55 : decode cX4_endFrame 55 = .ok (.return_, 1) := by decide +kernel
set_option maxRecDepth 20000 in
theorem ggX4_checkPlayer_X4_checkIndex : GoodIn wsX4_checkPlayer wsX4_checkIndex := goodIn_ca (goodIn_r _ [5, 6, 7] (by decide +kernel) (by decide +kernel)) (goodIn_sub (fun _ h => List.mem_cons_of_mem _ (List.mem_append_right _ h)) (by decide +kernel))
set_option maxRecDepth 20000 in
theorem gX4_checkPlayer_X4_checkIndex : GoodIn wsX4_checkPlayer (va_wsS RX4 156 yX4_checkIndex wsX4_checkIndex) := goodIn_app (goodIn_of _ (by decide +kernel)) ggX4_checkPlayer_X4_checkIndex
theorem dX4_checkPlayer_0 : decode cX4_checkPlayer 0 = .ok (.iload_n 1, 1) := by decide +kernel
theorem dX4_checkPlayer_1 : decode cX4_checkPlayer 1 = .ok (.aload_n 0, 1) := by decide +kernel
theorem dX4_checkPlayer_2 : decode cX4_checkPlayer 2 = .ok (.getfield 30, 3) := by decide +kernel
theorem dX4_checkPlayer_5 : decode cX4_checkPlayer 5 = .ok (.invokestatic 156, 3) := by decide +kernel
theorem dX4_checkPlayer_8 : decode cX4_checkPlayer 8 = .ok (.return_, 1) := by decide +kernel
set_option maxRecDepth 20000 in
theorem ggX4_checkPin_X4_checkIndex : GoodIn wsX4_checkPin wsX4_checkIndex := goodIn_ca (goodIn_r _ [4, 5, 6] (by decide +kernel) (by decide +kernel)) (goodIn_sub (fun _ h => List.mem_cons_of_mem _ (List.mem_append_right _ h)) (by decide +kernel))
set_option maxRecDepth 20000 in
theorem gX4_checkPin_X4_checkIndex : GoodIn wsX4_checkPin (va_wsS RX4 156 yX4_checkIndex wsX4_checkIndex) := goodIn_app (goodIn_of _ (by decide +kernel)) ggX4_checkPin_X4_checkIndex
theorem dX4_checkPin_0 : decode cX4_checkPin 0 = .ok (.iload_n 0, 1) := by decide +kernel
theorem dX4_checkPin_1 : decode cX4_checkPin 1 = .ok (.bipush 9, 2) := by decide +kernel
theorem dX4_checkPin_3 : decode cX4_checkPin 3 = .ok (.invokestatic 156, 3) := by decide +kernel
theorem dX4_checkPin_6 : decode cX4_checkPin 6 = .ok (.return_, 1) := by decide +kernel
set_option maxRecDepth 20000 in
theorem ggX4_checkBall_X4_checkIndex : GoodIn wsX4_checkBall wsX4_checkIndex := goodIn_ca (goodIn_r _ [4, 5, 6] (by decide +kernel) (by decide +kernel)) (goodIn_sub (fun _ h => List.mem_cons_of_mem _ (List.mem_append_right _ h)) (by decide +kernel))
set_option maxRecDepth 20000 in
theorem gX4_checkBall_X4_checkIndex : GoodIn wsX4_checkBall (va_wsS RX4 156 yX4_checkIndex wsX4_checkIndex) := goodIn_app (goodIn_of _ (by decide +kernel)) ggX4_checkBall_X4_checkIndex
theorem dX4_checkBall_0 : decode cX4_checkBall 0 = .ok (.iload_n 0, 1) := by decide +kernel
theorem dX4_checkBall_1 : decode cX4_checkBall 1 = .ok (.iconst 5, 1) := by decide +kernel
theorem dX4_checkBall_2 : decode cX4_checkBall 2 = .ok (.invokestatic 156, 3) := by decide +kernel
theorem dX4_checkBall_5 : decode cX4_checkBall 5 = .ok (.return_, 1) := by decide +kernel
set_option maxRecDepth 20000 in
theorem ggX4_checkThrow_X4_checkBall : GoodIn wsX4_checkThrow wsX4_checkBall := goodIn_ca (goodIn_r _ [4, 5, 6, 3, 7, 8, 9] (by decide +kernel) (by decide +kernel)) (goodIn_sub (fun _ h => List.mem_cons_of_mem _ (List.mem_append_right _ h)) (by decide +kernel))
set_option maxRecDepth 20000 in
theorem gX4_checkThrow_X4_checkBall : GoodIn wsX4_checkThrow (va_wsS RX4 141 yX4_checkBall wsX4_checkBall) := goodIn_app (goodIn_of _ (by decide +kernel)) ggX4_checkThrow_X4_checkBall
set_option maxRecDepth 20000 in
theorem ggX4_checkThrow_X4_checkIndex : GoodIn wsX4_checkThrow wsX4_checkIndex := goodIn_ca (goodIn_r _ [7, 8, 9] (by decide +kernel) (by decide +kernel)) (goodIn_sub (fun _ h => List.mem_cons_of_mem _ (List.mem_append_right _ h)) (by decide +kernel))
set_option maxRecDepth 20000 in
theorem gX4_checkThrow_X4_checkIndex : GoodIn wsX4_checkThrow (va_wsS RX4 156 yX4_checkIndex wsX4_checkIndex) := goodIn_app (goodIn_of _ (by decide +kernel)) ggX4_checkThrow_X4_checkIndex
theorem dX4_checkThrow_0 : decode cX4_checkThrow 0 = .ok (.iload_n 0, 1) := by decide +kernel
theorem dX4_checkThrow_1 : decode cX4_checkThrow 1 = .ok (.invokestatic 141, 3) := by decide +kernel
theorem dX4_checkThrow_4 : decode cX4_checkThrow 4 = .ok (.iload_n 1, 1) := by decide +kernel
theorem dX4_checkThrow_5 : decode cX4_checkThrow 5 = .ok (.iconst 5, 1) := by decide +kernel
theorem dX4_checkThrow_6 : decode cX4_checkThrow 6 = .ok (.invokestatic 156, 3) := by decide +kernel
theorem dX4_checkThrow_9 : decode cX4_checkThrow 9 = .ok (.return_, 1) := by decide +kernel
theorem dX4_checkIndex_0 : decode cX4_checkIndex 0 = .ok (.iload_n 0, 1) := by decide +kernel
theorem dX4_checkIndex_1 : decode cX4_checkIndex 1 = .ok (.ifCond .lt 8, 3) := by decide +kernel
theorem dX4_checkIndex_4 : decode cX4_checkIndex 4 = .ok (.iload_n 0, 1) := by decide +kernel
theorem dX4_checkIndex_5 : decode cX4_checkIndex 5 = .ok (.iload_n 1, 1) := by decide +kernel
theorem dX4_checkIndex_6 : decode cX4_checkIndex 6 = .ok (.if_icmp .lt 13, 3) := by decide +kernel
theorem dX4_checkIndex_9 : decode cX4_checkIndex 9 = .ok (.new 196, 3) := by decide +kernel
theorem dX4_checkIndex_12 : decode cX4_checkIndex 12 = .ok (.dup, 1) := by decide +kernel
theorem dX4_checkIndex_13 : decode cX4_checkIndex 13 = .ok (.ldc 198, 2) := by decide +kernel
theorem dX4_checkIndex_15 : decode cX4_checkIndex 15 = .ok (.invokespecial 200, 3) := by decide +kernel
theorem dX4_checkIndex_18 : decode cX4_checkIndex 18 = .ok (.athrow, 1) := by decide +kernel
theorem dX4_checkIndex_19 : decode cX4_checkIndex 19 = .ok (.return_, 1) := by decide +kernel
theorem dX5_init_0 : decode cX5_init 0 = .ok (.aload_n 0, 1) := by decide +kernel
theorem dX5_init_1 : decode cX5_init 1 = .ok (.invokespecial 1, 3) := by decide +kernel
theorem dX5_init_4 : decode cX5_init 4 = .ok (.aload_n 0, 1) := by decide +kernel
theorem dX5_init_5 : decode cX5_init 5 = .ok (.sipush 511, 3) := by decide +kernel
theorem dX5_init_8 : decode cX5_init 8 = .ok (.putfield 9, 3) := by decide +kernel
theorem dX5_init_11 : decode cX5_init 11 = .ok (.aload_n 0, 1) := by decide +kernel
theorem dX5_init_12 : decode cX5_init 12 = .ok (.bipush 9, 2) := by decide +kernel
theorem dX5_init_14 : decode cX5_init 14 = .ok (.newarray .int, 2) := by decide +kernel
theorem dX5_init_16 : decode cX5_init 16 = .ok (.putfield 13, 3) := by decide +kernel
theorem dX5_init_19 : decode cX5_init 19 = .ok (.aload_n 0, 1) := by decide +kernel
theorem dX5_init_20 : decode cX5_init 20 = .ok (.iconst 5, 1) := by decide +kernel
theorem dX5_init_21 : decode cX5_init 21 = .ok (.newarray .int, 2) := by decide +kernel
theorem dX5_init_23 : decode cX5_init 23 = .ok (.putfield 17, 3) := by decide +kernel
theorem dX5_init_26 : decode cX5_init 26 = .ok (.aload_n 0, 1) := by decide +kernel
theorem dX5_init_27 : decode cX5_init 27 = .ok (.iconst 3, 1) := by decide +kernel
theorem dX5_init_28 : decode cX5_init 28 = .ok (.putfield 20, 3) := by decide +kernel
theorem dX5_init_31 : decode cX5_init 31 = .ok (.aload_n 0, 1) := by decide +kernel
theorem dX5_init_32 : decode cX5_init 32 = .ok (.iconst 4, 1) := by decide +kernel
theorem dX5_init_33 : decode cX5_init 33 = .ok (.newarray .int, 2) := by decide +kernel
theorem dX5_init_35 : decode cX5_init 35 = .ok (.putfield 23, 3) := by decide +kernel
theorem dX5_init_38 : decode cX5_init 38 = .ok (.aload_n 0, 1) := by decide +kernel
theorem dX5_init_39 : decode cX5_init 39 = .ok (.bipush 120, 2) := by decide +kernel
theorem dX5_init_41 : decode cX5_init 41 = .ok (.newarray .int, 2) := by decide +kernel
theorem dX5_init_43 : decode cX5_init 43 = .ok (.putfield 26, 3) := by decide +kernel
theorem dX5_init_46 : decode cX5_init 46 = .ok (.aload_n 0, 1) := by decide +kernel
theorem dX5_init_47 : decode cX5_init 47 = .ok (.bipush 44, 2) := by decide +kernel
theorem dX5_init_49 : decode cX5_init 49 = .ok (.newarray .int, 2) := by decide +kernel
theorem dX5_init_51 : decode cX5_init 51 = .ok (.putfield 29, 3) := by decide +kernel
theorem dX5_init_54 : decode cX5_init 54 = .ok (.aload_n 0, 1) := by decide +kernel
theorem dX5_init_55 : decode cX5_init 55 = .ok (.iconst 4, 1) := by decide +kernel
theorem dX5_init_56 : decode cX5_init 56 = .ok (.newarray .int, 2) := by decide +kernel
theorem dX5_init_58 : decode cX5_init 58 = .ok (.putfield 32, 3) := by decide +kernel
theorem dX5_init_61 : decode cX5_init 61 = .ok (.aload_n 0, 1) := by decide +kernel
theorem dX5_init_62 : decode cX5_init 62 = .ok (.iconst 4, 1) := by decide +kernel
theorem dX5_init_63 : decode cX5_init 63 = .ok (.newarray .int, 2) := by decide +kernel
theorem dX5_init_65 : decode cX5_init 65 = .ok (.putfield 35, 3) := by decide +kernel
theorem dX5_init_68 : decode cX5_init 68 = .ok (.aload_n 0, 1) := by decide +kernel
theorem dX5_init_69 : decode cX5_init 69 = .ok (.bipush 40, 2) := by decide +kernel
theorem dX5_init_71 : decode cX5_init 71 = .ok (.newarray .int, 2) := by decide +kernel
theorem dX5_init_73 : decode cX5_init 73 = .ok (.putfield 38, 3) := by decide +kernel
theorem dX5_init_76 : decode cX5_init 76 = .ok (.return_, 1) := by decide +kernel
theorem dX5_thrown_0 : decode cX5_thrown 0 = .ok (.aload_n 0, 1) := by decide +kernel
theorem dX5_thrown_1 : decode cX5_thrown 1 = .ok (.getfield 41, 3) := by decide +kernel
theorem dX5_thrown_4 : decode cX5_thrown 4 = .ok (.ireturn, 1) := by decide +kernel
theorem dX5_no_0 : decode cX5_no 0 = .ok (.aload_n 0, 1) := by decide +kernel
theorem dX5_no_1 : decode cX5_no 1 = .ok (.iload_n 1, 1) := by decide +kernel
theorem dX5_no_2 : decode cX5_no 2 = .ok (.putfield 41, 3) := by decide +kernel
theorem dX5_no_5 : decode cX5_no 5 = .ok (.iconst 0, 1) := by decide +kernel
theorem dX5_no_6 : decode cX5_no 6 = .ok (.ireturn, 1) := by decide +kernel
theorem dX5_isNot_0 : decode cX5_isNot 0 = .ok (.aload_n 0, 1) := by decide +kernel
theorem dX5_isNot_1 : decode cX5_isNot 1 = .ok (.iload_n 1, 1) := by decide +kernel
theorem dX5_isNot_2 : decode cX5_isNot 2 = .ok (.putfield 41, 3) := by decide +kernel
theorem dX5_isNot_5 : decode cX5_isNot 5 = .ok (.iconst 0, 1) := by decide +kernel
theorem dX5_isNot_6 : decode cX5_isNot 6 = .ok (.ireturn, 1) := by decide +kernel
theorem dX5_ok_0 : decode cX5_ok 0 = .ok (.aload_n 0, 1) := by decide +kernel
theorem dX5_ok_1 : decode cX5_ok 1 = .ok (.iconst 0, 1) := by decide +kernel
theorem dX5_ok_2 : decode cX5_ok 2 = .ok (.putfield 41, 3) := by decide +kernel
theorem dX5_ok_5 : decode cX5_ok 5 = .ok (.iload_n 1, 1) := by decide +kernel
theorem dX5_ok_6 : decode cX5_ok 6 = .ok (.ireturn, 1) := by decide +kernel
theorem dX5_isIn_0 : decode cX5_isIn 0 = .ok (.iload_n 0, 1) := by decide +kernel
theorem dX5_isIn_1 : decode cX5_isIn 1 = .ok (.iload_n 1, 1) := by decide +kernel
theorem dX5_isIn_2 : decode cX5_isIn 2 = .ok (.if_icmp .lt 12, 3) := by decide +kernel
theorem dX5_isIn_5 : decode cX5_isIn 5 = .ok (.iload_n 0, 1) := by decide +kernel
theorem dX5_isIn_6 : decode cX5_isIn 6 = .ok (.iload_n 2, 1) := by decide +kernel
theorem dX5_isIn_7 : decode cX5_isIn 7 = .ok (.if_icmp .gt 7, 3) := by decide +kernel
theorem dX5_isIn_10 : decode cX5_isIn 10 = .ok (.iconst 1, 1) := by decide +kernel
theorem dX5_isIn_11 : decode cX5_isIn 11 = .ok (.goto 4, 3) := by decide +kernel
theorem dX5_isIn_14 : decode cX5_isIn 14 = .ok (.iconst 0, 1) := by decide +kernel
theorem dX5_isIn_15 : decode cX5_isIn 15 = .ok (.ireturn, 1) := by decide +kernel
set_option maxRecDepth 20000 in
theorem ggX5_isPin_X5_isIn : GoodIn wsX5_isPin wsX5_isIn := goodIn_r _ [4] (by decide +kernel) (by decide +kernel)
set_option maxRecDepth 20000 in
theorem gX5_isPin_X5_isIn : GoodIn wsX5_isPin (va_wsS RX5 44 yX5_isIn wsX5_isIn) := goodIn_app (goodIn_of _ (by decide +kernel)) ggX5_isPin_X5_isIn
theorem dX5_isPin_0 : decode cX5_isPin 0 = .ok (.iload_n 0, 1) := by decide +kernel
theorem dX5_isPin_1 : decode cX5_isPin 1 = .ok (.iconst 0, 1) := by decide +kernel
theorem dX5_isPin_2 : decode cX5_isPin 2 = .ok (.bipush 8, 2) := by decide +kernel
theorem dX5_isPin_4 : decode cX5_isPin 4 = .ok (.invokestatic 44, 3) := by decide +kernel
theorem dX5_isPin_7 : decode cX5_isPin 7 = .ok (.ireturn, 1) := by decide +kernel
set_option maxRecDepth 20000 in
theorem ggX5_isThrow_X5_isIn : GoodIn wsX5_isThrow wsX5_isIn := goodIn_r _ [4] (by decide +kernel) (by decide +kernel)
set_option maxRecDepth 20000 in
theorem gX5_isThrow_X5_isIn : GoodIn wsX5_isThrow (va_wsS RX5 44 yX5_isIn wsX5_isIn) := goodIn_app (goodIn_of _ (by decide +kernel)) ggX5_isThrow_X5_isIn
theorem dX5_isThrow_0 : decode cX5_isThrow 0 = .ok (.iload_n 0, 1) := by decide +kernel
theorem dX5_isThrow_1 : decode cX5_isThrow 1 = .ok (.iconst 0, 1) := by decide +kernel
theorem dX5_isThrow_2 : decode cX5_isThrow 2 = .ok (.iconst 4, 1) := by decide +kernel
theorem dX5_isThrow_3 : decode cX5_isThrow 3 = .ok (.invokestatic 44, 3) := by decide +kernel
theorem dX5_isThrow_6 : decode cX5_isThrow 6 = .ok (.ifCond .eq 16, 3) := by decide +kernel
theorem dX5_isThrow_9 : decode cX5_isThrow 9 = .ok (.iload_n 1, 1) := by decide +kernel
theorem dX5_isThrow_10 : decode cX5_isThrow 10 = .ok (.iconst 0, 1) := by decide +kernel
theorem dX5_isThrow_11 : decode cX5_isThrow 11 = .ok (.iconst 4, 1) := by decide +kernel
theorem dX5_isThrow_12 : decode cX5_isThrow 12 = .ok (.invokestatic 44, 3) := by decide +kernel
theorem dX5_isThrow_15 : decode cX5_isThrow 15 = .ok (.ifCond .eq 7, 3) := by decide +kernel
theorem dX5_isThrow_18 : decode cX5_isThrow 18 = .ok (.iconst 1, 1) := by decide +kernel
theorem dX5_isThrow_19 : decode cX5_isThrow 19 = .ok (.goto 4, 3) := by decide +kernel
theorem dX5_isThrow_22 : decode cX5_isThrow 22 = .ok (.iconst 0, 1) := by decide +kernel
theorem dX5_isThrow_23 : decode cX5_isThrow 23 = .ok (.ireturn, 1) := by decide +kernel
set_option maxRecDepth 20000 in
theorem ggX5_isPlayer_X5_isIn : GoodIn wsX5_isPlayer wsX5_isIn := goodIn_r _ [5] (by decide +kernel) (by decide +kernel)
set_option maxRecDepth 20000 in
theorem gX5_isPlayer_X5_isIn : GoodIn wsX5_isPlayer (va_wsS RX5 44 yX5_isIn wsX5_isIn) := goodIn_app (goodIn_of _ (by decide +kernel)) ggX5_isPlayer_X5_isIn
theorem dX5_isPlayer_0 : decode cX5_isPlayer 0 = .ok (.iload_n 1, 1) := by decide +kernel
theorem dX5_isPlayer_1 : decode cX5_isPlayer 1 = .ok (.iconst 0, 1) := by decide +kernel
theorem dX5_isPlayer_2 : decode cX5_isPlayer 2 = .ok (.aload_n 0, 1) := by decide +kernel
theorem dX5_isPlayer_3 : decode cX5_isPlayer 3 = .ok (.getfield 48, 3) := by decide +kernel
theorem dX5_isPlayer_6 : decode cX5_isPlayer 6 = .ok (.iconst 1, 1) := by decide +kernel
theorem dX5_isPlayer_7 : decode cX5_isPlayer 7 = .ok (.isub, 1) := by decide +kernel
theorem dX5_isPlayer_8 : decode cX5_isPlayer 8 = .ok (.invokestatic 44, 3) := by decide +kernel
theorem dX5_isPlayer_11 : decode cX5_isPlayer 11 = .ok (.ireturn, 1) := by decide +kernel
set_option maxRecDepth 20000 in
theorem ggX5_pinAt_X5_isIn : GoodIn wsX5_pinAt wsX5_isIn := goodIn_r _ [5] (by decide +kernel) (by decide +kernel)
set_option maxRecDepth 20000 in
theorem gX5_pinAt_X5_isIn : GoodIn wsX5_pinAt (va_wsS RX5 44 yX5_isIn wsX5_isIn) := goodIn_app (goodIn_of _ (by decide +kernel)) ggX5_pinAt_X5_isIn
theorem dX5_pinAt_0 : decode cX5_pinAt 0 = .ok (.iload_n 0, 1) := by decide +kernel
theorem dX5_pinAt_1 : decode cX5_pinAt 1 = .ok (.iconst 0, 1) := by decide +kernel
theorem dX5_pinAt_2 : decode cX5_pinAt 2 = .ok (.iconst 4, 1) := by decide +kernel
theorem dX5_pinAt_3 : decode cX5_pinAt 3 = .ok (.invokestatic 44, 3) := by decide +kernel
theorem dX5_pinAt_6 : decode cX5_pinAt 6 = .ok (.ifCond .eq 24, 3) := by decide +kernel
theorem dX5_pinAt_9 : decode cX5_pinAt 9 = .ok (.iload_n 1, 1) := by decide +kernel
theorem dX5_pinAt_10 : decode cX5_pinAt 10 = .ok (.iconst 0, 1) := by decide +kernel
theorem dX5_pinAt_11 : decode cX5_pinAt 11 = .ok (.iconst 4, 1) := by decide +kernel
theorem dX5_pinAt_12 : decode cX5_pinAt 12 = .ok (.invokestatic 44, 3) := by decide +kernel
theorem dX5_pinAt_15 : decode cX5_pinAt 15 = .ok (.ifCond .eq 15, 3) := by decide +kernel
theorem dX5_pinAt_18 : decode cX5_pinAt 18 = .ok (.getstatic 51, 3) := by decide +kernel
theorem dX5_pinAt_21 : decode cX5_pinAt 21 = .ok (.iconst 5, 1) := by decide +kernel
theorem dX5_pinAt_22 : decode cX5_pinAt 22 = .ok (.iload_n 0, 1) := by decide +kernel
theorem dX5_pinAt_23 : decode cX5_pinAt 23 = .ok (.imul, 1) := by decide +kernel
theorem dX5_pinAt_24 : decode cX5_pinAt 24 = .ok (.iload_n 1, 1) := by decide +kernel
theorem dX5_pinAt_25 : decode cX5_pinAt 25 = .ok (.iadd, 1) := by decide +kernel
theorem dX5_pinAt_26 : decode cX5_pinAt 26 = .ok (.iaload, 1) := by decide +kernel
theorem dX5_pinAt_27 : decode cX5_pinAt 27 = .ok (.goto 4, 3) := by decide +kernel
theorem dX5_pinAt_30 : decode cX5_pinAt 30 = .ok (.iconst (-1), 1) := by decide +kernel
theorem dX5_pinAt_31 : decode cX5_pinAt 31 = .ok (.ireturn, 1) := by decide +kernel
set_option maxRecDepth 20000 in
theorem ggX5_hit_X5_pinAt : GoodIn wsX5_hit wsX5_pinAt := goodIn_r _ [6, 7, 8, 9, 5, 10] (by decide +kernel) (by decide +kernel)
set_option maxRecDepth 20000 in
theorem gX5_hit_X5_pinAt : GoodIn wsX5_hit (va_wsS RX5 60 yX5_pinAt wsX5_pinAt) := goodIn_app (goodIn_of _ (by decide +kernel)) ggX5_hit_X5_pinAt
set_option maxRecDepth 20000 in
theorem ggX5_hit_X5_hit : GoodIn wsX5_hit wsX5_hit := goodIn_r _ [0, 1, 2, 3, 4, 5, 6, 7, 8, 9, 10, 11, 12] (by decide +kernel) (by decide +kernel)
set_option maxRecDepth 20000 in
theorem gX5_hit_X5_hit : GoodIn wsX5_hit (va_wsS RX5 64 yX5_hit wsX5_hit) := goodIn_app (goodIn_of _ (by decide +kernel)) ggX5_hit_X5_hit
theorem dX5_hit_0 : decode cX5_hit 0 = .ok (.iload_n 1, 1) := by decide +kernel
theorem dX5_hit_1 : decode cX5_hit 1 = .ok (.iconst (-1), 1) := by decide +kernel
theorem dX5_hit_2 : decode cX5_hit 2 = .ok (.if_icmp .eq 16, 3) := by decide +kernel
theorem dX5_hit_5 : decode cX5_hit 5 = .ok (.iload_n 0, 1) := by decide +kernel
theorem dX5_hit_6 : decode cX5_hit 6 = .ok (.iload_n 1, 1) := by decide +kernel
theorem dX5_hit_7 : decode cX5_hit 7 = .ok (.ishr, 1) := by decide +kernel
theorem dX5_hit_8 : decode cX5_hit 8 = .ok (.iconst 1, 1) := by decide +kernel
theorem dX5_hit_9 : decode cX5_hit 9 = .ok (.iand, 1) := by decide +kernel
theorem dX5_hit_10 : decode cX5_hit 10 = .ok (.ifCond .eq 8, 3) := by decide +kernel
theorem dX5_hit_13 : decode cX5_hit 13 = .ok (.iload_n 2, 1) := by decide +kernel
theorem dX5_hit_14 : decode cX5_hit 14 = .ok (.iconst 1, 1) := by decide +kernel
theorem dX5_hit_15 : decode cX5_hit 15 = .ok (.if_icmp .ge 5, 3) := by decide +kernel
theorem dX5_hit_18 : decode cX5_hit 18 = .ok (.iload_n 0, 1) := by decide +kernel
theorem dX5_hit_19 : decode cX5_hit 19 = .ok (.ireturn, 1) := by decide +kernel
theorem dX5_hit_20 : decode cX5_hit 20 = .ok (.iload_n 0, 1) := by decide +kernel
theorem dX5_hit_21 : decode cX5_hit 21 = .ok (.iconst 1, 1) := by decide +kernel
theorem dX5_hit_22 : decode cX5_hit 22 = .ok (.iload_n 1, 1) := by decide +kernel
theorem dX5_hit_23 : decode cX5_hit 23 = .ok (.ishl, 1) := by decide +kernel
theorem dX5_hit_24 : decode cX5_hit 24 = .ok (.iconst (-1), 1) := by decide +kernel
theorem dX5_hit_25 : decode cX5_hit 25 = .ok (.ixor, 1) := by decide +kernel
theorem dX5_hit_26 : decode cX5_hit 26 = .ok (.iand, 1) := by decide +kernel
theorem dX5_hit_27 : decode cX5_hit 27 = .ok (.getstatic 54, 3) := by decide +kernel
theorem dX5_hit_30 : decode cX5_hit 30 = .ok (.iload_n 1, 1) := by decide +kernel
theorem dX5_hit_31 : decode cX5_hit 31 = .ok (.iaload, 1) := by decide +kernel
theorem dX5_hit_32 : decode cX5_hit 32 = .ok (.iconst 1, 1) := by decide +kernel
theorem dX5_hit_33 : decode cX5_hit 33 = .ok (.iadd, 1) := by decide +kernel
theorem dX5_hit_34 : decode cX5_hit 34 = .ok (.getstatic 57, 3) := by decide +kernel
theorem dX5_hit_37 : decode cX5_hit 37 = .ok (.iload_n 1, 1) := by decide +kernel
theorem dX5_hit_38 : decode cX5_hit 38 = .ok (.iaload, 1) := by decide +kernel
theorem dX5_hit_39 : decode cX5_hit 39 = .ok (.iconst 1, 1) := by decide +kernel
theorem dX5_hit_40 : decode cX5_hit 40 = .ok (.isub, 1) := by decide +kernel
theorem dX5_hit_41 : decode cX5_hit 41 = .ok (.invokestatic 60, 3) := by decide +kernel
theorem dX5_hit_44 : decode cX5_hit 44 = .ok (.iload_n 2, 1) := by decide +kernel
theorem dX5_hit_45 : decode cX5_hit 45 = .ok (.iconst 2, 1) := by decide +kernel
theorem dX5_hit_46 : decode cX5_hit 46 = .ok (.isub, 1) := by decide +kernel
theorem dX5_hit_47 : decode cX5_hit 47 = .ok (.invokestatic 64, 3) := by decide +kernel
theorem dX5_hit_50 : decode cX5_hit 50 = .ok (.istore_n 3, 1) := by decide +kernel
theorem dX5_hit_51 : decode cX5_hit 51 = .ok (.iload_n 3, 1) := by decide +kernel
theorem dX5_hit_52 : decode cX5_hit 52 = .ok (.getstatic 54, 3) := by decide +kernel
theorem dX5_hit_55 : decode cX5_hit 55 = .ok (.iload_n 1, 1) := by decide +kernel
theorem dX5_hit_56 : decode cX5_hit 56 = .ok (.iaload, 1) := by decide +kernel
theorem dX5_hit_57 : decode cX5_hit 57 = .ok (.iconst 1, 1) := by decide +kernel
theorem dX5_hit_58 : decode cX5_hit 58 = .ok (.iadd, 1) := by decide +kernel
theorem dX5_hit_59 : decode cX5_hit 59 = .ok (.getstatic 57, 3) := by decide +kernel
theorem dX5_hit_62 : decode cX5_hit 62 = .ok (.iload_n 1, 1) := by decide +kernel
theorem dX5_hit_63 : decode cX5_hit 63 = .ok (.iaload, 1) := by decide +kernel
theorem dX5_hit_64 : decode cX5_hit 64 = .ok (.iconst 1, 1) := by decide +kernel
theorem dX5_hit_65 : decode cX5_hit 65 = .ok (.iadd, 1) := by decide +kernel
theorem dX5_hit_66 : decode cX5_hit 66 = .ok (.invokestatic 60, 3) := by decide +kernel
theorem dX5_hit_69 : decode cX5_hit 69 = .ok (.iload_n 2, 1) := by decide +kernel
theorem dX5_hit_70 : decode cX5_hit 70 = .ok (.iconst 2, 1) := by decide +kernel
theorem dX5_hit_71 : decode cX5_hit 71 = .ok (.isub, 1) := by decide +kernel
theorem dX5_hit_72 : decode cX5_hit 72 = .ok (.invokestatic 64, 3) := by decide +kernel
theorem dX5_hit_75 : decode cX5_hit 75 = .ok (.ireturn, 1) := by decide +kernel
set_option maxRecDepth 20000 in
theorem ggX5_roll_X5_pinAt : GoodIn wsX5_roll wsX5_pinAt := goodIn_r _ [4, 5, 6, 7, 3, 8] (by decide +kernel) (by decide +kernel)
set_option maxRecDepth 20000 in
theorem gX5_roll_X5_pinAt : GoodIn wsX5_roll (va_wsS RX5 60 yX5_pinAt wsX5_pinAt) := goodIn_app (goodIn_of _ (by decide +kernel)) ggX5_roll_X5_pinAt
set_option maxRecDepth 20000 in
theorem ggX5_roll_X5_hit : GoodIn wsX5_roll wsX5_hit := goodIn_r _ [11, 12, 13, 1, 2, 3, 4, 5, 6, 7, 8, 9, 10] (by decide +kernel) (by decide +kernel)
set_option maxRecDepth 20000 in
theorem gX5_roll_X5_hit : GoodIn wsX5_roll (va_wsS RX5 64 yX5_hit wsX5_hit) := goodIn_app (goodIn_of _ (by decide +kernel)) ggX5_roll_X5_hit
theorem dX5_roll_0 : decode cX5_roll 0 = .ok (.iload_n 0, 1) := by decide +kernel
theorem dX5_roll_1 : decode cX5_roll 1 = .ok (.istore_n 3, 1) := by decide +kernel
theorem dX5_roll_2 : decode cX5_roll 2 = .ok (.iload_n 1, 1) := by decide +kernel
theorem dX5_roll_3 : decode cX5_roll 3 = .ok (.iconst 2, 1) := by decide +kernel
theorem dX5_roll_4 : decode cX5_roll 4 = .ok (.iadd, 1) := by decide +kernel
theorem dX5_roll_5 : decode cX5_roll 5 = .ok (.istore 4, 2) := by decide +kernel
theorem dX5_roll_7 : decode cX5_roll 7 = .ok (.iconst 0, 1) := by decide +kernel
theorem dX5_roll_8 : decode cX5_roll 8 = .ok (.istore 5, 2) := by decide +kernel
theorem dX5_roll_10 : decode cX5_roll 10 = .ok (.iload 5, 2) := by decide +kernel
theorem dX5_roll_12 : decode cX5_roll 12 = .ok (.iconst 5, 1) := by decide +kernel
theorem dX5_roll_13 : decode cX5_roll 13 = .ok (.if_icmp .ge 52, 3) := by decide +kernel
theorem dX5_roll_16 : decode cX5_roll 16 = .ok (.iload 4, 2) := by decide +kernel
theorem dX5_roll_18 : decode cX5_roll 18 = .ok (.ifCond .le 47, 3) := by decide +kernel
theorem dX5_roll_21 : decode cX5_roll 21 = .ok (.iload 5, 2) := by decide +kernel
theorem dX5_roll_23 : decode cX5_roll 23 = .ok (.iload_n 2, 1) := by decide +kernel
theorem dX5_roll_24 : decode cX5_roll 24 = .ok (.invokestatic 60, 3) := by decide +kernel
theorem dX5_roll_27 : decode cX5_roll 27 = .ok (.istore 6, 2) := by decide +kernel
theorem dX5_roll_29 : decode cX5_roll 29 = .ok (.iload 6, 2) := by decide +kernel
theorem dX5_roll_31 : decode cX5_roll 31 = .ok (.iconst (-1), 1) := by decide +kernel
theorem dX5_roll_32 : decode cX5_roll 32 = .ok (.if_icmp .eq 27, 3) := by decide +kernel
theorem dX5_roll_35 : decode cX5_roll 35 = .ok (.iload_n 3, 1) := by decide +kernel
theorem dX5_roll_36 : decode cX5_roll 36 = .ok (.iload 6, 2) := by decide +kernel
theorem dX5_roll_38 : decode cX5_roll 38 = .ok (.ishr, 1) := by decide +kernel
theorem dX5_roll_39 : decode cX5_roll 39 = .ok (.iconst 1, 1) := by decide +kernel
theorem dX5_roll_40 : decode cX5_roll 40 = .ok (.iand, 1) := by decide +kernel
theorem dX5_roll_41 : decode cX5_roll 41 = .ok (.ifCond .ne 6, 3) := by decide +kernel
theorem dX5_roll_44 : decode cX5_roll 44 = .ok (.goto 15, 3) := by decide +kernel
theorem dX5_roll_47 : decode cX5_roll 47 = .ok (.iload_n 3, 1) := by decide +kernel
theorem dX5_roll_48 : decode cX5_roll 48 = .ok (.iload 6, 2) := by decide +kernel
theorem dX5_roll_50 : decode cX5_roll 50 = .ok (.iload 4, 2) := by decide +kernel
theorem dX5_roll_52 : decode cX5_roll 52 = .ok (.invokestatic 64, 3) := by decide +kernel
theorem dX5_roll_55 : decode cX5_roll 55 = .ok (.istore_n 3, 1) := by decide +kernel
theorem dX5_roll_56 : decode cX5_roll 56 = .ok (.iinc 4 (-1), 3) := by decide +kernel
theorem dX5_roll_59 : decode cX5_roll 59 = .ok (.iinc 5 1, 3) := by decide +kernel
theorem dX5_roll_62 : decode cX5_roll 62 = .ok (.goto (-52), 3) := by decide +kernel
theorem dX5_roll_65 : decode cX5_roll 65 = .ok (.iload_n 3, 1) := by decide +kernel
theorem dX5_roll_66 : decode cX5_roll 66 = .ok (.ireturn, 1) := by decide +kernel
theorem dX5_broken_0 : decode cX5_broken 0 = .ok (.aload_n 0, 1) := by decide +kernel
theorem dX5_broken_1 : decode cX5_broken 1 = .ok (.getfield 13, 3) := by decide +kernel
theorem dX5_broken_4 : decode cX5_broken 4 = .ok (.iload_n 1, 1) := by decide +kernel
theorem dX5_broken_5 : decode cX5_broken 5 = .ok (.iaload, 1) := by decide +kernel
theorem dX5_broken_6 : decode cX5_broken 6 = .ok (.bipush 12, 2) := by decide +kernel
theorem dX5_broken_8 : decode cX5_broken 8 = .ok (.if_icmp .ne 7, 3) := by decide +kernel
theorem dX5_broken_11 : decode cX5_broken 11 = .ok (.iconst 1, 1) := by decide +kernel
theorem dX5_broken_12 : decode cX5_broken 12 = .ok (.goto 4, 3) := by decide +kernel
theorem dX5_broken_15 : decode cX5_broken 15 = .ok (.iconst 0, 1) := by decide +kernel
theorem dX5_broken_16 : decode cX5_broken 16 = .ok (.ireturn, 1) := by decide +kernel
set_option maxRecDepth 20000 in
theorem ggX5_putUp_X5_broken : GoodIn wsX5_putUp wsX5_broken := goodIn_r _ [6, 7, 8, 9, 10, 11, 12, 13, 14, 15, 16, 17, 18, 19, 20, 21, 22] (by decide +kernel) (by decide +kernel)
set_option maxRecDepth 20000 in
theorem gX5_putUp_X5_broken : GoodIn wsX5_putUp (wsV RX5 68 RX5 yX5_broken wsX5_broken) := goodIn_app (goodIn_of _ (by decide +kernel)) ggX5_putUp_X5_broken
theorem dX5_putUp_0 : decode cX5_putUp 0 = .ok (.aload_n 0, 1) := by decide +kernel
theorem dX5_putUp_1 : decode cX5_putUp 1 = .ok (.iconst 0, 1) := by decide +kernel
theorem dX5_putUp_2 : decode cX5_putUp 2 = .ok (.putfield 9, 3) := by decide +kernel
theorem dX5_putUp_5 : decode cX5_putUp 5 = .ok (.iconst 0, 1) := by decide +kernel
theorem dX5_putUp_6 : decode cX5_putUp 6 = .ok (.istore_n 1, 1) := by decide +kernel
theorem dX5_putUp_7 : decode cX5_putUp 7 = .ok (.iload_n 1, 1) := by decide +kernel
theorem dX5_putUp_8 : decode cX5_putUp 8 = .ok (.bipush 9, 2) := by decide +kernel
theorem dX5_putUp_10 : decode cX5_putUp 10 = .ok (.if_icmp .ge 29, 3) := by decide +kernel
theorem dX5_putUp_13 : decode cX5_putUp 13 = .ok (.aload_n 0, 1) := by decide +kernel
theorem dX5_putUp_14 : decode cX5_putUp 14 = .ok (.iload_n 1, 1) := by decide +kernel
theorem dX5_putUp_15 : decode cX5_putUp 15 = .ok (.invokevirtual 68, 3) := by decide +kernel
theorem dX5_putUp_18 : decode cX5_putUp 18 = .ok (.ifCond .ne 15, 3) := by decide +kernel
theorem dX5_putUp_21 : decode cX5_putUp 21 = .ok (.aload_n 0, 1) := by decide +kernel
theorem dX5_putUp_22 : decode cX5_putUp 22 = .ok (.dup, 1) := by decide +kernel
theorem dX5_putUp_23 : decode cX5_putUp 23 = .ok (.getfield 9, 3) := by decide +kernel
theorem dX5_putUp_26 : decode cX5_putUp 26 = .ok (.iconst 1, 1) := by decide +kernel
theorem dX5_putUp_27 : decode cX5_putUp 27 = .ok (.iload_n 1, 1) := by decide +kernel
theorem dX5_putUp_28 : decode cX5_putUp 28 = .ok (.ishl, 1) := by decide +kernel
theorem dX5_putUp_29 : decode cX5_putUp 29 = .ok (.ior, 1) := by decide +kernel
theorem dX5_putUp_30 : decode cX5_putUp 30 = .ok (.putfield 9, 3) := by decide +kernel
theorem dX5_putUp_33 : decode cX5_putUp 33 = .ok (.iinc 1 1, 3) := by decide +kernel
theorem dX5_putUp_36 : decode cX5_putUp 36 = .ok (.goto (-29), 3) := by decide +kernel
theorem dX5_putUp_39 : decode cX5_putUp 39 = .ok (.return_, 1) := by decide +kernel
theorem dX5_over_0 : decode cX5_over 0 = .ok (.aload_n 0, 1) := by decide +kernel
theorem dX5_over_1 : decode cX5_over 1 = .ok (.getfield 72, 3) := by decide +kernel
theorem dX5_over_4 : decode cX5_over 4 = .ok (.bipush 10, 2) := by decide +kernel
theorem dX5_over_6 : decode cX5_over 6 = .ok (.if_icmp .ne 7, 3) := by decide +kernel
theorem dX5_over_9 : decode cX5_over 9 = .ok (.iconst 1, 1) := by decide +kernel
theorem dX5_over_10 : decode cX5_over 10 = .ok (.goto 4, 3) := by decide +kernel
theorem dX5_over_13 : decode cX5_over 13 = .ok (.iconst 0, 1) := by decide +kernel
theorem dX5_over_14 : decode cX5_over 14 = .ok (.ireturn, 1) := by decide +kernel
theorem dX5_throwsOfAll_0 : decode cX5_throwsOfAll 0 = .ok (.iconst 0, 1) := by decide +kernel
theorem dX5_throwsOfAll_1 : decode cX5_throwsOfAll 1 = .ok (.istore_n 1, 1) := by decide +kernel
theorem dX5_throwsOfAll_2 : decode cX5_throwsOfAll 2 = .ok (.iconst 0, 1) := by decide +kernel
end
section
theorem dX5_throwsOfAll_3 : decode cX5_throwsOfAll 3 = .ok (.istore_n 2, 1) := by decide +kernel
theorem dX5_throwsOfAll_4 : decode cX5_throwsOfAll 4 = .ok (.iload_n 2, 1) := by decide +kernel
theorem dX5_throwsOfAll_5 : decode cX5_throwsOfAll 5 = .ok (.aload_n 0, 1) := by decide +kernel
theorem dX5_throwsOfAll_6 : decode cX5_throwsOfAll 6 = .ok (.getfield 48, 3) := by decide +kernel
theorem dX5_throwsOfAll_9 : decode cX5_throwsOfAll 9 = .ok (.if_icmp .ge 18, 3) := by decide +kernel
theorem dX5_throwsOfAll_12 : decode cX5_throwsOfAll 12 = .ok (.iload_n 1, 1) := by decide +kernel
theorem dX5_throwsOfAll_13 : decode cX5_throwsOfAll 13 = .ok (.aload_n 0, 1) := by decide +kernel
theorem dX5_throwsOfAll_14 : decode cX5_throwsOfAll 14 = .ok (.getfield 23, 3) := by decide +kernel
theorem dX5_throwsOfAll_17 : decode cX5_throwsOfAll 17 = .ok (.iload_n 2, 1) := by decide +kernel
theorem dX5_throwsOfAll_18 : decode cX5_throwsOfAll 18 = .ok (.iaload, 1) := by decide +kernel
theorem dX5_throwsOfAll_19 : decode cX5_throwsOfAll 19 = .ok (.iadd, 1) := by decide +kernel
theorem dX5_throwsOfAll_20 : decode cX5_throwsOfAll 20 = .ok (.istore_n 1, 1) := by decide +kernel
theorem dX5_throwsOfAll_21 : decode cX5_throwsOfAll 21 = .ok (.iinc 2 1, 3) := by decide +kernel
theorem dX5_throwsOfAll_24 : decode cX5_throwsOfAll 24 = .ok (.goto (-20), 3) := by decide +kernel
theorem dX5_throwsOfAll_27 : decode cX5_throwsOfAll 27 = .ok (.iload_n 1, 1) := by decide +kernel
theorem dX5_throwsOfAll_28 : decode cX5_throwsOfAll 28 = .ok (.ireturn, 1) := by decide +kernel
set_option maxRecDepth 20000 in
theorem ggX5_addPlayer_X5_throwsOfAll : GoodIn wsX5_addPlayer wsX5_throwsOfAll := goodIn_r _ [7, 2, 8, 13, 14, 15, 16, 17, 18, 19, 20, 21, 22, 23, 24, 25, 26, 27] (by decide +kernel) (by decide +kernel)
set_option maxRecDepth 20000 in
theorem gX5_addPlayer_X5_throwsOfAll : GoodIn wsX5_addPlayer (wsV RX5 75 RX5 yX5_throwsOfAll wsX5_throwsOfAll) := goodIn_app (goodIn_of _ (by decide +kernel)) ggX5_addPlayer_X5_throwsOfAll
set_option maxRecDepth 20000 in
theorem ggX5_addPlayer_X5_no : GoodIn wsX5_addPlayer wsX5_no := goodIn_r _ [12, 1, 13, 14, 15, 16, 17, 18, 19, 20, 21, 22, 23, 24, 25, 26, 27] (by decide +kernel) (by decide +kernel)
set_option maxRecDepth 20000 in
theorem gX5_addPlayer_X5_no : GoodIn wsX5_addPlayer (wsV RX5 79 RX5 yX5_no wsX5_no) := goodIn_app (goodIn_of _ (by decide +kernel)) ggX5_addPlayer_X5_no
theorem dX5_addPlayer_0 : decode cX5_addPlayer 0 = .ok (.aload_n 0, 1) := by decide +kernel
theorem dX5_addPlayer_1 : decode cX5_addPlayer 1 = .ok (.iconst 0, 1) := by decide +kernel
theorem dX5_addPlayer_2 : decode cX5_addPlayer 2 = .ok (.putfield 41, 3) := by decide +kernel
theorem dX5_addPlayer_5 : decode cX5_addPlayer 5 = .ok (.aload_n 0, 1) := by decide +kernel
theorem dX5_addPlayer_6 : decode cX5_addPlayer 6 = .ok (.getfield 48, 3) := by decide +kernel
theorem dX5_addPlayer_9 : decode cX5_addPlayer 9 = .ok (.iconst 4, 1) := by decide +kernel
theorem dX5_addPlayer_10 : decode cX5_addPlayer 10 = .ok (.if_icmp .eq 10, 3) := by decide +kernel
theorem dX5_addPlayer_13 : decode cX5_addPlayer 13 = .ok (.aload_n 0, 1) := by decide +kernel
theorem dX5_addPlayer_14 : decode cX5_addPlayer 14 = .ok (.invokevirtual 75, 3) := by decide +kernel
theorem dX5_addPlayer_17 : decode cX5_addPlayer 17 = .ok (.ifCond .le 9, 3) := by decide +kernel
theorem dX5_addPlayer_20 : decode cX5_addPlayer 20 = .ok (.aload_n 0, 1) := by decide +kernel
theorem dX5_addPlayer_21 : decode cX5_addPlayer 21 = .ok (.iconst 1, 1) := by decide +kernel
theorem dX5_addPlayer_22 : decode cX5_addPlayer 22 = .ok (.invokevirtual 79, 3) := by decide +kernel
theorem dX5_addPlayer_25 : decode cX5_addPlayer 25 = .ok (.ireturn, 1) := by decide +kernel
theorem dX5_addPlayer_26 : decode cX5_addPlayer 26 = .ok (.aload_n 0, 1) := by decide +kernel
theorem dX5_addPlayer_27 : decode cX5_addPlayer 27 = .ok (.dup, 1) := by decide +kernel
theorem dX5_addPlayer_28 : decode cX5_addPlayer 28 = .ok (.getfield 48, 3) := by decide +kernel
theorem dX5_addPlayer_31 : decode cX5_addPlayer 31 = .ok (.iconst 1, 1) := by decide +kernel
theorem dX5_addPlayer_32 : decode cX5_addPlayer 32 = .ok (.iadd, 1) := by decide +kernel
theorem dX5_addPlayer_33 : decode cX5_addPlayer 33 = .ok (.putfield 48, 3) := by decide +kernel
theorem dX5_addPlayer_36 : decode cX5_addPlayer 36 = .ok (.aload_n 0, 1) := by decide +kernel
theorem dX5_addPlayer_37 : decode cX5_addPlayer 37 = .ok (.getfield 48, 3) := by decide +kernel
theorem dX5_addPlayer_40 : decode cX5_addPlayer 40 = .ok (.iconst 1, 1) := by decide +kernel
theorem dX5_addPlayer_41 : decode cX5_addPlayer 41 = .ok (.isub, 1) := by decide +kernel
theorem dX5_addPlayer_42 : decode cX5_addPlayer 42 = .ok (.ireturn, 1) := by decide +kernel
theorem dX5_sum_0 : decode cX5_sum 0 = .ok (.iconst 0, 1) := by decide +kernel
theorem dX5_sum_1 : decode cX5_sum 1 = .ok (.istore 4, 2) := by decide +kernel
theorem dX5_sum_3 : decode cX5_sum 3 = .ok (.iload_n 2, 1) := by decide +kernel
theorem dX5_sum_4 : decode cX5_sum 4 = .ok (.istore 5, 2) := by decide +kernel
theorem dX5_sum_6 : decode cX5_sum 6 = .ok (.iload 5, 2) := by decide +kernel
theorem dX5_sum_8 : decode cX5_sum 8 = .ok (.iload_n 3, 1) := by decide +kernel
theorem dX5_sum_9 : decode cX5_sum 9 = .ok (.aload_n 0, 1) := by decide +kernel
theorem dX5_sum_10 : decode cX5_sum 10 = .ok (.getfield 23, 3) := by decide +kernel
theorem dX5_sum_13 : decode cX5_sum 13 = .ok (.iload_n 1, 1) := by decide +kernel
theorem dX5_sum_14 : decode cX5_sum 14 = .ok (.iaload, 1) := by decide +kernel
theorem dX5_sum_15 : decode cX5_sum 15 = .ok (.invokestatic 83, 3) := by decide +kernel
theorem dX5_sum_18 : decode cX5_sum 18 = .ok (.if_icmp .ge 26, 3) := by decide +kernel
theorem dX5_sum_21 : decode cX5_sum 21 = .ok (.iload 4, 2) := by decide +kernel
theorem dX5_sum_23 : decode cX5_sum 23 = .ok (.aload_n 0, 1) := by decide +kernel
theorem dX5_sum_24 : decode cX5_sum 24 = .ok (.getfield 26, 3) := by decide +kernel
theorem dX5_sum_27 : decode cX5_sum 27 = .ok (.bipush 30, 2) := by decide +kernel
theorem dX5_sum_29 : decode cX5_sum 29 = .ok (.iload_n 1, 1) := by decide +kernel
theorem dX5_sum_30 : decode cX5_sum 30 = .ok (.imul, 1) := by decide +kernel
theorem dX5_sum_31 : decode cX5_sum 31 = .ok (.iload 5, 2) := by decide +kernel
theorem dX5_sum_33 : decode cX5_sum 33 = .ok (.iadd, 1) := by decide +kernel
theorem dX5_sum_34 : decode cX5_sum 34 = .ok (.iaload, 1) := by decide +kernel
theorem dX5_sum_35 : decode cX5_sum 35 = .ok (.iadd, 1) := by decide +kernel
theorem dX5_sum_36 : decode cX5_sum 36 = .ok (.istore 4, 2) := by decide +kernel
theorem dX5_sum_38 : decode cX5_sum 38 = .ok (.iinc 5 1, 3) := by decide +kernel
theorem dX5_sum_41 : decode cX5_sum 41 = .ok (.goto (-35), 3) := by decide +kernel
theorem dX5_sum_44 : decode cX5_sum 44 = .ok (.iload 4, 2) := by decide +kernel
theorem dX5_sum_46 : decode cX5_sum 46 = .ok (.ireturn, 1) := by decide +kernel
theorem dX5_begin_0 : decode cX5_begin 0 = .ok (.aload_n 0, 1) := by decide +kernel
theorem dX5_begin_1 : decode cX5_begin 1 = .ok (.getfield 29, 3) := by decide +kernel
theorem dX5_begin_4 : decode cX5_begin 4 = .ok (.bipush 11, 2) := by decide +kernel
theorem dX5_begin_6 : decode cX5_begin 6 = .ok (.iload_n 1, 1) := by decide +kernel
theorem dX5_begin_7 : decode cX5_begin 7 = .ok (.imul, 1) := by decide +kernel
theorem dX5_begin_8 : decode cX5_begin 8 = .ok (.iload_n 2, 1) := by decide +kernel
theorem dX5_begin_9 : decode cX5_begin 9 = .ok (.iadd, 1) := by decide +kernel
theorem dX5_begin_10 : decode cX5_begin 10 = .ok (.iaload, 1) := by decide +kernel
theorem dX5_begin_11 : decode cX5_begin 11 = .ok (.ireturn, 1) := by decide +kernel
set_option maxRecDepth 20000 in
theorem ggX5_endFrame_X5_begin : GoodIn wsX5_endFrame wsX5_begin := goodIn_r _ [15, 9, 38, 39, 40, 41, 42, 43, 44, 45, 46, 47, 48, 49, 50, 51, 52] (by decide +kernel) (by decide +kernel)
set_option maxRecDepth 20000 in
theorem gX5_endFrame_X5_begin : GoodIn wsX5_endFrame (wsV RX5 91 RX5 yX5_begin wsX5_begin) := goodIn_app (goodIn_of _ (by decide +kernel)) ggX5_endFrame_X5_begin
set_option maxRecDepth 20000 in
theorem ggX5_endFrame_X5_sum : GoodIn wsX5_endFrame wsX5_sum := goodIn_r _ [19, 3, 20, 21, 22, 23, 24, 38, 39, 40, 41, 42, 43, 44, 45, 46, 47, 48, 49, 50, 51, 52] (by decide +kernel) (by decide +kernel)
set_option maxRecDepth 20000 in
theorem gX5_endFrame_X5_sum : GoodIn wsX5_endFrame (wsV RX5 94 RX5 yX5_sum wsX5_sum) := goodIn_app (goodIn_of _ (by decide +kernel)) ggX5_endFrame_X5_sum
set_option maxRecDepth 20000 in
theorem ggX5_endFrame_X5_over : GoodIn wsX5_endFrame wsX5_over := goodIn_r _ [28, 2, 38, 39, 40, 41, 42, 43, 44, 45, 46, 47, 48, 49, 50, 51, 52] (by decide +kernel) (by decide +kernel)
set_option maxRecDepth 20000 in
theorem gX5_endFrame_X5_over : GoodIn wsX5_endFrame (wsV RX5 100 RX5 yX5_over wsX5_over) := goodIn_app (goodIn_of _ (by decide +kernel)) ggX5_endFrame_X5_over
set_option maxRecDepth 20000 in
theorem ggX5_endFrame_X5_putUp : GoodIn wsX5_endFrame wsX5_putUp := goodIn_r _ [32, 4, 33, 34, 35, 14, 36, 37, 38, 39, 40, 41, 42, 43, 44, 45, 46, 47, 48, 49, 50, 51, 52] (by decide +kernel) (by decide +kernel)
set_option maxRecDepth 20000 in
theorem gX5_endFrame_X5_putUp : GoodIn wsX5_endFrame (wsV RX5 104 RX5 yX5_putUp wsX5_putUp) := goodIn_app (goodIn_of _ (by decide +kernel)) ggX5_endFrame_X5_putUp
theorem dX5_endFrame_0 : decode cX5_endFrame 0 = .ok (.aload_n 0, 1) := by decide +kernel
theorem dX5_endFrame_1 : decode cX5_endFrame 1 = .ok (.aload_n 0, 1) := by decide +kernel
theorem dX5_endFrame_2 : decode cX5_endFrame 2 = .ok (.getfield 88, 3) := by decide +kernel
theorem dX5_endFrame_5 : decode cX5_endFrame 5 = .ok (.aload_n 0, 1) := by decide +kernel
theorem dX5_endFrame_6 : decode cX5_endFrame 6 = .ok (.aload_n 0, 1) := by decide +kernel
theorem dX5_endFrame_7 : decode cX5_endFrame 7 = .ok (.getfield 88, 3) := by decide +kernel
theorem dX5_endFrame_10 : decode cX5_endFrame 10 = .ok (.aload_n 0, 1) := by decide +kernel
theorem dX5_endFrame_11 : decode cX5_endFrame 11 = .ok (.getfield 72, 3) := by decide +kernel
theorem dX5_endFrame_14 : decode cX5_endFrame 14 = .ok (.invokevirtual 91, 3) := by decide +kernel
theorem dX5_endFrame_17 : decode cX5_endFrame 17 = .ok (.aload_n 0, 1) := by decide +kernel
theorem dX5_endFrame_18 : decode cX5_endFrame 18 = .ok (.getfield 23, 3) := by decide +kernel
theorem dX5_endFrame_21 : decode cX5_endFrame 21 = .ok (.aload_n 0, 1) := by decide +kernel
theorem dX5_endFrame_22 : decode cX5_endFrame 22 = .ok (.getfield 88, 3) := by decide +kernel
theorem dX5_endFrame_25 : decode cX5_endFrame 25 = .ok (.iaload, 1) := by decide +kernel
theorem dX5_endFrame_26 : decode cX5_endFrame 26 = .ok (.invokevirtual 94, 3) := by decide +kernel
theorem dX5_endFrame_29 : decode cX5_endFrame 29 = .ok (.istore_n 1, 1) := by decide +kernel
theorem dX5_endFrame_30 : decode cX5_endFrame 30 = .ok (.aload_n 0, 1) := by decide +kernel
theorem dX5_endFrame_31 : decode cX5_endFrame 31 = .ok (.getfield 9, 3) := by decide +kernel
theorem dX5_endFrame_34 : decode cX5_endFrame 34 = .ok (.ifCond .ne 49, 3) := by decide +kernel
theorem dX5_endFrame_37 : decode cX5_endFrame 37 = .ok (.iload_n 1, 1) := by decide +kernel
theorem dX5_endFrame_38 : decode cX5_endFrame 38 = .ok (.ifCond .le 45, 3) := by decide +kernel
theorem dX5_endFrame_41 : decode cX5_endFrame 41 = .ok (.aload_n 0, 1) := by decide +kernel
theorem dX5_endFrame_42 : decode cX5_endFrame 42 = .ok (.getfield 97, 3) := by decide +kernel
theorem dX5_endFrame_45 : decode cX5_endFrame 45 = .ok (.iconst 1, 1) := by decide +kernel
theorem dX5_endFrame_46 : decode cX5_endFrame 46 = .ok (.if_icmp .ne 37, 3) := by decide +kernel
theorem dX5_endFrame_49 : decode cX5_endFrame 49 = .ok (.aload_n 0, 1) := by decide +kernel
theorem dX5_endFrame_50 : decode cX5_endFrame 50 = .ok (.getfield 32, 3) := by decide +kernel
theorem dX5_endFrame_53 : decode cX5_endFrame 53 = .ok (.aload_n 0, 1) := by decide +kernel
theorem dX5_endFrame_54 : decode cX5_endFrame 54 = .ok (.getfield 88, 3) := by decide +kernel
theorem dX5_endFrame_57 : decode cX5_endFrame 57 = .ok (.dup2, 1) := by decide +kernel
theorem dX5_endFrame_58 : decode cX5_endFrame 58 = .ok (.iaload, 1) := by decide +kernel
theorem dX5_endFrame_59 : decode cX5_endFrame 59 = .ok (.iconst 1, 1) := by decide +kernel
theorem dX5_endFrame_60 : decode cX5_endFrame 60 = .ok (.iadd, 1) := by decide +kernel
theorem dX5_endFrame_61 : decode cX5_endFrame 61 = .ok (.iastore, 1) := by decide +kernel
theorem dX5_endFrame_62 : decode cX5_endFrame 62 = .ok (.aload_n 0, 1) := by decide +kernel
theorem dX5_endFrame_63 : decode cX5_endFrame 63 = .ok (.getfield 38, 3) := by decide +kernel
theorem dX5_endFrame_66 : decode cX5_endFrame 66 = .ok (.bipush 10, 2) := by decide +kernel
theorem dX5_endFrame_68 : decode cX5_endFrame 68 = .ok (.aload_n 0, 1) := by decide +kernel
theorem dX5_endFrame_69 : decode cX5_endFrame 69 = .ok (.getfield 88, 3) := by decide +kernel
theorem dX5_endFrame_72 : decode cX5_endFrame 72 = .ok (.imul, 1) := by decide +kernel
theorem dX5_endFrame_73 : decode cX5_endFrame 73 = .ok (.aload_n 0, 1) := by decide +kernel
theorem dX5_endFrame_74 : decode cX5_endFrame 74 = .ok (.getfield 72, 3) := by decide +kernel
theorem dX5_endFrame_77 : decode cX5_endFrame 77 = .ok (.iadd, 1) := by decide +kernel
theorem dX5_endFrame_78 : decode cX5_endFrame 78 = .ok (.iconst 2, 1) := by decide +kernel
theorem dX5_endFrame_79 : decode cX5_endFrame 79 = .ok (.iastore, 1) := by decide +kernel
theorem dX5_endFrame_80 : decode cX5_endFrame 80 = .ok (.goto 45, 3) := by decide +kernel
theorem dX5_endFrame_83 : decode cX5_endFrame 83 = .ok (.aload_n 0, 1) := by decide +kernel
theorem dX5_endFrame_84 : decode cX5_endFrame 84 = .ok (.getfield 9, 3) := by decide +kernel
theorem dX5_endFrame_87 : decode cX5_endFrame 87 = .ok (.ifCond .ne 38, 3) := by decide +kernel
theorem dX5_endFrame_90 : decode cX5_endFrame 90 = .ok (.iload_n 1, 1) := by decide +kernel
theorem dX5_endFrame_91 : decode cX5_endFrame 91 = .ok (.ifCond .le 34, 3) := by decide +kernel
theorem dX5_endFrame_94 : decode cX5_endFrame 94 = .ok (.aload_n 0, 1) := by decide +kernel
theorem dX5_endFrame_95 : decode cX5_endFrame 95 = .ok (.getfield 35, 3) := by decide +kernel
theorem dX5_endFrame_98 : decode cX5_endFrame 98 = .ok (.aload_n 0, 1) := by decide +kernel
theorem dX5_endFrame_99 : decode cX5_endFrame 99 = .ok (.getfield 88, 3) := by decide +kernel
theorem dX5_endFrame_102 : decode cX5_endFrame 102 = .ok (.dup2, 1) := by decide +kernel
theorem dX5_endFrame_103 : decode cX5_endFrame 103 = .ok (.iaload, 1) := by decide +kernel
theorem dX5_endFrame_104 : decode cX5_endFrame 104 = .ok (.iconst 1, 1) := by decide +kernel
theorem dX5_endFrame_105 : decode cX5_endFrame 105 = .ok (.iadd, 1) := by decide +kernel
theorem dX5_endFrame_106 : decode cX5_endFrame 106 = .ok (.iastore, 1) := by decide +kernel
theorem dX5_endFrame_107 : decode cX5_endFrame 107 = .ok (.aload_n 0, 1) := by decide +kernel
theorem dX5_endFrame_108 : decode cX5_endFrame 108 = .ok (.getfield 38, 3) := by decide +kernel
theorem dX5_endFrame_111 : decode cX5_endFrame 111 = .ok (.bipush 10, 2) := by decide +kernel
theorem dX5_endFrame_113 : decode cX5_endFrame 113 = .ok (.aload_n 0, 1) := by decide +kernel
theorem dX5_endFrame_114 : decode cX5_endFrame 114 = .ok (.getfield 88, 3) := by decide +kernel
theorem dX5_endFrame_117 : decode cX5_endFrame 117 = .ok (.imul, 1) := by decide +kernel
theorem dX5_endFrame_118 : decode cX5_endFrame 118 = .ok (.aload_n 0, 1) := by decide +kernel
theorem dX5_endFrame_119 : decode cX5_endFrame 119 = .ok (.getfield 72, 3) := by decide +kernel
theorem dX5_endFrame_122 : decode cX5_endFrame 122 = .ok (.iadd, 1) := by decide +kernel
theorem dX5_endFrame_123 : decode cX5_endFrame 123 = .ok (.iconst 1, 1) := by decide +kernel
theorem dX5_endFrame_124 : decode cX5_endFrame 124 = .ok (.iastore, 1) := by decide +kernel
theorem dX5_endFrame_125 : decode cX5_endFrame 125 = .ok (.aload_n 0, 1) := by decide +kernel
theorem dX5_endFrame_126 : decode cX5_endFrame 126 = .ok (.getfield 29, 3) := by decide +kernel
theorem dX5_endFrame_129 : decode cX5_endFrame 129 = .ok (.bipush 11, 2) := by decide +kernel
theorem dX5_endFrame_131 : decode cX5_endFrame 131 = .ok (.aload_n 0, 1) := by decide +kernel
theorem dX5_endFrame_132 : decode cX5_endFrame 132 = .ok (.getfield 88, 3) := by decide +kernel
theorem dX5_endFrame_135 : decode cX5_endFrame 135 = .ok (.imul, 1) := by decide +kernel
theorem dX5_endFrame_136 : decode cX5_endFrame 136 = .ok (.aload_n 0, 1) := by decide +kernel
theorem dX5_endFrame_137 : decode cX5_endFrame 137 = .ok (.getfield 72, 3) := by decide +kernel
theorem dX5_endFrame_140 : decode cX5_endFrame 140 = .ok (.iadd, 1) := by decide +kernel
theorem dX5_endFrame_141 : decode cX5_endFrame 141 = .ok (.iconst 1, 1) := by decide +kernel
theorem dX5_endFrame_142 : decode cX5_endFrame 142 = .ok (.iadd, 1) := by decide +kernel
theorem dX5_endFrame_143 : decode cX5_endFrame 143 = .ok (.aload_n 0, 1) := by decide +kernel
theorem dX5_endFrame_144 : decode cX5_endFrame 144 = .ok (.getfield 23, 3) := by decide +kernel
theorem dX5_endFrame_147 : decode cX5_endFrame 147 = .ok (.aload_n 0, 1) := by decide +kernel
theorem dX5_endFrame_148 : decode cX5_endFrame 148 = .ok (.getfield 88, 3) := by decide +kernel
theorem dX5_endFrame_151 : decode cX5_endFrame 151 = .ok (.iaload, 1) := by decide +kernel
theorem dX5_endFrame_152 : decode cX5_endFrame 152 = .ok (.iastore, 1) := by decide +kernel
theorem dX5_endFrame_153 : decode cX5_endFrame 153 = .ok (.aload_n 0, 1) := by decide +kernel
theorem dX5_endFrame_154 : decode cX5_endFrame 154 = .ok (.iconst 0, 1) := by decide +kernel
theorem dX5_endFrame_155 : decode cX5_endFrame 155 = .ok (.putfield 97, 3) := by decide +kernel
theorem dX5_endFrame_158 : decode cX5_endFrame 158 = .ok (.aload_n 0, 1) := by decide +kernel
theorem dX5_endFrame_159 : decode cX5_endFrame 159 = .ok (.dup, 1) := by decide +kernel
theorem dX5_endFrame_160 : decode cX5_endFrame 160 = .ok (.getfield 88, 3) := by decide +kernel
theorem dX5_endFrame_163 : decode cX5_endFrame 163 = .ok (.iconst 1, 1) := by decide +kernel
theorem dX5_endFrame_164 : decode cX5_endFrame 164 = .ok (.iadd, 1) := by decide +kernel
theorem dX5_endFrame_165 : decode cX5_endFrame 165 = .ok (.putfield 88, 3) := by decide +kernel
theorem dX5_endFrame_168 : decode cX5_endFrame 168 = .ok (.aload_n 0, 1) := by decide +kernel
theorem dX5_endFrame_169 : decode cX5_endFrame 169 = .ok (.getfield 88, 3) := by decide +kernel
theorem dX5_endFrame_172 : decode cX5_endFrame 172 = .ok (.aload_n 0, 1) := by decide +kernel
theorem dX5_endFrame_173 : decode cX5_endFrame 173 = .ok (.getfield 48, 3) := by decide +kernel
theorem dX5_endFrame_176 : decode cX5_endFrame 176 = .ok (.if_icmp .ne 18, 3) := by decide +kernel
theorem dX5_endFrame_179 : decode cX5_endFrame 179 = .ok (.aload_n 0, 1) := by decide +kernel
theorem dX5_endFrame_180 : decode cX5_endFrame 180 = .ok (.iconst 0, 1) := by decide +kernel
theorem dX5_endFrame_181 : decode cX5_endFrame 181 = .ok (.putfield 88, 3) := by decide +kernel
theorem dX5_endFrame_184 : decode cX5_endFrame 184 = .ok (.aload_n 0, 1) := by decide +kernel
theorem dX5_endFrame_185 : decode cX5_endFrame 185 = .ok (.dup, 1) := by decide +kernel
theorem dX5_endFrame_186 : decode cX5_endFrame 186 = .ok (.getfield 72, 3) := by decide +kernel
theorem dX5_endFrame_189 : decode cX5_endFrame 189 = .ok (.iconst 1, 1) := by decide +kernel
theorem dX5_endFrame_190 : decode cX5_endFrame 190 = .ok (.iadd, 1) := by decide +kernel
theorem dX5_endFrame_191 : decode cX5_endFrame 191 = .ok (.putfield 72, 3) := by decide +kernel
theorem dX5_endFrame_194 : decode cX5_endFrame 194 = .ok (.aload_n 0, 1) := by decide +kernel
theorem dX5_endFrame_195 : decode cX5_endFrame 195 = .ok (.invokevirtual 100, 3) := by decide +kernel
theorem dX5_endFrame_198 : decode cX5_endFrame 198 = .ok (.ifCond .ne 7, 3) := by decide +kernel
theorem dX5_endFrame_201 : decode cX5_endFrame 201 = .ok (.aload_n 0, 1) := by decide +kernel
theorem dX5_endFrame_202 : decode cX5_endFrame 202 = .ok (.invokevirtual 104, 3) := by decide +kernel
theorem dX5_endFrame_205 : decode cX5_endFrame 205 = .ok (.return_, 1) := by decide +kernel
set_option maxRecDepth 20000 in
theorem ggX5_play_X5_roll : GoodIn wsX5_play wsX5_roll := goodIn_r _ [15, 16, 17, 14, 18, 19, 20, 21, 22, 23, 24, 25, 26, 27] (by decide +kernel) (by decide +kernel)
set_option maxRecDepth 20000 in
theorem gX5_play_X5_roll : GoodIn wsX5_play (va_wsS RX5 107 yX5_roll wsX5_roll) := goodIn_app (goodIn_of _ (by decide +kernel)) ggX5_play_X5_roll
set_option maxRecDepth 20000 in
theorem ggX5_play_J6_bitCount_0f7a4 : GoodIn wsX5_play wsJ6_bitCount_0f7a4 := goodIn_r _ [31, 32, 33, 34] (by decide +kernel) (by decide +kernel)
set_option maxRecDepth 20000 in
theorem gX5_play_J6_bitCount_0f7a4 : GoodIn wsX5_play (va_wsS RX5 110 yJ6_bitCount_0f7a4 wsJ6_bitCount_0f7a4) := goodIn_app (goodIn_of _ (by decide +kernel)) ggX5_play_J6_bitCount_0f7a4
set_option maxRecDepth 20000 in
theorem ggX5_play_X5_endFrame : GoodIn wsX5_play wsX5_endFrame := goodIn_r _ [38, 9, 39, 10, 1, 11, 40, 41, 42, 43, 44, 45, 46, 47, 14, 48, 49, 50, 51, 52, 53, 54, 6, 55, 8, 56, 57, 58, 59, 60, 61, 62, 63, 64, 65, 66, 67, 2, 68, 69, 70, 71, 72, 73, 74, 75, 76, 77, 78, 79, 80, 81, 82] (by decide +kernel) (by decide +kernel)
set_option maxRecDepth 20000 in
theorem gX5_play_X5_endFrame : GoodIn wsX5_play (wsV RX5 118 RX5 yX5_endFrame wsX5_endFrame) := goodIn_app (goodIn_of _ (by decide +kernel)) ggX5_play_X5_endFrame
theorem dX5_play_0 : decode cX5_play 0 = .ok (.aload_n 0, 1) := by decide +kernel
theorem dX5_play_1 : decode cX5_play 1 = .ok (.getfield 9, 3) := by decide +kernel
theorem dX5_play_4 : decode cX5_play 4 = .ok (.iload_n 1, 1) := by decide +kernel
theorem dX5_play_5 : decode cX5_play 5 = .ok (.iload_n 2, 1) := by decide +kernel
theorem dX5_play_6 : decode cX5_play 6 = .ok (.invokestatic 107, 3) := by decide +kernel
theorem dX5_play_9 : decode cX5_play 9 = .ok (.istore_n 3, 1) := by decide +kernel
theorem dX5_play_10 : decode cX5_play 10 = .ok (.aload_n 0, 1) := by decide +kernel
theorem dX5_play_11 : decode cX5_play 11 = .ok (.getfield 9, 3) := by decide +kernel
theorem dX5_play_14 : decode cX5_play 14 = .ok (.iload_n 3, 1) := by decide +kernel
theorem dX5_play_15 : decode cX5_play 15 = .ok (.ixor, 1) := by decide +kernel
theorem dX5_play_16 : decode cX5_play 16 = .ok (.invokestatic 110, 3) := by decide +kernel
theorem dX5_play_19 : decode cX5_play 19 = .ok (.istore 4, 2) := by decide +kernel
theorem dX5_play_21 : decode cX5_play 21 = .ok (.iconst 0, 1) := by decide +kernel
theorem dX5_play_22 : decode cX5_play 22 = .ok (.istore 5, 2) := by decide +kernel
theorem dX5_play_24 : decode cX5_play 24 = .ok (.iload 5, 2) := by decide +kernel
theorem dX5_play_26 : decode cX5_play 26 = .ok (.bipush 9, 2) := by decide +kernel
theorem dX5_play_28 : decode cX5_play 28 = .ok (.if_icmp .ge 30, 3) := by decide +kernel
theorem dX5_play_31 : decode cX5_play 31 = .ok (.aload_n 0, 1) := by decide +kernel
theorem dX5_play_32 : decode cX5_play 32 = .ok (.getfield 13, 3) := by decide +kernel
theorem dX5_play_35 : decode cX5_play 35 = .ok (.iload 5, 2) := by decide +kernel
theorem dX5_play_37 : decode cX5_play 37 = .ok (.dup2, 1) := by decide +kernel
theorem dX5_play_38 : decode cX5_play 38 = .ok (.iaload, 1) := by decide +kernel
theorem dX5_play_39 : decode cX5_play 39 = .ok (.aload_n 0, 1) := by decide +kernel
theorem dX5_play_40 : decode cX5_play 40 = .ok (.getfield 9, 3) := by decide +kernel
theorem dX5_play_43 : decode cX5_play 43 = .ok (.iload_n 3, 1) := by decide +kernel
theorem dX5_play_44 : decode cX5_play 44 = .ok (.ixor, 1) := by decide +kernel
theorem dX5_play_45 : decode cX5_play 45 = .ok (.iload 5, 2) := by decide +kernel
theorem dX5_play_47 : decode cX5_play 47 = .ok (.ishr, 1) := by decide +kernel
theorem dX5_play_48 : decode cX5_play 48 = .ok (.iconst 1, 1) := by decide +kernel
theorem dX5_play_49 : decode cX5_play 49 = .ok (.iand, 1) := by decide +kernel
theorem dX5_play_50 : decode cX5_play 50 = .ok (.iadd, 1) := by decide +kernel
theorem dX5_play_51 : decode cX5_play 51 = .ok (.iastore, 1) := by decide +kernel
theorem dX5_play_52 : decode cX5_play 52 = .ok (.iinc 5 1, 3) := by decide +kernel
theorem dX5_play_55 : decode cX5_play 55 = .ok (.goto (-31), 3) := by decide +kernel
theorem dX5_play_58 : decode cX5_play 58 = .ok (.aload_n 0, 1) := by decide +kernel
theorem dX5_play_59 : decode cX5_play 59 = .ok (.iload_n 3, 1) := by decide +kernel
theorem dX5_play_60 : decode cX5_play 60 = .ok (.putfield 9, 3) := by decide +kernel
theorem dX5_play_63 : decode cX5_play 63 = .ok (.iconst 0, 1) := by decide +kernel
theorem dX5_play_64 : decode cX5_play 64 = .ok (.istore 5, 2) := by decide +kernel
theorem dX5_play_66 : decode cX5_play 66 = .ok (.iload 5, 2) := by decide +kernel
theorem dX5_play_68 : decode cX5_play 68 = .ok (.iconst 5, 1) := by decide +kernel
theorem dX5_play_69 : decode cX5_play 69 = .ok (.if_icmp .ge 29, 3) := by decide +kernel
theorem dX5_play_72 : decode cX5_play 72 = .ok (.aload_n 0, 1) := by decide +kernel
theorem dX5_play_73 : decode cX5_play 73 = .ok (.getfield 17, 3) := by decide +kernel
theorem dX5_play_76 : decode cX5_play 76 = .ok (.iload 5, 2) := by decide +kernel
theorem dX5_play_78 : decode cX5_play 78 = .ok (.iconst 0, 1) := by decide +kernel
theorem dX5_play_79 : decode cX5_play 79 = .ok (.aload_n 0, 1) := by decide +kernel
theorem dX5_play_80 : decode cX5_play 80 = .ok (.getfield 17, 3) := by decide +kernel
theorem dX5_play_83 : decode cX5_play 83 = .ok (.iload 5, 2) := by decide +kernel
theorem dX5_play_85 : decode cX5_play 85 = .ok (.iaload, 1) := by decide +kernel
theorem dX5_play_86 : decode cX5_play 86 = .ok (.iconst 1, 1) := by decide +kernel
theorem dX5_play_87 : decode cX5_play 87 = .ok (.isub, 1) := by decide +kernel
theorem dX5_play_88 : decode cX5_play 88 = .ok (.invokestatic 115, 3) := by decide +kernel
theorem dX5_play_91 : decode cX5_play 91 = .ok (.iastore, 1) := by decide +kernel
theorem dX5_play_92 : decode cX5_play 92 = .ok (.iinc 5 1, 3) := by decide +kernel
theorem dX5_play_95 : decode cX5_play 95 = .ok (.goto (-29), 3) := by decide +kernel
theorem dX5_play_98 : decode cX5_play 98 = .ok (.aload_n 0, 1) := by decide +kernel
theorem dX5_play_99 : decode cX5_play 99 = .ok (.getfield 17, 3) := by decide +kernel
theorem dX5_play_102 : decode cX5_play 102 = .ok (.iload_n 1, 1) := by decide +kernel
theorem dX5_play_103 : decode cX5_play 103 = .ok (.iconst 2, 1) := by decide +kernel
theorem dX5_play_104 : decode cX5_play 104 = .ok (.iastore, 1) := by decide +kernel
theorem dX5_play_105 : decode cX5_play 105 = .ok (.aload_n 0, 1) := by decide +kernel
theorem dX5_play_106 : decode cX5_play 106 = .ok (.getfield 26, 3) := by decide +kernel
theorem dX5_play_109 : decode cX5_play 109 = .ok (.bipush 30, 2) := by decide +kernel
theorem dX5_play_111 : decode cX5_play 111 = .ok (.aload_n 0, 1) := by decide +kernel
theorem dX5_play_112 : decode cX5_play 112 = .ok (.getfield 88, 3) := by decide +kernel
theorem dX5_play_115 : decode cX5_play 115 = .ok (.imul, 1) := by decide +kernel
theorem dX5_play_116 : decode cX5_play 116 = .ok (.aload_n 0, 1) := by decide +kernel
theorem dX5_play_117 : decode cX5_play 117 = .ok (.getfield 23, 3) := by decide +kernel
theorem dX5_play_120 : decode cX5_play 120 = .ok (.aload_n 0, 1) := by decide +kernel
theorem dX5_play_121 : decode cX5_play 121 = .ok (.getfield 88, 3) := by decide +kernel
theorem dX5_play_124 : decode cX5_play 124 = .ok (.iaload, 1) := by decide +kernel
theorem dX5_play_125 : decode cX5_play 125 = .ok (.iadd, 1) := by decide +kernel
theorem dX5_play_126 : decode cX5_play 126 = .ok (.iload 4, 2) := by decide +kernel
theorem dX5_play_128 : decode cX5_play 128 = .ok (.iastore, 1) := by decide +kernel
theorem dX5_play_129 : decode cX5_play 129 = .ok (.aload_n 0, 1) := by decide +kernel
theorem dX5_play_130 : decode cX5_play 130 = .ok (.getfield 23, 3) := by decide +kernel
theorem dX5_play_133 : decode cX5_play 133 = .ok (.aload_n 0, 1) := by decide +kernel
theorem dX5_play_134 : decode cX5_play 134 = .ok (.getfield 88, 3) := by decide +kernel
theorem dX5_play_137 : decode cX5_play 137 = .ok (.dup2, 1) := by decide +kernel
theorem dX5_play_138 : decode cX5_play 138 = .ok (.iaload, 1) := by decide +kernel
theorem dX5_play_139 : decode cX5_play 139 = .ok (.iconst 1, 1) := by decide +kernel
theorem dX5_play_140 : decode cX5_play 140 = .ok (.iadd, 1) := by decide +kernel
theorem dX5_play_141 : decode cX5_play 141 = .ok (.iastore, 1) := by decide +kernel
theorem dX5_play_142 : decode cX5_play 142 = .ok (.aload_n 0, 1) := by decide +kernel
theorem dX5_play_143 : decode cX5_play 143 = .ok (.dup, 1) := by decide +kernel
theorem dX5_play_144 : decode cX5_play 144 = .ok (.getfield 97, 3) := by decide +kernel
theorem dX5_play_147 : decode cX5_play 147 = .ok (.iconst 1, 1) := by decide +kernel
theorem dX5_play_148 : decode cX5_play 148 = .ok (.iadd, 1) := by decide +kernel
theorem dX5_play_149 : decode cX5_play 149 = .ok (.putfield 97, 3) := by decide +kernel
theorem dX5_play_152 : decode cX5_play 152 = .ok (.aload_n 0, 1) := by decide +kernel
theorem dX5_play_153 : decode cX5_play 153 = .ok (.getfield 9, 3) := by decide +kernel
theorem dX5_play_156 : decode cX5_play 156 = .ok (.ifCond .eq 11, 3) := by decide +kernel
theorem dX5_play_159 : decode cX5_play 159 = .ok (.aload_n 0, 1) := by decide +kernel
theorem dX5_play_160 : decode cX5_play 160 = .ok (.getfield 97, 3) := by decide +kernel
theorem dX5_play_163 : decode cX5_play 163 = .ok (.iconst 3, 1) := by decide +kernel
theorem dX5_play_164 : decode cX5_play 164 = .ok (.if_icmp .ne 7, 3) := by decide +kernel
theorem dX5_play_167 : decode cX5_play 167 = .ok (.aload_n 0, 1) := by decide +kernel
theorem dX5_play_168 : decode cX5_play 168 = .ok (.invokevirtual 118, 3) := by decide +kernel
theorem dX5_play_171 : decode cX5_play 171 = .ok (.iload 4, 2) := by decide +kernel
theorem dX5_play_173 : decode cX5_play 173 = .ok (.ireturn, 1) := by decide +kernel
set_option maxRecDepth 20000 in
theorem ggX5_throwBall_X5_isThrow : GoodIn wsX5_throwBall wsX5_isThrow := goodIn_r _ [7, 8, 9, 6, 10] (by decide +kernel) (by decide +kernel)
set_option maxRecDepth 20000 in
theorem gX5_throwBall_X5_isThrow : GoodIn wsX5_throwBall (va_wsS RX5 121 yX5_isThrow wsX5_isThrow) := goodIn_app (goodIn_of _ (by decide +kernel)) ggX5_throwBall_X5_isThrow
set_option maxRecDepth 20000 in
theorem ggX5_throwBall_X5_no : GoodIn wsX5_throwBall wsX5_no := goodIn_r _ [14, 1, 80, 81, 82, 83, 84, 85, 86, 87, 88, 89, 90, 91, 92, 93, 94] (by decide +kernel) (by decide +kernel)
set_option maxRecDepth 20000 in
theorem gX5_throwBall_X5_no : GoodIn wsX5_throwBall (wsV RX5 79 RX5 yX5_no wsX5_no) := goodIn_app (goodIn_of _ (by decide +kernel)) ggX5_throwBall_X5_no
set_option maxRecDepth 20000 in
theorem ggX5_throwBall_X5_over : GoodIn wsX5_throwBall wsX5_over := goodIn_r _ [18, 19, 80, 81, 82, 83, 84, 85, 86, 87, 88, 89, 90, 91, 92, 93, 94] (by decide +kernel) (by decide +kernel)
set_option maxRecDepth 20000 in
theorem gX5_throwBall_X5_over : GoodIn wsX5_throwBall (wsV RX5 100 RX5 yX5_over wsX5_over) := goodIn_app (goodIn_of _ (by decide +kernel)) ggX5_throwBall_X5_over
set_option maxRecDepth 20000 in
theorem ggX5_throwBall_X5_play : GoodIn wsX5_throwBall wsX5_play := goodIn_r _ [23, 24, 25, 3, 26, 27, 28, 29, 30, 31, 32, 33, 34, 35, 6, 36, 37, 38, 39, 40, 8, 9, 10, 41, 42, 43, 44, 45, 46, 47, 48, 49, 50, 51, 52, 53, 54, 55, 56, 19, 57, 58, 59, 60, 2, 61, 62, 63, 64, 65, 66, 67, 68, 69, 70, 71, 15, 16, 17, 18, 72, 73, 74, 75, 76, 77, 78, 79, 80, 81, 82, 83, 84, 85, 86, 87, 88, 89, 90, 91, 92, 93, 94] (by decide +kernel) (by decide +kernel)
set_option maxRecDepth 20000 in
theorem gX5_throwBall_X5_play : GoodIn wsX5_throwBall (wsV RX5 125 RX5 yX5_play wsX5_play) := goodIn_app (goodIn_of _ (by decide +kernel)) ggX5_throwBall_X5_play
theorem dX5_throwBall_0 : decode cX5_throwBall 0 = .ok (.aload_n 0, 1) := by decide +kernel
theorem dX5_throwBall_1 : decode cX5_throwBall 1 = .ok (.iconst 0, 1) := by decide +kernel
theorem dX5_throwBall_2 : decode cX5_throwBall 2 = .ok (.putfield 41, 3) := by decide +kernel
theorem dX5_throwBall_5 : decode cX5_throwBall 5 = .ok (.iload_n 1, 1) := by decide +kernel
theorem dX5_throwBall_6 : decode cX5_throwBall 6 = .ok (.iload_n 2, 1) := by decide +kernel
theorem dX5_throwBall_7 : decode cX5_throwBall 7 = .ok (.invokestatic 121, 3) := by decide +kernel
theorem dX5_throwBall_10 : decode cX5_throwBall 10 = .ok (.ifCond .ne 9, 3) := by decide +kernel
theorem dX5_throwBall_13 : decode cX5_throwBall 13 = .ok (.aload_n 0, 1) := by decide +kernel
theorem dX5_throwBall_14 : decode cX5_throwBall 14 = .ok (.iconst 1, 1) := by decide +kernel
theorem dX5_throwBall_15 : decode cX5_throwBall 15 = .ok (.invokevirtual 79, 3) := by decide +kernel
theorem dX5_throwBall_18 : decode cX5_throwBall 18 = .ok (.ireturn, 1) := by decide +kernel
theorem dX5_throwBall_19 : decode cX5_throwBall 19 = .ok (.aload_n 0, 1) := by decide +kernel
theorem dX5_throwBall_20 : decode cX5_throwBall 20 = .ok (.getfield 48, 3) := by decide +kernel
theorem dX5_throwBall_23 : decode cX5_throwBall 23 = .ok (.ifCond .eq 19, 3) := by decide +kernel
theorem dX5_throwBall_26 : decode cX5_throwBall 26 = .ok (.aload_n 0, 1) := by decide +kernel
theorem dX5_throwBall_27 : decode cX5_throwBall 27 = .ok (.invokevirtual 100, 3) := by decide +kernel
theorem dX5_throwBall_30 : decode cX5_throwBall 30 = .ok (.ifCond .ne 12, 3) := by decide +kernel
theorem dX5_throwBall_33 : decode cX5_throwBall 33 = .ok (.aload_n 0, 1) := by decide +kernel
theorem dX5_throwBall_34 : decode cX5_throwBall 34 = .ok (.getfield 17, 3) := by decide +kernel
theorem dX5_throwBall_37 : decode cX5_throwBall 37 = .ok (.iload_n 1, 1) := by decide +kernel
theorem dX5_throwBall_38 : decode cX5_throwBall 38 = .ok (.iaload, 1) := by decide +kernel
theorem dX5_throwBall_39 : decode cX5_throwBall 39 = .ok (.ifCond .le 11, 3) := by decide +kernel
theorem dX5_throwBall_42 : decode cX5_throwBall 42 = .ok (.aload_n 0, 1) := by decide +kernel
theorem dX5_throwBall_43 : decode cX5_throwBall 43 = .ok (.iconst 2, 1) := by decide +kernel
theorem dX5_throwBall_44 : decode cX5_throwBall 44 = .ok (.invokevirtual 79, 3) := by decide +kernel
theorem dX5_throwBall_47 : decode cX5_throwBall 47 = .ok (.goto 9, 3) := by decide +kernel
theorem dX5_throwBall_50 : decode cX5_throwBall 50 = .ok (.aload_n 0, 1) := by decide +kernel
theorem dX5_throwBall_51 : decode cX5_throwBall 51 = .ok (.iload_n 1, 1) := by decide +kernel
theorem dX5_throwBall_52 : decode cX5_throwBall 52 = .ok (.iload_n 2, 1) := by decide +kernel
theorem dX5_throwBall_53 : decode cX5_throwBall 53 = .ok (.invokevirtual 125, 3) := by decide +kernel
theorem dX5_throwBall_56 : decode cX5_throwBall 56 = .ok (.ireturn, 1) := by decide +kernel
set_option maxRecDepth 20000 in
theorem ggX5_replaceString_X5_isPin : GoodIn wsX5_replaceString wsX5_isPin := goodIn_r _ [7, 8, 9, 6, 10] (by decide +kernel) (by decide +kernel)
set_option maxRecDepth 20000 in
theorem gX5_replaceString_X5_isPin : GoodIn wsX5_replaceString (va_wsS RX5 128 yX5_isPin wsX5_isPin) := goodIn_app (goodIn_of _ (by decide +kernel)) ggX5_replaceString_X5_isPin
set_option maxRecDepth 20000 in
theorem ggX5_replaceString_X5_no : GoodIn wsX5_replaceString wsX5_no := goodIn_r _ [14, 1, 15, 16, 17, 18, 19, 20, 21, 22, 23, 24, 25, 26, 27, 28, 29] (by decide +kernel) (by decide +kernel)
set_option maxRecDepth 20000 in
theorem gX5_replaceString_X5_no : GoodIn wsX5_replaceString (wsV RX5 79 RX5 yX5_no wsX5_no) := goodIn_app (goodIn_of _ (by decide +kernel)) ggX5_replaceString_X5_no
theorem dX5_replaceString_0 : decode cX5_replaceString 0 = .ok (.aload_n 0, 1) := by decide +kernel
theorem dX5_replaceString_1 : decode cX5_replaceString 1 = .ok (.iconst 0, 1) := by decide +kernel
theorem dX5_replaceString_2 : decode cX5_replaceString 2 = .ok (.putfield 41, 3) := by decide +kernel
theorem dX5_replaceString_5 : decode cX5_replaceString 5 = .ok (.iload_n 1, 1) := by decide +kernel
theorem dX5_replaceString_6 : decode cX5_replaceString 6 = .ok (.invokestatic 128, 3) := by decide +kernel
theorem dX5_replaceString_9 : decode cX5_replaceString 9 = .ok (.ifCond .ne 9, 3) := by decide +kernel
theorem dX5_replaceString_12 : decode cX5_replaceString 12 = .ok (.aload_n 0, 1) := by decide +kernel
theorem dX5_replaceString_13 : decode cX5_replaceString 13 = .ok (.iconst 1, 1) := by decide +kernel
theorem dX5_replaceString_14 : decode cX5_replaceString 14 = .ok (.invokevirtual 79, 3) := by decide +kernel
theorem dX5_replaceString_17 : decode cX5_replaceString 17 = .ok (.ireturn, 1) := by decide +kernel
theorem dX5_replaceString_18 : decode cX5_replaceString 18 = .ok (.aload_n 0, 1) := by decide +kernel
theorem dX5_replaceString_19 : decode cX5_replaceString 19 = .ok (.getfield 20, 3) := by decide +kernel
theorem dX5_replaceString_22 : decode cX5_replaceString 22 = .ok (.ifCond .ne 9, 3) := by decide +kernel
theorem dX5_replaceString_25 : decode cX5_replaceString 25 = .ok (.aload_n 0, 1) := by decide +kernel
theorem dX5_replaceString_26 : decode cX5_replaceString 26 = .ok (.iconst 2, 1) := by decide +kernel
theorem dX5_replaceString_27 : decode cX5_replaceString 27 = .ok (.invokevirtual 79, 3) := by decide +kernel
theorem dX5_replaceString_30 : decode cX5_replaceString 30 = .ok (.ireturn, 1) := by decide +kernel
theorem dX5_replaceString_31 : decode cX5_replaceString 31 = .ok (.aload_n 0, 1) := by decide +kernel
theorem dX5_replaceString_32 : decode cX5_replaceString 32 = .ok (.getfield 13, 3) := by decide +kernel
theorem dX5_replaceString_35 : decode cX5_replaceString 35 = .ok (.iload_n 1, 1) := by decide +kernel
theorem dX5_replaceString_36 : decode cX5_replaceString 36 = .ok (.iconst 0, 1) := by decide +kernel
theorem dX5_replaceString_37 : decode cX5_replaceString 37 = .ok (.iastore, 1) := by decide +kernel
theorem dX5_replaceString_38 : decode cX5_replaceString 38 = .ok (.aload_n 0, 1) := by decide +kernel
theorem dX5_replaceString_39 : decode cX5_replaceString 39 = .ok (.dup, 1) := by decide +kernel
theorem dX5_replaceString_40 : decode cX5_replaceString 40 = .ok (.getfield 20, 3) := by decide +kernel
theorem dX5_replaceString_43 : decode cX5_replaceString 43 = .ok (.iconst 1, 1) := by decide +kernel
theorem dX5_replaceString_44 : decode cX5_replaceString 44 = .ok (.isub, 1) := by decide +kernel
theorem dX5_replaceString_45 : decode cX5_replaceString 45 = .ok (.putfield 20, 3) := by decide +kernel
theorem dX5_replaceString_48 : decode cX5_replaceString 48 = .ok (.aload_n 0, 1) := by decide +kernel
theorem dX5_replaceString_49 : decode cX5_replaceString 49 = .ok (.getfield 20, 3) := by decide +kernel
theorem dX5_replaceString_52 : decode cX5_replaceString 52 = .ok (.ireturn, 1) := by decide +kernel
set_option maxRecDepth 20000 in
theorem ggX5_buyStrings_X5_isIn : GoodIn wsX5_buyStrings wsX5_isIn := goodIn_r _ [6] (by decide +kernel) (by decide +kernel)
set_option maxRecDepth 20000 in
theorem gX5_buyStrings_X5_isIn : GoodIn wsX5_buyStrings (va_wsS RX5 44 yX5_isIn wsX5_isIn) := goodIn_app (goodIn_of _ (by decide +kernel)) ggX5_buyStrings_X5_isIn
set_option maxRecDepth 20000 in
theorem ggX5_buyStrings_X5_no : GoodIn wsX5_buyStrings wsX5_no := goodIn_r _ [10, 1, 11, 12, 13, 14, 15, 16, 17, 18, 19, 20, 21, 22, 23, 24, 25] (by decide +kernel) (by decide +kernel)
set_option maxRecDepth 20000 in
theorem gX5_buyStrings_X5_no : GoodIn wsX5_buyStrings (wsV RX5 79 RX5 yX5_no wsX5_no) := goodIn_app (goodIn_of _ (by decide +kernel)) ggX5_buyStrings_X5_no
theorem dX5_buyStrings_0 : decode cX5_buyStrings 0 = .ok (.aload_n 0, 1) := by decide +kernel
theorem dX5_buyStrings_1 : decode cX5_buyStrings 1 = .ok (.iconst 0, 1) := by decide +kernel
theorem dX5_buyStrings_2 : decode cX5_buyStrings 2 = .ok (.putfield 41, 3) := by decide +kernel
theorem dX5_buyStrings_5 : decode cX5_buyStrings 5 = .ok (.iload_n 1, 1) := by decide +kernel
theorem dX5_buyStrings_6 : decode cX5_buyStrings 6 = .ok (.iconst 1, 1) := by decide +kernel
theorem dX5_buyStrings_7 : decode cX5_buyStrings 7 = .ok (.bipush 20, 2) := by decide +kernel
theorem dX5_buyStrings_9 : decode cX5_buyStrings 9 = .ok (.invokestatic 44, 3) := by decide +kernel
theorem dX5_buyStrings_12 : decode cX5_buyStrings 12 = .ok (.ifCond .ne 9, 3) := by decide +kernel
theorem dX5_buyStrings_15 : decode cX5_buyStrings 15 = .ok (.aload_n 0, 1) := by decide +kernel
theorem dX5_buyStrings_16 : decode cX5_buyStrings 16 = .ok (.iconst 1, 1) := by decide +kernel
theorem dX5_buyStrings_17 : decode cX5_buyStrings 17 = .ok (.invokevirtual 79, 3) := by decide +kernel
theorem dX5_buyStrings_20 : decode cX5_buyStrings 20 = .ok (.ireturn, 1) := by decide +kernel
theorem dX5_buyStrings_21 : decode cX5_buyStrings 21 = .ok (.aload_n 0, 1) := by decide +kernel
theorem dX5_buyStrings_22 : decode cX5_buyStrings 22 = .ok (.dup, 1) := by decide +kernel
theorem dX5_buyStrings_23 : decode cX5_buyStrings 23 = .ok (.getfield 20, 3) := by decide +kernel
theorem dX5_buyStrings_26 : decode cX5_buyStrings 26 = .ok (.iload_n 1, 1) := by decide +kernel
theorem dX5_buyStrings_27 : decode cX5_buyStrings 27 = .ok (.iadd, 1) := by decide +kernel
theorem dX5_buyStrings_28 : decode cX5_buyStrings 28 = .ok (.putfield 20, 3) := by decide +kernel
theorem dX5_buyStrings_31 : decode cX5_buyStrings 31 = .ok (.aload_n 0, 1) := by decide +kernel
theorem dX5_buyStrings_32 : decode cX5_buyStrings 32 = .ok (.getfield 20, 3) := by decide +kernel
theorem dX5_buyStrings_35 : decode cX5_buyStrings 35 = .ok (.ireturn, 1) := by decide +kernel
set_option maxRecDepth 20000 in
theorem ggX5_points_X5_begin : GoodIn wsX5_points wsX5_begin := goodIn_r _ [9, 10, 20, 21, 22, 23, 24, 25, 26, 27, 28, 29, 30, 31, 32, 33, 34] (by decide +kernel) (by decide +kernel)
set_option maxRecDepth 20000 in
theorem gX5_points_X5_begin : GoodIn wsX5_points (wsV RX5 91 RX5 yX5_begin wsX5_begin) := goodIn_app (goodIn_of _ (by decide +kernel)) ggX5_points_X5_begin
set_option maxRecDepth 20000 in
theorem ggX5_points_X5_sum : GoodIn wsX5_points wsX5_sum := goodIn_r _ [14, 3, 15, 16, 17, 18, 19, 20, 21, 22, 23, 24, 25, 26, 27, 28, 29, 30, 31, 32, 33, 34] (by decide +kernel) (by decide +kernel)
set_option maxRecDepth 20000 in
theorem gX5_points_X5_sum : GoodIn wsX5_points (wsV RX5 94 RX5 yX5_sum wsX5_sum) := goodIn_app (goodIn_of _ (by decide +kernel)) ggX5_points_X5_sum
theorem dX5_points_0 : decode cX5_points 0 = .ok (.iload_n 2, 1) := by decide +kernel
theorem dX5_points_1 : decode cX5_points 1 = .ok (.aload_n 0, 1) := by decide +kernel
theorem dX5_points_2 : decode cX5_points 2 = .ok (.getfield 72, 3) := by decide +kernel
theorem dX5_points_5 : decode cX5_points 5 = .ok (.if_icmp .gt 19, 3) := by decide +kernel
theorem dX5_points_8 : decode cX5_points 8 = .ok (.iload_n 2, 1) := by decide +kernel
theorem dX5_points_9 : decode cX5_points 9 = .ok (.aload_n 0, 1) := by decide +kernel
theorem dX5_points_10 : decode cX5_points 10 = .ok (.getfield 72, 3) := by decide +kernel
theorem dX5_points_13 : decode cX5_points 13 = .ok (.if_icmp .ne 13, 3) := by decide +kernel
theorem dX5_points_16 : decode cX5_points 16 = .ok (.iload_n 1, 1) := by decide +kernel
theorem dX5_points_17 : decode cX5_points 17 = .ok (.aload_n 0, 1) := by decide +kernel
theorem dX5_points_18 : decode cX5_points 18 = .ok (.getfield 88, 3) := by decide +kernel
theorem dX5_points_21 : decode cX5_points 21 = .ok (.if_icmp .le 5, 3) := by decide +kernel
theorem dX5_points_24 : decode cX5_points 24 = .ok (.iconst 0, 1) := by decide +kernel
theorem dX5_points_25 : decode cX5_points 25 = .ok (.ireturn, 1) := by decide +kernel
theorem dX5_points_26 : decode cX5_points 26 = .ok (.iload_n 2, 1) := by decide +kernel
theorem dX5_points_27 : decode cX5_points 27 = .ok (.aload_n 0, 1) := by decide +kernel
theorem dX5_points_28 : decode cX5_points 28 = .ok (.getfield 72, 3) := by decide +kernel
theorem dX5_points_31 : decode cX5_points 31 = .ok (.if_icmp .ne 15, 3) := by decide +kernel
theorem dX5_points_34 : decode cX5_points 34 = .ok (.iload_n 1, 1) := by decide +kernel
theorem dX5_points_35 : decode cX5_points 35 = .ok (.aload_n 0, 1) := by decide +kernel
theorem dX5_points_36 : decode cX5_points 36 = .ok (.getfield 88, 3) := by decide +kernel
theorem dX5_points_39 : decode cX5_points 39 = .ok (.if_icmp .ne 7, 3) := by decide +kernel
theorem dX5_points_42 : decode cX5_points 42 = .ok (.iconst 1, 1) := by decide +kernel
theorem dX5_points_43 : decode cX5_points 43 = .ok (.goto 4, 3) := by decide +kernel
theorem dX5_points_46 : decode cX5_points 46 = .ok (.iconst 0, 1) := by decide +kernel
theorem dX5_points_47 : decode cX5_points 47 = .ok (.istore_n 3, 1) := by decide +kernel
theorem dX5_points_48 : decode cX5_points 48 = .ok (.iload_n 3, 1) := by decide +kernel
theorem dX5_points_49 : decode cX5_points 49 = .ok (.ifCond .eq 12, 3) := by decide +kernel
theorem dX5_points_52 : decode cX5_points 52 = .ok (.aload_n 0, 1) := by decide +kernel
theorem dX5_points_53 : decode cX5_points 53 = .ok (.getfield 23, 3) := by decide +kernel
theorem dX5_points_56 : decode cX5_points 56 = .ok (.iload_n 1, 1) := by decide +kernel
theorem dX5_points_57 : decode cX5_points 57 = .ok (.iaload, 1) := by decide +kernel
theorem dX5_points_58 : decode cX5_points 58 = .ok (.goto 11, 3) := by decide +kernel
theorem dX5_points_61 : decode cX5_points 61 = .ok (.aload_n 0, 1) := by decide +kernel
theorem dX5_points_62 : decode cX5_points 62 = .ok (.iload_n 1, 1) := by decide +kernel
theorem dX5_points_63 : decode cX5_points 63 = .ok (.iload_n 2, 1) := by decide +kernel
theorem dX5_points_64 : decode cX5_points 64 = .ok (.iconst 1, 1) := by decide +kernel
theorem dX5_points_65 : decode cX5_points 65 = .ok (.iadd, 1) := by decide +kernel
theorem dX5_points_66 : decode cX5_points 66 = .ok (.invokevirtual 91, 3) := by decide +kernel
theorem dX5_points_69 : decode cX5_points 69 = .ok (.istore 4, 2) := by decide +kernel
theorem dX5_points_71 : decode cX5_points 71 = .ok (.aload_n 0, 1) := by decide +kernel
theorem dX5_points_72 : decode cX5_points 72 = .ok (.iload_n 1, 1) := by decide +kernel
theorem dX5_points_73 : decode cX5_points 73 = .ok (.aload_n 0, 1) := by decide +kernel
theorem dX5_points_74 : decode cX5_points 74 = .ok (.iload_n 1, 1) := by decide +kernel
theorem dX5_points_75 : decode cX5_points 75 = .ok (.iload_n 2, 1) := by decide +kernel
theorem dX5_points_76 : decode cX5_points 76 = .ok (.invokevirtual 91, 3) := by decide +kernel
theorem dX5_points_79 : decode cX5_points 79 = .ok (.iload_n 3, 1) := by decide +kernel
theorem dX5_points_80 : decode cX5_points 80 = .ok (.ifCond .eq 8, 3) := by decide +kernel
theorem dX5_points_83 : decode cX5_points 83 = .ok (.iload 4, 2) := by decide +kernel
theorem dX5_points_85 : decode cX5_points 85 = .ok (.goto 17, 3) := by decide +kernel
theorem dX5_points_88 : decode cX5_points 88 = .ok (.iload 4, 2) := by decide +kernel
theorem dX5_points_90 : decode cX5_points 90 = .ok (.aload_n 0, 1) := by decide +kernel
theorem dX5_points_91 : decode cX5_points 91 = .ok (.getfield 38, 3) := by decide +kernel
theorem dX5_points_94 : decode cX5_points 94 = .ok (.bipush 10, 2) := by decide +kernel
theorem dX5_points_96 : decode cX5_points 96 = .ok (.iload_n 1, 1) := by decide +kernel
theorem dX5_points_97 : decode cX5_points 97 = .ok (.imul, 1) := by decide +kernel
theorem dX5_points_98 : decode cX5_points 98 = .ok (.iload_n 2, 1) := by decide +kernel
theorem dX5_points_99 : decode cX5_points 99 = .ok (.iadd, 1) := by decide +kernel
theorem dX5_points_100 : decode cX5_points 100 = .ok (.iaload, 1) := by decide +kernel
theorem dX5_points_101 : decode cX5_points 101 = .ok (.iadd, 1) := by decide +kernel
theorem dX5_points_102 : decode cX5_points 102 = .ok (.invokevirtual 94, 3) := by decide +kernel
theorem dX5_points_105 : decode cX5_points 105 = .ok (.ireturn, 1) := by decide +kernel
set_option maxRecDepth 20000 in
theorem ggX5_score_X5_points : GoodIn wsX5_score wsX5_points := goodIn_r _ [5, 6, 7, 8, 9, 10, 11, 12, 4, 13, 14, 15, 16, 17, 18, 19, 20, 21, 22, 23, 24, 25, 26, 27, 28, 29, 30, 31, 32, 33, 34, 35, 36, 37, 38] (by decide +kernel) (by decide +kernel)
set_option maxRecDepth 20000 in
theorem gX5_score_X5_points : GoodIn wsX5_score (wsV RX5 131 RX5 yX5_points wsX5_points) := goodIn_app (goodIn_of _ (by decide +kernel)) ggX5_score_X5_points
theorem dX5_score_0 : decode cX5_score 0 = .ok (.iconst 0, 1) := by decide +kernel
theorem dX5_score_1 : decode cX5_score 1 = .ok (.istore_n 2, 1) := by decide +kernel
theorem dX5_score_2 : decode cX5_score 2 = .ok (.iconst 0, 1) := by decide +kernel
theorem dX5_score_3 : decode cX5_score 3 = .ok (.istore_n 3, 1) := by decide +kernel
theorem dX5_score_4 : decode cX5_score 4 = .ok (.iload_n 3, 1) := by decide +kernel
theorem dX5_score_5 : decode cX5_score 5 = .ok (.bipush 10, 2) := by decide +kernel
theorem dX5_score_7 : decode cX5_score 7 = .ok (.if_icmp .ge 18, 3) := by decide +kernel
theorem dX5_score_10 : decode cX5_score 10 = .ok (.iload_n 2, 1) := by decide +kernel
theorem dX5_score_11 : decode cX5_score 11 = .ok (.aload_n 0, 1) := by decide +kernel
theorem dX5_score_12 : decode cX5_score 12 = .ok (.iload_n 1, 1) := by decide +kernel
theorem dX5_score_13 : decode cX5_score 13 = .ok (.iload_n 3, 1) := by decide +kernel
theorem dX5_score_14 : decode cX5_score 14 = .ok (.invokevirtual 131, 3) := by decide +kernel
theorem dX5_score_17 : decode cX5_score 17 = .ok (.iadd, 1) := by decide +kernel
theorem dX5_score_18 : decode cX5_score 18 = .ok (.istore_n 2, 1) := by decide +kernel
theorem dX5_score_19 : decode cX5_score 19 = .ok (.iinc 3 1, 3) := by decide +kernel
theorem dX5_score_22 : decode cX5_score 22 = .ok (.goto (-18), 3) := by decide +kernel
theorem dX5_score_25 : decode cX5_score 25 = .ok (.iload_n 2, 1) := by decide +kernel
theorem dX5_score_26 : decode cX5_score 26 = .ok (.ireturn, 1) := by decide +kernel
set_option maxRecDepth 20000 in
theorem ggX5_first_X5_score : GoodIn wsX5_first wsX5_score := goodIn_r _ [6, 7, 8, 9, 5, 10, 11, 12, 13, 14, 15, 16, 17, 18, 19, 20, 21, 22, 23, 24, 25, 26, 27, 28, 29, 30, 31, 32, 33, 34, 35, 36, 37, 38, 39, 40, 41, 42, 43] (by decide +kernel) (by decide +kernel)
set_option maxRecDepth 20000 in
theorem gX5_first_X5_score : GoodIn wsX5_first (wsV RX5 134 RX5 yX5_score wsX5_score) := goodIn_app (goodIn_of _ (by decide +kernel)) ggX5_first_X5_score
theorem dX5_first_0 : decode cX5_first 0 = .ok (.iconst (-1), 1) := by decide +kernel
theorem dX5_first_1 : decode cX5_first 1 = .ok (.istore_n 1, 1) := by decide +kernel
theorem dX5_first_2 : decode cX5_first 2 = .ok (.iconst 0, 1) := by decide +kernel
theorem dX5_first_3 : decode cX5_first 3 = .ok (.istore_n 2, 1) := by decide +kernel
theorem dX5_first_4 : decode cX5_first 4 = .ok (.iload_n 2, 1) := by decide +kernel
theorem dX5_first_5 : decode cX5_first 5 = .ok (.aload_n 0, 1) := by decide +kernel
theorem dX5_first_6 : decode cX5_first 6 = .ok (.getfield 48, 3) := by decide +kernel
theorem dX5_first_9 : decode cX5_first 9 = .ok (.if_icmp .ge 29, 3) := by decide +kernel
theorem dX5_first_12 : decode cX5_first 12 = .ok (.iload_n 1, 1) := by decide +kernel
theorem dX5_first_13 : decode cX5_first 13 = .ok (.iconst (-1), 1) := by decide +kernel
theorem dX5_first_14 : decode cX5_first 14 = .ok (.if_icmp .eq 16, 3) := by decide +kernel
theorem dX5_first_17 : decode cX5_first 17 = .ok (.aload_n 0, 1) := by decide +kernel
theorem dX5_first_18 : decode cX5_first 18 = .ok (.iload_n 2, 1) := by decide +kernel
theorem dX5_first_19 : decode cX5_first 19 = .ok (.invokevirtual 134, 3) := by decide +kernel
theorem dX5_first_22 : decode cX5_first 22 = .ok (.aload_n 0, 1) := by decide +kernel
theorem dX5_first_23 : decode cX5_first 23 = .ok (.iload_n 1, 1) := by decide +kernel
theorem dX5_first_24 : decode cX5_first 24 = .ok (.invokevirtual 134, 3) := by decide +kernel
theorem dX5_first_27 : decode cX5_first 27 = .ok (.if_icmp .le 5, 3) := by decide +kernel
theorem dX5_first_30 : decode cX5_first 30 = .ok (.iload_n 2, 1) := by decide +kernel
theorem dX5_first_31 : decode cX5_first 31 = .ok (.istore_n 1, 1) := by decide +kernel
theorem dX5_first_32 : decode cX5_first 32 = .ok (.iinc 2 1, 3) := by decide +kernel
theorem dX5_first_35 : decode cX5_first 35 = .ok (.goto (-31), 3) := by decide +kernel
theorem dX5_first_38 : decode cX5_first 38 = .ok (.iload_n 1, 1) := by decide +kernel
theorem dX5_first_39 : decode cX5_first 39 = .ok (.ireturn, 1) := by decide +kernel
set_option maxRecDepth 20000 in
theorem ggX5_newGame_X5_first : GoodIn wsX5_newGame wsX5_first := goodIn_r _ [15, 16, 17, 18, 19, 14, 20, 21, 22, 23, 24, 9, 8, 3, 7, 25, 26, 27, 28, 6, 29, 30, 31, 32, 33, 34, 35, 36, 37, 48, 49, 50, 51, 52, 53, 54, 55, 56, 57, 58, 59, 60, 61, 62] (by decide +kernel) (by decide +kernel)
set_option maxRecDepth 20000 in
theorem gX5_newGame_X5_first : GoodIn wsX5_newGame (wsV RX5 137 RX5 yX5_first wsX5_first) := goodIn_app (goodIn_of _ (by decide +kernel)) ggX5_newGame_X5_first
set_option maxRecDepth 20000 in
theorem ggX5_newGame_X5_putUp : GoodIn wsX5_newGame wsX5_putUp := goodIn_r _ [41, 42, 43, 44, 45, 14, 46, 47, 48, 49, 50, 51, 52, 53, 54, 55, 56, 57, 58, 59, 60, 61, 62] (by decide +kernel) (by decide +kernel)
set_option maxRecDepth 20000 in
theorem gX5_newGame_X5_putUp : GoodIn wsX5_newGame (wsV RX5 104 RX5 yX5_putUp wsX5_putUp) := goodIn_app (goodIn_of _ (by decide +kernel)) ggX5_newGame_X5_putUp
theorem dX5_newGame_0 : decode cX5_newGame 0 = .ok (.aload_n 0, 1) := by decide +kernel
theorem dX5_newGame_1 : decode cX5_newGame 1 = .ok (.iconst 0, 1) := by decide +kernel
theorem dX5_newGame_2 : decode cX5_newGame 2 = .ok (.putfield 41, 3) := by decide +kernel
theorem dX5_newGame_5 : decode cX5_newGame 5 = .ok (.aload_n 0, 1) := by decide +kernel
theorem dX5_newGame_6 : decode cX5_newGame 6 = .ok (.invokevirtual 137, 3) := by decide +kernel
theorem dX5_newGame_9 : decode cX5_newGame 9 = .ok (.istore_n 1, 1) := by decide +kernel
theorem dX5_newGame_10 : decode cX5_newGame 10 = .ok (.aload_n 0, 1) := by decide +kernel
theorem dX5_newGame_11 : decode cX5_newGame 11 = .ok (.invokevirtual 104, 3) := by decide +kernel
theorem dX5_newGame_14 : decode cX5_newGame 14 = .ok (.iconst 0, 1) := by decide +kernel
theorem dX5_newGame_15 : decode cX5_newGame 15 = .ok (.istore_n 2, 1) := by decide +kernel
theorem dX5_newGame_16 : decode cX5_newGame 16 = .ok (.iload_n 2, 1) := by decide +kernel
theorem dX5_newGame_17 : decode cX5_newGame 17 = .ok (.iconst 5, 1) := by decide +kernel
theorem dX5_newGame_18 : decode cX5_newGame 18 = .ok (.if_icmp .ge 16, 3) := by decide +kernel
theorem dX5_newGame_21 : decode cX5_newGame 21 = .ok (.aload_n 0, 1) := by decide +kernel
theorem dX5_newGame_22 : decode cX5_newGame 22 = .ok (.getfield 17, 3) := by decide +kernel
theorem dX5_newGame_25 : decode cX5_newGame 25 = .ok (.iload_n 2, 1) := by decide +kernel
theorem dX5_newGame_26 : decode cX5_newGame 26 = .ok (.iconst 0, 1) := by decide +kernel
theorem dX5_newGame_27 : decode cX5_newGame 27 = .ok (.iastore, 1) := by decide +kernel
theorem dX5_newGame_28 : decode cX5_newGame 28 = .ok (.iinc 2 1, 3) := by decide +kernel
theorem dX5_newGame_31 : decode cX5_newGame 31 = .ok (.goto (-15), 3) := by decide +kernel
theorem dX5_newGame_34 : decode cX5_newGame 34 = .ok (.iconst 0, 1) := by decide +kernel
theorem dX5_newGame_35 : decode cX5_newGame 35 = .ok (.istore_n 2, 1) := by decide +kernel
theorem dX5_newGame_36 : decode cX5_newGame 36 = .ok (.iload_n 2, 1) := by decide +kernel
theorem dX5_newGame_37 : decode cX5_newGame 37 = .ok (.iconst 4, 1) := by decide +kernel
theorem dX5_newGame_38 : decode cX5_newGame 38 = .ok (.if_icmp .ge 40, 3) := by decide +kernel
theorem dX5_newGame_41 : decode cX5_newGame 41 = .ok (.aload_n 0, 1) := by decide +kernel
theorem dX5_newGame_42 : decode cX5_newGame 42 = .ok (.getfield 23, 3) := by decide +kernel
theorem dX5_newGame_45 : decode cX5_newGame 45 = .ok (.iload_n 2, 1) := by decide +kernel
theorem dX5_newGame_46 : decode cX5_newGame 46 = .ok (.iconst 0, 1) := by decide +kernel
theorem dX5_newGame_47 : decode cX5_newGame 47 = .ok (.iastore, 1) := by decide +kernel
theorem dX5_newGame_48 : decode cX5_newGame 48 = .ok (.aload_n 0, 1) := by decide +kernel
theorem dX5_newGame_49 : decode cX5_newGame 49 = .ok (.getfield 32, 3) := by decide +kernel
theorem dX5_newGame_52 : decode cX5_newGame 52 = .ok (.iload_n 2, 1) := by decide +kernel
theorem dX5_newGame_53 : decode cX5_newGame 53 = .ok (.iconst 0, 1) := by decide +kernel
theorem dX5_newGame_54 : decode cX5_newGame 54 = .ok (.iastore, 1) := by decide +kernel
theorem dX5_newGame_55 : decode cX5_newGame 55 = .ok (.aload_n 0, 1) := by decide +kernel
theorem dX5_newGame_56 : decode cX5_newGame 56 = .ok (.getfield 35, 3) := by decide +kernel
theorem dX5_newGame_59 : decode cX5_newGame 59 = .ok (.iload_n 2, 1) := by decide +kernel
theorem dX5_newGame_60 : decode cX5_newGame 60 = .ok (.iconst 0, 1) := by decide +kernel
theorem dX5_newGame_61 : decode cX5_newGame 61 = .ok (.iastore, 1) := by decide +kernel
theorem dX5_newGame_62 : decode cX5_newGame 62 = .ok (.aload_n 0, 1) := by decide +kernel
theorem dX5_newGame_63 : decode cX5_newGame 63 = .ok (.getfield 29, 3) := by decide +kernel
theorem dX5_newGame_66 : decode cX5_newGame 66 = .ok (.bipush 11, 2) := by decide +kernel
theorem dX5_newGame_68 : decode cX5_newGame 68 = .ok (.iload_n 2, 1) := by decide +kernel
theorem dX5_newGame_69 : decode cX5_newGame 69 = .ok (.imul, 1) := by decide +kernel
theorem dX5_newGame_70 : decode cX5_newGame 70 = .ok (.iconst 0, 1) := by decide +kernel
theorem dX5_newGame_71 : decode cX5_newGame 71 = .ok (.iastore, 1) := by decide +kernel
theorem dX5_newGame_72 : decode cX5_newGame 72 = .ok (.iinc 2 1, 3) := by decide +kernel
theorem dX5_newGame_75 : decode cX5_newGame 75 = .ok (.goto (-39), 3) := by decide +kernel
theorem dX5_newGame_78 : decode cX5_newGame 78 = .ok (.iconst 0, 1) := by decide +kernel
theorem dX5_newGame_79 : decode cX5_newGame 79 = .ok (.istore_n 2, 1) := by decide +kernel
theorem dX5_newGame_80 : decode cX5_newGame 80 = .ok (.iload_n 2, 1) := by decide +kernel
theorem dX5_newGame_81 : decode cX5_newGame 81 = .ok (.aload_n 0, 1) := by decide +kernel
theorem dX5_newGame_82 : decode cX5_newGame 82 = .ok (.getfield 38, 3) := by decide +kernel
theorem dX5_newGame_85 : decode cX5_newGame 85 = .ok (.arraylength, 1) := by decide +kernel
theorem dX5_newGame_86 : decode cX5_newGame 86 = .ok (.if_icmp .ge 16, 3) := by decide +kernel
theorem dX5_newGame_89 : decode cX5_newGame 89 = .ok (.aload_n 0, 1) := by decide +kernel
theorem dX5_newGame_90 : decode cX5_newGame 90 = .ok (.getfield 38, 3) := by decide +kernel
theorem dX5_newGame_93 : decode cX5_newGame 93 = .ok (.iload_n 2, 1) := by decide +kernel
theorem dX5_newGame_94 : decode cX5_newGame 94 = .ok (.iconst 0, 1) := by decide +kernel
theorem dX5_newGame_95 : decode cX5_newGame 95 = .ok (.iastore, 1) := by decide +kernel
theorem dX5_newGame_96 : decode cX5_newGame 96 = .ok (.iinc 2 1, 3) := by decide +kernel
theorem dX5_newGame_99 : decode cX5_newGame 99 = .ok (.goto (-19), 3) := by decide +kernel
theorem dX5_newGame_102 : decode cX5_newGame 102 = .ok (.aload_n 0, 1) := by decide +kernel
theorem dX5_newGame_103 : decode cX5_newGame 103 = .ok (.iconst 0, 1) := by decide +kernel
theorem dX5_newGame_104 : decode cX5_newGame 104 = .ok (.putfield 88, 3) := by decide +kernel
theorem dX5_newGame_107 : decode cX5_newGame 107 = .ok (.aload_n 0, 1) := by decide +kernel
theorem dX5_newGame_108 : decode cX5_newGame 108 = .ok (.iconst 0, 1) := by decide +kernel
theorem dX5_newGame_109 : decode cX5_newGame 109 = .ok (.putfield 72, 3) := by decide +kernel
theorem dX5_newGame_112 : decode cX5_newGame 112 = .ok (.aload_n 0, 1) := by decide +kernel
theorem dX5_newGame_113 : decode cX5_newGame 113 = .ok (.iconst 0, 1) := by decide +kernel
theorem dX5_newGame_114 : decode cX5_newGame 114 = .ok (.putfield 97, 3) := by decide +kernel
theorem dX5_newGame_117 : decode cX5_newGame 117 = .ok (.iload_n 1, 1) := by decide +kernel
theorem dX5_newGame_118 : decode cX5_newGame 118 = .ok (.ireturn, 1) := by decide +kernel
set_option maxRecDepth 20000 in
theorem ggX5_isStanding_X5_isPin : GoodIn wsX5_isStanding wsX5_isPin := goodIn_r _ [6, 7, 8, 5, 9] (by decide +kernel) (by decide +kernel)
set_option maxRecDepth 20000 in
theorem gX5_isStanding_X5_isPin : GoodIn wsX5_isStanding (va_wsS RX5 128 yX5_isPin wsX5_isPin) := goodIn_app (goodIn_of _ (by decide +kernel)) ggX5_isStanding_X5_isPin
set_option maxRecDepth 20000 in
theorem ggX5_isStanding_X5_isNot : GoodIn wsX5_isStanding wsX5_isNot := goodIn_r _ [13, 1, 14, 15, 16, 17, 18, 19, 20, 21, 22, 23, 24, 25, 26, 27, 28] (by decide +kernel) (by decide +kernel)
set_option maxRecDepth 20000 in
theorem gX5_isStanding_X5_isNot : GoodIn wsX5_isStanding (wsV RX5 140 RX5 yX5_isNot wsX5_isNot) := goodIn_app (goodIn_of _ (by decide +kernel)) ggX5_isStanding_X5_isNot
theorem dX5_isStanding_0 : decode cX5_isStanding 0 = .ok (.aload_n 0, 1) := by decide +kernel
theorem dX5_isStanding_1 : decode cX5_isStanding 1 = .ok (.iconst 0, 1) := by decide +kernel
theorem dX5_isStanding_2 : decode cX5_isStanding 2 = .ok (.putfield 41, 3) := by decide +kernel
theorem dX5_isStanding_5 : decode cX5_isStanding 5 = .ok (.iload_n 1, 1) := by decide +kernel
theorem dX5_isStanding_6 : decode cX5_isStanding 6 = .ok (.invokestatic 128, 3) := by decide +kernel
theorem dX5_isStanding_9 : decode cX5_isStanding 9 = .ok (.ifCond .eq 23, 3) := by decide +kernel
theorem dX5_isStanding_12 : decode cX5_isStanding 12 = .ok (.aload_n 0, 1) := by decide +kernel
theorem dX5_isStanding_13 : decode cX5_isStanding 13 = .ok (.getfield 9, 3) := by decide +kernel
theorem dX5_isStanding_16 : decode cX5_isStanding 16 = .ok (.iload_n 1, 1) := by decide +kernel
theorem dX5_isStanding_17 : decode cX5_isStanding 17 = .ok (.ishr, 1) := by decide +kernel
theorem dX5_isStanding_18 : decode cX5_isStanding 18 = .ok (.iconst 1, 1) := by decide +kernel
theorem dX5_isStanding_19 : decode cX5_isStanding 19 = .ok (.iand, 1) := by decide +kernel
theorem dX5_isStanding_20 : decode cX5_isStanding 20 = .ok (.iconst 1, 1) := by decide +kernel
theorem dX5_isStanding_21 : decode cX5_isStanding 21 = .ok (.if_icmp .ne 7, 3) := by decide +kernel
theorem dX5_isStanding_24 : decode cX5_isStanding 24 = .ok (.iconst 1, 1) := by decide +kernel
theorem dX5_isStanding_25 : decode cX5_isStanding 25 = .ok (.goto 12, 3) := by decide +kernel
theorem dX5_isStanding_28 : decode cX5_isStanding 28 = .ok (.iconst 0, 1) := by decide +kernel
theorem dX5_isStanding_29 : decode cX5_isStanding 29 = .ok (.goto 8, 3) := by decide +kernel
theorem dX5_isStanding_32 : decode cX5_isStanding 32 = .ok (.aload_n 0, 1) := by decide +kernel
theorem dX5_isStanding_33 : decode cX5_isStanding 33 = .ok (.iconst 1, 1) := by decide +kernel
theorem dX5_isStanding_34 : decode cX5_isStanding 34 = .ok (.invokevirtual 140, 3) := by decide +kernel
theorem dX5_isStanding_37 : decode cX5_isStanding 37 = .ok (.ireturn, 1) := by decide +kernel
set_option maxRecDepth 20000 in
theorem ggX5_standing_J6_bitCount_0f7a4 : GoodIn wsX5_standing wsJ6_bitCount_0f7a4 := goodIn_r _ [5, 6, 7, 8] (by decide +kernel) (by decide +kernel)
set_option maxRecDepth 20000 in
theorem gX5_standing_J6_bitCount_0f7a4 : GoodIn wsX5_standing (va_wsS RX5 110 yJ6_bitCount_0f7a4 wsJ6_bitCount_0f7a4) := goodIn_app (goodIn_of _ (by decide +kernel)) ggX5_standing_J6_bitCount_0f7a4
set_option maxRecDepth 20000 in
theorem ggX5_standing_X5_ok : GoodIn wsX5_standing wsX5_ok := goodIn_r _ [13, 14, 15, 16, 17, 18, 19, 20, 21, 22, 23, 24, 25, 26, 27, 28, 29] (by decide +kernel) (by decide +kernel)
set_option maxRecDepth 20000 in
theorem gX5_standing_X5_ok : GoodIn wsX5_standing (wsV RX5 143 RX5 yX5_ok wsX5_ok) := goodIn_app (goodIn_of _ (by decide +kernel)) ggX5_standing_X5_ok
theorem dX5_standing_0 : decode cX5_standing 0 = .ok (.aload_n 0, 1) := by decide +kernel
theorem dX5_standing_1 : decode cX5_standing 1 = .ok (.aload_n 0, 1) := by decide +kernel
theorem dX5_standing_2 : decode cX5_standing 2 = .ok (.getfield 9, 3) := by decide +kernel
theorem dX5_standing_5 : decode cX5_standing 5 = .ok (.invokestatic 110, 3) := by decide +kernel
theorem dX5_standing_8 : decode cX5_standing 8 = .ok (.invokevirtual 143, 3) := by decide +kernel
theorem dX5_standing_11 : decode cX5_standing 11 = .ok (.ireturn, 1) := by decide +kernel
set_option maxRecDepth 20000 in
theorem ggX5_wearOf_X5_isPin : GoodIn wsX5_wearOf wsX5_isPin := goodIn_r _ [6, 7, 8, 5, 9] (by decide +kernel) (by decide +kernel)
set_option maxRecDepth 20000 in
theorem gX5_wearOf_X5_isPin : GoodIn wsX5_wearOf (va_wsS RX5 128 yX5_isPin wsX5_isPin) := goodIn_app (goodIn_of _ (by decide +kernel)) ggX5_wearOf_X5_isPin
set_option maxRecDepth 20000 in
theorem ggX5_wearOf_X5_no : GoodIn wsX5_wearOf wsX5_no := goodIn_r _ [13, 1, 14, 15, 16, 17, 18, 19, 20, 21, 22, 23, 24, 25, 26, 27, 28] (by decide +kernel) (by decide +kernel)
set_option maxRecDepth 20000 in
theorem gX5_wearOf_X5_no : GoodIn wsX5_wearOf (wsV RX5 79 RX5 yX5_no wsX5_no) := goodIn_app (goodIn_of _ (by decide +kernel)) ggX5_wearOf_X5_no
theorem dX5_wearOf_0 : decode cX5_wearOf 0 = .ok (.aload_n 0, 1) := by decide +kernel
theorem dX5_wearOf_1 : decode cX5_wearOf 1 = .ok (.iconst 0, 1) := by decide +kernel
theorem dX5_wearOf_2 : decode cX5_wearOf 2 = .ok (.putfield 41, 3) := by decide +kernel
theorem dX5_wearOf_5 : decode cX5_wearOf 5 = .ok (.iload_n 1, 1) := by decide +kernel
theorem dX5_wearOf_6 : decode cX5_wearOf 6 = .ok (.invokestatic 128, 3) := by decide +kernel
theorem dX5_wearOf_9 : decode cX5_wearOf 9 = .ok (.ifCond .eq 12, 3) := by decide +kernel
theorem dX5_wearOf_12 : decode cX5_wearOf 12 = .ok (.aload_n 0, 1) := by decide +kernel
theorem dX5_wearOf_13 : decode cX5_wearOf 13 = .ok (.getfield 13, 3) := by decide +kernel
theorem dX5_wearOf_16 : decode cX5_wearOf 16 = .ok (.iload_n 1, 1) := by decide +kernel
theorem dX5_wearOf_17 : decode cX5_wearOf 17 = .ok (.iaload, 1) := by decide +kernel
theorem dX5_wearOf_18 : decode cX5_wearOf 18 = .ok (.goto 8, 3) := by decide +kernel
theorem dX5_wearOf_21 : decode cX5_wearOf 21 = .ok (.aload_n 0, 1) := by decide +kernel
theorem dX5_wearOf_22 : decode cX5_wearOf 22 = .ok (.iconst 1, 1) := by decide +kernel
theorem dX5_wearOf_23 : decode cX5_wearOf 23 = .ok (.invokevirtual 79, 3) := by decide +kernel
theorem dX5_wearOf_26 : decode cX5_wearOf 26 = .ok (.ireturn, 1) := by decide +kernel
set_option maxRecDepth 20000 in
theorem ggX5_isBroken_X5_isPin : GoodIn wsX5_isBroken wsX5_isPin := goodIn_r _ [5, 6, 7, 4, 8] (by decide +kernel) (by decide +kernel)
set_option maxRecDepth 20000 in
theorem gX5_isBroken_X5_isPin : GoodIn wsX5_isBroken (va_wsS RX5 128 yX5_isPin wsX5_isPin) := goodIn_app (goodIn_of _ (by decide +kernel)) ggX5_isBroken_X5_isPin
set_option maxRecDepth 20000 in
theorem ggX5_isBroken_X5_broken : GoodIn wsX5_isBroken wsX5_broken := goodIn_r _ [12, 13, 18, 19, 20, 21, 22, 23, 24, 25, 26, 27, 28, 29, 30, 31, 32] (by decide +kernel) (by decide +kernel)
set_option maxRecDepth 20000 in
theorem gX5_isBroken_X5_broken : GoodIn wsX5_isBroken (wsV RX5 68 RX5 yX5_broken wsX5_broken) := goodIn_app (goodIn_of _ (by decide +kernel)) ggX5_isBroken_X5_broken
set_option maxRecDepth 20000 in
theorem ggX5_isBroken_X5_isNot : GoodIn wsX5_isBroken wsX5_isNot := goodIn_r _ [17, 1, 18, 19, 20, 21, 22, 23, 24, 25, 26, 27, 28, 29, 30, 31, 32] (by decide +kernel) (by decide +kernel)
set_option maxRecDepth 20000 in
theorem gX5_isBroken_X5_isNot : GoodIn wsX5_isBroken (wsV RX5 140 RX5 yX5_isNot wsX5_isNot) := goodIn_app (goodIn_of _ (by decide +kernel)) ggX5_isBroken_X5_isNot
theorem dX5_isBroken_0 : decode cX5_isBroken 0 = .ok (.aload_n 0, 1) := by decide +kernel
theorem dX5_isBroken_1 : decode cX5_isBroken 1 = .ok (.iconst 0, 1) := by decide +kernel
theorem dX5_isBroken_2 : decode cX5_isBroken 2 = .ok (.putfield 41, 3) := by decide +kernel
theorem dX5_isBroken_5 : decode cX5_isBroken 5 = .ok (.iload_n 1, 1) := by decide +kernel
theorem dX5_isBroken_6 : decode cX5_isBroken 6 = .ok (.invokestatic 128, 3) := by decide +kernel
theorem dX5_isBroken_9 : decode cX5_isBroken 9 = .ok (.ifCond .eq 11, 3) := by decide +kernel
theorem dX5_isBroken_12 : decode cX5_isBroken 12 = .ok (.aload_n 0, 1) := by decide +kernel
theorem dX5_isBroken_13 : decode cX5_isBroken 13 = .ok (.iload_n 1, 1) := by decide +kernel
theorem dX5_isBroken_14 : decode cX5_isBroken 14 = .ok (.invokevirtual 68, 3) := by decide +kernel
theorem dX5_isBroken_17 : decode cX5_isBroken 17 = .ok (.goto 8, 3) := by decide +kernel
theorem dX5_isBroken_20 : decode cX5_isBroken 20 = .ok (.aload_n 0, 1) := by decide +kernel
theorem dX5_isBroken_21 : decode cX5_isBroken 21 = .ok (.iconst 1, 1) := by decide +kernel
theorem dX5_isBroken_22 : decode cX5_isBroken 22 = .ok (.invokevirtual 140, 3) := by decide +kernel
theorem dX5_isBroken_25 : decode cX5_isBroken 25 = .ok (.ireturn, 1) := by decide +kernel
set_option maxRecDepth 20000 in
theorem ggX5_brokenNow_X5_broken : GoodIn wsX5_brokenNow wsX5_broken := goodIn_r _ [5, 6, 7, 8, 9, 10, 11, 12, 13, 14, 15, 16, 17, 18, 19, 20, 21] (by decide +kernel) (by decide +kernel)
set_option maxRecDepth 20000 in
theorem gX5_brokenNow_X5_broken : GoodIn wsX5_brokenNow (wsV RX5 68 RX5 yX5_broken wsX5_broken) := goodIn_app (goodIn_of _ (by decide +kernel)) ggX5_brokenNow_X5_broken
theorem dX5_brokenNow_0 : decode cX5_brokenNow 0 = .ok (.iconst 0, 1) := by decide +kernel
theorem dX5_brokenNow_1 : decode cX5_brokenNow 1 = .ok (.istore_n 1, 1) := by decide +kernel
theorem dX5_brokenNow_2 : decode cX5_brokenNow 2 = .ok (.iconst 0, 1) := by decide +kernel
theorem dX5_brokenNow_3 : decode cX5_brokenNow 3 = .ok (.istore_n 2, 1) := by decide +kernel
theorem dX5_brokenNow_4 : decode cX5_brokenNow 4 = .ok (.iload_n 2, 1) := by decide +kernel
theorem dX5_brokenNow_5 : decode cX5_brokenNow 5 = .ok (.bipush 9, 2) := by decide +kernel
theorem dX5_brokenNow_7 : decode cX5_brokenNow 7 = .ok (.if_icmp .ge 25, 3) := by decide +kernel
theorem dX5_brokenNow_10 : decode cX5_brokenNow 10 = .ok (.iload_n 1, 1) := by decide +kernel
theorem dX5_brokenNow_11 : decode cX5_brokenNow 11 = .ok (.aload_n 0, 1) := by decide +kernel
theorem dX5_brokenNow_12 : decode cX5_brokenNow 12 = .ok (.iload_n 2, 1) := by decide +kernel
theorem dX5_brokenNow_13 : decode cX5_brokenNow 13 = .ok (.invokevirtual 68, 3) := by decide +kernel
theorem dX5_brokenNow_16 : decode cX5_brokenNow 16 = .ok (.ifCond .eq 7, 3) := by decide +kernel
theorem dX5_brokenNow_19 : decode cX5_brokenNow 19 = .ok (.iconst 1, 1) := by decide +kernel
theorem dX5_brokenNow_20 : decode cX5_brokenNow 20 = .ok (.goto 4, 3) := by decide +kernel
theorem dX5_brokenNow_23 : decode cX5_brokenNow 23 = .ok (.iconst 0, 1) := by decide +kernel
theorem dX5_brokenNow_24 : decode cX5_brokenNow 24 = .ok (.iadd, 1) := by decide +kernel
theorem dX5_brokenNow_25 : decode cX5_brokenNow 25 = .ok (.istore_n 1, 1) := by decide +kernel
theorem dX5_brokenNow_26 : decode cX5_brokenNow 26 = .ok (.iinc 2 1, 3) := by decide +kernel
theorem dX5_brokenNow_29 : decode cX5_brokenNow 29 = .ok (.goto (-25), 3) := by decide +kernel
theorem dX5_brokenNow_32 : decode cX5_brokenNow 32 = .ok (.iload_n 1, 1) := by decide +kernel
theorem dX5_brokenNow_33 : decode cX5_brokenNow 33 = .ok (.ireturn, 1) := by decide +kernel
set_option maxRecDepth 20000 in
theorem ggX5_brokenStrings_X5_brokenNow : GoodIn wsX5_brokenStrings wsX5_brokenNow := goodIn_r _ [5, 6, 7, 8, 4, 9, 10, 16, 17, 18, 19, 20, 21, 22, 23, 24, 25, 26, 27, 28, 29, 30] (by decide +kernel) (by decide +kernel)
set_option maxRecDepth 20000 in
theorem gX5_brokenStrings_X5_brokenNow : GoodIn wsX5_brokenStrings (wsV RX5 146 RX5 yX5_brokenNow wsX5_brokenNow) := goodIn_app (goodIn_of _ (by decide +kernel)) ggX5_brokenStrings_X5_brokenNow
set_option maxRecDepth 20000 in
theorem ggX5_brokenStrings_X5_ok : GoodIn wsX5_brokenStrings wsX5_ok := goodIn_r _ [14, 15, 16, 17, 18, 19, 20, 21, 22, 23, 24, 25, 26, 27, 28, 29, 30] (by decide +kernel) (by decide +kernel)
set_option maxRecDepth 20000 in
theorem gX5_brokenStrings_X5_ok : GoodIn wsX5_brokenStrings (wsV RX5 143 RX5 yX5_ok wsX5_ok) := goodIn_app (goodIn_of _ (by decide +kernel)) ggX5_brokenStrings_X5_ok
theorem dX5_brokenStrings_0 : decode cX5_brokenStrings 0 = .ok (.aload_n 0, 1) := by decide +kernel
theorem dX5_brokenStrings_1 : decode cX5_brokenStrings 1 = .ok (.aload_n 0, 1) := by decide +kernel
theorem dX5_brokenStrings_2 : decode cX5_brokenStrings 2 = .ok (.invokevirtual 146, 3) := by decide +kernel
theorem dX5_brokenStrings_5 : decode cX5_brokenStrings 5 = .ok (.invokevirtual 143, 3) := by decide +kernel
theorem dX5_brokenStrings_8 : decode cX5_brokenStrings 8 = .ok (.ireturn, 1) := by decide +kernel
set_option maxRecDepth 20000 in
theorem ggX5_mostWorn_X5_broken : GoodIn wsX5_mostWorn wsX5_broken := goodIn_r _ [7, 2, 8, 9, 10, 11, 12, 13, 14, 15, 16, 17, 18, 19, 20, 21, 22] (by decide +kernel) (by decide +kernel)
set_option maxRecDepth 20000 in
theorem gX5_mostWorn_X5_broken : GoodIn wsX5_mostWorn (wsV RX5 68 RX5 yX5_broken wsX5_broken) := goodIn_app (goodIn_of _ (by decide +kernel)) ggX5_mostWorn_X5_broken
theorem dX5_mostWorn_0 : decode cX5_mostWorn 0 = .ok (.aload_n 0, 1) := by decide +kernel
theorem dX5_mostWorn_1 : decode cX5_mostWorn 1 = .ok (.iconst 0, 1) := by decide +kernel
theorem dX5_mostWorn_2 : decode cX5_mostWorn 2 = .ok (.putfield 41, 3) := by decide +kernel
theorem dX5_mostWorn_5 : decode cX5_mostWorn 5 = .ok (.iconst (-1), 1) := by decide +kernel
theorem dX5_mostWorn_6 : decode cX5_mostWorn 6 = .ok (.istore_n 1, 1) := by decide +kernel
theorem dX5_mostWorn_7 : decode cX5_mostWorn 7 = .ok (.iconst 0, 1) := by decide +kernel
theorem dX5_mostWorn_8 : decode cX5_mostWorn 8 = .ok (.istore_n 2, 1) := by decide +kernel
theorem dX5_mostWorn_9 : decode cX5_mostWorn 9 = .ok (.iload_n 2, 1) := by decide +kernel
theorem dX5_mostWorn_10 : decode cX5_mostWorn 10 = .ok (.bipush 9, 2) := by decide +kernel
theorem dX5_mostWorn_12 : decode cX5_mostWorn 12 = .ok (.if_icmp .ge 39, 3) := by decide +kernel
theorem dX5_mostWorn_15 : decode cX5_mostWorn 15 = .ok (.aload_n 0, 1) := by decide +kernel
theorem dX5_mostWorn_16 : decode cX5_mostWorn 16 = .ok (.iload_n 2, 1) := by decide +kernel
theorem dX5_mostWorn_17 : decode cX5_mostWorn 17 = .ok (.invokevirtual 68, 3) := by decide +kernel
theorem dX5_mostWorn_20 : decode cX5_mostWorn 20 = .ok (.ifCond .ne 25, 3) := by decide +kernel
theorem dX5_mostWorn_23 : decode cX5_mostWorn 23 = .ok (.iload_n 1, 1) := by decide +kernel
theorem dX5_mostWorn_24 : decode cX5_mostWorn 24 = .ok (.iconst (-1), 1) := by decide +kernel
theorem dX5_mostWorn_25 : decode cX5_mostWorn 25 = .ok (.if_icmp .eq 18, 3) := by decide +kernel
theorem dX5_mostWorn_28 : decode cX5_mostWorn 28 = .ok (.aload_n 0, 1) := by decide +kernel
theorem dX5_mostWorn_29 : decode cX5_mostWorn 29 = .ok (.getfield 13, 3) := by decide +kernel
theorem dX5_mostWorn_32 : decode cX5_mostWorn 32 = .ok (.iload_n 2, 1) := by decide +kernel
theorem dX5_mostWorn_33 : decode cX5_mostWorn 33 = .ok (.iaload, 1) := by decide +kernel
theorem dX5_mostWorn_34 : decode cX5_mostWorn 34 = .ok (.aload_n 0, 1) := by decide +kernel
theorem dX5_mostWorn_35 : decode cX5_mostWorn 35 = .ok (.getfield 13, 3) := by decide +kernel
theorem dX5_mostWorn_38 : decode cX5_mostWorn 38 = .ok (.iload_n 1, 1) := by decide +kernel
theorem dX5_mostWorn_39 : decode cX5_mostWorn 39 = .ok (.iaload, 1) := by decide +kernel
theorem dX5_mostWorn_40 : decode cX5_mostWorn 40 = .ok (.if_icmp .le 5, 3) := by decide +kernel
theorem dX5_mostWorn_43 : decode cX5_mostWorn 43 = .ok (.iload_n 2, 1) := by decide +kernel
theorem dX5_mostWorn_44 : decode cX5_mostWorn 44 = .ok (.istore_n 1, 1) := by decide +kernel
theorem dX5_mostWorn_45 : decode cX5_mostWorn 45 = .ok (.iinc 2 1, 3) := by decide +kernel
theorem dX5_mostWorn_48 : decode cX5_mostWorn 48 = .ok (.goto (-39), 3) := by decide +kernel
theorem dX5_mostWorn_51 : decode cX5_mostWorn 51 = .ok (.iload_n 1, 1) := by decide +kernel
theorem dX5_mostWorn_52 : decode cX5_mostWorn 52 = .ok (.ireturn, 1) := by decide +kernel
set_option maxRecDepth 20000 in
theorem ggX5_spareStrings_X5_ok : GoodIn wsX5_spareStrings wsX5_ok := goodIn_r _ [6, 7, 8, 9, 10, 11, 12, 13, 14, 15, 16, 17, 18, 19, 20, 21, 22] (by decide +kernel) (by decide +kernel)
set_option maxRecDepth 20000 in
theorem gX5_spareStrings_X5_ok : GoodIn wsX5_spareStrings (wsV RX5 143 RX5 yX5_ok wsX5_ok) := goodIn_app (goodIn_of _ (by decide +kernel)) ggX5_spareStrings_X5_ok
theorem dX5_spareStrings_0 : decode cX5_spareStrings 0 = .ok (.aload_n 0, 1) := by decide +kernel
theorem dX5_spareStrings_1 : decode cX5_spareStrings 1 = .ok (.aload_n 0, 1) := by decide +kernel
theorem dX5_spareStrings_2 : decode cX5_spareStrings 2 = .ok (.getfield 20, 3) := by decide +kernel
theorem dX5_spareStrings_5 : decode cX5_spareStrings 5 = .ok (.invokevirtual 143, 3) := by decide +kernel
theorem dX5_spareStrings_8 : decode cX5_spareStrings 8 = .ok (.ireturn, 1) := by decide +kernel
set_option maxRecDepth 20000 in
theorem ggX5_awayFor_X5_isIn : GoodIn wsX5_awayFor wsX5_isIn := goodIn_r _ [6] (by decide +kernel) (by decide +kernel)
set_option maxRecDepth 20000 in
theorem gX5_awayFor_X5_isIn : GoodIn wsX5_awayFor (va_wsS RX5 44 yX5_isIn wsX5_isIn) := goodIn_app (goodIn_of _ (by decide +kernel)) ggX5_awayFor_X5_isIn
set_option maxRecDepth 20000 in
theorem ggX5_awayFor_X5_no : GoodIn wsX5_awayFor wsX5_no := goodIn_r _ [10, 1, 11, 12, 13, 14, 15, 16, 17, 18, 19, 20, 21, 22, 23, 24, 25] (by decide +kernel) (by decide +kernel)
set_option maxRecDepth 20000 in
theorem gX5_awayFor_X5_no : GoodIn wsX5_awayFor (wsV RX5 79 RX5 yX5_no wsX5_no) := goodIn_app (goodIn_of _ (by decide +kernel)) ggX5_awayFor_X5_no
theorem dX5_awayFor_0 : decode cX5_awayFor 0 = .ok (.aload_n 0, 1) := by decide +kernel
theorem dX5_awayFor_1 : decode cX5_awayFor 1 = .ok (.iconst 0, 1) := by decide +kernel
theorem dX5_awayFor_2 : decode cX5_awayFor 2 = .ok (.putfield 41, 3) := by decide +kernel
theorem dX5_awayFor_5 : decode cX5_awayFor 5 = .ok (.iload_n 1, 1) := by decide +kernel
theorem dX5_awayFor_6 : decode cX5_awayFor 6 = .ok (.iconst 0, 1) := by decide +kernel
theorem dX5_awayFor_7 : decode cX5_awayFor 7 = .ok (.iconst 4, 1) := by decide +kernel
theorem dX5_awayFor_8 : decode cX5_awayFor 8 = .ok (.invokestatic 44, 3) := by decide +kernel
theorem dX5_awayFor_11 : decode cX5_awayFor 11 = .ok (.ifCond .eq 12, 3) := by decide +kernel
theorem dX5_awayFor_14 : decode cX5_awayFor 14 = .ok (.aload_n 0, 1) := by decide +kernel
theorem dX5_awayFor_15 : decode cX5_awayFor 15 = .ok (.getfield 17, 3) := by decide +kernel
theorem dX5_awayFor_18 : decode cX5_awayFor 18 = .ok (.iload_n 1, 1) := by decide +kernel
theorem dX5_awayFor_19 : decode cX5_awayFor 19 = .ok (.iaload, 1) := by decide +kernel
theorem dX5_awayFor_20 : decode cX5_awayFor 20 = .ok (.goto 8, 3) := by decide +kernel
theorem dX5_awayFor_23 : decode cX5_awayFor 23 = .ok (.aload_n 0, 1) := by decide +kernel
theorem dX5_awayFor_24 : decode cX5_awayFor 24 = .ok (.iconst 1, 1) := by decide +kernel
theorem dX5_awayFor_25 : decode cX5_awayFor 25 = .ok (.invokevirtual 79, 3) := by decide +kernel
theorem dX5_awayFor_28 : decode cX5_awayFor 28 = .ok (.ireturn, 1) := by decide +kernel
set_option maxRecDepth 20000 in
theorem ggX5_players_X5_ok : GoodIn wsX5_players wsX5_ok := goodIn_r _ [6, 7, 8, 9, 10, 11, 12, 13, 14, 15, 16, 17, 18, 19, 20, 21, 22] (by decide +kernel) (by decide +kernel)
set_option maxRecDepth 20000 in
theorem gX5_players_X5_ok : GoodIn wsX5_players (wsV RX5 143 RX5 yX5_ok wsX5_ok) := goodIn_app (goodIn_of _ (by decide +kernel)) ggX5_players_X5_ok
theorem dX5_players_0 : decode cX5_players 0 = .ok (.aload_n 0, 1) := by decide +kernel
theorem dX5_players_1 : decode cX5_players 1 = .ok (.aload_n 0, 1) := by decide +kernel
theorem dX5_players_2 : decode cX5_players 2 = .ok (.getfield 48, 3) := by decide +kernel
theorem dX5_players_5 : decode cX5_players 5 = .ok (.invokevirtual 143, 3) := by decide +kernel
theorem dX5_players_8 : decode cX5_players 8 = .ok (.ireturn, 1) := by decide +kernel
set_option maxRecDepth 20000 in
theorem ggX5_turnNow_X5_over : GoodIn wsX5_turnNow wsX5_over := goodIn_r _ [7, 8, 9, 10, 11, 12, 13, 14, 15, 16, 17, 18, 19, 20, 21, 22, 23] (by decide +kernel) (by decide +kernel)
set_option maxRecDepth 20000 in
theorem gX5_turnNow_X5_over : GoodIn wsX5_turnNow (wsV RX5 100 RX5 yX5_over wsX5_over) := goodIn_app (goodIn_of _ (by decide +kernel)) ggX5_turnNow_X5_over
theorem dX5_turnNow_0 : decode cX5_turnNow 0 = .ok (.aload_n 0, 1) := by decide +kernel
theorem dX5_turnNow_1 : decode cX5_turnNow 1 = .ok (.getfield 48, 3) := by decide +kernel
theorem dX5_turnNow_4 : decode cX5_turnNow 4 = .ok (.ifCond .eq 10, 3) := by decide +kernel
theorem dX5_turnNow_7 : decode cX5_turnNow 7 = .ok (.aload_n 0, 1) := by decide +kernel
theorem dX5_turnNow_8 : decode cX5_turnNow 8 = .ok (.invokevirtual 100, 3) := by decide +kernel
theorem dX5_turnNow_11 : decode cX5_turnNow 11 = .ok (.ifCond .eq 7, 3) := by decide +kernel
theorem dX5_turnNow_14 : decode cX5_turnNow 14 = .ok (.iconst (-1), 1) := by decide +kernel
theorem dX5_turnNow_15 : decode cX5_turnNow 15 = .ok (.goto 7, 3) := by decide +kernel
theorem dX5_turnNow_18 : decode cX5_turnNow 18 = .ok (.aload_n 0, 1) := by decide +kernel
theorem dX5_turnNow_19 : decode cX5_turnNow 19 = .ok (.getfield 88, 3) := by decide +kernel
theorem dX5_turnNow_22 : decode cX5_turnNow 22 = .ok (.ireturn, 1) := by decide +kernel
set_option maxRecDepth 20000 in
theorem ggX5_playerInTurn_X5_turnNow : GoodIn wsX5_playerInTurn wsX5_turnNow := goodIn_r _ [5, 6, 7, 8, 9, 10, 4, 11, 12, 18, 19, 20, 21, 22, 23, 24, 25, 26, 27, 28, 29, 30, 31, 32] (by decide +kernel) (by decide +kernel)
set_option maxRecDepth 20000 in
theorem gX5_playerInTurn_X5_turnNow : GoodIn wsX5_playerInTurn (wsV RX5 149 RX5 yX5_turnNow wsX5_turnNow) := goodIn_app (goodIn_of _ (by decide +kernel)) ggX5_playerInTurn_X5_turnNow
set_option maxRecDepth 20000 in
theorem ggX5_playerInTurn_X5_ok : GoodIn wsX5_playerInTurn wsX5_ok := goodIn_r _ [16, 17, 18, 19, 20, 21, 22, 23, 24, 25, 26, 27, 28, 29, 30, 31, 32] (by decide +kernel) (by decide +kernel)
set_option maxRecDepth 20000 in
theorem gX5_playerInTurn_X5_ok : GoodIn wsX5_playerInTurn (wsV RX5 143 RX5 yX5_ok wsX5_ok) := goodIn_app (goodIn_of _ (by decide +kernel)) ggX5_playerInTurn_X5_ok
theorem dX5_playerInTurn_0 : decode cX5_playerInTurn 0 = .ok (.aload_n 0, 1) := by decide +kernel
theorem dX5_playerInTurn_1 : decode cX5_playerInTurn 1 = .ok (.aload_n 0, 1) := by decide +kernel
theorem dX5_playerInTurn_2 : decode cX5_playerInTurn 2 = .ok (.invokevirtual 149, 3) := by decide +kernel
theorem dX5_playerInTurn_5 : decode cX5_playerInTurn 5 = .ok (.invokevirtual 143, 3) := by decide +kernel
theorem dX5_playerInTurn_8 : decode cX5_playerInTurn 8 = .ok (.ireturn, 1) := by decide +kernel
set_option maxRecDepth 20000 in
theorem ggX5_frame_X5_ok : GoodIn wsX5_frame wsX5_ok := goodIn_r _ [6, 7, 8, 9, 10, 11, 12, 13, 14, 15, 16, 17, 18, 19, 20, 21, 22] (by decide +kernel) (by decide +kernel)
set_option maxRecDepth 20000 in
theorem gX5_frame_X5_ok : GoodIn wsX5_frame (wsV RX5 143 RX5 yX5_ok wsX5_ok) := goodIn_app (goodIn_of _ (by decide +kernel)) ggX5_frame_X5_ok
theorem dX5_frame_0 : decode cX5_frame 0 = .ok (.aload_n 0, 1) := by decide +kernel
theorem dX5_frame_1 : decode cX5_frame 1 = .ok (.aload_n 0, 1) := by decide +kernel
theorem dX5_frame_2 : decode cX5_frame 2 = .ok (.getfield 72, 3) := by decide +kernel
theorem dX5_frame_5 : decode cX5_frame 5 = .ok (.invokevirtual 143, 3) := by decide +kernel
theorem dX5_frame_8 : decode cX5_frame 8 = .ok (.ireturn, 1) := by decide +kernel
set_option maxRecDepth 20000 in
theorem ggX5_throwsInFrame_X5_ok : GoodIn wsX5_throwsInFrame wsX5_ok := goodIn_r _ [6, 7, 8, 9, 10, 11, 12, 13, 14, 15, 16, 17, 18, 19, 20, 21, 22] (by decide +kernel) (by decide +kernel)
set_option maxRecDepth 20000 in
theorem gX5_throwsInFrame_X5_ok : GoodIn wsX5_throwsInFrame (wsV RX5 143 RX5 yX5_ok wsX5_ok) := goodIn_app (goodIn_of _ (by decide +kernel)) ggX5_throwsInFrame_X5_ok
theorem dX5_throwsInFrame_0 : decode cX5_throwsInFrame 0 = .ok (.aload_n 0, 1) := by decide +kernel
theorem dX5_throwsInFrame_1 : decode cX5_throwsInFrame 1 = .ok (.aload_n 0, 1) := by decide +kernel
theorem dX5_throwsInFrame_2 : decode cX5_throwsInFrame 2 = .ok (.getfield 97, 3) := by decide +kernel
theorem dX5_throwsInFrame_5 : decode cX5_throwsInFrame 5 = .ok (.invokevirtual 143, 3) := by decide +kernel
theorem dX5_throwsInFrame_8 : decode cX5_throwsInFrame 8 = .ok (.ireturn, 1) := by decide +kernel
set_option maxRecDepth 20000 in
theorem ggX5_isOver_X5_over : GoodIn wsX5_isOver wsX5_over := goodIn_r _ [6, 7, 8, 9, 10, 11, 12, 13, 14, 15, 16, 17, 18, 19, 20, 21, 22] (by decide +kernel) (by decide +kernel)
set_option maxRecDepth 20000 in
theorem gX5_isOver_X5_over : GoodIn wsX5_isOver (wsV RX5 100 RX5 yX5_over wsX5_over) := goodIn_app (goodIn_of _ (by decide +kernel)) ggX5_isOver_X5_over
theorem dX5_isOver_0 : decode cX5_isOver 0 = .ok (.aload_n 0, 1) := by decide +kernel
theorem dX5_isOver_1 : decode cX5_isOver 1 = .ok (.iconst 0, 1) := by decide +kernel
theorem dX5_isOver_2 : decode cX5_isOver 2 = .ok (.putfield 41, 3) := by decide +kernel
theorem dX5_isOver_5 : decode cX5_isOver 5 = .ok (.aload_n 0, 1) := by decide +kernel
theorem dX5_isOver_6 : decode cX5_isOver 6 = .ok (.invokevirtual 100, 3) := by decide +kernel
theorem dX5_isOver_9 : decode cX5_isOver 9 = .ok (.ireturn, 1) := by decide +kernel
set_option maxRecDepth 20000 in
theorem ggX5_of_X5_isPlayer : GoodIn wsX5_of wsX5_isPlayer := goodIn_r _ [6, 7, 8, 9, 5, 10, 15, 16, 17, 18, 19, 20, 21, 22, 23, 24, 25, 26, 27, 28, 29] (by decide +kernel) (by decide +kernel)
set_option maxRecDepth 20000 in
theorem gX5_of_X5_isPlayer : GoodIn wsX5_of (wsV RX5 152 RX5 yX5_isPlayer wsX5_isPlayer) := goodIn_app (goodIn_of _ (by decide +kernel)) ggX5_of_X5_isPlayer
set_option maxRecDepth 20000 in
theorem ggX5_of_X5_no : GoodIn wsX5_of wsX5_no := goodIn_r _ [14, 1, 15, 16, 17, 18, 19, 20, 21, 22, 23, 24, 25, 26, 27, 28, 29] (by decide +kernel) (by decide +kernel)
set_option maxRecDepth 20000 in
theorem gX5_of_X5_no : GoodIn wsX5_of (wsV RX5 79 RX5 yX5_no wsX5_no) := goodIn_app (goodIn_of _ (by decide +kernel)) ggX5_of_X5_no
theorem dX5_of_0 : decode cX5_of 0 = .ok (.aload_n 0, 1) := by decide +kernel
theorem dX5_of_1 : decode cX5_of 1 = .ok (.iconst 0, 1) := by decide +kernel
theorem dX5_of_2 : decode cX5_of 2 = .ok (.putfield 41, 3) := by decide +kernel
theorem dX5_of_5 : decode cX5_of 5 = .ok (.aload_n 0, 1) := by decide +kernel
theorem dX5_of_6 : decode cX5_of 6 = .ok (.iload_n 1, 1) := by decide +kernel
theorem dX5_of_7 : decode cX5_of 7 = .ok (.invokevirtual 152, 3) := by decide +kernel
theorem dX5_of_10 : decode cX5_of 10 = .ok (.ifCond .eq 9, 3) := by decide +kernel
theorem dX5_of_13 : decode cX5_of 13 = .ok (.aload_n 2, 1) := by decide +kernel
theorem dX5_of_14 : decode cX5_of 14 = .ok (.iload_n 1, 1) := by decide +kernel
theorem dX5_of_15 : decode cX5_of 15 = .ok (.iaload, 1) := by decide +kernel
theorem dX5_of_16 : decode cX5_of 16 = .ok (.goto 8, 3) := by decide +kernel
theorem dX5_of_19 : decode cX5_of 19 = .ok (.aload_n 0, 1) := by decide +kernel
theorem dX5_of_20 : decode cX5_of 20 = .ok (.iconst 1, 1) := by decide +kernel
theorem dX5_of_21 : decode cX5_of 21 = .ok (.invokevirtual 79, 3) := by decide +kernel
theorem dX5_of_24 : decode cX5_of 24 = .ok (.ireturn, 1) := by decide +kernel
set_option maxRecDepth 20000 in
theorem ggX5_throwsOf_X5_of : GoodIn wsX5_throwsOf wsX5_of := goodIn_r _ [6, 7, 8, 9, 10, 5, 11, 12, 13, 14, 15, 16, 17, 18, 19, 20, 21, 22, 23, 24, 25, 26, 27, 28, 29, 30, 31, 32, 33, 34] (by decide +kernel) (by decide +kernel)
set_option maxRecDepth 20000 in
theorem gX5_throwsOf_X5_of : GoodIn wsX5_throwsOf (wsV RX5 155 RX5 yX5_of wsX5_of) := goodIn_app (goodIn_of _ (by decide +kernel)) ggX5_throwsOf_X5_of
theorem dX5_throwsOf_0 : decode cX5_throwsOf 0 = .ok (.aload_n 0, 1) := by decide +kernel
theorem dX5_throwsOf_1 : decode cX5_throwsOf 1 = .ok (.iload_n 1, 1) := by decide +kernel
theorem dX5_throwsOf_2 : decode cX5_throwsOf 2 = .ok (.aload_n 0, 1) := by decide +kernel
theorem dX5_throwsOf_3 : decode cX5_throwsOf 3 = .ok (.getfield 23, 3) := by decide +kernel
theorem dX5_throwsOf_6 : decode cX5_throwsOf 6 = .ok (.invokevirtual 155, 3) := by decide +kernel
theorem dX5_throwsOf_9 : decode cX5_throwsOf 9 = .ok (.ireturn, 1) := by decide +kernel
set_option maxRecDepth 20000 in
theorem ggX5_scoreOf_X5_isPlayer : GoodIn wsX5_scoreOf wsX5_isPlayer := goodIn_r _ [6, 7, 8, 9, 5, 10, 41, 42, 43, 44, 45, 46, 47, 48, 49, 50, 51, 52, 53, 54, 55] (by decide +kernel) (by decide +kernel)
set_option maxRecDepth 20000 in
theorem gX5_scoreOf_X5_isPlayer : GoodIn wsX5_scoreOf (wsV RX5 152 RX5 yX5_isPlayer wsX5_isPlayer) := goodIn_app (goodIn_of _ (by decide +kernel)) ggX5_scoreOf_X5_isPlayer
set_option maxRecDepth 20000 in
theorem ggX5_scoreOf_X5_score : GoodIn wsX5_scoreOf wsX5_score := goodIn_r _ [14, 15, 16, 17, 5, 18, 19, 20, 21, 22, 23, 24, 25, 26, 27, 28, 29, 30, 31, 32, 33, 34, 35, 36, 41, 42, 43, 44, 45, 46, 47, 48, 49, 50, 51, 52, 53, 54, 55] (by decide +kernel) (by decide +kernel)
set_option maxRecDepth 20000 in
theorem gX5_scoreOf_X5_score : GoodIn wsX5_scoreOf (wsV RX5 134 RX5 yX5_score wsX5_score) := goodIn_app (goodIn_of _ (by decide +kernel)) ggX5_scoreOf_X5_score
set_option maxRecDepth 20000 in
theorem ggX5_scoreOf_X5_no : GoodIn wsX5_scoreOf wsX5_no := goodIn_r _ [40, 1, 41, 42, 43, 44, 45, 46, 47, 48, 49, 50, 51, 52, 53, 54, 55] (by decide +kernel) (by decide +kernel)
set_option maxRecDepth 20000 in
theorem gX5_scoreOf_X5_no : GoodIn wsX5_scoreOf (wsV RX5 79 RX5 yX5_no wsX5_no) := goodIn_app (goodIn_of _ (by decide +kernel)) ggX5_scoreOf_X5_no
theorem dX5_scoreOf_0 : decode cX5_scoreOf 0 = .ok (.aload_n 0, 1) := by decide +kernel
theorem dX5_scoreOf_1 : decode cX5_scoreOf 1 = .ok (.iconst 0, 1) := by decide +kernel
theorem dX5_scoreOf_2 : decode cX5_scoreOf 2 = .ok (.putfield 41, 3) := by decide +kernel
theorem dX5_scoreOf_5 : decode cX5_scoreOf 5 = .ok (.aload_n 0, 1) := by decide +kernel
theorem dX5_scoreOf_6 : decode cX5_scoreOf 6 = .ok (.iload_n 1, 1) := by decide +kernel
theorem dX5_scoreOf_7 : decode cX5_scoreOf 7 = .ok (.invokevirtual 152, 3) := by decide +kernel
theorem dX5_scoreOf_10 : decode cX5_scoreOf 10 = .ok (.ifCond .eq 11, 3) := by decide +kernel
theorem dX5_scoreOf_13 : decode cX5_scoreOf 13 = .ok (.aload_n 0, 1) := by decide +kernel
theorem dX5_scoreOf_14 : decode cX5_scoreOf 14 = .ok (.iload_n 1, 1) := by decide +kernel
theorem dX5_scoreOf_15 : decode cX5_scoreOf 15 = .ok (.invokevirtual 134, 3) := by decide +kernel
theorem dX5_scoreOf_18 : decode cX5_scoreOf 18 = .ok (.goto 8, 3) := by decide +kernel
theorem dX5_scoreOf_21 : decode cX5_scoreOf 21 = .ok (.aload_n 0, 1) := by decide +kernel
theorem dX5_scoreOf_22 : decode cX5_scoreOf 22 = .ok (.iconst 1, 1) := by decide +kernel
theorem dX5_scoreOf_23 : decode cX5_scoreOf 23 = .ok (.invokevirtual 79, 3) := by decide +kernel
theorem dX5_scoreOf_26 : decode cX5_scoreOf 26 = .ok (.ireturn, 1) := by decide +kernel
set_option maxRecDepth 20000 in
theorem ggX5_pointsOf_X5_isPlayer : GoodIn wsX5_pointsOf wsX5_isPlayer := goodIn_r _ [6, 7, 8, 9, 5, 10, 37, 38, 39, 40, 41, 42, 43, 44, 45, 46, 47, 48, 49, 50, 51] (by decide +kernel) (by decide +kernel)
set_option maxRecDepth 20000 in
theorem gX5_pointsOf_X5_isPlayer : GoodIn wsX5_pointsOf (wsV RX5 152 RX5 yX5_isPlayer wsX5_isPlayer) := goodIn_app (goodIn_of _ (by decide +kernel)) ggX5_pointsOf_X5_isPlayer
set_option maxRecDepth 20000 in
theorem ggX5_pointsOf_X5_isIn : GoodIn wsX5_pointsOf wsX5_isIn := goodIn_r _ [10] (by decide +kernel) (by decide +kernel)
set_option maxRecDepth 20000 in
theorem gX5_pointsOf_X5_isIn : GoodIn wsX5_pointsOf (va_wsS RX5 44 yX5_isIn wsX5_isIn) := goodIn_app (goodIn_of _ (by decide +kernel)) ggX5_pointsOf_X5_isIn
set_option maxRecDepth 20000 in
theorem ggX5_pointsOf_X5_points : GoodIn wsX5_pointsOf wsX5_points := goodIn_r _ [14, 15, 16, 17, 18, 19, 20, 21, 5, 22, 23, 24, 25, 26, 27, 28, 29, 30, 31, 32, 37, 38, 39, 40, 41, 42, 43, 44, 45, 46, 47, 48, 49, 50, 51] (by decide +kernel) (by decide +kernel)
set_option maxRecDepth 20000 in
theorem gX5_pointsOf_X5_points : GoodIn wsX5_pointsOf (wsV RX5 131 RX5 yX5_points wsX5_points) := goodIn_app (goodIn_of _ (by decide +kernel)) ggX5_pointsOf_X5_points
set_option maxRecDepth 20000 in
theorem ggX5_pointsOf_X5_no : GoodIn wsX5_pointsOf wsX5_no := goodIn_r _ [36, 1, 37, 38, 39, 40, 41, 42, 43, 44, 45, 46, 47, 48, 49, 50, 51] (by decide +kernel) (by decide +kernel)
set_option maxRecDepth 20000 in
theorem gX5_pointsOf_X5_no : GoodIn wsX5_pointsOf (wsV RX5 79 RX5 yX5_no wsX5_no) := goodIn_app (goodIn_of _ (by decide +kernel)) ggX5_pointsOf_X5_no
theorem dX5_pointsOf_0 : decode cX5_pointsOf 0 = .ok (.aload_n 0, 1) := by decide +kernel
theorem dX5_pointsOf_1 : decode cX5_pointsOf 1 = .ok (.iconst 0, 1) := by decide +kernel
theorem dX5_pointsOf_2 : decode cX5_pointsOf 2 = .ok (.putfield 41, 3) := by decide +kernel
theorem dX5_pointsOf_5 : decode cX5_pointsOf 5 = .ok (.aload_n 0, 1) := by decide +kernel
theorem dX5_pointsOf_6 : decode cX5_pointsOf 6 = .ok (.iload_n 1, 1) := by decide +kernel
theorem dX5_pointsOf_7 : decode cX5_pointsOf 7 = .ok (.invokevirtual 152, 3) := by decide +kernel
theorem dX5_pointsOf_10 : decode cX5_pointsOf 10 = .ok (.ifCond .eq 22, 3) := by decide +kernel
theorem dX5_pointsOf_13 : decode cX5_pointsOf 13 = .ok (.iload_n 2, 1) := by decide +kernel
theorem dX5_pointsOf_14 : decode cX5_pointsOf 14 = .ok (.iconst 0, 1) := by decide +kernel
theorem dX5_pointsOf_15 : decode cX5_pointsOf 15 = .ok (.bipush 9, 2) := by decide +kernel
theorem dX5_pointsOf_17 : decode cX5_pointsOf 17 = .ok (.invokestatic 44, 3) := by decide +kernel
theorem dX5_pointsOf_20 : decode cX5_pointsOf 20 = .ok (.ifCond .eq 12, 3) := by decide +kernel
theorem dX5_pointsOf_23 : decode cX5_pointsOf 23 = .ok (.aload_n 0, 1) := by decide +kernel
theorem dX5_pointsOf_24 : decode cX5_pointsOf 24 = .ok (.iload_n 1, 1) := by decide +kernel
theorem dX5_pointsOf_25 : decode cX5_pointsOf 25 = .ok (.iload_n 2, 1) := by decide +kernel
theorem dX5_pointsOf_26 : decode cX5_pointsOf 26 = .ok (.invokevirtual 131, 3) := by decide +kernel
theorem dX5_pointsOf_29 : decode cX5_pointsOf 29 = .ok (.goto 8, 3) := by decide +kernel
theorem dX5_pointsOf_32 : decode cX5_pointsOf 32 = .ok (.aload_n 0, 1) := by decide +kernel
theorem dX5_pointsOf_33 : decode cX5_pointsOf 33 = .ok (.iconst 1, 1) := by decide +kernel
theorem dX5_pointsOf_34 : decode cX5_pointsOf 34 = .ok (.invokevirtual 79, 3) := by decide +kernel
theorem dX5_pointsOf_37 : decode cX5_pointsOf 37 = .ok (.ireturn, 1) := by decide +kernel
set_option maxRecDepth 20000 in
theorem ggX5_strikesOf_X5_of : GoodIn wsX5_strikesOf wsX5_of := goodIn_r _ [6, 7, 8, 9, 10, 5, 11, 12, 13, 14, 15, 16, 17, 18, 19, 20, 21, 22, 23, 24, 25, 26, 27, 28, 29, 30, 31, 32, 33, 34] (by decide +kernel) (by decide +kernel)
end
section
set_option maxRecDepth 20000 in
theorem gX5_strikesOf_X5_of : GoodIn wsX5_strikesOf (wsV RX5 155 RX5 yX5_of wsX5_of) := goodIn_app (goodIn_of _ (by decide +kernel)) ggX5_strikesOf_X5_of
theorem dX5_strikesOf_0 : decode cX5_strikesOf 0 = .ok (.aload_n 0, 1) := by decide +kernel
theorem dX5_strikesOf_1 : decode cX5_strikesOf 1 = .ok (.iload_n 1, 1) := by decide +kernel
theorem dX5_strikesOf_2 : decode cX5_strikesOf 2 = .ok (.aload_n 0, 1) := by decide +kernel
theorem dX5_strikesOf_3 : decode cX5_strikesOf 3 = .ok (.getfield 32, 3) := by decide +kernel
theorem dX5_strikesOf_6 : decode cX5_strikesOf 6 = .ok (.invokevirtual 155, 3) := by decide +kernel
theorem dX5_strikesOf_9 : decode cX5_strikesOf 9 = .ok (.ireturn, 1) := by decide +kernel
set_option maxRecDepth 20000 in
theorem ggX5_sparesOf_X5_of : GoodIn wsX5_sparesOf wsX5_of := goodIn_r _ [6, 7, 8, 9, 10, 5, 11, 12, 13, 14, 15, 16, 17, 18, 19, 20, 21, 22, 23, 24, 25, 26, 27, 28, 29, 30, 31, 32, 33, 34] (by decide +kernel) (by decide +kernel)
set_option maxRecDepth 20000 in
theorem gX5_sparesOf_X5_of : GoodIn wsX5_sparesOf (wsV RX5 155 RX5 yX5_of wsX5_of) := goodIn_app (goodIn_of _ (by decide +kernel)) ggX5_sparesOf_X5_of
theorem dX5_sparesOf_0 : decode cX5_sparesOf 0 = .ok (.aload_n 0, 1) := by decide +kernel
theorem dX5_sparesOf_1 : decode cX5_sparesOf 1 = .ok (.iload_n 1, 1) := by decide +kernel
theorem dX5_sparesOf_2 : decode cX5_sparesOf 2 = .ok (.aload_n 0, 1) := by decide +kernel
theorem dX5_sparesOf_3 : decode cX5_sparesOf 3 = .ok (.getfield 35, 3) := by decide +kernel
theorem dX5_sparesOf_6 : decode cX5_sparesOf 6 = .ok (.invokevirtual 155, 3) := by decide +kernel
theorem dX5_sparesOf_9 : decode cX5_sparesOf 9 = .ok (.ireturn, 1) := by decide +kernel
set_option maxRecDepth 20000 in
theorem ggX5_leader_X5_first : GoodIn wsX5_leader wsX5_first := goodIn_r _ [5, 6, 7, 8, 9, 4, 10, 11, 12, 13, 14, 15, 16, 17, 18, 19, 20, 21, 22, 23, 24, 25, 26, 27, 28, 29, 30, 31, 32, 38, 39, 40, 41, 42, 43, 44, 45, 46, 47, 48, 49, 50, 51, 52] (by decide +kernel) (by decide +kernel)
set_option maxRecDepth 20000 in
theorem gX5_leader_X5_first : GoodIn wsX5_leader (wsV RX5 137 RX5 yX5_first wsX5_first) := goodIn_app (goodIn_of _ (by decide +kernel)) ggX5_leader_X5_first
set_option maxRecDepth 20000 in
theorem ggX5_leader_X5_ok : GoodIn wsX5_leader wsX5_ok := goodIn_r _ [36, 37, 38, 39, 40, 41, 42, 43, 44, 45, 46, 47, 48, 49, 50, 51, 52] (by decide +kernel) (by decide +kernel)
set_option maxRecDepth 20000 in
theorem gX5_leader_X5_ok : GoodIn wsX5_leader (wsV RX5 143 RX5 yX5_ok wsX5_ok) := goodIn_app (goodIn_of _ (by decide +kernel)) ggX5_leader_X5_ok
theorem dX5_leader_0 : decode cX5_leader 0 = .ok (.aload_n 0, 1) := by decide +kernel
theorem dX5_leader_1 : decode cX5_leader 1 = .ok (.aload_n 0, 1) := by decide +kernel
theorem dX5_leader_2 : decode cX5_leader 2 = .ok (.invokevirtual 137, 3) := by decide +kernel
theorem dX5_leader_5 : decode cX5_leader 5 = .ok (.invokevirtual 143, 3) := by decide +kernel
theorem dX5_leader_8 : decode cX5_leader 8 = .ok (.ireturn, 1) := by decide +kernel
set_option maxRecDepth 20000 in
theorem ggX5_wouldFall_X5_isThrow : GoodIn wsX5_wouldFall wsX5_isThrow := goodIn_r _ [6, 7, 8, 5, 9] (by decide +kernel) (by decide +kernel)
set_option maxRecDepth 20000 in
theorem gX5_wouldFall_X5_isThrow : GoodIn wsX5_wouldFall (va_wsS RX5 121 yX5_isThrow wsX5_isThrow) := goodIn_app (goodIn_of _ (by decide +kernel)) ggX5_wouldFall_X5_isThrow
set_option maxRecDepth 20000 in
theorem ggX5_wouldFall_X5_roll : GoodIn wsX5_wouldFall wsX5_roll := goodIn_r _ [12, 13, 14, 5, 15, 16, 7, 8, 9, 17, 18, 19, 20, 21] (by decide +kernel) (by decide +kernel)
set_option maxRecDepth 20000 in
theorem gX5_wouldFall_X5_roll : GoodIn wsX5_wouldFall (va_wsS RX5 107 yX5_roll wsX5_roll) := goodIn_app (goodIn_of _ (by decide +kernel)) ggX5_wouldFall_X5_roll
set_option maxRecDepth 20000 in
theorem ggX5_wouldFall_J6_bitCount_0f7a4 : GoodIn wsX5_wouldFall wsJ6_bitCount_0f7a4 := goodIn_r _ [25, 26, 27, 28] (by decide +kernel) (by decide +kernel)
set_option maxRecDepth 20000 in
theorem gX5_wouldFall_J6_bitCount_0f7a4 : GoodIn wsX5_wouldFall (va_wsS RX5 110 yJ6_bitCount_0f7a4 wsJ6_bitCount_0f7a4) := goodIn_app (goodIn_of _ (by decide +kernel)) ggX5_wouldFall_J6_bitCount_0f7a4
set_option maxRecDepth 20000 in
theorem ggX5_wouldFall_X5_no : GoodIn wsX5_wouldFall wsX5_no := goodIn_r _ [32, 1, 33, 34, 35, 36, 37, 38, 39, 40, 41, 42, 43, 44, 45, 46, 47] (by decide +kernel) (by decide +kernel)
set_option maxRecDepth 20000 in
theorem gX5_wouldFall_X5_no : GoodIn wsX5_wouldFall (wsV RX5 79 RX5 yX5_no wsX5_no) := goodIn_app (goodIn_of _ (by decide +kernel)) ggX5_wouldFall_X5_no
theorem dX5_wouldFall_0 : decode cX5_wouldFall 0 = .ok (.aload_n 0, 1) := by decide +kernel
theorem dX5_wouldFall_1 : decode cX5_wouldFall 1 = .ok (.iconst 0, 1) := by decide +kernel
theorem dX5_wouldFall_2 : decode cX5_wouldFall 2 = .ok (.putfield 41, 3) := by decide +kernel
theorem dX5_wouldFall_5 : decode cX5_wouldFall 5 = .ok (.iload_n 1, 1) := by decide +kernel
theorem dX5_wouldFall_6 : decode cX5_wouldFall 6 = .ok (.iload_n 2, 1) := by decide +kernel
theorem dX5_wouldFall_7 : decode cX5_wouldFall 7 = .ok (.invokestatic 121, 3) := by decide +kernel
theorem dX5_wouldFall_10 : decode cX5_wouldFall 10 = .ok (.ifCond .eq 23, 3) := by decide +kernel
theorem dX5_wouldFall_13 : decode cX5_wouldFall 13 = .ok (.aload_n 0, 1) := by decide +kernel
theorem dX5_wouldFall_14 : decode cX5_wouldFall 14 = .ok (.getfield 9, 3) := by decide +kernel
theorem dX5_wouldFall_17 : decode cX5_wouldFall 17 = .ok (.aload_n 0, 1) := by decide +kernel
theorem dX5_wouldFall_18 : decode cX5_wouldFall 18 = .ok (.getfield 9, 3) := by decide +kernel
theorem dX5_wouldFall_21 : decode cX5_wouldFall 21 = .ok (.iload_n 1, 1) := by decide +kernel
theorem dX5_wouldFall_22 : decode cX5_wouldFall 22 = .ok (.iload_n 2, 1) := by decide +kernel
theorem dX5_wouldFall_23 : decode cX5_wouldFall 23 = .ok (.invokestatic 107, 3) := by decide +kernel
theorem dX5_wouldFall_26 : decode cX5_wouldFall 26 = .ok (.ixor, 1) := by decide +kernel
theorem dX5_wouldFall_27 : decode cX5_wouldFall 27 = .ok (.invokestatic 110, 3) := by decide +kernel
theorem dX5_wouldFall_30 : decode cX5_wouldFall 30 = .ok (.goto 8, 3) := by decide +kernel
theorem dX5_wouldFall_33 : decode cX5_wouldFall 33 = .ok (.aload_n 0, 1) := by decide +kernel
theorem dX5_wouldFall_34 : decode cX5_wouldFall 34 = .ok (.iconst 1, 1) := by decide +kernel
theorem dX5_wouldFall_35 : decode cX5_wouldFall 35 = .ok (.invokevirtual 79, 3) := by decide +kernel
theorem dX5_wouldFall_38 : decode cX5_wouldFall 38 = .ok (.ireturn, 1) := by decide +kernel
set_option maxRecDepth 20000 in
theorem ggX5_lastToFall_X5_isThrow : GoodIn wsX5_lastToFall wsX5_isThrow := goodIn_r _ [6, 7, 8, 5, 9] (by decide +kernel) (by decide +kernel)
set_option maxRecDepth 20000 in
theorem gX5_lastToFall_X5_isThrow : GoodIn wsX5_lastToFall (va_wsS RX5 121 yX5_isThrow wsX5_isThrow) := goodIn_app (goodIn_of _ (by decide +kernel)) ggX5_lastToFall_X5_isThrow
set_option maxRecDepth 20000 in
theorem ggX5_lastToFall_X5_no : GoodIn wsX5_lastToFall wsX5_no := goodIn_r _ [13, 1, 31, 32, 33, 34, 35, 36, 37, 38, 39, 40, 41, 42, 43, 44, 45] (by decide +kernel) (by decide +kernel)
set_option maxRecDepth 20000 in
theorem gX5_lastToFall_X5_no : GoodIn wsX5_lastToFall (wsV RX5 79 RX5 yX5_no wsX5_no) := goodIn_app (goodIn_of _ (by decide +kernel)) ggX5_lastToFall_X5_no
set_option maxRecDepth 20000 in
theorem ggX5_lastToFall_X5_roll : GoodIn wsX5_lastToFall wsX5_roll := goodIn_r _ [16, 17, 18, 5, 19, 20, 7, 8, 9, 21, 22, 23, 24, 25] (by decide +kernel) (by decide +kernel)
set_option maxRecDepth 20000 in
theorem gX5_lastToFall_X5_roll : GoodIn wsX5_lastToFall (va_wsS RX5 107 yX5_roll wsX5_roll) := goodIn_app (goodIn_of _ (by decide +kernel)) ggX5_lastToFall_X5_roll
set_option maxRecDepth 20000 in
theorem ggX5_lastToFall_J6_numberOfLeadingZeros_0f7a4 : GoodIn wsX5_lastToFall wsJ6_numberOfLeadingZeros_0f7a4 := goodIn_r _ [29, 30] (by decide +kernel) (by decide +kernel)
set_option maxRecDepth 20000 in
theorem gX5_lastToFall_J6_numberOfLeadingZeros_0f7a4 : GoodIn wsX5_lastToFall (va_wsS RX5 159 yJ6_numberOfLeadingZeros_0f7a4 wsJ6_numberOfLeadingZeros_0f7a4) := goodIn_app (goodIn_of _ (by decide +kernel)) ggX5_lastToFall_J6_numberOfLeadingZeros_0f7a4
theorem dX5_lastToFall_0 : decode cX5_lastToFall 0 = .ok (.aload_n 0, 1) := by decide +kernel
theorem dX5_lastToFall_1 : decode cX5_lastToFall 1 = .ok (.iconst 0, 1) := by decide +kernel
theorem dX5_lastToFall_2 : decode cX5_lastToFall 2 = .ok (.putfield 41, 3) := by decide +kernel
theorem dX5_lastToFall_5 : decode cX5_lastToFall 5 = .ok (.iload_n 1, 1) := by decide +kernel
theorem dX5_lastToFall_6 : decode cX5_lastToFall 6 = .ok (.iload_n 2, 1) := by decide +kernel
theorem dX5_lastToFall_7 : decode cX5_lastToFall 7 = .ok (.invokestatic 121, 3) := by decide +kernel
theorem dX5_lastToFall_10 : decode cX5_lastToFall 10 = .ok (.ifCond .ne 9, 3) := by decide +kernel
theorem dX5_lastToFall_13 : decode cX5_lastToFall 13 = .ok (.aload_n 0, 1) := by decide +kernel
theorem dX5_lastToFall_14 : decode cX5_lastToFall 14 = .ok (.iconst 1, 1) := by decide +kernel
theorem dX5_lastToFall_15 : decode cX5_lastToFall 15 = .ok (.invokevirtual 79, 3) := by decide +kernel
theorem dX5_lastToFall_18 : decode cX5_lastToFall 18 = .ok (.ireturn, 1) := by decide +kernel
theorem dX5_lastToFall_19 : decode cX5_lastToFall 19 = .ok (.aload_n 0, 1) := by decide +kernel
theorem dX5_lastToFall_20 : decode cX5_lastToFall 20 = .ok (.getfield 9, 3) := by decide +kernel
theorem dX5_lastToFall_23 : decode cX5_lastToFall 23 = .ok (.aload_n 0, 1) := by decide +kernel
theorem dX5_lastToFall_24 : decode cX5_lastToFall 24 = .ok (.getfield 9, 3) := by decide +kernel
theorem dX5_lastToFall_27 : decode cX5_lastToFall 27 = .ok (.iload_n 1, 1) := by decide +kernel
theorem dX5_lastToFall_28 : decode cX5_lastToFall 28 = .ok (.iload_n 2, 1) := by decide +kernel
theorem dX5_lastToFall_29 : decode cX5_lastToFall 29 = .ok (.invokestatic 107, 3) := by decide +kernel
theorem dX5_lastToFall_32 : decode cX5_lastToFall 32 = .ok (.ixor, 1) := by decide +kernel
theorem dX5_lastToFall_33 : decode cX5_lastToFall 33 = .ok (.istore_n 3, 1) := by decide +kernel
theorem dX5_lastToFall_34 : decode cX5_lastToFall 34 = .ok (.iload_n 3, 1) := by decide +kernel
theorem dX5_lastToFall_35 : decode cX5_lastToFall 35 = .ok (.ifCond .ne 7, 3) := by decide +kernel
theorem dX5_lastToFall_38 : decode cX5_lastToFall 38 = .ok (.iconst (-1), 1) := by decide +kernel
theorem dX5_lastToFall_39 : decode cX5_lastToFall 39 = .ok (.goto 10, 3) := by decide +kernel
theorem dX5_lastToFall_42 : decode cX5_lastToFall 42 = .ok (.bipush 31, 2) := by decide +kernel
theorem dX5_lastToFall_44 : decode cX5_lastToFall 44 = .ok (.iload_n 3, 1) := by decide +kernel
theorem dX5_lastToFall_45 : decode cX5_lastToFall 45 = .ok (.invokestatic 159, 3) := by decide +kernel
theorem dX5_lastToFall_48 : decode cX5_lastToFall 48 = .ok (.isub, 1) := by decide +kernel
theorem dX5_lastToFall_49 : decode cX5_lastToFall 49 = .ok (.ireturn, 1) := by decide +kernel
set_option maxRecDepth 20000 in
theorem ggX5_best_X5_roll : GoodIn wsX5_best wsX5_roll := goodIn_r _ [6, 7, 8, 5, 9, 10, 11, 12, 13, 14, 15, 16, 17, 18] (by decide +kernel) (by decide +kernel)
set_option maxRecDepth 20000 in
theorem gX5_best_X5_roll : GoodIn wsX5_best (va_wsS RX5 107 yX5_roll wsX5_roll) := goodIn_app (goodIn_of _ (by decide +kernel)) ggX5_best_X5_roll
set_option maxRecDepth 20000 in
theorem ggX5_best_J6_bitCount_0f7a4 : GoodIn wsX5_best wsJ6_bitCount_0f7a4 := goodIn_r _ [22, 23, 24, 25] (by decide +kernel) (by decide +kernel)
set_option maxRecDepth 20000 in
theorem gX5_best_J6_bitCount_0f7a4 : GoodIn wsX5_best (va_wsS RX5 110 yJ6_bitCount_0f7a4 wsJ6_bitCount_0f7a4) := goodIn_app (goodIn_of _ (by decide +kernel)) ggX5_best_J6_bitCount_0f7a4
theorem dX5_best_0 : decode cX5_best 0 = .ok (.iconst (-1), 1) := by decide +kernel
theorem dX5_best_1 : decode cX5_best 1 = .ok (.istore_n 1, 1) := by decide +kernel
theorem dX5_best_2 : decode cX5_best 2 = .ok (.iconst (-1), 1) := by decide +kernel
theorem dX5_best_3 : decode cX5_best 3 = .ok (.istore_n 2, 1) := by decide +kernel
theorem dX5_best_4 : decode cX5_best 4 = .ok (.iconst 0, 1) := by decide +kernel
theorem dX5_best_5 : decode cX5_best 5 = .ok (.istore_n 3, 1) := by decide +kernel
theorem dX5_best_6 : decode cX5_best 6 = .ok (.iload_n 3, 1) := by decide +kernel
theorem dX5_best_7 : decode cX5_best 7 = .ok (.iconst 5, 1) := by decide +kernel
theorem dX5_best_8 : decode cX5_best 8 = .ok (.if_icmp .ge 73, 3) := by decide +kernel
theorem dX5_best_11 : decode cX5_best 11 = .ok (.iconst 0, 1) := by decide +kernel
theorem dX5_best_12 : decode cX5_best 12 = .ok (.istore 4, 2) := by decide +kernel
theorem dX5_best_14 : decode cX5_best 14 = .ok (.iload 4, 2) := by decide +kernel
theorem dX5_best_16 : decode cX5_best 16 = .ok (.iconst 5, 1) := by decide +kernel
theorem dX5_best_17 : decode cX5_best 17 = .ok (.if_icmp .ge 58, 3) := by decide +kernel
theorem dX5_best_20 : decode cX5_best 20 = .ok (.aload_n 0, 1) := by decide +kernel
theorem dX5_best_21 : decode cX5_best 21 = .ok (.getfield 17, 3) := by decide +kernel
theorem dX5_best_24 : decode cX5_best 24 = .ok (.iload_n 3, 1) := by decide +kernel
theorem dX5_best_25 : decode cX5_best 25 = .ok (.iaload, 1) := by decide +kernel
theorem dX5_best_26 : decode cX5_best 26 = .ok (.ifCond .ne 49, 3) := by decide +kernel
theorem dX5_best_29 : decode cX5_best 29 = .ok (.aload_n 0, 1) := by decide +kernel
theorem dX5_best_30 : decode cX5_best 30 = .ok (.getfield 9, 3) := by decide +kernel
theorem dX5_best_33 : decode cX5_best 33 = .ok (.aload_n 0, 1) := by decide +kernel
theorem dX5_best_34 : decode cX5_best 34 = .ok (.getfield 9, 3) := by decide +kernel
theorem dX5_best_37 : decode cX5_best 37 = .ok (.iload_n 3, 1) := by decide +kernel
theorem dX5_best_38 : decode cX5_best 38 = .ok (.iload 4, 2) := by decide +kernel
theorem dX5_best_40 : decode cX5_best 40 = .ok (.invokestatic 107, 3) := by decide +kernel
theorem dX5_best_43 : decode cX5_best 43 = .ok (.ixor, 1) := by decide +kernel
theorem dX5_best_44 : decode cX5_best 44 = .ok (.invokestatic 110, 3) := by decide +kernel
theorem dX5_best_47 : decode cX5_best 47 = .ok (.istore 5, 2) := by decide +kernel
theorem dX5_best_49 : decode cX5_best 49 = .ok (.iload 5, 2) := by decide +kernel
theorem dX5_best_51 : decode cX5_best 51 = .ok (.iload_n 2, 1) := by decide +kernel
theorem dX5_best_52 : decode cX5_best 52 = .ok (.if_icmp .gt 6, 3) := by decide +kernel
theorem dX5_best_55 : decode cX5_best 55 = .ok (.goto 14, 3) := by decide +kernel
theorem dX5_best_58 : decode cX5_best 58 = .ok (.bipush 10, 2) := by decide +kernel
theorem dX5_best_60 : decode cX5_best 60 = .ok (.iload_n 3, 1) := by decide +kernel
theorem dX5_best_61 : decode cX5_best 61 = .ok (.imul, 1) := by decide +kernel
theorem dX5_best_62 : decode cX5_best 62 = .ok (.iload 4, 2) := by decide +kernel
theorem dX5_best_64 : decode cX5_best 64 = .ok (.iadd, 1) := by decide +kernel
theorem dX5_best_65 : decode cX5_best 65 = .ok (.istore_n 1, 1) := by decide +kernel
theorem dX5_best_66 : decode cX5_best 66 = .ok (.iload 5, 2) := by decide +kernel
theorem dX5_best_68 : decode cX5_best 68 = .ok (.istore_n 2, 1) := by decide +kernel
theorem dX5_best_69 : decode cX5_best 69 = .ok (.iinc 4 1, 3) := by decide +kernel
theorem dX5_best_72 : decode cX5_best 72 = .ok (.goto (-58), 3) := by decide +kernel
theorem dX5_best_75 : decode cX5_best 75 = .ok (.iinc 3 1, 3) := by decide +kernel
theorem dX5_best_78 : decode cX5_best 78 = .ok (.goto (-72), 3) := by decide +kernel
theorem dX5_best_81 : decode cX5_best 81 = .ok (.iload_n 1, 1) := by decide +kernel
theorem dX5_best_82 : decode cX5_best 82 = .ok (.ireturn, 1) := by decide +kernel
set_option maxRecDepth 20000 in
theorem ggX5_bestThrow_X5_best : GoodIn wsX5_bestThrow wsX5_best := goodIn_r _ [5, 6, 7, 8, 9, 4, 10, 11, 12, 13, 14, 15, 16, 17, 18, 19, 20, 21, 22, 23, 24, 25, 26, 27, 28, 29, 35, 36, 37, 38, 39, 40, 41, 42, 43, 44, 45, 46, 47, 48, 49] (by decide +kernel) (by decide +kernel)
set_option maxRecDepth 20000 in
theorem gX5_bestThrow_X5_best : GoodIn wsX5_bestThrow (wsV RX5 162 RX5 yX5_best wsX5_best) := goodIn_app (goodIn_of _ (by decide +kernel)) ggX5_bestThrow_X5_best
set_option maxRecDepth 20000 in
theorem ggX5_bestThrow_X5_ok : GoodIn wsX5_bestThrow wsX5_ok := goodIn_r _ [33, 34, 35, 36, 37, 38, 39, 40, 41, 42, 43, 44, 45, 46, 47, 48, 49] (by decide +kernel) (by decide +kernel)
set_option maxRecDepth 20000 in
theorem gX5_bestThrow_X5_ok : GoodIn wsX5_bestThrow (wsV RX5 143 RX5 yX5_ok wsX5_ok) := goodIn_app (goodIn_of _ (by decide +kernel)) ggX5_bestThrow_X5_ok
theorem dX5_bestThrow_0 : decode cX5_bestThrow 0 = .ok (.aload_n 0, 1) := by decide +kernel
theorem dX5_bestThrow_1 : decode cX5_bestThrow 1 = .ok (.aload_n 0, 1) := by decide +kernel
theorem dX5_bestThrow_2 : decode cX5_bestThrow 2 = .ok (.invokevirtual 162, 3) := by decide +kernel
theorem dX5_bestThrow_5 : decode cX5_bestThrow 5 = .ok (.invokevirtual 143, 3) := by decide +kernel
theorem dX5_bestThrow_8 : decode cX5_bestThrow 8 = .ok (.ireturn, 1) := by decide +kernel
set_option maxRecDepth 20000 in
theorem ggX5_isCleared_X5_roll : GoodIn wsX5_isCleared wsX5_roll := goodIn_r _ [4, 5, 6, 3, 7, 8, 9, 10, 11, 12, 13, 14, 15, 16] (by decide +kernel) (by decide +kernel)
set_option maxRecDepth 20000 in
theorem gX5_isCleared_X5_roll : GoodIn wsX5_isCleared (va_wsS RX5 107 yX5_roll wsX5_roll) := goodIn_app (goodIn_of _ (by decide +kernel)) ggX5_isCleared_X5_roll
set_option maxRecDepth 20000 in
theorem ggX5_isCleared_X5_isCleared : GoodIn wsX5_isCleared wsX5_isCleared := goodIn_r _ [0, 1, 2, 3, 4, 5, 6, 7, 8, 9, 10, 11, 12, 13, 14, 15, 16, 17, 18] (by decide +kernel) (by decide +kernel)
set_option maxRecDepth 20000 in
theorem gX5_isCleared_X5_isCleared : GoodIn wsX5_isCleared (va_wsS RX5 165 yX5_isCleared wsX5_isCleared) := goodIn_app (goodIn_of _ (by decide +kernel)) ggX5_isCleared_X5_isCleared
theorem dX5_isCleared_0 : decode cX5_isCleared 0 = .ok (.iload_n 0, 1) := by decide +kernel
theorem dX5_isCleared_1 : decode cX5_isCleared 1 = .ok (.ifCond .ne 5, 3) := by decide +kernel
theorem dX5_isCleared_4 : decode cX5_isCleared 4 = .ok (.iconst 1, 1) := by decide +kernel
theorem dX5_isCleared_5 : decode cX5_isCleared 5 = .ok (.ireturn, 1) := by decide +kernel
theorem dX5_isCleared_6 : decode cX5_isCleared 6 = .ok (.iconst 0, 1) := by decide +kernel
theorem dX5_isCleared_7 : decode cX5_isCleared 7 = .ok (.istore_n 3, 1) := by decide +kernel
theorem dX5_isCleared_8 : decode cX5_isCleared 8 = .ok (.iload_n 3, 1) := by decide +kernel
theorem dX5_isCleared_9 : decode cX5_isCleared 9 = .ok (.iconst 5, 1) := by decide +kernel
theorem dX5_isCleared_10 : decode cX5_isCleared 10 = .ok (.if_icmp .ge 73, 3) := by decide +kernel
theorem dX5_isCleared_13 : decode cX5_isCleared 13 = .ok (.iload_n 2, 1) := by decide +kernel
theorem dX5_isCleared_14 : decode cX5_isCleared 14 = .ok (.ifCond .le 69, 3) := by decide +kernel
theorem dX5_isCleared_17 : decode cX5_isCleared 17 = .ok (.iload_n 1, 1) := by decide +kernel
theorem dX5_isCleared_18 : decode cX5_isCleared 18 = .ok (.iload_n 3, 1) := by decide +kernel
theorem dX5_isCleared_19 : decode cX5_isCleared 19 = .ok (.ishr, 1) := by decide +kernel
theorem dX5_isCleared_20 : decode cX5_isCleared 20 = .ok (.iconst 1, 1) := by decide +kernel
theorem dX5_isCleared_21 : decode cX5_isCleared 21 = .ok (.iand, 1) := by decide +kernel
theorem dX5_isCleared_22 : decode cX5_isCleared 22 = .ok (.iconst 1, 1) := by decide +kernel
theorem dX5_isCleared_23 : decode cX5_isCleared 23 = .ok (.if_icmp .ne 6, 3) := by decide +kernel
theorem dX5_isCleared_26 : decode cX5_isCleared 26 = .ok (.goto 51, 3) := by decide +kernel
theorem dX5_isCleared_29 : decode cX5_isCleared 29 = .ok (.iconst 0, 1) := by decide +kernel
theorem dX5_isCleared_30 : decode cX5_isCleared 30 = .ok (.istore 4, 2) := by decide +kernel
theorem dX5_isCleared_32 : decode cX5_isCleared 32 = .ok (.iload 4, 2) := by decide +kernel
theorem dX5_isCleared_34 : decode cX5_isCleared 34 = .ok (.iconst 5, 1) := by decide +kernel
theorem dX5_isCleared_35 : decode cX5_isCleared 35 = .ok (.if_icmp .ge 42, 3) := by decide +kernel
theorem dX5_isCleared_38 : decode cX5_isCleared 38 = .ok (.iload_n 0, 1) := by decide +kernel
theorem dX5_isCleared_39 : decode cX5_isCleared 39 = .ok (.iload_n 3, 1) := by decide +kernel
theorem dX5_isCleared_40 : decode cX5_isCleared 40 = .ok (.iload 4, 2) := by decide +kernel
theorem dX5_isCleared_42 : decode cX5_isCleared 42 = .ok (.invokestatic 107, 3) := by decide +kernel
theorem dX5_isCleared_45 : decode cX5_isCleared 45 = .ok (.istore 5, 2) := by decide +kernel
theorem dX5_isCleared_47 : decode cX5_isCleared 47 = .ok (.iload 5, 2) := by decide +kernel
theorem dX5_isCleared_49 : decode cX5_isCleared 49 = .ok (.iload_n 0, 1) := by decide +kernel
theorem dX5_isCleared_50 : decode cX5_isCleared 50 = .ok (.if_icmp .eq 21, 3) := by decide +kernel
theorem dX5_isCleared_53 : decode cX5_isCleared 53 = .ok (.iload 5, 2) := by decide +kernel
theorem dX5_isCleared_55 : decode cX5_isCleared 55 = .ok (.iload_n 1, 1) := by decide +kernel
theorem dX5_isCleared_56 : decode cX5_isCleared 56 = .ok (.iconst 1, 1) := by decide +kernel
theorem dX5_isCleared_57 : decode cX5_isCleared 57 = .ok (.iload_n 3, 1) := by decide +kernel
theorem dX5_isCleared_58 : decode cX5_isCleared 58 = .ok (.ishl, 1) := by decide +kernel
theorem dX5_isCleared_59 : decode cX5_isCleared 59 = .ok (.ior, 1) := by decide +kernel
theorem dX5_isCleared_60 : decode cX5_isCleared 60 = .ok (.iload_n 2, 1) := by decide +kernel
theorem dX5_isCleared_61 : decode cX5_isCleared 61 = .ok (.iconst 1, 1) := by decide +kernel
theorem dX5_isCleared_62 : decode cX5_isCleared 62 = .ok (.isub, 1) := by decide +kernel
theorem dX5_isCleared_63 : decode cX5_isCleared 63 = .ok (.invokestatic 165, 3) := by decide +kernel
theorem dX5_isCleared_66 : decode cX5_isCleared 66 = .ok (.ifCond .eq 5, 3) := by decide +kernel
theorem dX5_isCleared_69 : decode cX5_isCleared 69 = .ok (.iconst 1, 1) := by decide +kernel
theorem dX5_isCleared_70 : decode cX5_isCleared 70 = .ok (.ireturn, 1) := by decide +kernel
theorem dX5_isCleared_71 : decode cX5_isCleared 71 = .ok (.iinc 4 1, 3) := by decide +kernel
theorem dX5_isCleared_74 : decode cX5_isCleared 74 = .ok (.goto (-42), 3) := by decide +kernel
theorem dX5_isCleared_77 : decode cX5_isCleared 77 = .ok (.iinc 3 1, 3) := by decide +kernel
theorem dX5_isCleared_80 : decode cX5_isCleared 80 = .ok (.goto (-72), 3) := by decide +kernel
theorem dX5_isCleared_83 : decode cX5_isCleared 83 = .ok (.iconst 0, 1) := by decide +kernel
theorem dX5_isCleared_84 : decode cX5_isCleared 84 = .ok (.ireturn, 1) := by decide +kernel
set_option maxRecDepth 20000 in
theorem ggX5_clear_X5_isCleared : GoodIn wsX5_clear wsX5_isCleared := goodIn_r _ [5, 6, 7, 4, 8, 9, 10, 11, 12, 13, 14, 15, 16, 17, 18, 19, 20, 2, 3] (by decide +kernel) (by decide +kernel)
set_option maxRecDepth 20000 in
theorem gX5_clear_X5_isCleared : GoodIn wsX5_clear (va_wsS RX5 165 yX5_isCleared wsX5_isCleared) := goodIn_app (goodIn_of _ (by decide +kernel)) ggX5_clear_X5_isCleared
theorem dX5_clear_0 : decode cX5_clear 0 = .ok (.iconst 0, 1) := by decide +kernel
theorem dX5_clear_1 : decode cX5_clear 1 = .ok (.istore_n 1, 1) := by decide +kernel
theorem dX5_clear_2 : decode cX5_clear 2 = .ok (.iload_n 1, 1) := by decide +kernel
theorem dX5_clear_3 : decode cX5_clear 3 = .ok (.iconst 3, 1) := by decide +kernel
theorem dX5_clear_4 : decode cX5_clear 4 = .ok (.if_icmp .gt 23, 3) := by decide +kernel
theorem dX5_clear_7 : decode cX5_clear 7 = .ok (.aload_n 0, 1) := by decide +kernel
theorem dX5_clear_8 : decode cX5_clear 8 = .ok (.getfield 9, 3) := by decide +kernel
theorem dX5_clear_11 : decode cX5_clear 11 = .ok (.iconst 0, 1) := by decide +kernel
theorem dX5_clear_12 : decode cX5_clear 12 = .ok (.iload_n 1, 1) := by decide +kernel
theorem dX5_clear_13 : decode cX5_clear 13 = .ok (.invokestatic 165, 3) := by decide +kernel
theorem dX5_clear_16 : decode cX5_clear 16 = .ok (.ifCond .eq 5, 3) := by decide +kernel
theorem dX5_clear_19 : decode cX5_clear 19 = .ok (.iload_n 1, 1) := by decide +kernel
theorem dX5_clear_20 : decode cX5_clear 20 = .ok (.ireturn, 1) := by decide +kernel
theorem dX5_clear_21 : decode cX5_clear 21 = .ok (.iinc 1 1, 3) := by decide +kernel
theorem dX5_clear_24 : decode cX5_clear 24 = .ok (.goto (-22), 3) := by decide +kernel
theorem dX5_clear_27 : decode cX5_clear 27 = .ok (.iconst (-1), 1) := by decide +kernel
theorem dX5_clear_28 : decode cX5_clear 28 = .ok (.ireturn, 1) := by decide +kernel
set_option maxRecDepth 20000 in
theorem ggX5_throwsToClear_X5_clear : GoodIn wsX5_throwsToClear wsX5_clear := goodIn_r _ [5, 6, 7, 8, 4, 9, 10, 11, 12, 13, 14, 15, 16, 17, 18, 19, 20, 21, 22, 23, 24, 30, 31, 32, 33, 34, 35, 36, 37, 38, 39, 40, 41, 42, 43, 44] (by decide +kernel) (by decide +kernel)
set_option maxRecDepth 20000 in
theorem gX5_throwsToClear_X5_clear : GoodIn wsX5_throwsToClear (wsV RX5 168 RX5 yX5_clear wsX5_clear) := goodIn_app (goodIn_of _ (by decide +kernel)) ggX5_throwsToClear_X5_clear
set_option maxRecDepth 20000 in
theorem ggX5_throwsToClear_X5_ok : GoodIn wsX5_throwsToClear wsX5_ok := goodIn_r _ [28, 29, 30, 31, 32, 33, 34, 35, 36, 37, 38, 39, 40, 41, 42, 43, 44] (by decide +kernel) (by decide +kernel)
set_option maxRecDepth 20000 in
theorem gX5_throwsToClear_X5_ok : GoodIn wsX5_throwsToClear (wsV RX5 143 RX5 yX5_ok wsX5_ok) := goodIn_app (goodIn_of _ (by decide +kernel)) ggX5_throwsToClear_X5_ok
theorem dX5_throwsToClear_0 : decode cX5_throwsToClear 0 = .ok (.aload_n 0, 1) := by decide +kernel
theorem dX5_throwsToClear_1 : decode cX5_throwsToClear 1 = .ok (.aload_n 0, 1) := by decide +kernel
theorem dX5_throwsToClear_2 : decode cX5_throwsToClear 2 = .ok (.invokevirtual 168, 3) := by decide +kernel
theorem dX5_throwsToClear_5 : decode cX5_throwsToClear 5 = .ok (.invokevirtual 143, 3) := by decide +kernel
theorem dX5_throwsToClear_8 : decode cX5_throwsToClear 8 = .ok (.ireturn, 1) := by decide +kernel
theorem dX5_wouldBreak_0 : decode cX5_wouldBreak 0 = .ok (.aload_n 0, 1) := by decide +kernel
theorem dX5_wouldBreak_1 : decode cX5_wouldBreak 1 = .ok (.iconst 0, 1) := by decide +kernel
theorem dX5_wouldBreak_2 : decode cX5_wouldBreak 2 = .ok (.putfield 41, 3) := by decide +kernel
theorem dX5_wouldBreak_5 : decode cX5_wouldBreak 5 = .ok (.iconst 0, 1) := by decide +kernel
theorem dX5_wouldBreak_6 : decode cX5_wouldBreak 6 = .ok (.istore_n 1, 1) := by decide +kernel
theorem dX5_wouldBreak_7 : decode cX5_wouldBreak 7 = .ok (.iconst 0, 1) := by decide +kernel
theorem dX5_wouldBreak_8 : decode cX5_wouldBreak 8 = .ok (.istore_n 2, 1) := by decide +kernel
theorem dX5_wouldBreak_9 : decode cX5_wouldBreak 9 = .ok (.iload_n 2, 1) := by decide +kernel
theorem dX5_wouldBreak_10 : decode cX5_wouldBreak 10 = .ok (.bipush 9, 2) := by decide +kernel
theorem dX5_wouldBreak_12 : decode cX5_wouldBreak 12 = .ok (.if_icmp .ge 37, 3) := by decide +kernel
theorem dX5_wouldBreak_15 : decode cX5_wouldBreak 15 = .ok (.iload_n 1, 1) := by decide +kernel
theorem dX5_wouldBreak_16 : decode cX5_wouldBreak 16 = .ok (.aload_n 0, 1) := by decide +kernel
theorem dX5_wouldBreak_17 : decode cX5_wouldBreak 17 = .ok (.getfield 13, 3) := by decide +kernel
theorem dX5_wouldBreak_20 : decode cX5_wouldBreak 20 = .ok (.iload_n 2, 1) := by decide +kernel
theorem dX5_wouldBreak_21 : decode cX5_wouldBreak 21 = .ok (.iaload, 1) := by decide +kernel
theorem dX5_wouldBreak_22 : decode cX5_wouldBreak 22 = .ok (.aload_n 0, 1) := by decide +kernel
theorem dX5_wouldBreak_23 : decode cX5_wouldBreak 23 = .ok (.getfield 9, 3) := by decide +kernel
theorem dX5_wouldBreak_26 : decode cX5_wouldBreak 26 = .ok (.iload_n 2, 1) := by decide +kernel
theorem dX5_wouldBreak_27 : decode cX5_wouldBreak 27 = .ok (.ishr, 1) := by decide +kernel
theorem dX5_wouldBreak_28 : decode cX5_wouldBreak 28 = .ok (.iconst 1, 1) := by decide +kernel
theorem dX5_wouldBreak_29 : decode cX5_wouldBreak 29 = .ok (.iand, 1) := by decide +kernel
theorem dX5_wouldBreak_30 : decode cX5_wouldBreak 30 = .ok (.iadd, 1) := by decide +kernel
theorem dX5_wouldBreak_31 : decode cX5_wouldBreak 31 = .ok (.bipush 12, 2) := by decide +kernel
theorem dX5_wouldBreak_33 : decode cX5_wouldBreak 33 = .ok (.if_icmp .ne 7, 3) := by decide +kernel
theorem dX5_wouldBreak_36 : decode cX5_wouldBreak 36 = .ok (.iconst 1, 1) := by decide +kernel
theorem dX5_wouldBreak_37 : decode cX5_wouldBreak 37 = .ok (.goto 4, 3) := by decide +kernel
theorem dX5_wouldBreak_40 : decode cX5_wouldBreak 40 = .ok (.iconst 0, 1) := by decide +kernel
theorem dX5_wouldBreak_41 : decode cX5_wouldBreak 41 = .ok (.iadd, 1) := by decide +kernel
theorem dX5_wouldBreak_42 : decode cX5_wouldBreak 42 = .ok (.istore_n 1, 1) := by decide +kernel
theorem dX5_wouldBreak_43 : decode cX5_wouldBreak 43 = .ok (.iinc 2 1, 3) := by decide +kernel
theorem dX5_wouldBreak_46 : decode cX5_wouldBreak 46 = .ok (.goto (-37), 3) := by decide +kernel
theorem dX5_wouldBreak_49 : decode cX5_wouldBreak 49 = .ok (.iload_n 1, 1) := by decide +kernel
theorem dX5_wouldBreak_50 : decode cX5_wouldBreak 50 = .ok (.ireturn, 1) := by decide +kernel
set_option maxRecDepth 20000 in
theorem ggX5_meanScore_X5_score : GoodIn wsX5_meanScore wsX5_score := goodIn_r _ [7, 8, 9, 10, 6, 11, 12, 13, 14, 15, 16, 17, 18, 19, 20, 21, 22, 23, 24, 25, 26, 27, 28, 29, 30, 31, 32, 33, 34, 35, 36, 37, 38, 39, 40, 41, 42, 43, 44] (by decide +kernel) (by decide +kernel)
set_option maxRecDepth 20000 in
theorem gX5_meanScore_X5_score : GoodIn wsX5_meanScore (wsV RX5 134 RX5 yX5_score wsX5_score) := goodIn_app (goodIn_of _ (by decide +kernel)) ggX5_meanScore_X5_score
theorem dX5_meanScore_0 : decode cX5_meanScore 0 = .ok (.aload_n 0, 1) := by decide +kernel
theorem dX5_meanScore_1 : decode cX5_meanScore 1 = .ok (.iconst 0, 1) := by decide +kernel
theorem dX5_meanScore_2 : decode cX5_meanScore 2 = .ok (.putfield 41, 3) := by decide +kernel
theorem dX5_meanScore_5 : decode cX5_meanScore 5 = .ok (.iconst 0, 1) := by decide +kernel
theorem dX5_meanScore_6 : decode cX5_meanScore 6 = .ok (.istore_n 1, 1) := by decide +kernel
theorem dX5_meanScore_7 : decode cX5_meanScore 7 = .ok (.iconst 0, 1) := by decide +kernel
theorem dX5_meanScore_8 : decode cX5_meanScore 8 = .ok (.istore_n 2, 1) := by decide +kernel
theorem dX5_meanScore_9 : decode cX5_meanScore 9 = .ok (.iload_n 2, 1) := by decide +kernel
theorem dX5_meanScore_10 : decode cX5_meanScore 10 = .ok (.aload_n 0, 1) := by decide +kernel
theorem dX5_meanScore_11 : decode cX5_meanScore 11 = .ok (.getfield 48, 3) := by decide +kernel
theorem dX5_meanScore_14 : decode cX5_meanScore 14 = .ok (.if_icmp .ge 17, 3) := by decide +kernel
theorem dX5_meanScore_17 : decode cX5_meanScore 17 = .ok (.iload_n 1, 1) := by decide +kernel
theorem dX5_meanScore_18 : decode cX5_meanScore 18 = .ok (.aload_n 0, 1) := by decide +kernel
theorem dX5_meanScore_19 : decode cX5_meanScore 19 = .ok (.iload_n 2, 1) := by decide +kernel
theorem dX5_meanScore_20 : decode cX5_meanScore 20 = .ok (.invokevirtual 134, 3) := by decide +kernel
theorem dX5_meanScore_23 : decode cX5_meanScore 23 = .ok (.iadd, 1) := by decide +kernel
theorem dX5_meanScore_24 : decode cX5_meanScore 24 = .ok (.istore_n 1, 1) := by decide +kernel
theorem dX5_meanScore_25 : decode cX5_meanScore 25 = .ok (.iinc 2 1, 3) := by decide +kernel
theorem dX5_meanScore_28 : decode cX5_meanScore 28 = .ok (.goto (-19), 3) := by decide +kernel
theorem dX5_meanScore_31 : decode cX5_meanScore 31 = .ok (.aload_n 0, 1) := by decide +kernel
theorem dX5_meanScore_32 : decode cX5_meanScore 32 = .ok (.getfield 48, 3) := by decide +kernel
theorem dX5_meanScore_35 : decode cX5_meanScore 35 = .ok (.ifCond .ne 7, 3) := by decide +kernel
theorem dX5_meanScore_38 : decode cX5_meanScore 38 = .ok (.dconst 0, 1) := by decide +kernel
theorem dX5_meanScore_39 : decode cX5_meanScore 39 = .ok (.goto 11, 3) := by decide +kernel
theorem dX5_meanScore_42 : decode cX5_meanScore 42 = .ok (.iload_n 1, 1) := by decide +kernel
theorem dX5_meanScore_43 : decode cX5_meanScore 43 = .ok (.i2d, 1) := by decide +kernel
theorem dX5_meanScore_44 : decode cX5_meanScore 44 = .ok (.aload_n 0, 1) := by decide +kernel
theorem dX5_meanScore_45 : decode cX5_meanScore 45 = .ok (.getfield 48, 3) := by decide +kernel
theorem dX5_meanScore_48 : decode cX5_meanScore 48 = .ok (.i2d, 1) := by decide +kernel
theorem dX5_meanScore_49 : decode cX5_meanScore 49 = .ok (.ddiv, 1) := by decide +kernel
theorem dX5_meanScore_50 : decode cX5_meanScore 50 = .ok (.dreturn, 1) := by decide +kernel
set_option maxRecDepth 20000 in
theorem ggX5_digest_X5_turnNow : GoodIn wsX5_digest wsX5_turnNow := goodIn_r _ [19, 3, 20, 21, 22, 23, 18, 24, 4, 81, 82, 83, 84, 85, 86, 87, 88, 89, 90, 91, 92, 93, 94, 95] (by decide +kernel) (by decide +kernel)
set_option maxRecDepth 20000 in
theorem gX5_digest_X5_turnNow : GoodIn wsX5_digest (wsV RX5 149 RX5 yX5_turnNow wsX5_turnNow) := goodIn_app (goodIn_of _ (by decide +kernel)) ggX5_digest_X5_turnNow
set_option maxRecDepth 20000 in
theorem ggX5_digest_X5_best : GoodIn wsX5_digest wsX5_best := goodIn_r _ [28, 11, 9, 29, 30, 18, 31, 32, 33, 34, 35, 36, 37, 38, 39, 40, 41, 42, 43, 44, 45, 46, 47, 48, 49, 50, 81, 82, 83, 84, 85, 86, 87, 88, 89, 90, 91, 92, 93, 94, 95] (by decide +kernel) (by decide +kernel)
set_option maxRecDepth 20000 in
theorem gX5_digest_X5_best : GoodIn wsX5_digest (wsV RX5 162 RX5 yX5_best wsX5_best) := goodIn_app (goodIn_of _ (by decide +kernel)) ggX5_digest_X5_best
set_option maxRecDepth 20000 in
theorem ggX5_digest_X5_clear : GoodIn wsX5_digest wsX5_clear := goodIn_r _ [54, 9, 55, 56, 18, 57, 29, 30, 31, 32, 33, 34, 35, 36, 37, 38, 39, 40, 41, 42, 43, 81, 82, 83, 84, 85, 86, 87, 88, 89, 90, 91, 92, 93, 94, 95] (by decide +kernel) (by decide +kernel)
set_option maxRecDepth 20000 in
theorem gX5_digest_X5_clear : GoodIn wsX5_digest (wsV RX5 168 RX5 yX5_clear wsX5_clear) := goodIn_app (goodIn_of _ (by decide +kernel)) ggX5_digest_X5_clear
set_option maxRecDepth 20000 in
theorem ggX5_digest_X5_score : GoodIn wsX5_digest wsX5_score := goodIn_r _ [61, 62, 63, 64, 18, 65, 4, 20, 12, 66, 67, 68, 69, 70, 71, 72, 73, 74, 75, 76, 77, 78, 79, 80, 81, 82, 83, 84, 85, 86, 87, 88, 89, 90, 91, 92, 93, 94, 95] (by decide +kernel) (by decide +kernel)
set_option maxRecDepth 20000 in
theorem gX5_digest_X5_score : GoodIn wsX5_digest (wsV RX5 134 RX5 yX5_score wsX5_score) := goodIn_app (goodIn_of _ (by decide +kernel)) ggX5_digest_X5_score
set_option maxRecDepth 20000 in
theorem ggX5_digest_X5_points : GoodIn wsX5_digest wsX5_points := goodIn_r _ [65, 4, 20, 12, 66, 67, 68, 69, 18, 70, 71, 72, 73, 74, 75, 76, 77, 78, 79, 80, 81, 82, 83, 84, 85, 86, 87, 88, 89, 90, 91, 92, 93, 94, 95] (by decide +kernel) (by decide +kernel)
set_option maxRecDepth 20000 in
theorem gX5_digest_X5_points : GoodIn wsX5_digest (wsV RX5 131 RX5 yX5_points wsX5_points) := goodIn_app (goodIn_of _ (by decide +kernel)) ggX5_digest_X5_points
theorem dX5_digest_0 : decode cX5_digest 0 = .ok (.aload_n 0, 1) := by decide +kernel
theorem dX5_digest_1 : decode cX5_digest 1 = .ok (.iconst 0, 1) := by decide +kernel
theorem dX5_digest_2 : decode cX5_digest 2 = .ok (.putfield 41, 3) := by decide +kernel
theorem dX5_digest_5 : decode cX5_digest 5 = .ok (.bipush 7, 2) := by decide +kernel
theorem dX5_digest_7 : decode cX5_digest 7 = .ok (.newarray .int, 2) := by decide +kernel
theorem dX5_digest_9 : decode cX5_digest 9 = .ok (.dup, 1) := by decide +kernel
theorem dX5_digest_10 : decode cX5_digest 10 = .ok (.iconst 0, 1) := by decide +kernel
theorem dX5_digest_11 : decode cX5_digest 11 = .ok (.aload_n 0, 1) := by decide +kernel
theorem dX5_digest_12 : decode cX5_digest 12 = .ok (.getfield 48, 3) := by decide +kernel
theorem dX5_digest_15 : decode cX5_digest 15 = .ok (.iastore, 1) := by decide +kernel
theorem dX5_digest_16 : decode cX5_digest 16 = .ok (.dup, 1) := by decide +kernel
theorem dX5_digest_17 : decode cX5_digest 17 = .ok (.iconst 1, 1) := by decide +kernel
theorem dX5_digest_18 : decode cX5_digest 18 = .ok (.aload_n 0, 1) := by decide +kernel
theorem dX5_digest_19 : decode cX5_digest 19 = .ok (.invokevirtual 149, 3) := by decide +kernel
theorem dX5_digest_22 : decode cX5_digest 22 = .ok (.iastore, 1) := by decide +kernel
theorem dX5_digest_23 : decode cX5_digest 23 = .ok (.dup, 1) := by decide +kernel
theorem dX5_digest_24 : decode cX5_digest 24 = .ok (.iconst 2, 1) := by decide +kernel
theorem dX5_digest_25 : decode cX5_digest 25 = .ok (.aload_n 0, 1) := by decide +kernel
theorem dX5_digest_26 : decode cX5_digest 26 = .ok (.getfield 72, 3) := by decide +kernel
theorem dX5_digest_29 : decode cX5_digest 29 = .ok (.iastore, 1) := by decide +kernel
theorem dX5_digest_30 : decode cX5_digest 30 = .ok (.dup, 1) := by decide +kernel
theorem dX5_digest_31 : decode cX5_digest 31 = .ok (.iconst 3, 1) := by decide +kernel
theorem dX5_digest_32 : decode cX5_digest 32 = .ok (.aload_n 0, 1) := by decide +kernel
theorem dX5_digest_33 : decode cX5_digest 33 = .ok (.getfield 97, 3) := by decide +kernel
theorem dX5_digest_36 : decode cX5_digest 36 = .ok (.iastore, 1) := by decide +kernel
theorem dX5_digest_37 : decode cX5_digest 37 = .ok (.dup, 1) := by decide +kernel
theorem dX5_digest_38 : decode cX5_digest 38 = .ok (.iconst 4, 1) := by decide +kernel
theorem dX5_digest_39 : decode cX5_digest 39 = .ok (.aload_n 0, 1) := by decide +kernel
theorem dX5_digest_40 : decode cX5_digest 40 = .ok (.getfield 20, 3) := by decide +kernel
theorem dX5_digest_43 : decode cX5_digest 43 = .ok (.iastore, 1) := by decide +kernel
theorem dX5_digest_44 : decode cX5_digest 44 = .ok (.dup, 1) := by decide +kernel
theorem dX5_digest_45 : decode cX5_digest 45 = .ok (.iconst 5, 1) := by decide +kernel
theorem dX5_digest_46 : decode cX5_digest 46 = .ok (.aload_n 0, 1) := by decide +kernel
theorem dX5_digest_47 : decode cX5_digest 47 = .ok (.invokevirtual 162, 3) := by decide +kernel
theorem dX5_digest_50 : decode cX5_digest 50 = .ok (.iastore, 1) := by decide +kernel
theorem dX5_digest_51 : decode cX5_digest 51 = .ok (.dup, 1) := by decide +kernel
theorem dX5_digest_52 : decode cX5_digest 52 = .ok (.bipush 6, 2) := by decide +kernel
theorem dX5_digest_54 : decode cX5_digest 54 = .ok (.aload_n 0, 1) := by decide +kernel
theorem dX5_digest_55 : decode cX5_digest 55 = .ok (.invokevirtual 168, 3) := by decide +kernel
theorem dX5_digest_58 : decode cX5_digest 58 = .ok (.iastore, 1) := by decide +kernel
theorem dX5_digest_59 : decode cX5_digest 59 = .ok (.astore_n 1, 1) := by decide +kernel
theorem dX5_digest_60 : decode cX5_digest 60 = .ok (.ldc2_w 171, 3) := by decide +kernel
theorem dX5_digest_63 : decode cX5_digest 63 = .ok (.lstore_n 2, 1) := by decide +kernel
theorem dX5_digest_64 : decode cX5_digest 64 = .ok (.aload_n 1, 1) := by decide +kernel
theorem dX5_digest_65 : decode cX5_digest 65 = .ok (.astore 4, 2) := by decide +kernel
theorem dX5_digest_67 : decode cX5_digest 67 = .ok (.aload 4, 2) := by decide +kernel
theorem dX5_digest_69 : decode cX5_digest 69 = .ok (.arraylength, 1) := by decide +kernel
theorem dX5_digest_70 : decode cX5_digest 70 = .ok (.istore 5, 2) := by decide +kernel
theorem dX5_digest_72 : decode cX5_digest 72 = .ok (.iconst 0, 1) := by decide +kernel
theorem dX5_digest_73 : decode cX5_digest 73 = .ok (.istore 6, 2) := by decide +kernel
theorem dX5_digest_75 : decode cX5_digest 75 = .ok (.iload 6, 2) := by decide +kernel
theorem dX5_digest_77 : decode cX5_digest 77 = .ok (.iload 5, 2) := by decide +kernel
theorem dX5_digest_79 : decode cX5_digest 79 = .ok (.if_icmp .ge 26, 3) := by decide +kernel
theorem dX5_digest_82 : decode cX5_digest 82 = .ok (.aload 4, 2) := by decide +kernel
theorem dX5_digest_84 : decode cX5_digest 84 = .ok (.iload 6, 2) := by decide +kernel
theorem dX5_digest_86 : decode cX5_digest 86 = .ok (.iaload, 1) := by decide +kernel
theorem dX5_digest_87 : decode cX5_digest 87 = .ok (.istore 7, 2) := by decide +kernel
theorem dX5_digest_89 : decode cX5_digest 89 = .ok (.lload_n 2, 1) := by decide +kernel
theorem dX5_digest_90 : decode cX5_digest 90 = .ok (.ldc2_w 173, 3) := by decide +kernel
theorem dX5_digest_93 : decode cX5_digest 93 = .ok (.lmul, 1) := by decide +kernel
theorem dX5_digest_94 : decode cX5_digest 94 = .ok (.iload 7, 2) := by decide +kernel
theorem dX5_digest_96 : decode cX5_digest 96 = .ok (.i2l, 1) := by decide +kernel
theorem dX5_digest_97 : decode cX5_digest 97 = .ok (.ladd, 1) := by decide +kernel
theorem dX5_digest_98 : decode cX5_digest 98 = .ok (.lstore_n 2, 1) := by decide +kernel
theorem dX5_digest_99 : decode cX5_digest 99 = .ok (.iinc 6 1, 3) := by decide +kernel
theorem dX5_digest_102 : decode cX5_digest 102 = .ok (.goto (-27), 3) := by decide +kernel
theorem dX5_digest_105 : decode cX5_digest 105 = .ok (.iconst 0, 1) := by decide +kernel
theorem dX5_digest_106 : decode cX5_digest 106 = .ok (.istore 4, 2) := by decide +kernel
theorem dX5_digest_108 : decode cX5_digest 108 = .ok (.iload 4, 2) := by decide +kernel
theorem dX5_digest_110 : decode cX5_digest 110 = .ok (.bipush 9, 2) := by decide +kernel
theorem dX5_digest_112 : decode cX5_digest 112 = .ok (.if_icmp .ge 39, 3) := by decide +kernel
theorem dX5_digest_115 : decode cX5_digest 115 = .ok (.lload_n 2, 1) := by decide +kernel
theorem dX5_digest_116 : decode cX5_digest 116 = .ok (.ldc2_w 173, 3) := by decide +kernel
theorem dX5_digest_119 : decode cX5_digest 119 = .ok (.lmul, 1) := by decide +kernel
theorem dX5_digest_120 : decode cX5_digest 120 = .ok (.aload_n 0, 1) := by decide +kernel
theorem dX5_digest_121 : decode cX5_digest 121 = .ok (.getfield 9, 3) := by decide +kernel
theorem dX5_digest_124 : decode cX5_digest 124 = .ok (.iload 4, 2) := by decide +kernel
theorem dX5_digest_126 : decode cX5_digest 126 = .ok (.ishr, 1) := by decide +kernel
theorem dX5_digest_127 : decode cX5_digest 127 = .ok (.iconst 1, 1) := by decide +kernel
theorem dX5_digest_128 : decode cX5_digest 128 = .ok (.iand, 1) := by decide +kernel
theorem dX5_digest_129 : decode cX5_digest 129 = .ok (.i2l, 1) := by decide +kernel
theorem dX5_digest_130 : decode cX5_digest 130 = .ok (.ladd, 1) := by decide +kernel
theorem dX5_digest_131 : decode cX5_digest 131 = .ok (.ldc2_w 173, 3) := by decide +kernel
theorem dX5_digest_134 : decode cX5_digest 134 = .ok (.lmul, 1) := by decide +kernel
theorem dX5_digest_135 : decode cX5_digest 135 = .ok (.aload_n 0, 1) := by decide +kernel
theorem dX5_digest_136 : decode cX5_digest 136 = .ok (.getfield 13, 3) := by decide +kernel
theorem dX5_digest_139 : decode cX5_digest 139 = .ok (.iload 4, 2) := by decide +kernel
theorem dX5_digest_141 : decode cX5_digest 141 = .ok (.iaload, 1) := by decide +kernel
theorem dX5_digest_142 : decode cX5_digest 142 = .ok (.i2l, 1) := by decide +kernel
theorem dX5_digest_143 : decode cX5_digest 143 = .ok (.ladd, 1) := by decide +kernel
theorem dX5_digest_144 : decode cX5_digest 144 = .ok (.lstore_n 2, 1) := by decide +kernel
theorem dX5_digest_145 : decode cX5_digest 145 = .ok (.iinc 4 1, 3) := by decide +kernel
theorem dX5_digest_148 : decode cX5_digest 148 = .ok (.goto (-40), 3) := by decide +kernel
theorem dX5_digest_151 : decode cX5_digest 151 = .ok (.iconst 0, 1) := by decide +kernel
theorem dX5_digest_152 : decode cX5_digest 152 = .ok (.istore 4, 2) := by decide +kernel
theorem dX5_digest_154 : decode cX5_digest 154 = .ok (.iload 4, 2) := by decide +kernel
theorem dX5_digest_156 : decode cX5_digest 156 = .ok (.iconst 5, 1) := by decide +kernel
theorem dX5_digest_157 : decode cX5_digest 157 = .ok (.if_icmp .ge 24, 3) := by decide +kernel
theorem dX5_digest_160 : decode cX5_digest 160 = .ok (.lload_n 2, 1) := by decide +kernel
theorem dX5_digest_161 : decode cX5_digest 161 = .ok (.ldc2_w 173, 3) := by decide +kernel
theorem dX5_digest_164 : decode cX5_digest 164 = .ok (.lmul, 1) := by decide +kernel
theorem dX5_digest_165 : decode cX5_digest 165 = .ok (.aload_n 0, 1) := by decide +kernel
theorem dX5_digest_166 : decode cX5_digest 166 = .ok (.getfield 17, 3) := by decide +kernel
theorem dX5_digest_169 : decode cX5_digest 169 = .ok (.iload 4, 2) := by decide +kernel
theorem dX5_digest_171 : decode cX5_digest 171 = .ok (.iaload, 1) := by decide +kernel
theorem dX5_digest_172 : decode cX5_digest 172 = .ok (.i2l, 1) := by decide +kernel
theorem dX5_digest_173 : decode cX5_digest 173 = .ok (.ladd, 1) := by decide +kernel
theorem dX5_digest_174 : decode cX5_digest 174 = .ok (.lstore_n 2, 1) := by decide +kernel
theorem dX5_digest_175 : decode cX5_digest 175 = .ok (.iinc 4 1, 3) := by decide +kernel
theorem dX5_digest_178 : decode cX5_digest 178 = .ok (.goto (-24), 3) := by decide +kernel
theorem dX5_digest_181 : decode cX5_digest 181 = .ok (.iconst 0, 1) := by decide +kernel
theorem dX5_digest_182 : decode cX5_digest 182 = .ok (.istore 4, 2) := by decide +kernel
theorem dX5_digest_184 : decode cX5_digest 184 = .ok (.iload 4, 2) := by decide +kernel
theorem dX5_digest_186 : decode cX5_digest 186 = .ok (.aload_n 0, 1) := by decide +kernel
theorem dX5_digest_187 : decode cX5_digest 187 = .ok (.getfield 48, 3) := by decide +kernel
theorem dX5_digest_190 : decode cX5_digest 190 = .ok (.if_icmp .ge 94, 3) := by decide +kernel
theorem dX5_digest_193 : decode cX5_digest 193 = .ok (.lload_n 2, 1) := by decide +kernel
theorem dX5_digest_194 : decode cX5_digest 194 = .ok (.ldc2_w 173, 3) := by decide +kernel
theorem dX5_digest_197 : decode cX5_digest 197 = .ok (.lmul, 1) := by decide +kernel
theorem dX5_digest_198 : decode cX5_digest 198 = .ok (.aload_n 0, 1) := by decide +kernel
theorem dX5_digest_199 : decode cX5_digest 199 = .ok (.getfield 23, 3) := by decide +kernel
theorem dX5_digest_202 : decode cX5_digest 202 = .ok (.iload 4, 2) := by decide +kernel
theorem dX5_digest_204 : decode cX5_digest 204 = .ok (.iaload, 1) := by decide +kernel
theorem dX5_digest_205 : decode cX5_digest 205 = .ok (.i2l, 1) := by decide +kernel
theorem dX5_digest_206 : decode cX5_digest 206 = .ok (.ladd, 1) := by decide +kernel
theorem dX5_digest_207 : decode cX5_digest 207 = .ok (.ldc2_w 173, 3) := by decide +kernel
theorem dX5_digest_210 : decode cX5_digest 210 = .ok (.lmul, 1) := by decide +kernel
theorem dX5_digest_211 : decode cX5_digest 211 = .ok (.aload_n 0, 1) := by decide +kernel
theorem dX5_digest_212 : decode cX5_digest 212 = .ok (.iload 4, 2) := by decide +kernel
theorem dX5_digest_214 : decode cX5_digest 214 = .ok (.invokevirtual 134, 3) := by decide +kernel
theorem dX5_digest_217 : decode cX5_digest 217 = .ok (.i2l, 1) := by decide +kernel
theorem dX5_digest_218 : decode cX5_digest 218 = .ok (.ladd, 1) := by decide +kernel
theorem dX5_digest_219 : decode cX5_digest 219 = .ok (.ldc2_w 173, 3) := by decide +kernel
theorem dX5_digest_222 : decode cX5_digest 222 = .ok (.lmul, 1) := by decide +kernel
theorem dX5_digest_223 : decode cX5_digest 223 = .ok (.aload_n 0, 1) := by decide +kernel
theorem dX5_digest_224 : decode cX5_digest 224 = .ok (.getfield 32, 3) := by decide +kernel
theorem dX5_digest_227 : decode cX5_digest 227 = .ok (.iload 4, 2) := by decide +kernel
theorem dX5_digest_229 : decode cX5_digest 229 = .ok (.iaload, 1) := by decide +kernel
theorem dX5_digest_230 : decode cX5_digest 230 = .ok (.i2l, 1) := by decide +kernel
theorem dX5_digest_231 : decode cX5_digest 231 = .ok (.ladd, 1) := by decide +kernel
theorem dX5_digest_232 : decode cX5_digest 232 = .ok (.ldc2_w 173, 3) := by decide +kernel
theorem dX5_digest_235 : decode cX5_digest 235 = .ok (.lmul, 1) := by decide +kernel
theorem dX5_digest_236 : decode cX5_digest 236 = .ok (.aload_n 0, 1) := by decide +kernel
theorem dX5_digest_237 : decode cX5_digest 237 = .ok (.getfield 35, 3) := by decide +kernel
theorem dX5_digest_240 : decode cX5_digest 240 = .ok (.iload 4, 2) := by decide +kernel
theorem dX5_digest_242 : decode cX5_digest 242 = .ok (.iaload, 1) := by decide +kernel
theorem dX5_digest_243 : decode cX5_digest 243 = .ok (.i2l, 1) := by decide +kernel
theorem dX5_digest_244 : decode cX5_digest 244 = .ok (.ladd, 1) := by decide +kernel
theorem dX5_digest_245 : decode cX5_digest 245 = .ok (.lstore_n 2, 1) := by decide +kernel
theorem dX5_digest_246 : decode cX5_digest 246 = .ok (.iconst 0, 1) := by decide +kernel
theorem dX5_digest_247 : decode cX5_digest 247 = .ok (.istore 5, 2) := by decide +kernel
theorem dX5_digest_249 : decode cX5_digest 249 = .ok (.iload 5, 2) := by decide +kernel
theorem dX5_digest_251 : decode cX5_digest 251 = .ok (.bipush 10, 2) := by decide +kernel
theorem dX5_digest_253 : decode cX5_digest 253 = .ok (.if_icmp .ge 25, 3) := by decide +kernel
theorem dX5_digest_256 : decode cX5_digest 256 = .ok (.lload_n 2, 1) := by decide +kernel
theorem dX5_digest_257 : decode cX5_digest 257 = .ok (.ldc2_w 173, 3) := by decide +kernel
theorem dX5_digest_260 : decode cX5_digest 260 = .ok (.lmul, 1) := by decide +kernel
theorem dX5_digest_261 : decode cX5_digest 261 = .ok (.aload_n 0, 1) := by decide +kernel
theorem dX5_digest_262 : decode cX5_digest 262 = .ok (.iload 4, 2) := by decide +kernel
theorem dX5_digest_264 : decode cX5_digest 264 = .ok (.iload 5, 2) := by decide +kernel
theorem dX5_digest_266 : decode cX5_digest 266 = .ok (.invokevirtual 131, 3) := by decide +kernel
theorem dX5_digest_269 : decode cX5_digest 269 = .ok (.i2l, 1) := by decide +kernel
theorem dX5_digest_270 : decode cX5_digest 270 = .ok (.ladd, 1) := by decide +kernel
theorem dX5_digest_271 : decode cX5_digest 271 = .ok (.lstore_n 2, 1) := by decide +kernel
theorem dX5_digest_272 : decode cX5_digest 272 = .ok (.iinc 5 1, 3) := by decide +kernel
theorem dX5_digest_275 : decode cX5_digest 275 = .ok (.goto (-26), 3) := by decide +kernel
theorem dX5_digest_278 : decode cX5_digest 278 = .ok (.iinc 4 1, 3) := by decide +kernel
theorem dX5_digest_281 : decode cX5_digest 281 = .ok (.goto (-97), 3) := by decide +kernel
theorem dX5_digest_284 : decode cX5_digest 284 = .ok (.lload_n 2, 1) := by decide +kernel
theorem dX5_digest_285 : decode cX5_digest 285 = .ok (.lreturn, 1) := by decide +kernel
theorem dJ6_numberOfLeadingZeros_0f7a4_0 : decode cJ6_numberOfLeadingZeros_0f7a4 0 = .ok (.iload_n 0, 1) := by decide +kernel
theorem dJ6_numberOfLeadingZeros_0f7a4_1 : decode cJ6_numberOfLeadingZeros_0f7a4 1 = .ok (.ifCond .gt 14, 3) := by decide +kernel
theorem dJ6_numberOfLeadingZeros_0f7a4_4 : decode cJ6_numberOfLeadingZeros_0f7a4 4 = .ok (.iload_n 0, 1) := by decide +kernel
theorem dJ6_numberOfLeadingZeros_0f7a4_5 : decode cJ6_numberOfLeadingZeros_0f7a4 5 = .ok (.ifCond .ne 8, 3) := by decide +kernel
theorem dJ6_numberOfLeadingZeros_0f7a4_8 : decode cJ6_numberOfLeadingZeros_0f7a4 8 = .ok (.bipush 32, 2) := by decide +kernel
theorem dJ6_numberOfLeadingZeros_0f7a4_10 : decode cJ6_numberOfLeadingZeros_0f7a4 10 = .ok (.goto 4, 3) := by decide +kernel
theorem dJ6_numberOfLeadingZeros_0f7a4_13 : decode cJ6_numberOfLeadingZeros_0f7a4 13 = .ok (.iconst 0, 1) := by decide +kernel
theorem dJ6_numberOfLeadingZeros_0f7a4_14 : decode cJ6_numberOfLeadingZeros_0f7a4 14 = .ok (.ireturn, 1) := by decide +kernel
theorem dJ6_numberOfLeadingZeros_0f7a4_15 : decode cJ6_numberOfLeadingZeros_0f7a4 15 = .ok (.bipush 31, 2) := by decide +kernel
theorem dJ6_numberOfLeadingZeros_0f7a4_17 : decode cJ6_numberOfLeadingZeros_0f7a4 17 = .ok (.istore_n 1, 1) := by decide +kernel
theorem dJ6_numberOfLeadingZeros_0f7a4_18 : decode cJ6_numberOfLeadingZeros_0f7a4 18 = .ok (.iload_n 0, 1) := by decide +kernel
theorem dJ6_numberOfLeadingZeros_0f7a4_19 : decode cJ6_numberOfLeadingZeros_0f7a4 19 = .ok (.ldc_w 264, 3) := by decide +kernel
theorem dJ6_numberOfLeadingZeros_0f7a4_22 : decode cJ6_numberOfLeadingZeros_0f7a4 22 = .ok (.if_icmp .lt 11, 3) := by decide +kernel
theorem dJ6_numberOfLeadingZeros_0f7a4_25 : decode cJ6_numberOfLeadingZeros_0f7a4 25 = .ok (.iinc 1 (-16), 3) := by decide +kernel
theorem dJ6_numberOfLeadingZeros_0f7a4_28 : decode cJ6_numberOfLeadingZeros_0f7a4 28 = .ok (.iload_n 0, 1) := by decide +kernel
theorem dJ6_numberOfLeadingZeros_0f7a4_29 : decode cJ6_numberOfLeadingZeros_0f7a4 29 = .ok (.bipush 16, 2) := by decide +kernel
theorem dJ6_numberOfLeadingZeros_0f7a4_31 : decode cJ6_numberOfLeadingZeros_0f7a4 31 = .ok (.iushr, 1) := by decide +kernel
theorem dJ6_numberOfLeadingZeros_0f7a4_32 : decode cJ6_numberOfLeadingZeros_0f7a4 32 = .ok (.istore_n 0, 1) := by decide +kernel
theorem dJ6_numberOfLeadingZeros_0f7a4_33 : decode cJ6_numberOfLeadingZeros_0f7a4 33 = .ok (.iload_n 0, 1) := by decide +kernel
theorem dJ6_numberOfLeadingZeros_0f7a4_34 : decode cJ6_numberOfLeadingZeros_0f7a4 34 = .ok (.sipush 256, 3) := by decide +kernel
theorem dJ6_numberOfLeadingZeros_0f7a4_37 : decode cJ6_numberOfLeadingZeros_0f7a4 37 = .ok (.if_icmp .lt 11, 3) := by decide +kernel
theorem dJ6_numberOfLeadingZeros_0f7a4_40 : decode cJ6_numberOfLeadingZeros_0f7a4 40 = .ok (.iinc 1 (-8), 3) := by decide +kernel
theorem dJ6_numberOfLeadingZeros_0f7a4_43 : decode cJ6_numberOfLeadingZeros_0f7a4 43 = .ok (.iload_n 0, 1) := by decide +kernel
theorem dJ6_numberOfLeadingZeros_0f7a4_44 : decode cJ6_numberOfLeadingZeros_0f7a4 44 = .ok (.bipush 8, 2) := by decide +kernel
theorem dJ6_numberOfLeadingZeros_0f7a4_46 : decode cJ6_numberOfLeadingZeros_0f7a4 46 = .ok (.iushr, 1) := by decide +kernel
theorem dJ6_numberOfLeadingZeros_0f7a4_47 : decode cJ6_numberOfLeadingZeros_0f7a4 47 = .ok (.istore_n 0, 1) := by decide +kernel
theorem dJ6_numberOfLeadingZeros_0f7a4_48 : decode cJ6_numberOfLeadingZeros_0f7a4 48 = .ok (.iload_n 0, 1) := by decide +kernel
theorem dJ6_numberOfLeadingZeros_0f7a4_49 : decode cJ6_numberOfLeadingZeros_0f7a4 49 = .ok (.bipush 16, 2) := by decide +kernel
theorem dJ6_numberOfLeadingZeros_0f7a4_51 : decode cJ6_numberOfLeadingZeros_0f7a4 51 = .ok (.if_icmp .lt 10, 3) := by decide +kernel
theorem dJ6_numberOfLeadingZeros_0f7a4_54 : decode cJ6_numberOfLeadingZeros_0f7a4 54 = .ok (.iinc 1 (-4), 3) := by decide +kernel
theorem dJ6_numberOfLeadingZeros_0f7a4_57 : decode cJ6_numberOfLeadingZeros_0f7a4 57 = .ok (.iload_n 0, 1) := by decide +kernel
theorem dJ6_numberOfLeadingZeros_0f7a4_58 : decode cJ6_numberOfLeadingZeros_0f7a4 58 = .ok (.iconst 4, 1) := by decide +kernel
theorem dJ6_numberOfLeadingZeros_0f7a4_59 : decode cJ6_numberOfLeadingZeros_0f7a4 59 = .ok (.iushr, 1) := by decide +kernel
theorem dJ6_numberOfLeadingZeros_0f7a4_60 : decode cJ6_numberOfLeadingZeros_0f7a4 60 = .ok (.istore_n 0, 1) := by decide +kernel
theorem dJ6_numberOfLeadingZeros_0f7a4_61 : decode cJ6_numberOfLeadingZeros_0f7a4 61 = .ok (.iload_n 0, 1) := by decide +kernel
theorem dJ6_numberOfLeadingZeros_0f7a4_62 : decode cJ6_numberOfLeadingZeros_0f7a4 62 = .ok (.iconst 4, 1) := by decide +kernel
theorem dJ6_numberOfLeadingZeros_0f7a4_63 : decode cJ6_numberOfLeadingZeros_0f7a4 63 = .ok (.if_icmp .lt 10, 3) := by decide +kernel
theorem dJ6_numberOfLeadingZeros_0f7a4_66 : decode cJ6_numberOfLeadingZeros_0f7a4 66 = .ok (.iinc 1 (-2), 3) := by decide +kernel
theorem dJ6_numberOfLeadingZeros_0f7a4_69 : decode cJ6_numberOfLeadingZeros_0f7a4 69 = .ok (.iload_n 0, 1) := by decide +kernel
theorem dJ6_numberOfLeadingZeros_0f7a4_70 : decode cJ6_numberOfLeadingZeros_0f7a4 70 = .ok (.iconst 2, 1) := by decide +kernel
theorem dJ6_numberOfLeadingZeros_0f7a4_71 : decode cJ6_numberOfLeadingZeros_0f7a4 71 = .ok (.iushr, 1) := by decide +kernel
theorem dJ6_numberOfLeadingZeros_0f7a4_72 : decode cJ6_numberOfLeadingZeros_0f7a4 72 = .ok (.istore_n 0, 1) := by decide +kernel
theorem dJ6_numberOfLeadingZeros_0f7a4_73 : decode cJ6_numberOfLeadingZeros_0f7a4 73 = .ok (.iload_n 1, 1) := by decide +kernel
theorem dJ6_numberOfLeadingZeros_0f7a4_74 : decode cJ6_numberOfLeadingZeros_0f7a4 74 = .ok (.iload_n 0, 1) := by decide +kernel
theorem dJ6_numberOfLeadingZeros_0f7a4_75 : decode cJ6_numberOfLeadingZeros_0f7a4 75 = .ok (.iconst 1, 1) := by decide +kernel
theorem dJ6_numberOfLeadingZeros_0f7a4_76 : decode cJ6_numberOfLeadingZeros_0f7a4 76 = .ok (.iushr, 1) := by decide +kernel
theorem dJ6_numberOfLeadingZeros_0f7a4_77 : decode cJ6_numberOfLeadingZeros_0f7a4 77 = .ok (.isub, 1) := by decide +kernel
theorem dJ6_numberOfLeadingZeros_0f7a4_78 : decode cJ6_numberOfLeadingZeros_0f7a4 78 = .ok (.ireturn, 1) := by decide +kernel
theorem dJ6_bitCount_0f7a4_0 : decode cJ6_bitCount_0f7a4 0 = .ok (.iload_n 0, 1) := by decide +kernel
theorem dJ6_bitCount_0f7a4_1 : decode cJ6_bitCount_0f7a4 1 = .ok (.iload_n 0, 1) := by decide +kernel
theorem dJ6_bitCount_0f7a4_2 : decode cJ6_bitCount_0f7a4 2 = .ok (.iconst 1, 1) := by decide +kernel
theorem dJ6_bitCount_0f7a4_3 : decode cJ6_bitCount_0f7a4 3 = .ok (.iushr, 1) := by decide +kernel
theorem dJ6_bitCount_0f7a4_4 : decode cJ6_bitCount_0f7a4 4 = .ok (.ldc_w 265, 3) := by decide +kernel
theorem dJ6_bitCount_0f7a4_7 : decode cJ6_bitCount_0f7a4 7 = .ok (.iand, 1) := by decide +kernel
theorem dJ6_bitCount_0f7a4_8 : decode cJ6_bitCount_0f7a4 8 = .ok (.isub, 1) := by decide +kernel
theorem dJ6_bitCount_0f7a4_9 : decode cJ6_bitCount_0f7a4 9 = .ok (.istore_n 0, 1) := by decide +kernel
theorem dJ6_bitCount_0f7a4_10 : decode cJ6_bitCount_0f7a4 10 = .ok (.iload_n 0, 1) := by decide +kernel
theorem dJ6_bitCount_0f7a4_11 : decode cJ6_bitCount_0f7a4 11 = .ok (.ldc_w 266, 3) := by decide +kernel
theorem dJ6_bitCount_0f7a4_14 : decode cJ6_bitCount_0f7a4 14 = .ok (.iand, 1) := by decide +kernel
theorem dJ6_bitCount_0f7a4_15 : decode cJ6_bitCount_0f7a4 15 = .ok (.iload_n 0, 1) := by decide +kernel
theorem dJ6_bitCount_0f7a4_16 : decode cJ6_bitCount_0f7a4 16 = .ok (.iconst 2, 1) := by decide +kernel
theorem dJ6_bitCount_0f7a4_17 : decode cJ6_bitCount_0f7a4 17 = .ok (.iushr, 1) := by decide +kernel
theorem dJ6_bitCount_0f7a4_18 : decode cJ6_bitCount_0f7a4 18 = .ok (.ldc_w 266, 3) := by decide +kernel
theorem dJ6_bitCount_0f7a4_21 : decode cJ6_bitCount_0f7a4 21 = .ok (.iand, 1) := by decide +kernel
theorem dJ6_bitCount_0f7a4_22 : decode cJ6_bitCount_0f7a4 22 = .ok (.iadd, 1) := by decide +kernel
theorem dJ6_bitCount_0f7a4_23 : decode cJ6_bitCount_0f7a4 23 = .ok (.istore_n 0, 1) := by decide +kernel
theorem dJ6_bitCount_0f7a4_24 : decode cJ6_bitCount_0f7a4 24 = .ok (.iload_n 0, 1) := by decide +kernel
theorem dJ6_bitCount_0f7a4_25 : decode cJ6_bitCount_0f7a4 25 = .ok (.iload_n 0, 1) := by decide +kernel
theorem dJ6_bitCount_0f7a4_26 : decode cJ6_bitCount_0f7a4 26 = .ok (.iconst 4, 1) := by decide +kernel
theorem dJ6_bitCount_0f7a4_27 : decode cJ6_bitCount_0f7a4 27 = .ok (.iushr, 1) := by decide +kernel
theorem dJ6_bitCount_0f7a4_28 : decode cJ6_bitCount_0f7a4 28 = .ok (.iadd, 1) := by decide +kernel
theorem dJ6_bitCount_0f7a4_29 : decode cJ6_bitCount_0f7a4 29 = .ok (.ldc_w 267, 3) := by decide +kernel
theorem dJ6_bitCount_0f7a4_32 : decode cJ6_bitCount_0f7a4 32 = .ok (.iand, 1) := by decide +kernel
theorem dJ6_bitCount_0f7a4_33 : decode cJ6_bitCount_0f7a4 33 = .ok (.istore_n 0, 1) := by decide +kernel
theorem dJ6_bitCount_0f7a4_34 : decode cJ6_bitCount_0f7a4 34 = .ok (.iload_n 0, 1) := by decide +kernel
theorem dJ6_bitCount_0f7a4_35 : decode cJ6_bitCount_0f7a4 35 = .ok (.iload_n 0, 1) := by decide +kernel
theorem dJ6_bitCount_0f7a4_36 : decode cJ6_bitCount_0f7a4 36 = .ok (.bipush 8, 2) := by decide +kernel
theorem dJ6_bitCount_0f7a4_38 : decode cJ6_bitCount_0f7a4 38 = .ok (.iushr, 1) := by decide +kernel
theorem dJ6_bitCount_0f7a4_39 : decode cJ6_bitCount_0f7a4 39 = .ok (.iadd, 1) := by decide +kernel
theorem dJ6_bitCount_0f7a4_40 : decode cJ6_bitCount_0f7a4 40 = .ok (.istore_n 0, 1) := by decide +kernel
theorem dJ6_bitCount_0f7a4_41 : decode cJ6_bitCount_0f7a4 41 = .ok (.iload_n 0, 1) := by decide +kernel
theorem dJ6_bitCount_0f7a4_42 : decode cJ6_bitCount_0f7a4 42 = .ok (.iload_n 0, 1) := by decide +kernel
theorem dJ6_bitCount_0f7a4_43 : decode cJ6_bitCount_0f7a4 43 = .ok (.bipush 16, 2) := by decide +kernel
theorem dJ6_bitCount_0f7a4_45 : decode cJ6_bitCount_0f7a4 45 = .ok (.iushr, 1) := by decide +kernel
theorem dJ6_bitCount_0f7a4_46 : decode cJ6_bitCount_0f7a4 46 = .ok (.iadd, 1) := by decide +kernel
theorem dJ6_bitCount_0f7a4_47 : decode cJ6_bitCount_0f7a4 47 = .ok (.istore_n 0, 1) := by decide +kernel
theorem dJ6_bitCount_0f7a4_48 : decode cJ6_bitCount_0f7a4 48 = .ok (.iload_n 0, 1) := by decide +kernel
theorem dJ6_bitCount_0f7a4_49 : decode cJ6_bitCount_0f7a4 49 = .ok (.bipush 63, 2) := by decide +kernel
theorem dJ6_bitCount_0f7a4_51 : decode cJ6_bitCount_0f7a4 51 = .ok (.iand, 1) := by decide +kernel
theorem dJ6_bitCount_0f7a4_52 : decode cJ6_bitCount_0f7a4 52 = .ok (.ireturn, 1) := by decide +kernel
theorem dJ9_max_7cf53_0 : decode cJ9_max_7cf53 0 = .ok (.iload_n 0, 1) := by decide +kernel
theorem dJ9_max_7cf53_1 : decode cJ9_max_7cf53 1 = .ok (.iload_n 1, 1) := by decide +kernel
theorem dJ9_max_7cf53_2 : decode cJ9_max_7cf53 2 = .ok (.if_icmp .lt 7, 3) := by decide +kernel
theorem dJ9_max_7cf53_5 : decode cJ9_max_7cf53 5 = .ok (.iload_n 0, 1) := by decide +kernel
theorem dJ9_max_7cf53_6 : decode cJ9_max_7cf53 6 = .ok (.goto 4, 3) := by decide +kernel
theorem dJ9_max_7cf53_9 : decode cJ9_max_7cf53 9 = .ok (.iload_n 1, 1) := by decide +kernel
theorem dJ9_max_7cf53_10 : decode cJ9_max_7cf53 10 = .ok (.ireturn, 1) := by decide +kernel
theorem dJ9_min_7cf53_0 : decode cJ9_min_7cf53 0 = .ok (.iload_n 0, 1) := by decide +kernel
theorem dJ9_min_7cf53_1 : decode cJ9_min_7cf53 1 = .ok (.iload_n 1, 1) := by decide +kernel
theorem dJ9_min_7cf53_2 : decode cJ9_min_7cf53 2 = .ok (.if_icmp .gt 7, 3) := by decide +kernel
theorem dJ9_min_7cf53_5 : decode cJ9_min_7cf53 5 = .ok (.iload_n 0, 1) := by decide +kernel
theorem dJ9_min_7cf53_6 : decode cJ9_min_7cf53 6 = .ok (.goto 4, 3) := by decide +kernel
theorem dJ9_min_7cf53_9 : decode cJ9_min_7cf53 9 = .ok (.iload_n 1, 1) := by decide +kernel
theorem dJ9_min_7cf53_10 : decode cJ9_min_7cf53 10 = .ok (.ireturn, 1) := by decide +kernel
end
section
/-! THE WRITER'S OWN KIT, 3: starts; small rows -/
theorem z_incN (a k : Nat) : nI a + Int32.ofInt k = nI (a + k) := by
  rw [show Int32.ofInt (k : Int) = nI k from Int32.ofInt_eq_ofNat]; exact nI_add a k
theorem z_inc (a k : Nat) : nI a + Int32.ofInt (OfNat.ofNat k : Int) = nI (a + k) := z_incN a k
theorem z_dec1 {a : Nat} (h : 1 ≤ a) : nI a + Int32.ofInt (-1) = nI (a - 1) := by
  rw [show Int32.ofInt (-1) = (-1 : Int32) from by decide]
  exact sb_m1 h
theorem z_max {a b : Nat} (ha : a < 2 ^ 31) (hb : b < 2 ^ 31) : (if nI a < nI b then nI b else nI a) = nI (max a b) := by
  by_cases h : a < b
  · rw [if_pos ((nI_ltI ha hb).mpr h), Nat.max_eq_right (by omega)]
  · rw [if_neg (fun q => h ((nI_ltI ha hb).mp q)), Nat.max_eq_left (by omega)]
theorem z_min {a b : Nat} (ha : a < 2 ^ 31) (hb : b < 2 ^ 31) : (if nI b < nI a then nI b else nI a) = nI (min a b) := by
  by_cases h : b < a
  · rw [if_pos ((nI_ltI hb ha).mpr h), Nat.min_eq_right (by omega)]
  · rw [if_neg (fun q => h ((nI_ltI hb ha).mp q)), Nat.min_eq_left (by omega)]
theorem z_narb (c : Prop) [Decidable c] : narrow .boolean (.int (nI (if c then 1 else 0))) = .int (nI (if c then 1 else 0)) := by
  by_cases h : c
  · rw [if_pos h]; rfl
  · rw [if_neg h]; rfl
theorem z_shl1 : ∀ b, b < 31 → nI 1 <<< (nI b &&& 31) = nI (2 ^ b) := by decide +kernel
theorem z_ite_lt (c : Prop) [Decidable c] : (if c then 1 else 0) < 2 ^ 31 := by split <;> decide
theorem z_ite (c : Prop) [Decidable c] : nI (if c then 1 else 0) = if c then 1 else 0 := by split <;> rfl
section XS
variable {l : Launch} {y : MethodName} {ws ws' : List Cond} {rm : Room} {E : EV} {args : List Value} {wc w1 : va_W} {cc : ByteArray} {maxL : Nat} {own : String}
theorem sI {ret : Option FieldType} {r : Int32} (hown : y.cls = own) (hy : plainName y.cls = true) (hw : ws = Cond.code y cc maxL ret :: ws') (hlen : (lg_sl args).length ≤ maxL)
    (body : ∀ (p : Program) (e : Env) (s : State) (m : MethodId) (below : List Frame) (meth : Method) (c : Code), CX p s m args.toArray meth c cc maxL own ws ret E (va_A wc s.heap.size) → meth.name = y.name → ∀ ls : Array Slot, lv_has ls maxL (lv_args 0 args) → WD E (va_A wc s.heap.size) s wc s.heap [] →
      W p l e rm s m args.toArray below meth c s.heap [] 0 0 (QI E wc r w1 below args.toArray s) (F0 m 0 ls [])) : MI l y ws rm E args wc r w1 :=
  x_start (Pq := fun sz => va_Qi (fun (r' : Int32) (_ : Unit) => r' = r) (fun _ t => XQ E wc sz w1 t) (va_A wc sz)) hown hy hw hlen body
theorem sL {r : Int64} (hown : y.cls = own) (hy : plainName y.cls = true) (hw : ws = Cond.code y cc maxL (some .long) :: ws') (hlen : (lg_sl args).length ≤ maxL)
    (body : ∀ (p : Program) (e : Env) (s : State) (m : MethodId) (below : List Frame) (meth : Method) (c : Code), CX p s m args.toArray meth c cc maxL own ws (some .long) E (va_A wc s.heap.size) → meth.name = y.name → ∀ ls : Array Slot, lv_has ls maxL (lv_args 0 args) → WD E (va_A wc s.heap.size) s wc s.heap [] →
      W p l e rm s m args.toArray below meth c s.heap [] 0 0 (QL E wc r w1 below args.toArray s) (F0 m 0 ls [])) : ML l y ws rm E args wc r w1 :=
  x_start (Pq := fun sz => va_Ql (fun (r' : Int64) (_ : Unit) => r' = r) (fun _ t => XQ E wc sz w1 t) (va_A wc sz)) hown hy hw hlen body
theorem sD {r : UInt64} (hown : y.cls = own) (hy : plainName y.cls = true) (hw : ws = Cond.code y cc maxL (some .double) :: ws') (hlen : (lg_sl args).length ≤ maxL)
    (body : ∀ (p : Program) (e : Env) (s : State) (m : MethodId) (below : List Frame) (meth : Method) (c : Code), CX p s m args.toArray meth c cc maxL own ws (some .double) E (va_A wc s.heap.size) → meth.name = y.name → ∀ ls : Array Slot, lv_has ls maxL (lv_args 0 args) → WD E (va_A wc s.heap.size) s wc s.heap [] →
      W p l e rm s m args.toArray below meth c s.heap [] 0 0 (QD E wc r w1 below args.toArray s) (F0 m 0 ls [])) : MD l y ws rm E args wc r w1 :=
  x_start (Pq := fun sz => va_Qd (fun (r' : UInt64) (_ : Unit) => r' = r) (fun _ t => XQ E wc sz w1 t) (va_A wc sz)) hown hy hw hlen body
theorem sV (hown : y.cls = own) (hy : plainName y.cls = true) (hw : ws = Cond.code y cc maxL none :: ws') (hlen : (lg_sl args).length ≤ maxL)
    (body : ∀ (p : Program) (e : Env) (s : State) (m : MethodId) (below : List Frame) (meth : Method) (c : Code), CX p s m args.toArray meth c cc maxL own ws none E (va_A wc s.heap.size) → meth.name = y.name → ∀ ls : Array Slot, lv_has ls maxL (lv_args 0 args) → WD E (va_A wc s.heap.size) s wc s.heap [] →
      W p l e rm s m args.toArray below meth c s.heap [] 0 0 (QV E wc w1 below args.toArray s) (F0 m 0 ls [])) : MV l y ws rm E args wc w1 :=
  x_start (Pq := fun sz => va_Qv (fun (_ : Unit) => True) (fun _ t => XQ E wc sz w1 t) (va_A wc sz)) hown hy hw hlen body
theorem sC {mc ms : Nat} {post : va_W → Prop} (hown : y.cls = own) (hy : plainName y.cls = true) (hw : ws = Cond.code y cc maxL none :: ws') (hlen : (lg_sl args).length ≤ maxL)
    (body : ∀ (p : Program) (e : Env) (s : State) (m : MethodId) (below : List Frame) (meth : Method) (c : Code), CX p s m args.toArray meth c cc maxL own ws none E (va_A wc s.heap.size) → meth.name = y.name → ∀ ls : Array Slot, lv_has ls maxL (lv_args 0 args) → WD E (va_A wc s.heap.size) s wc s.heap [] →
      W p l e rm s m args.toArray below meth c s.heap [] 0 0 (QC E wc mc ms post below args.toArray s) (F0 m 0 ls [])) : MC l y ws rm E args wc mc ms post :=
  x_start (Pq := fun sz => va_Qv post (fun w1 t => XQ E wc sz w1 t) (va_A wc sz)) hown hy hw hlen body
end XS
section XT
variable {p : Program} {l : Launch} {e : Env} {R : Room} {s : State} {m : MethodId} {args : Array Value} {below : List Frame} {meth : Method} {c : Code} {H : Heap} {locs : List Loc} {cells slots : Nat} {Q : State → Prop}
variable {cc : ByteArray} {pc nL : Nat} {ls : Array Slot} {rest st0 : List Value} {own : String} {Ts : List Cond} {ret : Option FieldType} {E : EV} {A : Nat → Prop} {w : va_W}
theorem x_toi {x y : Int32} (h : x = y) (k : W p l e R s m args below meth c H locs cells slots Q (F0 m pc ls (.int y :: rest))) : W p l e R s m args below meth c H locs cells slots Q (F0 m pc ls (.int x :: rest)) := h ▸ k
theorem x_tol {x y : Int64} (h : x = y) (k : W p l e R s m args below meth c H locs cells slots Q (F0 m pc ls (.long y :: rest))) : W p l e R s m args below meth c H locs cells slots Q (F0 m pc ls (.long x :: rest)) := h ▸ k
theorem x_ifb_eq (C : CX p s m args meth c cc nL own Ts ret E A) {P : Prop} [Decidable P] {off : Int} {tgt : Nat} (hdg : decode cc pc = .ok (.ifCond .eq off, 3)) (ht : (pc : Int) + off = (tgt : Int))
    (kt : ¬ P → W p l e R s m args below meth c H locs cells slots Q (F0 m tgt ls rest)) (kf : P → W p l e R s m args below meth c H locs cells slots Q (F0 m (pc + 3) ls rest)) : W p l e R s m args below meth c H locs cells slots Q (F0 m pc ls (.int (nI (if P then 1 else 0)) :: rest)) := by
  by_cases h : P
  · refine lv_if_eq C.x C.b hdg ht (fun q => ?_) (fun _ => kf h)
    rw [if_pos h] at q; exact absurd q (by decide)
  · refine lv_if_eq C.x C.b hdg ht (fun _ => kt h) (fun q => ?_)
    rw [if_neg h] at q; exact absurd rfl q
theorem x_ifb_ne (C : CX p s m args meth c cc nL own Ts ret E A) {P : Prop} [Decidable P] {off : Int} {tgt : Nat} (hdg : decode cc pc = .ok (.ifCond .ne off, 3)) (ht : (pc : Int) + off = (tgt : Int))
    (kt : P → W p l e R s m args below meth c H locs cells slots Q (F0 m tgt ls rest)) (kf : ¬ P → W p l e R s m args below meth c H locs cells slots Q (F0 m (pc + 3) ls rest)) : W p l e R s m args below meth c H locs cells slots Q (F0 m pc ls (.int (nI (if P then 1 else 0)) :: rest)) := by
  by_cases h : P
  · refine lv_if_ne C.x C.b hdg ht (fun _ => kt h) (fun q => ?_)
    rw [if_pos h] at q; exact absurd q (by decide)
  · refine lv_if_ne C.x C.b hdg ht (fun q => ?_) (fun _ => kf h)
    rw [if_neg h] at q; exact absurd rfl q
/-- a field of references is written, final, in a constructor -/
theorem x_putr (C : CX p s m args meth c cc nL own Ts ret E A) (hW : WD E A s w H locs) (q0 ci k : Nat) {a : Nat} {fs : List Value} {Cn : String} {T : u_T} {N index : Nat} {v : Value} {w' : va_W} {ty : FieldType} (ty0 : Nat → FieldType) (hty : ∀ k, k < N → parseFieldDescriptor (T k).2.2.1 = some (ty0 k)) (hnm : ∀ a, a < N → ∀ b, b < N → a ≠ b → (T a).2.1 ≠ (T b).2.1) (hc : vwCl[ci]? = some (Cn, T, N)) (he : w[q0]? = some (a, .inr (ci, fs))) (hk : k < N) (hin : ∀ w ∈ u_ws Cn T N, w ∈ Ts) (hl : Cond.fieldLink own index (T k).1 (T k).2.1 (T k).2.2.1 ∈ Ts) (hfin : (T k).2.2.2 = true) (hin2 : meth.name = "<init>") (hdecl : (T k).1 = own) (hd : parseFieldDescriptor (T k).2.2.1 = some ty) (hn : narrow ty v = v) (hfit : fits ty v = true) (hlen : k < fs.length) (hdg : decode cc pc = .ok (.putfield index, 3)) (hw : w.set q0 (a, .inr (ci, fs.set k v)) = w')
    (kk : ∀ (H1 : Heap) (locs1 : List Loc), WD E A s w' H1 locs1 → W p l e R s m args below meth c H1 locs1 cells slots Q (F0 m (pc + 3) ls rest)) : W p l e R s m args below meth c H locs cells slots Q (F0 m pc ls (v :: .ref a :: rest)) := by
  subst hw
  exact va_putF C.x C.b C.ts hin ty0 hty hnm C.ow C.K hW.1 hW.2.1 hW.2.2 q0 he hc k hk (C.ts _ hl) (fun _ h9 => h9) hfin hin2 hdecl hd hn hfit hlen hdg (fun H1 locs1 h1 h2 h3 => kk H1 locs1 ⟨h1, h2, h3⟩)
theorem x_ishl1 (C : CX p s m args meth c cc nL own Ts ret E A) {b : Nat} (hb : b < 31) (hdg : decode cc pc = .ok (.ishl, 1))
    (kk : W p l e R s m args below meth c H locs cells slots Q (F0 m (pc + 1) ls (.int (nI (2 ^ b)) :: rest))) : W p l e R s m args below meth c H locs cells slots Q (F0 m pc ls (.int (nI b) :: .int (nI 1) :: rest)) := by
  refine lv_ishl C.x C.b hdg ?_
  rw [show nI 1 <<< (nI b &&& 31) = nI (2 ^ b) from z_shl1 b hb]
  exact kk
end XT
end
section
/-! WHAT THE METHODS OF PINS WORK OUT, on numbers -/
/-- a pin's number as the class keeps it: 9 stands for none -/
def pinV (k : Nat) : Int32 := if k < 9 then nI k else -1
def tbQ : Nat → Nat := fun j => ([9, 9, 0, 9, 9, 9, 1, 9, 2, 9, 3, 9, 4, 9, 5, 9, 6, 9, 7, 9, 9, 9, 8, 9, 9] : List Nat).getD j 9
theorem tPL_eq : ∀ j, j < 25 → tPL j = pinV (tbQ j) := by decide +kernel
def pinQ (r z : Int32) : Nat := if r < 0 then 9 else if 5 ≤ r then 9 else if z < 0 then 9 else if 5 ≤ z then 9 else tbQ (r * 5 + z).toNatClampNeg
theorem tbQ_le : ∀ j, j < 25 → tbQ j ≤ 9 := by decide +kernel
theorem z_in5 {x : Int32} (h0 : ¬ x < 0) (h5 : ¬ 5 ≤ x) : ∃ a : Nat, a < 5 ∧ x = nI a := by
  rcases nI_of h0 with ⟨j, hj, rfl⟩
  refine ⟨j, ?_, rfl⟩
  have h6 : ¬ (nI 5 ≤ nI j) := h5
  rw [nI_leI (by decide) hj] at h6
  omega
theorem pinQ_nI {a b : Nat} (ha : a < 5) (hb : b < 5) : pinQ (nI a) (nI b) = tbQ (a * 5 + b) := by
  have h1 : ¬ nI a < 0 := nI_pos (by omega)
  have h2 : ¬ 5 ≤ nI a := nI_ge (a := a) (b := 5) ha (by decide)
  have h3 : ¬ nI b < 0 := nI_pos (by omega)
  have h4 : ¬ 5 ≤ nI b := nI_ge (a := b) (b := 5) hb (by decide)
  unfold pinQ
  rw [if_neg h1, if_neg h2, if_neg h3, if_neg h4, show nI a * 5 + nI b = nI (a * 5 + b) from by rw [← nI_add, ← pk_mul]; rfl, nI_clamp (by omega)]
theorem pinQ_le (r z : Int32) : pinQ r z ≤ 9 := by
  unfold pinQ
  split
  · omega
  · split
    · omega
    · split
      · omega
      · split
        · omega
        · rename_i h1 h2 h3 h4
          obtain ⟨a, ha, rfl⟩ := z_in5 h1 h2
          obtain ⟨b, hb, rfl⟩ := z_in5 h3 h4
          rw [show nI a * 5 + nI b = nI (a * 5 + b) from by rw [← nI_add, ← pk_mul]; rfl, nI_clamp (by omega)]
          exact tbQ_le _ (by omega)
theorem tb_rl : ∀ a, a < 5 → ∀ b, b < 5 → tbQ (a * 5 + b) < 9 → tRO (tbQ (a * 5 + b)) = nI a ∧ tLA (tbQ (a * 5 + b)) = nI b := by decide +kernel
theorem pinQ_rl {r z : Int32} (h : pinQ r z < 9) : tRO (pinQ r z) = r ∧ tLA (pinQ r z) = z := by
  by_cases h1 : r < 0
  · simp [pinQ, h1] at h
  · by_cases h2 : 5 ≤ r
    · simp [pinQ, h1, h2] at h
    · by_cases h3 : z < 0
      · simp [pinQ, h1, h2, h3] at h
      · by_cases h4 : 5 ≤ z
        · simp [pinQ, h1, h2, h3, h4] at h
        · obtain ⟨a, ha, rfl⟩ := z_in5 h1 h2
          obtain ⟨b, hb, rfl⟩ := z_in5 h3 h4
          rw [pinQ_nI ha hb] at h ⊢
          exact tb_rl a ha b hb h
/-- the set without the pin k -/
def dropK (s k : Nat) : Nat := s &&& (2 ^ k ^^^ 4294967295)
/-- what stands behind a hit of the pin k with the force f; n: how deep at most -/
def hiF : Nat → Nat → Nat → Int32 → Nat
  | 0, s, _, _ => s
  | n + 1, s, k, f => if k < 9 ∧ s / 2 ^ k % 2 = 1 ∧ ¬ f < 1 then hiF n (hiF n (dropK s k) (pinQ (tRO k + 1) (tLA k - 1)) (f - 2)) (pinQ (tRO k + 1) (tLA k + 1)) (f - 2) else s
theorem hiF_no {n s k : Nat} {f : Int32} (h : ¬ (k < 9 ∧ s / 2 ^ k % 2 = 1 ∧ ¬ f < 1)) : hiF n s k f = s := by
  cases n with
  | zero => rfl
  | succ n => simp only [hiF]; rw [if_neg h]
theorem dropK_le (s k : Nat) : dropK s k ≤ s := Nat.and_le_left
theorem hiF_le : ∀ (n s k : Nat) (f : Int32), hiF n s k f ≤ s
  | 0, s, _, _ => Nat.le_refl s
  | n + 1, s, k, f => by
    simp only [hiF]
    split
    · exact Nat.le_trans (hiF_le n _ _ _) (Nat.le_trans (hiF_le n _ _ _) (dropK_le s k))
    · exact Nat.le_refl s
theorem bit_iff (s k : Nat) : s.testBit k = true ↔ s / 2 ^ k % 2 = 1 := by
  rw [Nat.testBit_eq_decide_div_mod_eq]; simp
/-- sets: each of the one is of the other -/
def sbs (a b : Nat) : Prop := ∀ j, a.testBit j = true → b.testBit j = true
theorem sbs_rf (a : Nat) : sbs a a := fun _ h => h
theorem sbs_tr {a b c : Nat} (h : sbs a b) (h2 : sbs b c) : sbs a c := fun j q => h2 j (h j q)
theorem sbs_drop (s k : Nat) : sbs (dropK s k) s := fun j h => by
  rw [dropK, Nat.testBit_and, Bool.and_eq_true] at h
  exact h.1
theorem drop_no {s k : Nat} (hk : k < 9) : (dropK s k).testBit k = false := by
  rw [dropK, Nat.testBit_and, Nat.testBit_xor, Nat.testBit_two_pow_self]
  have : ∀ k, k < 9 → Nat.testBit 4294967295 k = true := by decide +kernel
  rw [this k hk]; simp
theorem sbs_hi : ∀ (n s k : Nat) (f : Int32), sbs (hiF n s k f) s
  | 0, s, _, _ => sbs_rf s
  | n + 1, s, k, f => by
    simp only [hiF]
    split
    · exact sbs_tr (sbs_hi n _ _ _) (sbs_tr (sbs_hi n _ _ _) (sbs_drop s k))
    · exact sbs_rf s
theorem hiF_ne {n s k : Nat} {f : Int32} (hk : k < 9) (hs : s / 2 ^ k % 2 = 1) (hf : ¬ f < 1) : hiF (n + 1) s k f ≠ s := by
  intro e
  have h1 : (hiF (n + 1) s k f).testBit k = true := by rw [e]; exact (bit_iff s k).mpr hs
  simp only [hiF] at h1
  rw [if_pos ⟨hk, hs, hf⟩] at h1
  have h2 := sbs_tr (sbs_hi n _ _ _) (sbs_hi n (dropK s k) _ (f - 2)) k h1
  rw [drop_no hk] at h2
  cases h2
theorem hiF_same {n s k : Nat} {f : Int32} (hf : ¬ f < 1) : hiF (n + 1) s k f = s ↔ ¬ (k < 9 ∧ s / 2 ^ k % 2 = 1) := by
  constructor
  · intro h q
    exact hiF_ne q.1 q.2 hf h
  · intro h
    exact hiF_no (fun q => h ⟨q.1, q.2.1⟩)
/-- a ball: row by row, what stands and the force that is left -/
def roS (s b z : Nat) : Nat → Nat × Nat
  | 0 => (s, b + 2)
  | i + 1 => if (roS s b z i).2 = 0 then roS s b z i else if pinQ (nI i) (nI z) < 9 ∧ (roS s b z i).1 / 2 ^ (pinQ (nI i) (nI z)) % 2 = 1 then (hiF 3 (roS s b z i).1 (pinQ (nI i) (nI z)) (nI (roS s b z i).2), (roS s b z i).2 - 1) else roS s b z i
def roN (s b z : Nat) : Nat := (roS s b z 5).1
theorem ro_le (s b z : Nat) : ∀ i, (roS s b z i).1 ≤ s ∧ (roS s b z i).2 ≤ b + 2
  | 0 => ⟨Nat.le_refl _, Nat.le_refl _⟩
  | i + 1 => by
    have ih := ro_le s b z i
    simp only [roS]
    split
    · exact ih
    · split
      · exact ⟨Nat.le_trans (hiF_le _ _ _ _) ih.1, Nat.le_trans (Nat.sub_le _ _) ih.2⟩
      · exact ih
theorem roN_le (s b z : Nat) : roN s b z ≤ s := (ro_le s b z 5).1
theorem ro_sbs (s b z : Nat) : ∀ i, sbs (roS s b z i).1 s
  | 0 => sbs_rf s
  | i + 1 => by
    have ih := ro_sbs s b z i
    simp only [roS]
    split
    · exact ih
    · split
      · exact sbs_tr (sbs_hi _ _ _ _) ih
      · exact ih
theorem ro_stop {s b z i : Nat} (h : (roS s b z i).2 = 0) : ∀ j, i ≤ j → roS s b z j = roS s b z i
  | 0, hj => by have : i = 0 := by omega
                subst this; rfl
  | j + 1, hj => by
    by_cases e : i = j + 1
    · subst e; rfl
    · have h1 := ro_stop h j (by omega)
      simp only [roS]
      rw [h1, if_pos h]
theorem z_ge1 {a : Nat} (h : ¬ a = 0) (h2 : a < 2 ^ 31) : ¬ nI a < 1 := fun q => by
  have q2 : nI a < nI 1 := q
  rw [nI_ltI h2 (by decide)] at q2
  omega
theorem ro_same {s b z i : Nat} (hb : b < 5) (h0 : ¬ (roS s b z i).2 = 0) (h : hiF 3 (roS s b z i).1 (pinQ (nI i) (nI z)) (nI (roS s b z i).2) = (roS s b z i).1) : roS s b z (i + 1) = roS s b z i := by
  have h2 := (ro_le s b z i).2
  have h3 := (hiF_same (z_ge1 h0 (by omega))).mp h
  simp only [roS]
  rw [if_neg h0, if_neg h3]
theorem ro_diff {s b z i : Nat} (hb : b < 5) (h0 : ¬ (roS s b z i).2 = 0) (h : ¬ hiF 3 (roS s b z i).1 (pinQ (nI i) (nI z)) (nI (roS s b z i).2) = (roS s b z i).1) : roS s b z (i + 1) = (hiF 3 (roS s b z i).1 (pinQ (nI i) (nI z)) (nI (roS s b z i).2), (roS s b z i).2 - 1) := by
  have h2 := (ro_le s b z i).2
  have h3 : pinQ (nI i) (nI z) < 9 ∧ (roS s b z i).1 / 2 ^ (pinQ (nI i) (nI z)) % 2 = 1 := Classical.byContradiction fun q => h ((hiF_same (z_ge1 h0 (by omega))).mpr q)
  simp only [roS]
  rw [if_neg h0, if_pos h3]
/-- those that fall -/
def feN (s b z : Nat) : Nat := s &&& (roN s b z ^^^ 4294967295)
theorem bit_m1 : ∀ k, k < 9 → Nat.testBit 4294967295 k = true := by decide +kernel
theorem lt512_bit {s j : Nat} (hs : s < 512) (h : s.testBit j = true) : j < 9 := by
  rcases Nat.lt_or_ge j 9 with q | q
  · exact q
  · have : s < 2 ^ j := Nat.lt_of_lt_of_le hs (Nat.le_trans (by decide : 512 ≤ 2 ^ 9) (Nat.pow_le_pow_right (by decide) q))
    rw [Nat.testBit_lt_two_pow this] at h; cases h
theorem fe_bit {s b z : Nat} (hs : s < 512) (j : Nat) : (feN s b z).testBit j = (s.testBit j && !(roN s b z).testBit j) := by
  rw [feN, Nat.testBit_and, Nat.testBit_xor]
  cases h : s.testBit j with
  | false => simp
  | true => rw [bit_m1 j (lt512_bit hs h)]; simp
theorem fe_xor {s b z : Nat} (hs : s < 512) : s ^^^ roN s b z = feN s b z := by
  apply Nat.eq_of_testBit_eq
  intro j
  rw [fe_bit hs, Nat.testBit_xor]
  cases h : (roN s b z).testBit j with
  | false => simp
  | true => rw [ro_sbs s b z 5 j h]; rfl
theorem fe_rest {s b z : Nat} (hs : s < 512) : s &&& (feN s b z ^^^ 4294967295) = roN s b z := by
  apply Nat.eq_of_testBit_eq
  intro j
  rw [Nat.testBit_and, Nat.testBit_xor, fe_bit hs]
  cases h : s.testBit j with
  | false =>
    cases h2 : (roN s b z).testBit j with
    | false => simp
    | true => have := ro_sbs s b z 5 j h2; rw [h] at this; cases this
  | true => rw [bit_m1 j (lt512_bit hs h)]; simp
theorem fe_0 {s b z : Nat} (hs : s < 512) : feN s b z = 0 ↔ roN s b z = s := by
  constructor
  · intro h
    have := fe_rest (b := b) (z := z) hs
    rw [h] at this
    rw [← this]
    apply Nat.eq_of_testBit_eq
    intro j
    rw [Nat.testBit_and, Nat.testBit_xor]
    cases h : s.testBit j with
    | false => simp
    | true => rw [bit_m1 j (lt512_bit hs h)]; simp
  · intro h
    rw [← fe_xor hs, h, Nat.xor_self]
theorem fe_lt {s b z : Nat} (hs : s < 512) : feN s b z < 512 := Nat.lt_of_le_of_lt Nat.and_le_left hs
/-- the pin of the greatest number -/
def laF (s : Nat) : Nat → Int32
  | 0 => -1
  | i + 1 => if s / 2 ^ i % 2 = 1 then nI i else laF s i
/-- whether n throws at most, each of another ball, clear the set -/
def ccG (g : Nat → Nat → Bool) (s u b z : Nat) : Bool := decide (¬ u / 2 ^ b % 2 = 1) && (decide (¬ roN s b z = s) && g (roN s b z) (u ||| 2 ^ b))
def ccB : Nat → Nat → Nat → Bool
  | 0, s, _ => decide (s = 0)
  | n + 1, s, u => decide (s = 0) || (List.range 5).any (fun b => (List.range 5).any (fun z => ccG (ccB n) s u b z))
theorem ccB_t {n s u b z : Nat} (hb : b < 5) (hz : z < 5) (h : ccG (ccB n) s u b z = true) : ccB (n + 1) s u = true := by
  simp only [ccB, Bool.or_eq_true, List.any_eq_true, List.mem_range]
  exact Or.inr ⟨b, hb, z, hz, h⟩
theorem ccB_f {n s u : Nat} (h0 : ¬ s = 0) (h : ∀ b, b < 5 → ∀ z, z < 5 → ccG (ccB n) s u b z = false) : ¬ ccB (n + 1) s u = true := by
  simp only [ccB, Bool.or_eq_true, List.any_eq_true, List.mem_range, decide_eq_true_eq]
  rintro (q | ⟨b, hb, z, hz, q⟩)
  · exact h0 q
  · rw [h b hb z hz] at q; cases q
theorem or_lt32 {u b : Nat} (hu : u < 32) (hb : b < 5) : u ||| 2 ^ b < 32 := Nat.or_lt_two_pow (n := 5) hu (Nat.lt_of_lt_of_le (Nat.pow_lt_pow_right (by decide) hb) (by decide))
theorem ro_lt {s b z : Nat} (hs : s < 512) : roN s b z < 512 := Nat.lt_of_le_of_lt (roN_le s b z) hs
theorem z_1T : (1 : Int32).toInt = 1 := by decide
theorem z_2T : (2 : Int32).toInt = 2 := by decide
theorem z_lt1 {f : Int32} (h : f.toInt ≤ 0) : f < 1 := Int32.lt_iff_toInt_lt.mpr (by rw [z_1T]; omega)
theorem z_sub2 {f : Int32} {n : Int} (h : ¬ f < 1) (h2 : f.toInt ≤ n + 2) : (f - 2).toInt ≤ n := by
  have h3 : ¬ f.toInt < 1 := fun q => h (Int32.lt_iff_toInt_lt.mpr (by rw [z_1T]; exact q))
  have h4 := Int32.toInt_lt f
  rw [Int32.toInt_sub, z_2T, Int.bmod_eq_of_le (by omega) (by omega)]
  omega
theorem hiF_step {n s : Nat} {r z f : Int32} (hp : pinQ r z < 9) (hs : s / 2 ^ (pinQ r z) % 2 = 1) (hf : ¬ f < 1) : hiF n (hiF n (dropK s (pinQ r z)) (pinQ (r + 1) (z - 1)) (f - 2)) (pinQ (r + 1) (z + 1)) (f - 2) = hiF (n + 1) s (pinQ r z) f := by
  obtain ⟨h1, h2⟩ := pinQ_rl hp
  simp only [hiF]
  rw [if_pos ⟨hp, hs, hf⟩, h1, h2]
theorem z_nm1 {k : Nat} (h : k < 9) : ¬ nI k = -1 := by
  have : ∀ k, k < 9 → ¬ nI k = -1 := by decide +kernel
  exact this k h
/-- Integer.bitCount, step by step -/
def bc1 (n : Nat) : Nat := n - (n / 2 &&& 1431655765)
def bc2 (n : Nat) : Nat := (n &&& 858993459) + (n / 4 &&& 858993459)
def bc3 (n : Nat) : Nat := (n + n / 16) &&& 252645135
def bc4 (n : Nat) : Nat := n + n / 256
def bc5 (n : Nat) : Nat := n + n / 65536
def bc1s (n : Nat) : Nat := n % 512 - (n % 512 / 2 &&& 1431655765)
def pcN (n : Nat) : Nat := n % 2 + n / 2 % 2 + n / 4 % 2 + n / 8 % 2 + n / 16 % 2 + n / 32 % 2 + n / 64 % 2 + n / 128 % 2 + n / 256 % 2
theorem bc1_le {n : Nat} (h : n < 512) : bc1 n < 512 := Nat.lt_of_le_of_lt (Nat.sub_le _ _) h
theorem bc2_le {n : Nat} (h : n < 512) : bc2 n < 1024 := by
  have h1 : n &&& 858993459 ≤ n := Nat.and_le_left
  have h2 : n / 4 &&& 858993459 ≤ n / 4 := Nat.and_le_left
  unfold bc2; omega
theorem bc3_le {n : Nat} (h : n < 1024) : bc3 n < 2048 := by
  have h1 : (n + n / 16) &&& 252645135 ≤ n + n / 16 := Nat.and_le_left
  unfold bc3; omega
theorem bc4_eq {n : Nat} (h : n < 4096) : bc5 (bc4 n) = n + n / 256 := by unfold bc5 bc4; omega
theorem bc_all : ((List.range 512).all fun n => ((bc3 (bc2 (bc1 n)) + bc3 (bc2 (bc1 n)) / 256) &&& 63) == pcN n) = true := by decide +kernel
theorem bc_eq (n : Nat) (h : n < 512) : bc5 (bc4 (bc3 (bc2 (bc1 n)))) &&& 63 = pcN n := by
  have h3 := bc3_le (bc2_le (bc1_le h))
  rw [bc4_eq (by omega)]
  have := List.all_eq_true.mp bc_all n (List.mem_range.mpr h)
  exact eq_of_beq this
theorem pcN_le (n : Nat) : pcN n ≤ 9 := by unfold pcN; omega
theorem pc0_all : ((List.range 512).all fun n => (pcN n == 0) == (n == 0)) = true := by decide +kernel
theorem pcN_0 {n : Nat} (h : n < 512) : pcN n = 0 ↔ n = 0 := by
  have h1 := eq_of_beq (List.all_eq_true.mp pc0_all n (List.mem_range.mpr h))
  by_cases q : n = 0
  · subst q; exact ⟨fun _ => rfl, fun _ => rfl⟩
  · rw [beq_false_of_ne q] at h1
    exact ⟨fun z => by rw [z] at h1; exact absurd h1 (by decide), fun z => absurd z q⟩
/-- Integer.numberOfLeadingZeros -/
def nlN (x : Nat) : Nat := if 256 ≤ x then 23 else if 128 ≤ x then 24 else if 64 ≤ x then 25 else if 32 ≤ x then 26 else if 16 ≤ x then 27 else if 8 ≤ x then 28 else if 4 ≤ x then 29 else if 2 ≤ x then 30 else 31
def laN (s : Nat) : Nat → Nat
  | 0 => 9
  | i + 1 => if s / 2 ^ i % 2 = 1 then i else laN s i
theorem laN_le (s : Nat) : ∀ i, i ≤ 9 → laN s i ≤ 9
  | 0, _ => Nat.le_refl 9
  | i + 1, h => by
    simp only [laN]
    split
    · omega
    · exact laN_le s i (by omega)
theorem laF_N (s : Nat) : ∀ i, i ≤ 9 → laF s i = pinV (laN s i)
  | 0, _ => rfl
  | i + 1, h => by
    simp only [laF, laN]
    split
    · rw [pinV, if_pos (by omega)]
    · exact laF_N s i (by omega)
theorem nl_all : ((List.range 512).all fun n => n == 0 || (laN n 9 == 31 - nlN n)) = true := by decide +kernel
theorem nl_la (n : Nat) (h : n < 512) (h0 : ¬ n = 0) : nI (31 - nlN n) = laF n 9 := by
  have h1 := List.all_eq_true.mp nl_all n (List.mem_range.mpr h)
  have h2 : laN n 9 = 31 - nlN n := by simpa [h0] using h1
  have h4 : 23 ≤ nlN n := by unfold nlN; (repeat' split) <;> decide
  have h3 : 31 - nlN n < 9 := by omega
  rw [laF_N n 9 (Nat.le_refl _), h2, pinV, if_pos h3]
theorem la_0 : laF 0 9 = -1 := by decide +kernel
end
section
/-! PINS -/
set_option maxHeartbeats 4000000 in
set_option maxRecDepth 100000 in
theorem met_X1_holds (l : Launch) (E : EV) (a b : Nat) (hb : b < 31) (ha : a < 2 ^ 31) : MI l yX1_holds wsX1_holds { frames := 0, cells := 0, slots := 0, locals := 0 } E [.int (nI a), .int (nI b)] [] (nI (if a / 2 ^ b % 2 = 1 then 1 else 0)) [] := by
  refine sI (own := RX1) (cc := cX1_holds) (maxL := 2) (ret := (some .boolean)) rfl (by decide) rfl (Nat.le_of_ble_eq_true rfl) ?_
  intro p e s m below meth c C hnm ls hl hW
  have hl : lv_has ls 2 [(0, .int (nI a)), (1, .int (nI b))] := hl
  have hW : WD E _ s [] s.heap [] := hW
  refine lv_iload_n C.x C.b dX1_holds_0 rfl (lv_at hl 0 rfl) ?_
  refine lv_iload_n C.x C.b dX1_holds_1 rfl (lv_at hl 1 rfl) ?_
  refine x_ishr C (by omega) (by omega) dX1_holds_2 ?_
  refine lv_iconst (v := nI 1) C.x C.b dX1_holds_3 (by decide) ?_
  refine x_iand C dX1_holds_4 ?_
  refine x_if_eq C (by rw [Nat.and_one_is_mod]; omega) (tgt := 12) dX1_holds_5 (by decide) (fun c_1 => ?_) (fun c_1 => ?_)
  · refine lv_iconst (v := nI 0) C.x C.b dX1_holds_12 (by decide) ?_
    exact x_iret C hW (by first | rfl | exact z_narb _) (by rw [Nat.and_one_is_mod] at c_1; first | (rw [if_pos (by omega)]; done) | (rw [if_neg (by omega)]; done)) rfl dX1_holds_13
  · refine lv_iconst (v := nI 1) C.x C.b dX1_holds_8 (by decide) ?_
    refine lv_goto (tgt := 13) C.x C.b dX1_holds_9 (by decide) ?_
    exact x_iret C hW (by first | rfl | exact z_narb _) (by rw [Nat.and_one_is_mod] at c_1; first | (rw [if_pos (by omega)]; done) | (rw [if_neg (by omega)]; done)) rfl dX1_holds_13

set_option maxHeartbeats 4000000 in
set_option maxRecDepth 100000 in
theorem met_X1_pinAt (l : Launch) (E : EV) (r z : Int32)  : MI l yX1_pinAt wsX1_pinAt { frames := 0, cells := 0, slots := 0, locals := 0 } E [.int r, .int z] [] (pinV (pinQ r z)) [] := by
  refine sI (own := RX1) (cc := cX1_pinAt) (maxL := 2) (ret := (some .int)) rfl (by decide) rfl (Nat.le_of_ble_eq_true rfl) ?_
  intro p e s m below meth c C hnm ls hl hW
  have hl : lv_has ls 2 [(0, .int r), (1, .int z)] := hl
  have hW : WD E _ s [] s.heap [] := hW
  refine lv_iload_n C.x C.b dX1_pinAt_0 rfl (lv_at hl 0 rfl) ?_
  refine lv_if_lt C.x C.b (tgt := 18) dX1_pinAt_1 (by decide) (fun c_1 => ?_) (fun c_1 => ?_)
  · refine lv_iconst (v := (-1)) C.x C.b dX1_pinAt_18 (by decide) ?_
    exact x_iret C hW rfl (by first | (simp [pinQ, pinV, c_1]; done) | (simp [pinQ, pinV, c_1, Int32.not_lt.mp c_4]; done)) rfl dX1_pinAt_19
  · refine lv_iload_n C.x C.b dX1_pinAt_4 rfl (lv_at hl 0 rfl) ?_
    refine lv_iconst (v := nI 5) C.x C.b dX1_pinAt_5 (by decide) ?_
    refine lv_icmp_ge C.x C.b (tgt := 18) dX1_pinAt_6 (by decide) (fun c_2 => ?_) (fun c_2 => ?_)
    · have c_2 : 5 ≤ r := c_2
      refine lv_iconst (v := (-1)) C.x C.b dX1_pinAt_18 (by decide) ?_
      exact x_iret C hW rfl (by first | (simp [pinQ, pinV, c_1, c_2]; done) | (simp [pinQ, pinV, c_1, c_2, Int32.not_lt.mp c_4]; done)) rfl dX1_pinAt_19
    · have c_2 : ¬ (5 ≤ r) := c_2
      refine lv_iload_n C.x C.b dX1_pinAt_9 rfl (lv_at hl 1 rfl) ?_
      refine lv_if_lt C.x C.b (tgt := 18) dX1_pinAt_10 (by decide) (fun c_3 => ?_) (fun c_3 => ?_)
      · refine lv_iconst (v := (-1)) C.x C.b dX1_pinAt_18 (by decide) ?_
        exact x_iret C hW rfl (by first | (simp [pinQ, pinV, c_1, c_2, c_3]; done) | (simp [pinQ, pinV, c_1, c_2, c_3, Int32.not_lt.mp c_4]; done)) rfl dX1_pinAt_19
      · refine lv_iload_n C.x C.b dX1_pinAt_13 rfl (lv_at hl 1 rfl) ?_
        refine lv_iconst (v := nI 5) C.x C.b dX1_pinAt_14 (by decide) ?_
        refine lv_icmp_lt C.x C.b (tgt := 20) dX1_pinAt_15 (by decide) (fun c_4 => ?_) (fun c_4 => ?_)
        · have c_4 : z < 5 := c_4
          obtain ⟨a, ha, rfl⟩ := z_in5 c_1 c_2
          obtain ⟨b, hb, rfl⟩ := z_in5 c_3 (Int32.not_le.mpr c_4)
          refine x_gets C hW C.G.1 (by decide +kernel) dX1_pinAt_20 (fun t_6 hT_5 => ?_)
          refine lv_iload_n C.x C.b dX1_pinAt_23 rfl (lv_at hl 0 rfl) ?_
          refine lv_iconst (v := nI 5) C.x C.b dX1_pinAt_24 (by decide) ?_
          refine lv_imul C.x C.b dX1_pinAt_25 ?_
          refine lv_iload_n C.x C.b dX1_pinAt_26 rfl (lv_at hl 1 rfl) ?_
          refine lv_iadd C.x C.b dX1_pinAt_27 ?_
          refine x_tab C hW hT_5 (a * 5 + b) (by rw [← nI_add, ← pk_mul] <;> rfl) (by omega) (by decide) dX1_pinAt_28 ?_
          exact x_iret C hW rfl (by rw [pinQ_nI ha hb]; exact tPL_eq _ (by omega)) rfl dX1_pinAt_29
        · have c_4 : ¬ (z < 5) := c_4
          refine lv_iconst (v := (-1)) C.x C.b dX1_pinAt_18 (by decide) ?_
          exact x_iret C hW rfl (by first | (simp [pinQ, pinV, c_1, c_2, c_3, c_4]; done) | (simp [pinQ, pinV, c_1, c_2, c_3, c_4, Int32.not_lt.mp c_4]; done)) rfl dX1_pinAt_19

set_option maxHeartbeats 4000000 in
set_option maxRecDepth 100000 in
theorem met_X1_afterHit_0 (l : Launch) (E : EV) (g : Nat) (r z f : Int32) (hs : g < 512) (hf : f.toInt ≤ 0) : MI l yX1_afterHit wsX1_afterHit { frames := 1, cells := 0, slots := 0, locals := 21 } E [.int (nI g), .int r, .int z, .int f] [] (nI (hiF 0 g (pinQ r z) f)) [] := by
  refine sI (own := RX1) (cc := cX1_afterHit) (maxL := 6) (ret := (some .int)) rfl (by decide) rfl (Nat.le_of_ble_eq_true rfl) ?_
  intro p e s m below meth c C hnm ls hl hW
  have hl : lv_has ls 6 [(0, .int (nI g)), (1, .int r), (2, .int z), (3, .int f)] := hl
  have hW : WD E _ s [] s.heap [] := hW
  refine lv_iload_n C.x C.b dX1_afterHit_0 rfl (lv_at hl 1 rfl) ?_
  refine lv_iload_n C.x C.b dX1_afterHit_1 rfl (lv_at hl 2 rfl) ?_
  refine x_cSI C hW (As := [.int r, .int z]) (rest := []) (wr := []) (wn := []) (met_X1_pinAt l E r z) gX1_afterHit_X1_pinAt rfl 2 rfl ⟨rfl, rfl⟩ ⟨by decide +kernel, by decide +kernel, by decide +kernel⟩ ⟨Nat.le_of_ble_eq_true rfl, Nat.le_of_ble_eq_true rfl⟩ [] [] [] rfl (by decide) rfl (by decide) (by decide) rfl (by decide) hl.1 rfl (Nat.le_of_ble_eq_true rfl) dX1_afterHit_2 ⟨Nat.zero_le _, Nat.zero_le _⟩ (fun H locs hW => ?_)
  by_cases hp : pinQ r z < 9
  · rw [show pinV (pinQ r z) = nI (pinQ r z) from if_pos hp]
    refine lv_istore (lv' := [(4, .int (nI (pinQ r z))), (0, .int (nI g)), (1, .int r), (2, .int z), (3, .int f)]) C.x C.b dX1_afterHit_5 hl (by decide) rfl (fun ls hl => ?_)
    refine lv_iload_n C.x C.b dX1_afterHit_7 rfl (lv_at hl 4 rfl) ?_
    refine lv_iconst (v := nI 1) C.x C.b dX1_afterHit_8 (by decide) ?_
    refine lv_icmp_lt C.x C.b (tgt := 27) dX1_afterHit_9 (by decide) (fun c_1 => ?_) (fun c_1 => ?_)
    · have c_1 : f < 1 := c_1
      refine lv_iload_n C.x C.b dX1_afterHit_27 rfl (lv_at hl 1 rfl) ?_
      exact x_iret C hW rfl (by rw [hiF_no (fun q => by simp_all)]) rfl dX1_afterHit_28
    · exact absurd (z_lt1 (by omega)) c_1
  · rw [show pinV (pinQ r z) = -1 from if_neg hp]
    refine lv_istore (lv' := [(4, .int ((-1 : Int32))), (0, .int (nI g)), (1, .int r), (2, .int z), (3, .int f)]) C.x C.b dX1_afterHit_5 hl (by decide) rfl (fun ls hl => ?_)
    refine lv_iload_n C.x C.b dX1_afterHit_7 rfl (lv_at hl 4 rfl) ?_
    refine lv_iconst (v := nI 1) C.x C.b dX1_afterHit_8 (by decide) ?_
    refine lv_icmp_lt C.x C.b (tgt := 27) dX1_afterHit_9 (by decide) (fun c_2 => ?_) (fun c_2 => ?_)
    · have c_2 : f < 1 := c_2
      refine lv_iload_n C.x C.b dX1_afterHit_27 rfl (lv_at hl 1 rfl) ?_
      exact x_iret C hW rfl (by rw [hiF_no (fun q => by simp_all)]) rfl dX1_afterHit_28
    · exact absurd (z_lt1 (by omega)) c_2

set_option maxHeartbeats 4000000 in
set_option maxRecDepth 100000 in
theorem met_X1_afterHit_1 (l : Launch) (E : EV) (g : Nat) (r z f : Int32) (hs : g < 512) (hf : f.toInt ≤ 2) : MI l yX1_afterHit wsX1_afterHit { frames := 2, cells := 0, slots := 0, locals := 46 } E [.int (nI g), .int r, .int z, .int f] [] (nI (hiF 1 g (pinQ r z) f)) [] := by
  refine sI (own := RX1) (cc := cX1_afterHit) (maxL := 6) (ret := (some .int)) rfl (by decide) rfl (Nat.le_of_ble_eq_true rfl) ?_
  intro p e s m below meth c C hnm ls hl hW
  have hl : lv_has ls 6 [(0, .int (nI g)), (1, .int r), (2, .int z), (3, .int f)] := hl
  have hW : WD E _ s [] s.heap [] := hW
  refine lv_iload_n C.x C.b dX1_afterHit_0 rfl (lv_at hl 1 rfl) ?_
  refine lv_iload_n C.x C.b dX1_afterHit_1 rfl (lv_at hl 2 rfl) ?_
  refine x_cSI C hW (As := [.int r, .int z]) (rest := []) (wr := []) (wn := []) (met_X1_pinAt l E r z) gX1_afterHit_X1_pinAt rfl 2 rfl ⟨rfl, rfl⟩ ⟨by decide +kernel, by decide +kernel, by decide +kernel⟩ ⟨Nat.le_of_ble_eq_true rfl, Nat.le_of_ble_eq_true rfl⟩ [] [] [] rfl (by decide) rfl (by decide) (by decide) rfl (by decide) hl.1 rfl (Nat.le_of_ble_eq_true rfl) dX1_afterHit_2 ⟨Nat.zero_le _, Nat.zero_le _⟩ (fun H locs hW => ?_)
  by_cases hp : pinQ r z < 9
  · rw [show pinV (pinQ r z) = nI (pinQ r z) from if_pos hp]
    refine lv_istore (lv' := [(4, .int (nI (pinQ r z))), (0, .int (nI g)), (1, .int r), (2, .int z), (3, .int f)]) C.x C.b dX1_afterHit_5 hl (by decide) rfl (fun ls hl => ?_)
    refine lv_iload_n C.x C.b dX1_afterHit_7 rfl (lv_at hl 4 rfl) ?_
    refine lv_iconst (v := nI 1) C.x C.b dX1_afterHit_8 (by decide) ?_
    refine lv_icmp_lt C.x C.b (tgt := 27) dX1_afterHit_9 (by decide) (fun c_1 => ?_) (fun c_1 => ?_)
    · have c_1 : f < 1 := c_1
      refine lv_iload_n C.x C.b dX1_afterHit_27 rfl (lv_at hl 1 rfl) ?_
      exact x_iret C hW rfl (by rw [hiF_no (fun q => by simp_all)]) rfl dX1_afterHit_28
    · have c_1 : ¬ (f < 1) := c_1
      refine lv_iload C.x C.b dX1_afterHit_12 (lv_at hl 0 rfl) ?_
      refine lv_iconst (v := (-1)) C.x C.b dX1_afterHit_14 (by decide) ?_
      refine lv_icmp_eq C.x C.b (tgt := 27) dX1_afterHit_15 (by decide) (fun c_2 => ?_) (fun c_2 => ?_)
      · exact absurd c_2 (z_nm1 hp)
      · have c_2 : ¬ (nI (pinQ r z) = (-1 : Int32)) := c_2
        refine lv_iload_n C.x C.b dX1_afterHit_18 rfl (lv_at hl 1 rfl) ?_
        refine lv_iload C.x C.b dX1_afterHit_19 (lv_at hl 0 rfl) ?_
        refine x_cSI C hW (As := [.int (nI g), .int (nI (pinQ r z))]) (rest := []) (wr := []) (wn := []) (met_X1_holds l E g (pinQ r z) (by omega) (by omega)) gX1_afterHit_X1_holds rfl 2 rfl ⟨rfl, rfl⟩ ⟨by decide +kernel, by decide +kernel, by decide +kernel⟩ ⟨Nat.le_of_ble_eq_true rfl, Nat.le_of_ble_eq_true rfl⟩ [] [] [] rfl (by decide) rfl (by decide) (by decide) rfl (by decide) hl.1 rfl (Nat.le_of_ble_eq_true rfl) dX1_afterHit_21 ⟨Nat.zero_le _, Nat.zero_le _⟩ (fun H locs hW => ?_)
        refine x_ifb_ne C (tgt := 29) dX1_afterHit_24 (by decide) (fun c_3 => ?_) (fun c_3 => ?_)
        · refine lv_iload_n C.x C.b dX1_afterHit_29 rfl (lv_at hl 1 rfl) ?_
          refine lv_iconst (v := nI 1) C.x C.b dX1_afterHit_30 (by decide) ?_
          refine lv_iload C.x C.b dX1_afterHit_31 (lv_at hl 0 rfl) ?_
          refine x_ishl1 C (by omega) dX1_afterHit_33 ?_
          refine lv_iconst (v := nI 4294967295) C.x C.b dX1_afterHit_34 (by decide) ?_
          refine x_ixor C dX1_afterHit_35 ?_
          refine lv_iand C.x C.b dX1_afterHit_36 ?_
          refine x_toi (y := nI (dropK g (pinQ r z))) (z_and _ _) ?_
          refine lv_istore (lv' := [(5, .int (nI (dropK g (pinQ r z)))), (4, .int (nI (pinQ r z))), (0, .int (nI g)), (1, .int r), (2, .int z), (3, .int f)]) C.x C.b dX1_afterHit_37 hl (by decide) rfl (fun ls hl => ?_)
          have hf2 : (f - 2).toInt ≤ 0 := z_sub2 c_1 (by omega)
          refine lv_iload C.x C.b dX1_afterHit_39 (lv_at hl 0 rfl) ?_
          refine lv_iload_n C.x C.b dX1_afterHit_41 rfl (lv_at hl 3 rfl) ?_
          refine lv_iconst (v := nI 1) C.x C.b dX1_afterHit_42 (by decide) ?_
          refine lv_iadd C.x C.b dX1_afterHit_43 ?_
          refine lv_iload_n C.x C.b dX1_afterHit_44 rfl (lv_at hl 4 rfl) ?_
          refine lv_iconst (v := nI 1) C.x C.b dX1_afterHit_45 (by decide) ?_
          refine lv_isub C.x C.b dX1_afterHit_46 ?_
          refine lv_iload_n C.x C.b dX1_afterHit_47 rfl (lv_at hl 5 rfl) ?_
          refine lv_iconst (v := nI 2) C.x C.b dX1_afterHit_48 (by decide) ?_
          refine lv_isub C.x C.b dX1_afterHit_49 ?_
          refine x_cSI C hW (As := [.int (nI (dropK g (pinQ r z))), .int (r + 1), .int (z - 1), .int (f - 2)]) (rest := []) (wr := []) (wn := []) (met_X1_afterHit_0 l E (dropK g (pinQ r z)) (r + 1) (z - 1) (f - 2) (Nat.lt_of_le_of_lt (dropK_le _ _) hs) hf2) gX1_afterHit_X1_afterHit rfl 4 rfl ⟨rfl, rfl⟩ ⟨by decide +kernel, by decide +kernel, by decide +kernel⟩ ⟨Nat.le_of_ble_eq_true rfl, Nat.le_of_ble_eq_true rfl⟩ [] [] [] rfl (by decide) rfl (by decide) (by decide) rfl (by decide) hl.1 rfl (Nat.le_of_ble_eq_true rfl) dX1_afterHit_50 ⟨Nat.zero_le _, Nat.zero_le _⟩ (fun H locs hW => ?_)
          refine lv_istore (lv' := [(5, .int (nI (hiF 0 (dropK g (pinQ r z)) (pinQ (r + 1) (z - 1)) (f - 2)))), (4, .int (nI (pinQ r z))), (0, .int (nI g)), (1, .int r), (2, .int z), (3, .int f)]) C.x C.b dX1_afterHit_53 hl (by decide) rfl (fun ls hl => ?_)
          refine lv_iload C.x C.b dX1_afterHit_55 (lv_at hl 0 rfl) ?_
          refine lv_iload_n C.x C.b dX1_afterHit_57 rfl (lv_at hl 3 rfl) ?_
          refine lv_iconst (v := nI 1) C.x C.b dX1_afterHit_58 (by decide) ?_
          refine lv_iadd C.x C.b dX1_afterHit_59 ?_
          refine lv_iload_n C.x C.b dX1_afterHit_60 rfl (lv_at hl 4 rfl) ?_
          refine lv_iconst (v := nI 1) C.x C.b dX1_afterHit_61 (by decide) ?_
          refine lv_iadd C.x C.b dX1_afterHit_62 ?_
          refine lv_iload_n C.x C.b dX1_afterHit_63 rfl (lv_at hl 5 rfl) ?_
          refine lv_iconst (v := nI 2) C.x C.b dX1_afterHit_64 (by decide) ?_
          refine lv_isub C.x C.b dX1_afterHit_65 ?_
          refine x_cSI C hW (As := [.int (nI (hiF 0 (dropK g (pinQ r z)) (pinQ (r + 1) (z - 1)) (f - 2))), .int (r + 1), .int (z + 1), .int (f - 2)]) (rest := []) (wr := []) (wn := []) (met_X1_afterHit_0 l E (hiF 0 (dropK g (pinQ r z)) (pinQ (r + 1) (z - 1)) (f - 2)) (r + 1) (z + 1) (f - 2) (Nat.lt_of_le_of_lt (hiF_le _ _ _ _) (Nat.lt_of_le_of_lt (dropK_le _ _) hs)) hf2) gX1_afterHit_X1_afterHit rfl 4 rfl ⟨rfl, rfl⟩ ⟨by decide +kernel, by decide +kernel, by decide +kernel⟩ ⟨Nat.le_of_ble_eq_true rfl, Nat.le_of_ble_eq_true rfl⟩ [] [] [] rfl (by decide) rfl (by decide) (by decide) rfl (by decide) hl.1 rfl (Nat.le_of_ble_eq_true rfl) dX1_afterHit_66 ⟨Nat.zero_le _, Nat.zero_le _⟩ (fun H locs hW => ?_)
          exact x_iret C hW rfl (by rw [hiF_step hp (by assumption) (by assumption)]) rfl dX1_afterHit_69
        · refine lv_iload_n C.x C.b dX1_afterHit_27 rfl (lv_at hl 1 rfl) ?_
          exact x_iret C hW rfl (by rw [hiF_no (fun q => by simp_all)]) rfl dX1_afterHit_28
  · rw [show pinV (pinQ r z) = -1 from if_neg hp]
    refine lv_istore (lv' := [(4, .int ((-1 : Int32))), (0, .int (nI g)), (1, .int r), (2, .int z), (3, .int f)]) C.x C.b dX1_afterHit_5 hl (by decide) rfl (fun ls hl => ?_)
    refine lv_iload_n C.x C.b dX1_afterHit_7 rfl (lv_at hl 4 rfl) ?_
    refine lv_iconst (v := nI 1) C.x C.b dX1_afterHit_8 (by decide) ?_
    refine lv_icmp_lt C.x C.b (tgt := 27) dX1_afterHit_9 (by decide) (fun c_4 => ?_) (fun c_4 => ?_)
    · have c_4 : f < 1 := c_4
      refine lv_iload_n C.x C.b dX1_afterHit_27 rfl (lv_at hl 1 rfl) ?_
      exact x_iret C hW rfl (by rw [hiF_no (fun q => by simp_all)]) rfl dX1_afterHit_28
    · have c_4 : ¬ (f < 1) := c_4
      refine lv_iload C.x C.b dX1_afterHit_12 (lv_at hl 0 rfl) ?_
      refine lv_iconst (v := (-1)) C.x C.b dX1_afterHit_14 (by decide) ?_
      refine lv_icmp_eq C.x C.b (tgt := 27) dX1_afterHit_15 (by decide) (fun c_5 => ?_) (fun c_5 => ?_)
      · have c_5 : (-1 : Int32) = (-1 : Int32) := c_5
        refine lv_iload_n C.x C.b dX1_afterHit_27 rfl (lv_at hl 1 rfl) ?_
        exact x_iret C hW rfl (by rw [hiF_no (fun q => by simp_all)]) rfl dX1_afterHit_28
      · exact absurd (by decide) c_5

set_option maxHeartbeats 4000000 in
set_option maxRecDepth 100000 in
theorem met_X1_afterHit_2 (l : Launch) (E : EV) (g : Nat) (r z f : Int32) (hs : g < 512) (hf : f.toInt ≤ 4) : MI l yX1_afterHit wsX1_afterHit { frames := 3, cells := 0, slots := 0, locals := 71 } E [.int (nI g), .int r, .int z, .int f] [] (nI (hiF 2 g (pinQ r z) f)) [] := by
  refine sI (own := RX1) (cc := cX1_afterHit) (maxL := 6) (ret := (some .int)) rfl (by decide) rfl (Nat.le_of_ble_eq_true rfl) ?_
  intro p e s m below meth c C hnm ls hl hW
  have hl : lv_has ls 6 [(0, .int (nI g)), (1, .int r), (2, .int z), (3, .int f)] := hl
  have hW : WD E _ s [] s.heap [] := hW
  refine lv_iload_n C.x C.b dX1_afterHit_0 rfl (lv_at hl 1 rfl) ?_
  refine lv_iload_n C.x C.b dX1_afterHit_1 rfl (lv_at hl 2 rfl) ?_
  refine x_cSI C hW (As := [.int r, .int z]) (rest := []) (wr := []) (wn := []) (met_X1_pinAt l E r z) gX1_afterHit_X1_pinAt rfl 2 rfl ⟨rfl, rfl⟩ ⟨by decide +kernel, by decide +kernel, by decide +kernel⟩ ⟨Nat.le_of_ble_eq_true rfl, Nat.le_of_ble_eq_true rfl⟩ [] [] [] rfl (by decide) rfl (by decide) (by decide) rfl (by decide) hl.1 rfl (Nat.le_of_ble_eq_true rfl) dX1_afterHit_2 ⟨Nat.zero_le _, Nat.zero_le _⟩ (fun H locs hW => ?_)
  by_cases hp : pinQ r z < 9
  · rw [show pinV (pinQ r z) = nI (pinQ r z) from if_pos hp]
    refine lv_istore (lv' := [(4, .int (nI (pinQ r z))), (0, .int (nI g)), (1, .int r), (2, .int z), (3, .int f)]) C.x C.b dX1_afterHit_5 hl (by decide) rfl (fun ls hl => ?_)
    refine lv_iload_n C.x C.b dX1_afterHit_7 rfl (lv_at hl 4 rfl) ?_
    refine lv_iconst (v := nI 1) C.x C.b dX1_afterHit_8 (by decide) ?_
    refine lv_icmp_lt C.x C.b (tgt := 27) dX1_afterHit_9 (by decide) (fun c_1 => ?_) (fun c_1 => ?_)
    · have c_1 : f < 1 := c_1
      refine lv_iload_n C.x C.b dX1_afterHit_27 rfl (lv_at hl 1 rfl) ?_
      exact x_iret C hW rfl (by rw [hiF_no (fun q => by simp_all)]) rfl dX1_afterHit_28
    · have c_1 : ¬ (f < 1) := c_1
      refine lv_iload C.x C.b dX1_afterHit_12 (lv_at hl 0 rfl) ?_
      refine lv_iconst (v := (-1)) C.x C.b dX1_afterHit_14 (by decide) ?_
      refine lv_icmp_eq C.x C.b (tgt := 27) dX1_afterHit_15 (by decide) (fun c_2 => ?_) (fun c_2 => ?_)
      · exact absurd c_2 (z_nm1 hp)
      · have c_2 : ¬ (nI (pinQ r z) = (-1 : Int32)) := c_2
        refine lv_iload_n C.x C.b dX1_afterHit_18 rfl (lv_at hl 1 rfl) ?_
        refine lv_iload C.x C.b dX1_afterHit_19 (lv_at hl 0 rfl) ?_
        refine x_cSI C hW (As := [.int (nI g), .int (nI (pinQ r z))]) (rest := []) (wr := []) (wn := []) (met_X1_holds l E g (pinQ r z) (by omega) (by omega)) gX1_afterHit_X1_holds rfl 2 rfl ⟨rfl, rfl⟩ ⟨by decide +kernel, by decide +kernel, by decide +kernel⟩ ⟨Nat.le_of_ble_eq_true rfl, Nat.le_of_ble_eq_true rfl⟩ [] [] [] rfl (by decide) rfl (by decide) (by decide) rfl (by decide) hl.1 rfl (Nat.le_of_ble_eq_true rfl) dX1_afterHit_21 ⟨Nat.zero_le _, Nat.zero_le _⟩ (fun H locs hW => ?_)
        refine x_ifb_ne C (tgt := 29) dX1_afterHit_24 (by decide) (fun c_3 => ?_) (fun c_3 => ?_)
        · refine lv_iload_n C.x C.b dX1_afterHit_29 rfl (lv_at hl 1 rfl) ?_
          refine lv_iconst (v := nI 1) C.x C.b dX1_afterHit_30 (by decide) ?_
          refine lv_iload C.x C.b dX1_afterHit_31 (lv_at hl 0 rfl) ?_
          refine x_ishl1 C (by omega) dX1_afterHit_33 ?_
          refine lv_iconst (v := nI 4294967295) C.x C.b dX1_afterHit_34 (by decide) ?_
          refine x_ixor C dX1_afterHit_35 ?_
          refine lv_iand C.x C.b dX1_afterHit_36 ?_
          refine x_toi (y := nI (dropK g (pinQ r z))) (z_and _ _) ?_
          refine lv_istore (lv' := [(5, .int (nI (dropK g (pinQ r z)))), (4, .int (nI (pinQ r z))), (0, .int (nI g)), (1, .int r), (2, .int z), (3, .int f)]) C.x C.b dX1_afterHit_37 hl (by decide) rfl (fun ls hl => ?_)
          have hf2 : (f - 2).toInt ≤ 2 := z_sub2 c_1 (by omega)
          refine lv_iload C.x C.b dX1_afterHit_39 (lv_at hl 0 rfl) ?_
          refine lv_iload_n C.x C.b dX1_afterHit_41 rfl (lv_at hl 3 rfl) ?_
          refine lv_iconst (v := nI 1) C.x C.b dX1_afterHit_42 (by decide) ?_
          refine lv_iadd C.x C.b dX1_afterHit_43 ?_
          refine lv_iload_n C.x C.b dX1_afterHit_44 rfl (lv_at hl 4 rfl) ?_
          refine lv_iconst (v := nI 1) C.x C.b dX1_afterHit_45 (by decide) ?_
          refine lv_isub C.x C.b dX1_afterHit_46 ?_
          refine lv_iload_n C.x C.b dX1_afterHit_47 rfl (lv_at hl 5 rfl) ?_
          refine lv_iconst (v := nI 2) C.x C.b dX1_afterHit_48 (by decide) ?_
          refine lv_isub C.x C.b dX1_afterHit_49 ?_
          refine x_cSI C hW (As := [.int (nI (dropK g (pinQ r z))), .int (r + 1), .int (z - 1), .int (f - 2)]) (rest := []) (wr := []) (wn := []) (met_X1_afterHit_1 l E (dropK g (pinQ r z)) (r + 1) (z - 1) (f - 2) (Nat.lt_of_le_of_lt (dropK_le _ _) hs) hf2) gX1_afterHit_X1_afterHit rfl 4 rfl ⟨rfl, rfl⟩ ⟨by decide +kernel, by decide +kernel, by decide +kernel⟩ ⟨Nat.le_of_ble_eq_true rfl, Nat.le_of_ble_eq_true rfl⟩ [] [] [] rfl (by decide) rfl (by decide) (by decide) rfl (by decide) hl.1 rfl (Nat.le_of_ble_eq_true rfl) dX1_afterHit_50 ⟨Nat.zero_le _, Nat.zero_le _⟩ (fun H locs hW => ?_)
          refine lv_istore (lv' := [(5, .int (nI (hiF 1 (dropK g (pinQ r z)) (pinQ (r + 1) (z - 1)) (f - 2)))), (4, .int (nI (pinQ r z))), (0, .int (nI g)), (1, .int r), (2, .int z), (3, .int f)]) C.x C.b dX1_afterHit_53 hl (by decide) rfl (fun ls hl => ?_)
          refine lv_iload C.x C.b dX1_afterHit_55 (lv_at hl 0 rfl) ?_
          refine lv_iload_n C.x C.b dX1_afterHit_57 rfl (lv_at hl 3 rfl) ?_
          refine lv_iconst (v := nI 1) C.x C.b dX1_afterHit_58 (by decide) ?_
          refine lv_iadd C.x C.b dX1_afterHit_59 ?_
          refine lv_iload_n C.x C.b dX1_afterHit_60 rfl (lv_at hl 4 rfl) ?_
          refine lv_iconst (v := nI 1) C.x C.b dX1_afterHit_61 (by decide) ?_
          refine lv_iadd C.x C.b dX1_afterHit_62 ?_
          refine lv_iload_n C.x C.b dX1_afterHit_63 rfl (lv_at hl 5 rfl) ?_
          refine lv_iconst (v := nI 2) C.x C.b dX1_afterHit_64 (by decide) ?_
          refine lv_isub C.x C.b dX1_afterHit_65 ?_
          refine x_cSI C hW (As := [.int (nI (hiF 1 (dropK g (pinQ r z)) (pinQ (r + 1) (z - 1)) (f - 2))), .int (r + 1), .int (z + 1), .int (f - 2)]) (rest := []) (wr := []) (wn := []) (met_X1_afterHit_1 l E (hiF 1 (dropK g (pinQ r z)) (pinQ (r + 1) (z - 1)) (f - 2)) (r + 1) (z + 1) (f - 2) (Nat.lt_of_le_of_lt (hiF_le _ _ _ _) (Nat.lt_of_le_of_lt (dropK_le _ _) hs)) hf2) gX1_afterHit_X1_afterHit rfl 4 rfl ⟨rfl, rfl⟩ ⟨by decide +kernel, by decide +kernel, by decide +kernel⟩ ⟨Nat.le_of_ble_eq_true rfl, Nat.le_of_ble_eq_true rfl⟩ [] [] [] rfl (by decide) rfl (by decide) (by decide) rfl (by decide) hl.1 rfl (Nat.le_of_ble_eq_true rfl) dX1_afterHit_66 ⟨Nat.zero_le _, Nat.zero_le _⟩ (fun H locs hW => ?_)
          exact x_iret C hW rfl (by rw [hiF_step hp (by assumption) (by assumption)]) rfl dX1_afterHit_69
        · refine lv_iload_n C.x C.b dX1_afterHit_27 rfl (lv_at hl 1 rfl) ?_
          exact x_iret C hW rfl (by rw [hiF_no (fun q => by simp_all)]) rfl dX1_afterHit_28
  · rw [show pinV (pinQ r z) = -1 from if_neg hp]
    refine lv_istore (lv' := [(4, .int ((-1 : Int32))), (0, .int (nI g)), (1, .int r), (2, .int z), (3, .int f)]) C.x C.b dX1_afterHit_5 hl (by decide) rfl (fun ls hl => ?_)
    refine lv_iload_n C.x C.b dX1_afterHit_7 rfl (lv_at hl 4 rfl) ?_
    refine lv_iconst (v := nI 1) C.x C.b dX1_afterHit_8 (by decide) ?_
    refine lv_icmp_lt C.x C.b (tgt := 27) dX1_afterHit_9 (by decide) (fun c_4 => ?_) (fun c_4 => ?_)
    · have c_4 : f < 1 := c_4
      refine lv_iload_n C.x C.b dX1_afterHit_27 rfl (lv_at hl 1 rfl) ?_
      exact x_iret C hW rfl (by rw [hiF_no (fun q => by simp_all)]) rfl dX1_afterHit_28
    · have c_4 : ¬ (f < 1) := c_4
      refine lv_iload C.x C.b dX1_afterHit_12 (lv_at hl 0 rfl) ?_
      refine lv_iconst (v := (-1)) C.x C.b dX1_afterHit_14 (by decide) ?_
      refine lv_icmp_eq C.x C.b (tgt := 27) dX1_afterHit_15 (by decide) (fun c_5 => ?_) (fun c_5 => ?_)
      · have c_5 : (-1 : Int32) = (-1 : Int32) := c_5
        refine lv_iload_n C.x C.b dX1_afterHit_27 rfl (lv_at hl 1 rfl) ?_
        exact x_iret C hW rfl (by rw [hiF_no (fun q => by simp_all)]) rfl dX1_afterHit_28
      · exact absurd (by decide) c_5

set_option maxHeartbeats 4000000 in
set_option maxRecDepth 100000 in
theorem met_X1_afterHit_3 (l : Launch) (E : EV) (g : Nat) (r z f : Int32) (hs : g < 512) (hf : f.toInt ≤ 6) : MI l yX1_afterHit wsX1_afterHit { frames := 4, cells := 0, slots := 0, locals := 96 } E [.int (nI g), .int r, .int z, .int f] [] (nI (hiF 3 g (pinQ r z) f)) [] := by
  refine sI (own := RX1) (cc := cX1_afterHit) (maxL := 6) (ret := (some .int)) rfl (by decide) rfl (Nat.le_of_ble_eq_true rfl) ?_
  intro p e s m below meth c C hnm ls hl hW
  have hl : lv_has ls 6 [(0, .int (nI g)), (1, .int r), (2, .int z), (3, .int f)] := hl
  have hW : WD E _ s [] s.heap [] := hW
  refine lv_iload_n C.x C.b dX1_afterHit_0 rfl (lv_at hl 1 rfl) ?_
  refine lv_iload_n C.x C.b dX1_afterHit_1 rfl (lv_at hl 2 rfl) ?_
  refine x_cSI C hW (As := [.int r, .int z]) (rest := []) (wr := []) (wn := []) (met_X1_pinAt l E r z) gX1_afterHit_X1_pinAt rfl 2 rfl ⟨rfl, rfl⟩ ⟨by decide +kernel, by decide +kernel, by decide +kernel⟩ ⟨Nat.le_of_ble_eq_true rfl, Nat.le_of_ble_eq_true rfl⟩ [] [] [] rfl (by decide) rfl (by decide) (by decide) rfl (by decide) hl.1 rfl (Nat.le_of_ble_eq_true rfl) dX1_afterHit_2 ⟨Nat.zero_le _, Nat.zero_le _⟩ (fun H locs hW => ?_)
  by_cases hp : pinQ r z < 9
  · rw [show pinV (pinQ r z) = nI (pinQ r z) from if_pos hp]
    refine lv_istore (lv' := [(4, .int (nI (pinQ r z))), (0, .int (nI g)), (1, .int r), (2, .int z), (3, .int f)]) C.x C.b dX1_afterHit_5 hl (by decide) rfl (fun ls hl => ?_)
    refine lv_iload_n C.x C.b dX1_afterHit_7 rfl (lv_at hl 4 rfl) ?_
    refine lv_iconst (v := nI 1) C.x C.b dX1_afterHit_8 (by decide) ?_
    refine lv_icmp_lt C.x C.b (tgt := 27) dX1_afterHit_9 (by decide) (fun c_1 => ?_) (fun c_1 => ?_)
    · have c_1 : f < 1 := c_1
      refine lv_iload_n C.x C.b dX1_afterHit_27 rfl (lv_at hl 1 rfl) ?_
      exact x_iret C hW rfl (by rw [hiF_no (fun q => by simp_all)]) rfl dX1_afterHit_28
    · have c_1 : ¬ (f < 1) := c_1
      refine lv_iload C.x C.b dX1_afterHit_12 (lv_at hl 0 rfl) ?_
      refine lv_iconst (v := (-1)) C.x C.b dX1_afterHit_14 (by decide) ?_
      refine lv_icmp_eq C.x C.b (tgt := 27) dX1_afterHit_15 (by decide) (fun c_2 => ?_) (fun c_2 => ?_)
      · exact absurd c_2 (z_nm1 hp)
      · have c_2 : ¬ (nI (pinQ r z) = (-1 : Int32)) := c_2
        refine lv_iload_n C.x C.b dX1_afterHit_18 rfl (lv_at hl 1 rfl) ?_
        refine lv_iload C.x C.b dX1_afterHit_19 (lv_at hl 0 rfl) ?_
        refine x_cSI C hW (As := [.int (nI g), .int (nI (pinQ r z))]) (rest := []) (wr := []) (wn := []) (met_X1_holds l E g (pinQ r z) (by omega) (by omega)) gX1_afterHit_X1_holds rfl 2 rfl ⟨rfl, rfl⟩ ⟨by decide +kernel, by decide +kernel, by decide +kernel⟩ ⟨Nat.le_of_ble_eq_true rfl, Nat.le_of_ble_eq_true rfl⟩ [] [] [] rfl (by decide) rfl (by decide) (by decide) rfl (by decide) hl.1 rfl (Nat.le_of_ble_eq_true rfl) dX1_afterHit_21 ⟨Nat.zero_le _, Nat.zero_le _⟩ (fun H locs hW => ?_)
        refine x_ifb_ne C (tgt := 29) dX1_afterHit_24 (by decide) (fun c_3 => ?_) (fun c_3 => ?_)
        · refine lv_iload_n C.x C.b dX1_afterHit_29 rfl (lv_at hl 1 rfl) ?_
          refine lv_iconst (v := nI 1) C.x C.b dX1_afterHit_30 (by decide) ?_
          refine lv_iload C.x C.b dX1_afterHit_31 (lv_at hl 0 rfl) ?_
          refine x_ishl1 C (by omega) dX1_afterHit_33 ?_
          refine lv_iconst (v := nI 4294967295) C.x C.b dX1_afterHit_34 (by decide) ?_
          refine x_ixor C dX1_afterHit_35 ?_
          refine lv_iand C.x C.b dX1_afterHit_36 ?_
          refine x_toi (y := nI (dropK g (pinQ r z))) (z_and _ _) ?_
          refine lv_istore (lv' := [(5, .int (nI (dropK g (pinQ r z)))), (4, .int (nI (pinQ r z))), (0, .int (nI g)), (1, .int r), (2, .int z), (3, .int f)]) C.x C.b dX1_afterHit_37 hl (by decide) rfl (fun ls hl => ?_)
          have hf2 : (f - 2).toInt ≤ 4 := z_sub2 c_1 (by omega)
          refine lv_iload C.x C.b dX1_afterHit_39 (lv_at hl 0 rfl) ?_
          refine lv_iload_n C.x C.b dX1_afterHit_41 rfl (lv_at hl 3 rfl) ?_
          refine lv_iconst (v := nI 1) C.x C.b dX1_afterHit_42 (by decide) ?_
          refine lv_iadd C.x C.b dX1_afterHit_43 ?_
          refine lv_iload_n C.x C.b dX1_afterHit_44 rfl (lv_at hl 4 rfl) ?_
          refine lv_iconst (v := nI 1) C.x C.b dX1_afterHit_45 (by decide) ?_
          refine lv_isub C.x C.b dX1_afterHit_46 ?_
          refine lv_iload_n C.x C.b dX1_afterHit_47 rfl (lv_at hl 5 rfl) ?_
          refine lv_iconst (v := nI 2) C.x C.b dX1_afterHit_48 (by decide) ?_
          refine lv_isub C.x C.b dX1_afterHit_49 ?_
          refine x_cSI C hW (As := [.int (nI (dropK g (pinQ r z))), .int (r + 1), .int (z - 1), .int (f - 2)]) (rest := []) (wr := []) (wn := []) (met_X1_afterHit_2 l E (dropK g (pinQ r z)) (r + 1) (z - 1) (f - 2) (Nat.lt_of_le_of_lt (dropK_le _ _) hs) hf2) gX1_afterHit_X1_afterHit rfl 4 rfl ⟨rfl, rfl⟩ ⟨by decide +kernel, by decide +kernel, by decide +kernel⟩ ⟨Nat.le_of_ble_eq_true rfl, Nat.le_of_ble_eq_true rfl⟩ [] [] [] rfl (by decide) rfl (by decide) (by decide) rfl (by decide) hl.1 rfl (Nat.le_of_ble_eq_true rfl) dX1_afterHit_50 ⟨Nat.zero_le _, Nat.zero_le _⟩ (fun H locs hW => ?_)
          refine lv_istore (lv' := [(5, .int (nI (hiF 2 (dropK g (pinQ r z)) (pinQ (r + 1) (z - 1)) (f - 2)))), (4, .int (nI (pinQ r z))), (0, .int (nI g)), (1, .int r), (2, .int z), (3, .int f)]) C.x C.b dX1_afterHit_53 hl (by decide) rfl (fun ls hl => ?_)
          refine lv_iload C.x C.b dX1_afterHit_55 (lv_at hl 0 rfl) ?_
          refine lv_iload_n C.x C.b dX1_afterHit_57 rfl (lv_at hl 3 rfl) ?_
          refine lv_iconst (v := nI 1) C.x C.b dX1_afterHit_58 (by decide) ?_
          refine lv_iadd C.x C.b dX1_afterHit_59 ?_
          refine lv_iload_n C.x C.b dX1_afterHit_60 rfl (lv_at hl 4 rfl) ?_
          refine lv_iconst (v := nI 1) C.x C.b dX1_afterHit_61 (by decide) ?_
          refine lv_iadd C.x C.b dX1_afterHit_62 ?_
          refine lv_iload_n C.x C.b dX1_afterHit_63 rfl (lv_at hl 5 rfl) ?_
          refine lv_iconst (v := nI 2) C.x C.b dX1_afterHit_64 (by decide) ?_
          refine lv_isub C.x C.b dX1_afterHit_65 ?_
          refine x_cSI C hW (As := [.int (nI (hiF 2 (dropK g (pinQ r z)) (pinQ (r + 1) (z - 1)) (f - 2))), .int (r + 1), .int (z + 1), .int (f - 2)]) (rest := []) (wr := []) (wn := []) (met_X1_afterHit_2 l E (hiF 2 (dropK g (pinQ r z)) (pinQ (r + 1) (z - 1)) (f - 2)) (r + 1) (z + 1) (f - 2) (Nat.lt_of_le_of_lt (hiF_le _ _ _ _) (Nat.lt_of_le_of_lt (dropK_le _ _) hs)) hf2) gX1_afterHit_X1_afterHit rfl 4 rfl ⟨rfl, rfl⟩ ⟨by decide +kernel, by decide +kernel, by decide +kernel⟩ ⟨Nat.le_of_ble_eq_true rfl, Nat.le_of_ble_eq_true rfl⟩ [] [] [] rfl (by decide) rfl (by decide) (by decide) rfl (by decide) hl.1 rfl (Nat.le_of_ble_eq_true rfl) dX1_afterHit_66 ⟨Nat.zero_le _, Nat.zero_le _⟩ (fun H locs hW => ?_)
          exact x_iret C hW rfl (by rw [hiF_step hp (by assumption) (by assumption)]) rfl dX1_afterHit_69
        · refine lv_iload_n C.x C.b dX1_afterHit_27 rfl (lv_at hl 1 rfl) ?_
          exact x_iret C hW rfl (by rw [hiF_no (fun q => by simp_all)]) rfl dX1_afterHit_28
  · rw [show pinV (pinQ r z) = -1 from if_neg hp]
    refine lv_istore (lv' := [(4, .int ((-1 : Int32))), (0, .int (nI g)), (1, .int r), (2, .int z), (3, .int f)]) C.x C.b dX1_afterHit_5 hl (by decide) rfl (fun ls hl => ?_)
    refine lv_iload_n C.x C.b dX1_afterHit_7 rfl (lv_at hl 4 rfl) ?_
    refine lv_iconst (v := nI 1) C.x C.b dX1_afterHit_8 (by decide) ?_
    refine lv_icmp_lt C.x C.b (tgt := 27) dX1_afterHit_9 (by decide) (fun c_4 => ?_) (fun c_4 => ?_)
    · have c_4 : f < 1 := c_4
      refine lv_iload_n C.x C.b dX1_afterHit_27 rfl (lv_at hl 1 rfl) ?_
      exact x_iret C hW rfl (by rw [hiF_no (fun q => by simp_all)]) rfl dX1_afterHit_28
    · have c_4 : ¬ (f < 1) := c_4
      refine lv_iload C.x C.b dX1_afterHit_12 (lv_at hl 0 rfl) ?_
      refine lv_iconst (v := (-1)) C.x C.b dX1_afterHit_14 (by decide) ?_
      refine lv_icmp_eq C.x C.b (tgt := 27) dX1_afterHit_15 (by decide) (fun c_5 => ?_) (fun c_5 => ?_)
      · have c_5 : (-1 : Int32) = (-1 : Int32) := c_5
        refine lv_iload_n C.x C.b dX1_afterHit_27 rfl (lv_at hl 1 rfl) ?_
        exact x_iret C hW rfl (by rw [hiF_no (fun q => by simp_all)]) rfl dX1_afterHit_28
      · exact absurd (by decide) c_5
end
section
/-! PINS, 2 -/
set_option maxHeartbeats 4000000 in
set_option maxRecDepth 100000 in
theorem met_J6_bitCount_0f7a4 (l : Launch) (E : EV) (n : Nat) (hn : n < 512) : MI l yJ6_bitCount_0f7a4 wsJ6_bitCount_0f7a4 { frames := 0, cells := 0, slots := 0, locals := 0 } E [.int (nI n)] [] (nI (pcN n)) [] := by
  refine sI (own := RJ6) (cc := cJ6_bitCount_0f7a4) (maxL := 1) (ret := (some .int)) rfl (by decide) rfl (Nat.le_of_ble_eq_true rfl) ?_
  intro p e s m below meth c C hnm ls hl hW
  have hl : lv_has ls 1 [(0, .int (nI n))] := hl
  have hW : WD E _ s [] s.heap [] := hW
  have g1 := bc1_le hn
  have g2 := bc2_le g1
  have g3 := bc3_le g2
  have g4 : bc4 (bc3 (bc2 (bc1 n))) < 4096 := by unfold bc4; omega
  refine lv_iload_n C.x C.b dJ6_bitCount_0f7a4_0 rfl (lv_at hl 0 rfl) ?_
  refine lv_iload_n C.x C.b dJ6_bitCount_0f7a4_1 rfl (lv_at hl 0 rfl) ?_
  refine lv_iconst (v := nI 1) C.x C.b dJ6_bitCount_0f7a4_2 (by decide) ?_
  refine lv_iushr (v := nI (n / 2)) C.x C.b dJ6_bitCount_0f7a4_3 (pk_ushrN (by omega) _ 1 (by decide +kernel)) ?_
  refine lv_ldcw (v := nI 1431655765) C.x C.b C.ow (C.ts (.constant RJ6 265 (1431655765)) (by decide +kernel)) dJ6_bitCount_0f7a4_4 ?_
  refine x_iand C dJ6_bitCount_0f7a4_7 ?_
  refine lv_isub C.x C.b dJ6_bitCount_0f7a4_8 ?_
  refine x_toi (y := nI (bc1 n)) (pk_sub (Nat.le_trans Nat.and_le_left (Nat.div_le_self _ _))) ?_
  refine lv_istore_n (lv' := [(0, .int (nI (bc1 n)))]) C.x C.b dJ6_bitCount_0f7a4_9 rfl hl (by decide) rfl (fun ls hl => ?_)
  refine lv_iload_n C.x C.b dJ6_bitCount_0f7a4_10 rfl (lv_at hl 0 rfl) ?_
  refine lv_ldcw (v := nI 858993459) C.x C.b C.ow (C.ts (.constant RJ6 266 (858993459)) (by decide +kernel)) dJ6_bitCount_0f7a4_11 ?_
  refine x_iand C dJ6_bitCount_0f7a4_14 ?_
  refine lv_iload_n C.x C.b dJ6_bitCount_0f7a4_15 rfl (lv_at hl 0 rfl) ?_
  refine lv_iconst (v := nI 2) C.x C.b dJ6_bitCount_0f7a4_16 (by decide) ?_
  refine lv_iushr (v := nI ((bc1 n) / 4)) C.x C.b dJ6_bitCount_0f7a4_17 (pk_ushrN (by omega) _ 2 (by decide +kernel)) ?_
  refine lv_ldcw (v := nI 858993459) C.x C.b C.ow (C.ts (.constant RJ6 266 (858993459)) (by decide +kernel)) dJ6_bitCount_0f7a4_18 ?_
  refine x_iand C dJ6_bitCount_0f7a4_21 ?_
  refine lv_iadd C.x C.b dJ6_bitCount_0f7a4_22 ?_
  refine x_toi (y := nI (bc2 (bc1 n))) (nI_add _ _) ?_
  refine lv_istore_n (lv' := [(0, .int (nI (bc2 (bc1 n))))]) C.x C.b dJ6_bitCount_0f7a4_23 rfl hl (by decide) rfl (fun ls hl => ?_)
  refine lv_iload_n C.x C.b dJ6_bitCount_0f7a4_24 rfl (lv_at hl 0 rfl) ?_
  refine lv_iload_n C.x C.b dJ6_bitCount_0f7a4_25 rfl (lv_at hl 0 rfl) ?_
  refine lv_iconst (v := nI 4) C.x C.b dJ6_bitCount_0f7a4_26 (by decide) ?_
  refine lv_iushr (v := nI ((bc2 (bc1 n)) / 16)) C.x C.b dJ6_bitCount_0f7a4_27 (pk_ushrN (by omega) _ 4 (by decide +kernel)) ?_
  refine x_iadd C dJ6_bitCount_0f7a4_28 ?_
  refine lv_ldcw (v := nI 252645135) C.x C.b C.ow (C.ts (.constant RJ6 267 (252645135)) (by decide +kernel)) dJ6_bitCount_0f7a4_29 ?_
  refine lv_iand C.x C.b dJ6_bitCount_0f7a4_32 ?_
  refine x_toi (y := nI (bc3 (bc2 (bc1 n)))) (z_and _ _) ?_
  refine lv_istore_n (lv' := [(0, .int (nI (bc3 (bc2 (bc1 n)))))]) C.x C.b dJ6_bitCount_0f7a4_33 rfl hl (by decide) rfl (fun ls hl => ?_)
  refine lv_iload_n C.x C.b dJ6_bitCount_0f7a4_34 rfl (lv_at hl 0 rfl) ?_
  refine lv_iload_n C.x C.b dJ6_bitCount_0f7a4_35 rfl (lv_at hl 0 rfl) ?_
  refine lv_bipush (v := nI 8) C.x C.b dJ6_bitCount_0f7a4_36 (by decide) ?_
  refine lv_iushr (v := nI ((bc3 (bc2 (bc1 n))) / 256)) C.x C.b dJ6_bitCount_0f7a4_38 (pk_ushrN (by omega) _ 8 (by decide +kernel)) ?_
  refine lv_iadd C.x C.b dJ6_bitCount_0f7a4_39 ?_
  refine x_toi (y := nI (bc4 (bc3 (bc2 (bc1 n))))) (nI_add _ _) ?_
  refine lv_istore_n (lv' := [(0, .int (nI (bc4 (bc3 (bc2 (bc1 n))))))]) C.x C.b dJ6_bitCount_0f7a4_40 rfl hl (by decide) rfl (fun ls hl => ?_)
  refine lv_iload_n C.x C.b dJ6_bitCount_0f7a4_41 rfl (lv_at hl 0 rfl) ?_
  refine lv_iload_n C.x C.b dJ6_bitCount_0f7a4_42 rfl (lv_at hl 0 rfl) ?_
  refine lv_bipush (v := nI 16) C.x C.b dJ6_bitCount_0f7a4_43 (by decide) ?_
  refine lv_iushr (v := nI ((bc4 (bc3 (bc2 (bc1 n)))) / 65536)) C.x C.b dJ6_bitCount_0f7a4_45 (pk_ushrN (by omega) _ 16 (by decide +kernel)) ?_
  refine lv_iadd C.x C.b dJ6_bitCount_0f7a4_46 ?_
  refine x_toi (y := nI (bc5 (bc4 (bc3 (bc2 (bc1 n)))))) (nI_add _ _) ?_
  refine lv_istore_n (lv' := [(0, .int (nI (bc5 (bc4 (bc3 (bc2 (bc1 n)))))))]) C.x C.b dJ6_bitCount_0f7a4_47 rfl hl (by decide) rfl (fun ls hl => ?_)
  refine lv_iload_n C.x C.b dJ6_bitCount_0f7a4_48 rfl (lv_at hl 0 rfl) ?_
  refine lv_bipush (v := nI 63) C.x C.b dJ6_bitCount_0f7a4_49 (by decide) ?_
  refine x_iand C dJ6_bitCount_0f7a4_51 ?_
  exact x_iret C hW rfl (congrArg nI (bc_eq n hn)) rfl dJ6_bitCount_0f7a4_52

set_option maxHeartbeats 4000000 in
set_option maxRecDepth 100000 in
theorem met_J6_numberOfLeadingZeros_0f7a4 (l : Launch) (E : EV) (n : Nat) (hn : n < 512) (h0 : ¬ n = 0) : MI l yJ6_numberOfLeadingZeros_0f7a4 wsJ6_numberOfLeadingZeros_0f7a4 { frames := 0, cells := 0, slots := 0, locals := 0 } E [.int (nI n)] [] (nI (nlN n)) [] := by
  refine sI (own := RJ6) (cc := cJ6_numberOfLeadingZeros_0f7a4) (maxL := 2) (ret := (some .int)) rfl (by decide) rfl (Nat.le_of_ble_eq_true rfl) ?_
  intro p e s m below meth c C hnm ls hl hW
  have hl : lv_has ls 2 [(0, .int (nI n))] := hl
  have hW : WD E _ s [] s.heap [] := hW
  refine lv_iload_n C.x C.b dJ6_numberOfLeadingZeros_0f7a4_0 rfl (lv_at hl 0 rfl) ?_
  refine x_if_gt C (by omega) (tgt := 15) dJ6_numberOfLeadingZeros_0f7a4_1 (by decide) (fun c_1 => ?_) (fun c_1 => ?_)
  · refine lv_bipush (v := nI 31) C.x C.b dJ6_numberOfLeadingZeros_0f7a4_15 (by decide) ?_
    refine lv_istore_n (lv' := [(1, .int (nI 31)), (0, .int (nI n))]) C.x C.b dJ6_numberOfLeadingZeros_0f7a4_17 rfl hl (by decide) rfl (fun ls hl => ?_)
    refine lv_iload_n C.x C.b dJ6_numberOfLeadingZeros_0f7a4_18 rfl (lv_at hl 1 rfl) ?_
    refine lv_ldcw (v := nI 65536) C.x C.b C.ow (C.ts (.constant RJ6 264 (65536)) (by decide +kernel)) dJ6_numberOfLeadingZeros_0f7a4_19 ?_
    refine x_icmp_lt C (by omega) (by omega) (tgt := 33) dJ6_numberOfLeadingZeros_0f7a4_22 (by decide) (fun c_2 => ?_) (fun c_2 => ?_)
    · refine lv_iload_n C.x C.b dJ6_numberOfLeadingZeros_0f7a4_33 rfl (lv_at hl 1 rfl) ?_
      refine lv_sipush (v := nI 256) C.x C.b dJ6_numberOfLeadingZeros_0f7a4_34 (by decide) ?_
      refine x_icmp_lt C (by omega) (by omega) (tgt := 48) dJ6_numberOfLeadingZeros_0f7a4_37 (by decide) (fun c_3 => ?_) (fun c_3 => ?_)
      · refine lv_iload_n C.x C.b dJ6_numberOfLeadingZeros_0f7a4_48 rfl (lv_at hl 1 rfl) ?_
        refine lv_bipush (v := nI 16) C.x C.b dJ6_numberOfLeadingZeros_0f7a4_49 (by decide) ?_
        refine x_icmp_lt C (by omega) (by omega) (tgt := 61) dJ6_numberOfLeadingZeros_0f7a4_51 (by decide) (fun c_4 => ?_) (fun c_4 => ?_)
        · refine lv_iload_n C.x C.b dJ6_numberOfLeadingZeros_0f7a4_61 rfl (lv_at hl 1 rfl) ?_
          refine lv_iconst (v := nI 4) C.x C.b dJ6_numberOfLeadingZeros_0f7a4_62 (by decide) ?_
          refine x_icmp_lt C (by omega) (by omega) (tgt := 73) dJ6_numberOfLeadingZeros_0f7a4_63 (by decide) (fun c_5 => ?_) (fun c_5 => ?_)
          · refine lv_iload_n C.x C.b dJ6_numberOfLeadingZeros_0f7a4_73 rfl (lv_at hl 0 rfl) ?_
            refine lv_iload_n C.x C.b dJ6_numberOfLeadingZeros_0f7a4_74 rfl (lv_at hl 1 rfl) ?_
            refine lv_iconst (v := nI 1) C.x C.b dJ6_numberOfLeadingZeros_0f7a4_75 (by decide) ?_
            refine lv_iushr (v := nI (n / 2)) C.x C.b dJ6_numberOfLeadingZeros_0f7a4_76 (pk_ushrN (by omega) _ 1 (by decide +kernel)) ?_
            refine x_isub C (by omega) dJ6_numberOfLeadingZeros_0f7a4_77 ?_
            exact x_iret C hW rfl (congrArg nI (by unfold nlN; (repeat' split) <;> omega)) rfl dJ6_numberOfLeadingZeros_0f7a4_78
          · refine lv_iinc (k := 0) (v := nI 29) (lv' := [(1, .int (nI 29)), (0, .int (nI n))]) C.x C.b dJ6_numberOfLeadingZeros_0f7a4_66 hl rfl (by decide) (by decide) rfl (fun ls hl => ?_)
            refine lv_iload_n C.x C.b dJ6_numberOfLeadingZeros_0f7a4_69 rfl (lv_at hl 1 rfl) ?_
            refine lv_iconst (v := nI 2) C.x C.b dJ6_numberOfLeadingZeros_0f7a4_70 (by decide) ?_
            refine lv_iushr (v := nI (n / 4)) C.x C.b dJ6_numberOfLeadingZeros_0f7a4_71 (pk_ushrN (by omega) _ 2 (by decide +kernel)) ?_
            refine lv_istore_n (lv' := [(0, .int (nI (n / 4))), (1, .int (nI 29))]) C.x C.b dJ6_numberOfLeadingZeros_0f7a4_72 rfl hl (by decide) rfl (fun ls hl => ?_)
            refine lv_iload_n C.x C.b dJ6_numberOfLeadingZeros_0f7a4_73 rfl (lv_at hl 1 rfl) ?_
            refine lv_iload_n C.x C.b dJ6_numberOfLeadingZeros_0f7a4_74 rfl (lv_at hl 0 rfl) ?_
            refine lv_iconst (v := nI 1) C.x C.b dJ6_numberOfLeadingZeros_0f7a4_75 (by decide) ?_
            refine lv_iushr (v := nI ((n / 4) / 2)) C.x C.b dJ6_numberOfLeadingZeros_0f7a4_76 (pk_ushrN (by omega) _ 1 (by decide +kernel)) ?_
            refine x_isub C (by omega) dJ6_numberOfLeadingZeros_0f7a4_77 ?_
            exact x_iret C hW rfl (congrArg nI (by unfold nlN; (repeat' split) <;> omega)) rfl dJ6_numberOfLeadingZeros_0f7a4_78
        · refine lv_iinc (k := 0) (v := nI 27) (lv' := [(1, .int (nI 27)), (0, .int (nI n))]) C.x C.b dJ6_numberOfLeadingZeros_0f7a4_54 hl rfl (by decide) (by decide) rfl (fun ls hl => ?_)
          refine lv_iload_n C.x C.b dJ6_numberOfLeadingZeros_0f7a4_57 rfl (lv_at hl 1 rfl) ?_
          refine lv_iconst (v := nI 4) C.x C.b dJ6_numberOfLeadingZeros_0f7a4_58 (by decide) ?_
          refine lv_iushr (v := nI (n / 16)) C.x C.b dJ6_numberOfLeadingZeros_0f7a4_59 (pk_ushrN (by omega) _ 4 (by decide +kernel)) ?_
          refine lv_istore_n (lv' := [(0, .int (nI (n / 16))), (1, .int (nI 27))]) C.x C.b dJ6_numberOfLeadingZeros_0f7a4_60 rfl hl (by decide) rfl (fun ls hl => ?_)
          refine lv_iload_n C.x C.b dJ6_numberOfLeadingZeros_0f7a4_61 rfl (lv_at hl 0 rfl) ?_
          refine lv_iconst (v := nI 4) C.x C.b dJ6_numberOfLeadingZeros_0f7a4_62 (by decide) ?_
          refine x_icmp_lt C (by omega) (by omega) (tgt := 73) dJ6_numberOfLeadingZeros_0f7a4_63 (by decide) (fun c_6 => ?_) (fun c_6 => ?_)
          · refine lv_iload_n C.x C.b dJ6_numberOfLeadingZeros_0f7a4_73 rfl (lv_at hl 1 rfl) ?_
            refine lv_iload_n C.x C.b dJ6_numberOfLeadingZeros_0f7a4_74 rfl (lv_at hl 0 rfl) ?_
            refine lv_iconst (v := nI 1) C.x C.b dJ6_numberOfLeadingZeros_0f7a4_75 (by decide) ?_
            refine lv_iushr (v := nI ((n / 16) / 2)) C.x C.b dJ6_numberOfLeadingZeros_0f7a4_76 (pk_ushrN (by omega) _ 1 (by decide +kernel)) ?_
            refine x_isub C (by omega) dJ6_numberOfLeadingZeros_0f7a4_77 ?_
            exact x_iret C hW rfl (congrArg nI (by unfold nlN; (repeat' split) <;> omega)) rfl dJ6_numberOfLeadingZeros_0f7a4_78
          · refine lv_iinc (k := 1) (v := nI 25) (lv' := [(1, .int (nI 25)), (0, .int (nI (n / 16)))]) C.x C.b dJ6_numberOfLeadingZeros_0f7a4_66 hl rfl (by decide) (by decide) rfl (fun ls hl => ?_)
            refine lv_iload_n C.x C.b dJ6_numberOfLeadingZeros_0f7a4_69 rfl (lv_at hl 1 rfl) ?_
            refine lv_iconst (v := nI 2) C.x C.b dJ6_numberOfLeadingZeros_0f7a4_70 (by decide) ?_
            refine lv_iushr (v := nI ((n / 16) / 4)) C.x C.b dJ6_numberOfLeadingZeros_0f7a4_71 (pk_ushrN (by omega) _ 2 (by decide +kernel)) ?_
            refine lv_istore_n (lv' := [(0, .int (nI ((n / 16) / 4))), (1, .int (nI 25))]) C.x C.b dJ6_numberOfLeadingZeros_0f7a4_72 rfl hl (by decide) rfl (fun ls hl => ?_)
            refine lv_iload_n C.x C.b dJ6_numberOfLeadingZeros_0f7a4_73 rfl (lv_at hl 1 rfl) ?_
            refine lv_iload_n C.x C.b dJ6_numberOfLeadingZeros_0f7a4_74 rfl (lv_at hl 0 rfl) ?_
            refine lv_iconst (v := nI 1) C.x C.b dJ6_numberOfLeadingZeros_0f7a4_75 (by decide) ?_
            refine lv_iushr (v := nI (((n / 16) / 4) / 2)) C.x C.b dJ6_numberOfLeadingZeros_0f7a4_76 (pk_ushrN (by omega) _ 1 (by decide +kernel)) ?_
            refine x_isub C (by omega) dJ6_numberOfLeadingZeros_0f7a4_77 ?_
            exact x_iret C hW rfl (congrArg nI (by unfold nlN; (repeat' split) <;> omega)) rfl dJ6_numberOfLeadingZeros_0f7a4_78
      · refine lv_iinc (k := 0) (v := nI 23) (lv' := [(1, .int (nI 23)), (0, .int (nI n))]) C.x C.b dJ6_numberOfLeadingZeros_0f7a4_40 hl rfl (by decide) (by decide) rfl (fun ls hl => ?_)
        refine lv_iload_n C.x C.b dJ6_numberOfLeadingZeros_0f7a4_43 rfl (lv_at hl 1 rfl) ?_
        refine lv_bipush (v := nI 8) C.x C.b dJ6_numberOfLeadingZeros_0f7a4_44 (by decide) ?_
        refine lv_iushr (v := nI (n / 256)) C.x C.b dJ6_numberOfLeadingZeros_0f7a4_46 (pk_ushrN (by omega) _ 8 (by decide +kernel)) ?_
        refine lv_istore_n (lv' := [(0, .int (nI (n / 256))), (1, .int (nI 23))]) C.x C.b dJ6_numberOfLeadingZeros_0f7a4_47 rfl hl (by decide) rfl (fun ls hl => ?_)
        refine lv_iload_n C.x C.b dJ6_numberOfLeadingZeros_0f7a4_48 rfl (lv_at hl 0 rfl) ?_
        refine lv_bipush (v := nI 16) C.x C.b dJ6_numberOfLeadingZeros_0f7a4_49 (by decide) ?_
        refine x_icmp_lt C (by omega) (by omega) (tgt := 61) dJ6_numberOfLeadingZeros_0f7a4_51 (by decide) (fun c_7 => ?_) (fun c_7 => ?_)
        · refine lv_iload_n C.x C.b dJ6_numberOfLeadingZeros_0f7a4_61 rfl (lv_at hl 0 rfl) ?_
          refine lv_iconst (v := nI 4) C.x C.b dJ6_numberOfLeadingZeros_0f7a4_62 (by decide) ?_
          refine x_icmp_lt C (by omega) (by omega) (tgt := 73) dJ6_numberOfLeadingZeros_0f7a4_63 (by decide) (fun c_8 => ?_) (fun c_8 => ?_)
          · refine lv_iload_n C.x C.b dJ6_numberOfLeadingZeros_0f7a4_73 rfl (lv_at hl 1 rfl) ?_
            refine lv_iload_n C.x C.b dJ6_numberOfLeadingZeros_0f7a4_74 rfl (lv_at hl 0 rfl) ?_
            refine lv_iconst (v := nI 1) C.x C.b dJ6_numberOfLeadingZeros_0f7a4_75 (by decide) ?_
            refine lv_iushr (v := nI ((n / 256) / 2)) C.x C.b dJ6_numberOfLeadingZeros_0f7a4_76 (pk_ushrN (by omega) _ 1 (by decide +kernel)) ?_
            refine x_isub C (by omega) dJ6_numberOfLeadingZeros_0f7a4_77 ?_
            exact x_iret C hW rfl (congrArg nI (by unfold nlN; (repeat' split) <;> omega)) rfl dJ6_numberOfLeadingZeros_0f7a4_78
          · refine lv_iinc (k := 1) (v := nI 21) (lv' := [(1, .int (nI 21)), (0, .int (nI (n / 256)))]) C.x C.b dJ6_numberOfLeadingZeros_0f7a4_66 hl rfl (by decide) (by decide) rfl (fun ls hl => ?_)
            refine lv_iload_n C.x C.b dJ6_numberOfLeadingZeros_0f7a4_69 rfl (lv_at hl 1 rfl) ?_
            refine lv_iconst (v := nI 2) C.x C.b dJ6_numberOfLeadingZeros_0f7a4_70 (by decide) ?_
            refine lv_iushr (v := nI ((n / 256) / 4)) C.x C.b dJ6_numberOfLeadingZeros_0f7a4_71 (pk_ushrN (by omega) _ 2 (by decide +kernel)) ?_
            refine lv_istore_n (lv' := [(0, .int (nI ((n / 256) / 4))), (1, .int (nI 21))]) C.x C.b dJ6_numberOfLeadingZeros_0f7a4_72 rfl hl (by decide) rfl (fun ls hl => ?_)
            refine lv_iload_n C.x C.b dJ6_numberOfLeadingZeros_0f7a4_73 rfl (lv_at hl 1 rfl) ?_
            refine lv_iload_n C.x C.b dJ6_numberOfLeadingZeros_0f7a4_74 rfl (lv_at hl 0 rfl) ?_
            refine lv_iconst (v := nI 1) C.x C.b dJ6_numberOfLeadingZeros_0f7a4_75 (by decide) ?_
            refine lv_iushr (v := nI (((n / 256) / 4) / 2)) C.x C.b dJ6_numberOfLeadingZeros_0f7a4_76 (pk_ushrN (by omega) _ 1 (by decide +kernel)) ?_
            refine x_isub C (by omega) dJ6_numberOfLeadingZeros_0f7a4_77 ?_
            exact x_iret C hW rfl (congrArg nI (by unfold nlN; (repeat' split) <;> omega)) rfl dJ6_numberOfLeadingZeros_0f7a4_78
        · refine lv_iinc (k := 1) (v := nI 19) (lv' := [(1, .int (nI 19)), (0, .int (nI (n / 256)))]) C.x C.b dJ6_numberOfLeadingZeros_0f7a4_54 hl rfl (by decide) (by decide) rfl (fun ls hl => ?_)
          refine lv_iload_n C.x C.b dJ6_numberOfLeadingZeros_0f7a4_57 rfl (lv_at hl 1 rfl) ?_
          refine lv_iconst (v := nI 4) C.x C.b dJ6_numberOfLeadingZeros_0f7a4_58 (by decide) ?_
          refine lv_iushr (v := nI ((n / 256) / 16)) C.x C.b dJ6_numberOfLeadingZeros_0f7a4_59 (pk_ushrN (by omega) _ 4 (by decide +kernel)) ?_
          refine lv_istore_n (lv' := [(0, .int (nI ((n / 256) / 16))), (1, .int (nI 19))]) C.x C.b dJ6_numberOfLeadingZeros_0f7a4_60 rfl hl (by decide) rfl (fun ls hl => ?_)
          refine lv_iload_n C.x C.b dJ6_numberOfLeadingZeros_0f7a4_61 rfl (lv_at hl 0 rfl) ?_
          refine lv_iconst (v := nI 4) C.x C.b dJ6_numberOfLeadingZeros_0f7a4_62 (by decide) ?_
          refine x_icmp_lt C (by omega) (by omega) (tgt := 73) dJ6_numberOfLeadingZeros_0f7a4_63 (by decide) (fun c_9 => ?_) (fun c_9 => ?_)
          · refine lv_iload_n C.x C.b dJ6_numberOfLeadingZeros_0f7a4_73 rfl (lv_at hl 1 rfl) ?_
            refine lv_iload_n C.x C.b dJ6_numberOfLeadingZeros_0f7a4_74 rfl (lv_at hl 0 rfl) ?_
            refine lv_iconst (v := nI 1) C.x C.b dJ6_numberOfLeadingZeros_0f7a4_75 (by decide) ?_
            refine lv_iushr (v := nI (((n / 256) / 16) / 2)) C.x C.b dJ6_numberOfLeadingZeros_0f7a4_76 (pk_ushrN (by omega) _ 1 (by decide +kernel)) ?_
            refine x_isub C (by omega) dJ6_numberOfLeadingZeros_0f7a4_77 ?_
            exact x_iret C hW rfl (congrArg nI (by unfold nlN; (repeat' split) <;> omega)) rfl dJ6_numberOfLeadingZeros_0f7a4_78
          · refine lv_iinc (k := 1) (v := nI 17) (lv' := [(1, .int (nI 17)), (0, .int (nI ((n / 256) / 16)))]) C.x C.b dJ6_numberOfLeadingZeros_0f7a4_66 hl rfl (by decide) (by decide) rfl (fun ls hl => ?_)
            refine lv_iload_n C.x C.b dJ6_numberOfLeadingZeros_0f7a4_69 rfl (lv_at hl 1 rfl) ?_
            refine lv_iconst (v := nI 2) C.x C.b dJ6_numberOfLeadingZeros_0f7a4_70 (by decide) ?_
            refine lv_iushr (v := nI (((n / 256) / 16) / 4)) C.x C.b dJ6_numberOfLeadingZeros_0f7a4_71 (pk_ushrN (by omega) _ 2 (by decide +kernel)) ?_
            refine lv_istore_n (lv' := [(0, .int (nI (((n / 256) / 16) / 4))), (1, .int (nI 17))]) C.x C.b dJ6_numberOfLeadingZeros_0f7a4_72 rfl hl (by decide) rfl (fun ls hl => ?_)
            refine lv_iload_n C.x C.b dJ6_numberOfLeadingZeros_0f7a4_73 rfl (lv_at hl 1 rfl) ?_
            refine lv_iload_n C.x C.b dJ6_numberOfLeadingZeros_0f7a4_74 rfl (lv_at hl 0 rfl) ?_
            refine lv_iconst (v := nI 1) C.x C.b dJ6_numberOfLeadingZeros_0f7a4_75 (by decide) ?_
            refine lv_iushr (v := nI ((((n / 256) / 16) / 4) / 2)) C.x C.b dJ6_numberOfLeadingZeros_0f7a4_76 (pk_ushrN (by omega) _ 1 (by decide +kernel)) ?_
            refine x_isub C (by omega) dJ6_numberOfLeadingZeros_0f7a4_77 ?_
            exact x_iret C hW rfl (congrArg nI (by unfold nlN; (repeat' split) <;> omega)) rfl dJ6_numberOfLeadingZeros_0f7a4_78
    · exact absurd (by omega) c_2
  · exact absurd c_1 (by omega)

set_option maxHeartbeats 4000000 in
set_option maxRecDepth 100000 in
theorem met_X1_felled (l : Launch) (E : EV) (g b z : Nat) (hg : g < 512) (hb : b < 5) (hz : z < 5) : MI l yX1_felled wsX1_felled { frames := 5, cells := 0, slots := 0, locals := 121 } E [.int (nI g), .int (nI b), .int (nI z)] [] (nI (feN g b z)) [] := by
  refine sI (own := RX1) (cc := cX1_felled) (maxL := 7) (ret := (some .int)) rfl (by decide) rfl (Nat.le_of_ble_eq_true rfl) ?_
  intro p e s m below meth c C hnm ls hl hW
  have hl : lv_has ls 7 [(0, .int (nI g)), (1, .int (nI b)), (2, .int (nI z))] := hl
  have hW : WD E _ s [] s.heap [] := hW
  refine lv_iload_n C.x C.b dX1_felled_0 rfl (lv_at hl 0 rfl) ?_
  refine lv_istore_n (lv' := [(3, .int (nI g)), (0, .int (nI g)), (1, .int (nI b)), (2, .int (nI z))]) C.x C.b dX1_felled_1 rfl hl (by decide) rfl (fun ls hl => ?_)
  refine lv_iload_n C.x C.b dX1_felled_2 rfl (lv_at hl 2 rfl) ?_
  refine lv_iconst (v := nI 2) C.x C.b dX1_felled_3 (by decide) ?_
  refine x_iadd C dX1_felled_4 ?_
  refine lv_istore (lv' := [(4, .int (nI (b + 2))), (3, .int (nI g)), (0, .int (nI g)), (1, .int (nI b)), (2, .int (nI z))]) C.x C.b dX1_felled_5 hl (by decide) rfl (fun ls hl => ?_)
  refine lv_iconst (v := nI 0) C.x C.b dX1_felled_7 (by decide) ?_
  refine lv_istore (lv' := [(5, .int (nI 0)), (4, .int (nI (b + 2))), (3, .int (nI g)), (0, .int (nI g)), (1, .int (nI b)), (2, .int (nI z))]) C.x C.b dX1_felled_8 hl (by decide) rfl (fun ls hl => ?_)
  have lp_1 : ∀ (n1 i : Nat), i ≤ 5 → 5 + 1 ≤ i + n1 → ∀ (H : Heap) (locs : List Loc) (ls : Array Slot), WD E (va_A [] s.heap.size) s [] H locs → lv_has ls 7 [(5, .int (nI i)), (4, .int (nI ((roS g b z i).2))), (3, .int (nI ((roS g b z i).1))), (0, .int (nI g)), (1, .int (nI b)), (2, .int (nI z))] → W p l e ({ frames := 5, cells := 0, slots := 0, locals := 121 } : Room) s m ([.int (nI g), .int (nI b), .int (nI z)] : List Value).toArray below meth c H locs 0 0 (QI E [] (nI (feN g b z)) [] below ([.int (nI g), .int (nI b), .int (nI z)] : List Value).toArray s) (F0 m 10 ls []) := by
    intro n1
    induction n1 with
    | zero => intro i hi hn; exact absurd hn (by omega)
    | succ n1 ih1 =>
      intro i hi hn  H locs ls hW hl
      have hro := ro_le g b z i
      refine lv_iload C.x C.b dX1_felled_10 (lv_at hl 0 rfl) ?_
      refine lv_iconst (v := nI 5) C.x C.b dX1_felled_12 (by decide) ?_
      refine x_icmp_ge C (by omega) (by omega) (tgt := 50) dX1_felled_13 (by decide) (fun c_2 => ?_) (fun c_2 => ?_)
      · refine lv_iload_n C.x C.b dX1_felled_50 rfl (lv_at hl 3 rfl) ?_
        refine lv_iload_n C.x C.b dX1_felled_51 rfl (lv_at hl 2 rfl) ?_
        refine lv_iconst (v := nI 4294967295) C.x C.b dX1_felled_52 (by decide) ?_
        refine x_ixor C dX1_felled_53 ?_
        refine x_iand C dX1_felled_54 ?_
        exact x_iret C hW rfl (by first | (rw [feN, roN, ro_stop (i := i) (by omega) 5 (by omega)]; done) | (have h5 : i = 5 := (by omega); subst h5; rfl)) rfl dX1_felled_55
      · refine lv_iload C.x C.b dX1_felled_16 (lv_at hl 1 rfl) ?_
        refine x_if_le C (by omega) (tgt := 50) dX1_felled_18 (by decide) (fun c_3 => ?_) (fun c_3 => ?_)
        · refine lv_iload_n C.x C.b dX1_felled_50 rfl (lv_at hl 3 rfl) ?_
          refine lv_iload_n C.x C.b dX1_felled_51 rfl (lv_at hl 2 rfl) ?_
          refine lv_iconst (v := nI 4294967295) C.x C.b dX1_felled_52 (by decide) ?_
          refine x_ixor C dX1_felled_53 ?_
          refine x_iand C dX1_felled_54 ?_
          exact x_iret C hW rfl (by first | (rw [feN, roN, ro_stop (i := i) (by omega) 5 (by omega)]; done) | (have h5 : i = 5 := (by omega); subst h5; rfl)) rfl dX1_felled_55
        · refine lv_iload_n C.x C.b dX1_felled_21 rfl (lv_at hl 2 rfl) ?_
          refine lv_iload C.x C.b dX1_felled_22 (lv_at hl 0 rfl) ?_
          refine lv_iload_n C.x C.b dX1_felled_24 rfl (lv_at hl 5 rfl) ?_
          refine lv_iload C.x C.b dX1_felled_25 (lv_at hl 1 rfl) ?_
          refine x_cSI C hW (As := [.int (nI ((roS g b z i).1)), .int (nI i), .int (nI z), .int (nI ((roS g b z i).2))]) (rest := []) (wr := []) (wn := []) (met_X1_afterHit_3 l E ((roS g b z i).1) (nI i) (nI z) (nI ((roS g b z i).2)) (by omega) (by rw [nI_toInt (by omega)]; omega)) gX1_felled_X1_afterHit rfl 4 rfl ⟨rfl, rfl⟩ ⟨by decide +kernel, by decide +kernel, by decide +kernel⟩ ⟨Nat.le_of_ble_eq_true rfl, Nat.le_of_ble_eq_true rfl⟩ [] [] [] rfl (by decide) rfl (by decide) (by decide) rfl (by decide) hl.1 rfl (Nat.le_of_ble_eq_true rfl) dX1_felled_27 ⟨Nat.zero_le _, Nat.zero_le _⟩ (fun H locs hW => ?_)
          refine lv_istore (lv' := [(6, .int (nI (hiF 3 ((roS g b z i).1) (pinQ (nI i) (nI z)) (nI ((roS g b z i).2))))), (5, .int (nI i)), (4, .int (nI ((roS g b z i).2))), (3, .int (nI ((roS g b z i).1))), (0, .int (nI g)), (1, .int (nI b)), (2, .int (nI z))]) C.x C.b dX1_felled_30 hl (by decide) rfl (fun ls hl => ?_)
          refine lv_iload C.x C.b dX1_felled_32 (lv_at hl 0 rfl) ?_
          refine lv_iload_n C.x C.b dX1_felled_34 rfl (lv_at hl 3 rfl) ?_
          refine x_icmp_eq C (by have := hiF_le 3 (roS g b z i).1 (pinQ (nI i) (nI z)) (nI (roS g b z i).2); omega) (by omega) (tgt := 44) dX1_felled_35 (by decide) (fun c_4 => ?_) (fun c_4 => ?_)
          · refine lv_iinc (k := 1) (v := nI (i + 1)) (lv' := [(5, .int (nI (i + 1))), (6, .int (nI (hiF 3 ((roS g b z i).1) (pinQ (nI i) (nI z)) (nI ((roS g b z i).2))))), (4, .int (nI ((roS g b z i).2))), (3, .int (nI ((roS g b z i).1))), (0, .int (nI g)), (1, .int (nI b)), (2, .int (nI z))]) C.x C.b dX1_felled_44 hl rfl (z_inc i 1) (by decide) rfl (fun ls hl => ?_)
            refine lv_goto (tgt := 10) C.x C.b dX1_felled_47 (by decide) ?_
            exact ih1 (i + 1) (by omega) (by omega)  _ _ _ (hW.to rfl) (lv_to (lv_sub (l' := [(5, .int (nI (i + 1))), (4, .int (nI ((roS g b z i).2))), (3, .int (nI ((roS g b z i).1))), (0, .int (nI g)), (1, .int (nI b)), (2, .int (nI z))]) hl [0, 2, 3, 4, 5, 6] rfl) (by first | (rw [ro_same hb (by omega) (by assumption)]; done) | (rw [ro_diff hb (by omega) (by assumption)]; done)))
          · refine lv_iload C.x C.b dX1_felled_38 (lv_at hl 0 rfl) ?_
            refine lv_istore_n (lv' := [(3, .int (nI (hiF 3 ((roS g b z i).1) (pinQ (nI i) (nI z)) (nI ((roS g b z i).2))))), (6, .int (nI (hiF 3 ((roS g b z i).1) (pinQ (nI i) (nI z)) (nI ((roS g b z i).2))))), (5, .int (nI i)), (4, .int (nI ((roS g b z i).2))), (0, .int (nI g)), (1, .int (nI b)), (2, .int (nI z))]) C.x C.b dX1_felled_40 rfl hl (by decide) rfl (fun ls hl => ?_)
            refine lv_iinc (k := 3) (v := nI (((roS g b z i).2) - 1)) (lv' := [(4, .int (nI (((roS g b z i).2) - 1))), (3, .int (nI (hiF 3 ((roS g b z i).1) (pinQ (nI i) (nI z)) (nI ((roS g b z i).2))))), (6, .int (nI (hiF 3 ((roS g b z i).1) (pinQ (nI i) (nI z)) (nI ((roS g b z i).2))))), (5, .int (nI i)), (0, .int (nI g)), (1, .int (nI b)), (2, .int (nI z))]) C.x C.b dX1_felled_41 hl rfl (z_dec1 (by omega)) (by decide) rfl (fun ls hl => ?_)
            refine lv_iinc (k := 3) (v := nI (i + 1)) (lv' := [(5, .int (nI (i + 1))), (4, .int (nI (((roS g b z i).2) - 1))), (3, .int (nI (hiF 3 ((roS g b z i).1) (pinQ (nI i) (nI z)) (nI ((roS g b z i).2))))), (6, .int (nI (hiF 3 ((roS g b z i).1) (pinQ (nI i) (nI z)) (nI ((roS g b z i).2))))), (0, .int (nI g)), (1, .int (nI b)), (2, .int (nI z))]) C.x C.b dX1_felled_44 hl rfl (z_inc i 1) (by decide) rfl (fun ls hl => ?_)
            refine lv_goto (tgt := 10) C.x C.b dX1_felled_47 (by decide) ?_
            exact ih1 (i + 1) (by omega) (by omega)  _ _ _ (hW.to rfl) (lv_to (lv_sub (l' := [(5, .int (nI (i + 1))), (4, .int (nI (((roS g b z i).2) - 1))), (3, .int (nI (hiF 3 ((roS g b z i).1) (pinQ (nI i) (nI z)) (nI ((roS g b z i).2))))), (0, .int (nI g)), (1, .int (nI b)), (2, .int (nI z))]) hl [0, 1, 2, 4, 5, 6] rfl) (by first | (rw [ro_same hb (by omega) (by assumption)]; done) | (rw [ro_diff hb (by omega) (by assumption)]; done)))
  exact lp_1 (5 + 1) 0 (by omega) (by omega)  _ _ _ (hW.to rfl) (lv_to (lv_sub (l' := [(5, .int (nI 0)), (4, .int (nI (b + 2))), (3, .int (nI g)), (0, .int (nI g)), (1, .int (nI b)), (2, .int (nI z))]) hl [0, 1, 2, 3, 4, 5] rfl) rfl)

set_option maxHeartbeats 4000000 in
set_option maxRecDepth 100000 in
theorem met_X1_last (l : Launch) (E : EV) (g : Nat) (hg : g < 2 ^ 31) : MI l yX1_last wsX1_last { frames := 1, cells := 0, slots := 0, locals := 21 } E [.int (nI g)] [] (laF g 9) [] := by
  refine sI (own := RX1) (cc := cX1_last) (maxL := 2) (ret := (some .int)) rfl (by decide) rfl (Nat.le_of_ble_eq_true rfl) ?_
  intro p e s m below meth c C hnm ls hl hW
  have hl : lv_has ls 2 [(0, .int (nI g))] := hl
  have hW : WD E _ s [] s.heap [] := hW
  refine lv_bipush (v := nI 8) C.x C.b dX1_last_0 (by decide) ?_
  refine lv_istore_n (lv' := [(1, .int (nI 8)), (0, .int (nI g))]) C.x C.b dX1_last_2 rfl hl (by decide) rfl (fun ls hl => ?_)
  refine lv_iload_n C.x C.b dX1_last_3 rfl (lv_at hl 0 rfl) ?_
  refine x_if_lt C (by omega) (tgt := 23) dX1_last_4 (by decide) (fun c_1 => ?_) (fun c_1 => ?_)
  · exact absurd c_1 (by decide)
  · refine lv_iload_n C.x C.b dX1_last_7 rfl (lv_at hl 1 rfl) ?_
    refine lv_iload_n C.x C.b dX1_last_8 rfl (lv_at hl 0 rfl) ?_
    refine x_cSI C hW (As := [.int (nI g), .int (nI 8)]) (rest := []) (wr := []) (wn := []) (met_X1_holds l E g 8 (by omega) (by omega)) gX1_last_X1_holds rfl 2 rfl ⟨rfl, rfl⟩ ⟨by decide +kernel, by decide +kernel, by decide +kernel⟩ ⟨Nat.le_of_ble_eq_true rfl, Nat.le_of_ble_eq_true rfl⟩ [] [] [] rfl (by decide) rfl (by decide) (by decide) rfl (by decide) hl.1 rfl (Nat.le_of_ble_eq_true rfl) dX1_last_9 ⟨Nat.zero_le _, Nat.zero_le _⟩ (fun H locs hW => ?_)
    refine x_ifb_eq C (tgt := 17) dX1_last_12 (by decide) (fun c_2 => ?_) (fun c_2 => ?_)
    · refine lv_iinc (k := 0) (v := nI 7) (lv' := [(1, .int (nI 7)), (0, .int (nI g))]) C.x C.b dX1_last_17 hl rfl (by decide) (by decide) rfl (fun ls hl => ?_)
      refine lv_goto (tgt := 3) C.x C.b dX1_last_20 (by decide) ?_
      refine lv_iload_n C.x C.b dX1_last_3 rfl (lv_at hl 0 rfl) ?_
      refine x_if_lt C (by omega) (tgt := 23) dX1_last_4 (by decide) (fun c_3 => ?_) (fun c_3 => ?_)
      · exact absurd c_3 (by decide)
      · refine lv_iload_n C.x C.b dX1_last_7 rfl (lv_at hl 1 rfl) ?_
        refine lv_iload_n C.x C.b dX1_last_8 rfl (lv_at hl 0 rfl) ?_
        refine x_cSI C hW (As := [.int (nI g), .int (nI 7)]) (rest := []) (wr := []) (wn := []) (met_X1_holds l E g 7 (by omega) (by omega)) gX1_last_X1_holds rfl 2 rfl ⟨rfl, rfl⟩ ⟨by decide +kernel, by decide +kernel, by decide +kernel⟩ ⟨Nat.le_of_ble_eq_true rfl, Nat.le_of_ble_eq_true rfl⟩ [] [] [] rfl (by decide) rfl (by decide) (by decide) rfl (by decide) hl.1 rfl (Nat.le_of_ble_eq_true rfl) dX1_last_9 ⟨Nat.zero_le _, Nat.zero_le _⟩ (fun H locs hW => ?_)
        refine x_ifb_eq C (tgt := 17) dX1_last_12 (by decide) (fun c_4 => ?_) (fun c_4 => ?_)
        · refine lv_iinc (k := 0) (v := nI 6) (lv' := [(1, .int (nI 6)), (0, .int (nI g))]) C.x C.b dX1_last_17 hl rfl (by decide) (by decide) rfl (fun ls hl => ?_)
          refine lv_goto (tgt := 3) C.x C.b dX1_last_20 (by decide) ?_
          refine lv_iload_n C.x C.b dX1_last_3 rfl (lv_at hl 0 rfl) ?_
          refine x_if_lt C (by omega) (tgt := 23) dX1_last_4 (by decide) (fun c_5 => ?_) (fun c_5 => ?_)
          · exact absurd c_5 (by decide)
          · refine lv_iload_n C.x C.b dX1_last_7 rfl (lv_at hl 1 rfl) ?_
            refine lv_iload_n C.x C.b dX1_last_8 rfl (lv_at hl 0 rfl) ?_
            refine x_cSI C hW (As := [.int (nI g), .int (nI 6)]) (rest := []) (wr := []) (wn := []) (met_X1_holds l E g 6 (by omega) (by omega)) gX1_last_X1_holds rfl 2 rfl ⟨rfl, rfl⟩ ⟨by decide +kernel, by decide +kernel, by decide +kernel⟩ ⟨Nat.le_of_ble_eq_true rfl, Nat.le_of_ble_eq_true rfl⟩ [] [] [] rfl (by decide) rfl (by decide) (by decide) rfl (by decide) hl.1 rfl (Nat.le_of_ble_eq_true rfl) dX1_last_9 ⟨Nat.zero_le _, Nat.zero_le _⟩ (fun H locs hW => ?_)
            refine x_ifb_eq C (tgt := 17) dX1_last_12 (by decide) (fun c_6 => ?_) (fun c_6 => ?_)
            · refine lv_iinc (k := 0) (v := nI 5) (lv' := [(1, .int (nI 5)), (0, .int (nI g))]) C.x C.b dX1_last_17 hl rfl (by decide) (by decide) rfl (fun ls hl => ?_)
              refine lv_goto (tgt := 3) C.x C.b dX1_last_20 (by decide) ?_
              refine lv_iload_n C.x C.b dX1_last_3 rfl (lv_at hl 0 rfl) ?_
              refine x_if_lt C (by omega) (tgt := 23) dX1_last_4 (by decide) (fun c_7 => ?_) (fun c_7 => ?_)
              · exact absurd c_7 (by decide)
              · refine lv_iload_n C.x C.b dX1_last_7 rfl (lv_at hl 1 rfl) ?_
                refine lv_iload_n C.x C.b dX1_last_8 rfl (lv_at hl 0 rfl) ?_
                refine x_cSI C hW (As := [.int (nI g), .int (nI 5)]) (rest := []) (wr := []) (wn := []) (met_X1_holds l E g 5 (by omega) (by omega)) gX1_last_X1_holds rfl 2 rfl ⟨rfl, rfl⟩ ⟨by decide +kernel, by decide +kernel, by decide +kernel⟩ ⟨Nat.le_of_ble_eq_true rfl, Nat.le_of_ble_eq_true rfl⟩ [] [] [] rfl (by decide) rfl (by decide) (by decide) rfl (by decide) hl.1 rfl (Nat.le_of_ble_eq_true rfl) dX1_last_9 ⟨Nat.zero_le _, Nat.zero_le _⟩ (fun H locs hW => ?_)
                refine x_ifb_eq C (tgt := 17) dX1_last_12 (by decide) (fun c_8 => ?_) (fun c_8 => ?_)
                · refine lv_iinc (k := 0) (v := nI 4) (lv' := [(1, .int (nI 4)), (0, .int (nI g))]) C.x C.b dX1_last_17 hl rfl (by decide) (by decide) rfl (fun ls hl => ?_)
                  refine lv_goto (tgt := 3) C.x C.b dX1_last_20 (by decide) ?_
                  refine lv_iload_n C.x C.b dX1_last_3 rfl (lv_at hl 0 rfl) ?_
                  refine x_if_lt C (by omega) (tgt := 23) dX1_last_4 (by decide) (fun c_9 => ?_) (fun c_9 => ?_)
                  · exact absurd c_9 (by decide)
                  · refine lv_iload_n C.x C.b dX1_last_7 rfl (lv_at hl 1 rfl) ?_
                    refine lv_iload_n C.x C.b dX1_last_8 rfl (lv_at hl 0 rfl) ?_
                    refine x_cSI C hW (As := [.int (nI g), .int (nI 4)]) (rest := []) (wr := []) (wn := []) (met_X1_holds l E g 4 (by omega) (by omega)) gX1_last_X1_holds rfl 2 rfl ⟨rfl, rfl⟩ ⟨by decide +kernel, by decide +kernel, by decide +kernel⟩ ⟨Nat.le_of_ble_eq_true rfl, Nat.le_of_ble_eq_true rfl⟩ [] [] [] rfl (by decide) rfl (by decide) (by decide) rfl (by decide) hl.1 rfl (Nat.le_of_ble_eq_true rfl) dX1_last_9 ⟨Nat.zero_le _, Nat.zero_le _⟩ (fun H locs hW => ?_)
                    refine x_ifb_eq C (tgt := 17) dX1_last_12 (by decide) (fun c_10 => ?_) (fun c_10 => ?_)
                    · refine lv_iinc (k := 0) (v := nI 3) (lv' := [(1, .int (nI 3)), (0, .int (nI g))]) C.x C.b dX1_last_17 hl rfl (by decide) (by decide) rfl (fun ls hl => ?_)
                      refine lv_goto (tgt := 3) C.x C.b dX1_last_20 (by decide) ?_
                      refine lv_iload_n C.x C.b dX1_last_3 rfl (lv_at hl 0 rfl) ?_
                      refine x_if_lt C (by omega) (tgt := 23) dX1_last_4 (by decide) (fun c_11 => ?_) (fun c_11 => ?_)
                      · exact absurd c_11 (by decide)
                      · refine lv_iload_n C.x C.b dX1_last_7 rfl (lv_at hl 1 rfl) ?_
                        refine lv_iload_n C.x C.b dX1_last_8 rfl (lv_at hl 0 rfl) ?_
                        refine x_cSI C hW (As := [.int (nI g), .int (nI 3)]) (rest := []) (wr := []) (wn := []) (met_X1_holds l E g 3 (by omega) (by omega)) gX1_last_X1_holds rfl 2 rfl ⟨rfl, rfl⟩ ⟨by decide +kernel, by decide +kernel, by decide +kernel⟩ ⟨Nat.le_of_ble_eq_true rfl, Nat.le_of_ble_eq_true rfl⟩ [] [] [] rfl (by decide) rfl (by decide) (by decide) rfl (by decide) hl.1 rfl (Nat.le_of_ble_eq_true rfl) dX1_last_9 ⟨Nat.zero_le _, Nat.zero_le _⟩ (fun H locs hW => ?_)
                        refine x_ifb_eq C (tgt := 17) dX1_last_12 (by decide) (fun c_12 => ?_) (fun c_12 => ?_)
                        · refine lv_iinc (k := 0) (v := nI 2) (lv' := [(1, .int (nI 2)), (0, .int (nI g))]) C.x C.b dX1_last_17 hl rfl (by decide) (by decide) rfl (fun ls hl => ?_)
                          refine lv_goto (tgt := 3) C.x C.b dX1_last_20 (by decide) ?_
                          refine lv_iload_n C.x C.b dX1_last_3 rfl (lv_at hl 0 rfl) ?_
                          refine x_if_lt C (by omega) (tgt := 23) dX1_last_4 (by decide) (fun c_13 => ?_) (fun c_13 => ?_)
                          · exact absurd c_13 (by decide)
                          · refine lv_iload_n C.x C.b dX1_last_7 rfl (lv_at hl 1 rfl) ?_
                            refine lv_iload_n C.x C.b dX1_last_8 rfl (lv_at hl 0 rfl) ?_
                            refine x_cSI C hW (As := [.int (nI g), .int (nI 2)]) (rest := []) (wr := []) (wn := []) (met_X1_holds l E g 2 (by omega) (by omega)) gX1_last_X1_holds rfl 2 rfl ⟨rfl, rfl⟩ ⟨by decide +kernel, by decide +kernel, by decide +kernel⟩ ⟨Nat.le_of_ble_eq_true rfl, Nat.le_of_ble_eq_true rfl⟩ [] [] [] rfl (by decide) rfl (by decide) (by decide) rfl (by decide) hl.1 rfl (Nat.le_of_ble_eq_true rfl) dX1_last_9 ⟨Nat.zero_le _, Nat.zero_le _⟩ (fun H locs hW => ?_)
                            refine x_ifb_eq C (tgt := 17) dX1_last_12 (by decide) (fun c_14 => ?_) (fun c_14 => ?_)
                            · refine lv_iinc (k := 0) (v := nI 1) (lv' := [(1, .int (nI 1)), (0, .int (nI g))]) C.x C.b dX1_last_17 hl rfl (by decide) (by decide) rfl (fun ls hl => ?_)
                              refine lv_goto (tgt := 3) C.x C.b dX1_last_20 (by decide) ?_
                              refine lv_iload_n C.x C.b dX1_last_3 rfl (lv_at hl 0 rfl) ?_
                              refine x_if_lt C (by omega) (tgt := 23) dX1_last_4 (by decide) (fun c_15 => ?_) (fun c_15 => ?_)
                              · exact absurd c_15 (by decide)
                              · refine lv_iload_n C.x C.b dX1_last_7 rfl (lv_at hl 1 rfl) ?_
                                refine lv_iload_n C.x C.b dX1_last_8 rfl (lv_at hl 0 rfl) ?_
                                refine x_cSI C hW (As := [.int (nI g), .int (nI 1)]) (rest := []) (wr := []) (wn := []) (met_X1_holds l E g 1 (by omega) (by omega)) gX1_last_X1_holds rfl 2 rfl ⟨rfl, rfl⟩ ⟨by decide +kernel, by decide +kernel, by decide +kernel⟩ ⟨Nat.le_of_ble_eq_true rfl, Nat.le_of_ble_eq_true rfl⟩ [] [] [] rfl (by decide) rfl (by decide) (by decide) rfl (by decide) hl.1 rfl (Nat.le_of_ble_eq_true rfl) dX1_last_9 ⟨Nat.zero_le _, Nat.zero_le _⟩ (fun H locs hW => ?_)
                                refine x_ifb_eq C (tgt := 17) dX1_last_12 (by decide) (fun c_16 => ?_) (fun c_16 => ?_)
                                · refine lv_iinc (k := 0) (v := nI 0) (lv' := [(1, .int (nI 0)), (0, .int (nI g))]) C.x C.b dX1_last_17 hl rfl (by decide) (by decide) rfl (fun ls hl => ?_)
                                  refine lv_goto (tgt := 3) C.x C.b dX1_last_20 (by decide) ?_
                                  refine lv_iload_n C.x C.b dX1_last_3 rfl (lv_at hl 0 rfl) ?_
                                  refine x_if_lt C (by omega) (tgt := 23) dX1_last_4 (by decide) (fun c_17 => ?_) (fun c_17 => ?_)
                                  · exact absurd c_17 (by decide)
                                  · refine lv_iload_n C.x C.b dX1_last_7 rfl (lv_at hl 1 rfl) ?_
                                    refine lv_iload_n C.x C.b dX1_last_8 rfl (lv_at hl 0 rfl) ?_
                                    refine x_cSI C hW (As := [.int (nI g), .int (nI 0)]) (rest := []) (wr := []) (wn := []) (met_X1_holds l E g 0 (by omega) (by omega)) gX1_last_X1_holds rfl 2 rfl ⟨rfl, rfl⟩ ⟨by decide +kernel, by decide +kernel, by decide +kernel⟩ ⟨Nat.le_of_ble_eq_true rfl, Nat.le_of_ble_eq_true rfl⟩ [] [] [] rfl (by decide) rfl (by decide) (by decide) rfl (by decide) hl.1 rfl (Nat.le_of_ble_eq_true rfl) dX1_last_9 ⟨Nat.zero_le _, Nat.zero_le _⟩ (fun H locs hW => ?_)
                                    refine x_ifb_eq C (tgt := 17) dX1_last_12 (by decide) (fun c_18 => ?_) (fun c_18 => ?_)
                                    · refine lv_iinc (k := 0) (v := (-1)) (lv' := [(1, .int ((-1 : Int32))), (0, .int (nI g))]) C.x C.b dX1_last_17 hl rfl (by decide) (by decide) rfl (fun ls hl => ?_)
                                      refine lv_goto (tgt := 3) C.x C.b dX1_last_20 (by decide) ?_
                                      refine lv_iload_n C.x C.b dX1_last_3 rfl (lv_at hl 0 rfl) ?_
                                      refine lv_if_lt C.x C.b (tgt := 23) dX1_last_4 (by decide) (fun c_19 => ?_) (fun c_19 => ?_)
                                      · refine lv_iconst (v := (-1)) C.x C.b dX1_last_23 (by decide) ?_
                                        exact x_iret C hW rfl (by simp only [laF, c_1, c_2, c_3, c_4, c_5, c_6, c_7, c_8, c_9, c_10, c_11, c_12, c_13, c_14, c_15, c_16, c_17, c_18, c_19, if_true, if_false, ↓reduceIte]; done) rfl dX1_last_24
                                      · exact absurd (by decide) c_19
                                    · refine lv_iload_n C.x C.b dX1_last_15 rfl (lv_at hl 0 rfl) ?_
                                      exact x_iret C hW rfl (by simp only [laF, c_1, c_2, c_3, c_4, c_5, c_6, c_7, c_8, c_9, c_10, c_11, c_12, c_13, c_14, c_15, c_16, c_17, c_18, if_true, if_false, ↓reduceIte]; done) rfl dX1_last_16
                                · refine lv_iload_n C.x C.b dX1_last_15 rfl (lv_at hl 0 rfl) ?_
                                  exact x_iret C hW rfl (by simp only [laF, c_1, c_2, c_3, c_4, c_5, c_6, c_7, c_8, c_9, c_10, c_11, c_12, c_13, c_14, c_15, c_16, if_true, if_false, ↓reduceIte]; done) rfl dX1_last_16
                            · refine lv_iload_n C.x C.b dX1_last_15 rfl (lv_at hl 0 rfl) ?_
                              exact x_iret C hW rfl (by simp only [laF, c_1, c_2, c_3, c_4, c_5, c_6, c_7, c_8, c_9, c_10, c_11, c_12, c_13, c_14, if_true, if_false, ↓reduceIte]; done) rfl dX1_last_16
                        · refine lv_iload_n C.x C.b dX1_last_15 rfl (lv_at hl 0 rfl) ?_
                          exact x_iret C hW rfl (by simp only [laF, c_1, c_2, c_3, c_4, c_5, c_6, c_7, c_8, c_9, c_10, c_11, c_12, if_true, if_false, ↓reduceIte]; done) rfl dX1_last_16
                    · refine lv_iload_n C.x C.b dX1_last_15 rfl (lv_at hl 0 rfl) ?_
                      exact x_iret C hW rfl (by simp only [laF, c_1, c_2, c_3, c_4, c_5, c_6, c_7, c_8, c_9, c_10, if_true, if_false, ↓reduceIte]; done) rfl dX1_last_16
                · refine lv_iload_n C.x C.b dX1_last_15 rfl (lv_at hl 0 rfl) ?_
                  exact x_iret C hW rfl (by simp only [laF, c_1, c_2, c_3, c_4, c_5, c_6, c_7, c_8, if_true, if_false, ↓reduceIte]; done) rfl dX1_last_16
            · refine lv_iload_n C.x C.b dX1_last_15 rfl (lv_at hl 0 rfl) ?_
              exact x_iret C hW rfl (by simp only [laF, c_1, c_2, c_3, c_4, c_5, c_6, if_true, if_false, ↓reduceIte]; done) rfl dX1_last_16
        · refine lv_iload_n C.x C.b dX1_last_15 rfl (lv_at hl 0 rfl) ?_
          exact x_iret C hW rfl (by simp only [laF, c_1, c_2, c_3, c_4, if_true, if_false, ↓reduceIte]; done) rfl dX1_last_16
    · refine lv_iload_n C.x C.b dX1_last_15 rfl (lv_at hl 0 rfl) ?_
      exact x_iret C hW rfl (by simp only [laF, c_1, c_2, if_true, if_false, ↓reduceIte]; done) rfl dX1_last_16

set_option maxHeartbeats 4000000 in
set_option maxRecDepth 100000 in
theorem met_X1_canClear_0 (l : Launch) (E : EV) (g u : Nat) (hg : g < 512) (hu : u < 32) : MI l yX1_canClear wsX1_canClear { frames := 0, cells := 0, slots := 0, locals := 0 } E [.int (nI g), .int (nI u), .int (nI 0)] [] (nI (if ccB 0 g u = true then 1 else 0)) [] := by
  refine sI (own := RX1) (cc := cX1_canClear) (maxL := 6) (ret := (some .boolean)) rfl (by decide) rfl (Nat.le_of_ble_eq_true rfl) ?_
  intro p e s m below meth c C hnm ls hl hW
  have hl : lv_has ls 6 [(0, .int (nI g)), (1, .int (nI u)), (2, .int (nI 0))] := hl
  have hW : WD E _ s [] s.heap [] := hW
  refine lv_iload_n C.x C.b dX1_canClear_0 rfl (lv_at hl 0 rfl) ?_
  refine x_if_eq C (by omega) (tgt := 8) dX1_canClear_1 (by decide) (fun c_1 => ?_) (fun c_1 => ?_)
  · refine lv_iload_n C.x C.b dX1_canClear_8 rfl (lv_at hl 0 rfl) ?_
    refine x_if_ne C (by omega) (tgt := 16) dX1_canClear_9 (by decide) (fun c_2 => ?_) (fun c_2 => ?_)
    · refine lv_iconst (v := nI 0) C.x C.b dX1_canClear_16 (by decide) ?_
      exact x_iret C hW (by first | rfl | exact z_narb _) (by first | (simp [ccB, c_1, c_2]; done) | (exfalso; omega)) rfl dX1_canClear_17
    · refine lv_iconst (v := nI 1) C.x C.b dX1_canClear_12 (by decide) ?_
      refine lv_goto (tgt := 17) C.x C.b dX1_canClear_13 (by decide) ?_
      exact x_iret C hW (by first | rfl | exact z_narb _) (by first | (simp [ccB, c_1, c_2]; done) | (exfalso; omega)) rfl dX1_canClear_17
  · refine lv_iload_n C.x C.b dX1_canClear_4 rfl (lv_at hl 2 rfl) ?_
    refine x_if_gt C (by omega) (tgt := 18) dX1_canClear_5 (by decide) (fun c_3 => ?_) (fun c_3 => ?_)
    · exact absurd c_3 (by decide)
    · refine lv_iload_n C.x C.b dX1_canClear_8 rfl (lv_at hl 0 rfl) ?_
      refine x_if_ne C (by omega) (tgt := 16) dX1_canClear_9 (by decide) (fun c_4 => ?_) (fun c_4 => ?_)
      · refine lv_iconst (v := nI 0) C.x C.b dX1_canClear_16 (by decide) ?_
        exact x_iret C hW (by first | rfl | exact z_narb _) (by first | (simp [ccB, c_1, c_3, c_4]; done) | (exfalso; omega)) rfl dX1_canClear_17
      · refine lv_iconst (v := nI 1) C.x C.b dX1_canClear_12 (by decide) ?_
        refine lv_goto (tgt := 17) C.x C.b dX1_canClear_13 (by decide) ?_
        exact x_iret C hW (by first | rfl | exact z_narb _) (by first | (simp [ccB, c_1, c_3, c_4]; done) | (exfalso; omega)) rfl dX1_canClear_17

set_option maxHeartbeats 4000000 in
set_option maxRecDepth 100000 in
theorem met_X1_canClear_1 (l : Launch) (E : EV) (g u : Nat) (hg : g < 512) (hu : u < 32) : MI l yX1_canClear wsX1_canClear { frames := 6, cells := 0, slots := 0, locals := 147 } E [.int (nI g), .int (nI u), .int (nI 1)] [] (nI (if ccB 1 g u = true then 1 else 0)) [] := by
  refine sI (own := RX1) (cc := cX1_canClear) (maxL := 6) (ret := (some .boolean)) rfl (by decide) rfl (Nat.le_of_ble_eq_true rfl) ?_
  intro p e s m below meth c C hnm ls hl hW
  have hl : lv_has ls 6 [(0, .int (nI g)), (1, .int (nI u)), (2, .int (nI 1))] := hl
  have hW : WD E _ s [] s.heap [] := hW
  refine lv_iload_n C.x C.b dX1_canClear_0 rfl (lv_at hl 0 rfl) ?_
  refine x_if_eq C (by omega) (tgt := 8) dX1_canClear_1 (by decide) (fun c_1 => ?_) (fun c_1 => ?_)
  · refine lv_iload_n C.x C.b dX1_canClear_8 rfl (lv_at hl 0 rfl) ?_
    refine x_if_ne C (by omega) (tgt := 16) dX1_canClear_9 (by decide) (fun c_2 => ?_) (fun c_2 => ?_)
    · refine lv_iconst (v := nI 0) C.x C.b dX1_canClear_16 (by decide) ?_
      exact x_iret C hW (by first | rfl | exact z_narb _) (by first | (simp [ccB, c_1, c_2]; done) | (exfalso; omega)) rfl dX1_canClear_17
    · refine lv_iconst (v := nI 1) C.x C.b dX1_canClear_12 (by decide) ?_
      refine lv_goto (tgt := 17) C.x C.b dX1_canClear_13 (by decide) ?_
      exact x_iret C hW (by first | rfl | exact z_narb _) (by first | (simp [ccB, c_1, c_2]; done) | (exfalso; omega)) rfl dX1_canClear_17
  · refine lv_iload_n C.x C.b dX1_canClear_4 rfl (lv_at hl 2 rfl) ?_
    refine x_if_gt C (by omega) (tgt := 18) dX1_canClear_5 (by decide) (fun c_3 => ?_) (fun c_3 => ?_)
    · refine lv_iconst (v := nI 0) C.x C.b dX1_canClear_18 (by decide) ?_
      refine lv_istore_n (lv' := [(3, .int (nI 0)), (0, .int (nI g)), (1, .int (nI u)), (2, .int (nI 1))]) C.x C.b dX1_canClear_19 rfl hl (by decide) rfl (fun ls hl => ?_)
      have lp_4 : ∀ (n4 b : Nat), b ≤ 5 → 5 + 1 ≤ b + n4 → (∀ b', b' < b → ∀ z', z' < 5 → ccG (ccB 0) g u b' z' = false) → ∀ (H : Heap) (locs : List Loc) (ls : Array Slot), WD E (va_A [] s.heap.size) s [] H locs → lv_has ls 6 [(3, .int (nI b)), (0, .int (nI g)), (1, .int (nI u)), (2, .int (nI 1))] → W p l e ({ frames := 6, cells := 0, slots := 0, locals := 147 } : Room) s m ([.int (nI g), .int (nI u), .int (nI 1)] : List Value).toArray below meth c H locs 0 0 (QI E [] (nI (if ccB 1 g u = true then 1 else 0)) [] below ([.int (nI g), .int (nI u), .int (nI 1)] : List Value).toArray s) (F0 m 20 ls []) := by
        intro n4
        induction n4 with
        | zero => intro b hb hn; exact absurd hn (by omega)
        | succ n4 ih4 =>
          intro b hb hn hib H locs ls hW hl
          refine lv_iload_n C.x C.b dX1_canClear_20 rfl (lv_at hl 0 rfl) ?_
          refine lv_iconst (v := nI 5) C.x C.b dX1_canClear_21 (by decide) ?_
          refine x_icmp_ge C (by omega) (by omega) (tgt := 90) dX1_canClear_22 (by decide) (fun c_5 => ?_) (fun c_5 => ?_)
          · obtain rfl : b = 5 := by omega
            refine lv_iconst (v := nI 0) C.x C.b dX1_canClear_90 (by decide) ?_
            exact x_iret C hW (by first | rfl | exact z_narb _) (by rw [if_neg (ccB_f (by assumption) hib)]) rfl dX1_canClear_91
          · refine lv_iconst (v := nI 0) C.x C.b dX1_canClear_25 (by decide) ?_
            refine lv_istore (lv' := [(4, .int (nI 0)), (3, .int (nI b)), (0, .int (nI g)), (1, .int (nI u)), (2, .int (nI 1))]) C.x C.b dX1_canClear_26 hl (by decide) rfl (fun ls hl => ?_)
            have lp_6 : ∀ (n6 z : Nat), z ≤ 5 → 5 + 1 ≤ z + n6 → (∀ z', z' < z → ccG (ccB 0) g u b z' = false) → ∀ (H : Heap) (locs : List Loc) (ls : Array Slot), WD E (va_A [] s.heap.size) s [] H locs → lv_has ls 6 [(4, .int (nI z)), (3, .int (nI b)), (0, .int (nI g)), (1, .int (nI u)), (2, .int (nI 1))] → W p l e ({ frames := 6, cells := 0, slots := 0, locals := 147 } : Room) s m ([.int (nI g), .int (nI u), .int (nI 1)] : List Value).toArray below meth c H locs 0 0 (QI E [] (nI (if ccB 1 g u = true then 1 else 0)) [] below ([.int (nI g), .int (nI u), .int (nI 1)] : List Value).toArray s) (F0 m 28 ls []) := by
              intro n6
              induction n6 with
              | zero => intro z hz hn; exact absurd hn (by omega)
              | succ n6 ih6 =>
                intro z hz hn hiz H locs ls hW hl
                refine lv_iload C.x C.b dX1_canClear_28 (lv_at hl 0 rfl) ?_
                refine lv_iconst (v := nI 5) C.x C.b dX1_canClear_30 (by decide) ?_
                refine x_icmp_ge C (by omega) (by omega) (tgt := 84) dX1_canClear_31 (by decide) (fun c_7 => ?_) (fun c_7 => ?_)
                · refine lv_iinc (k := 1) (v := nI (b + 1)) (lv' := [(3, .int (nI (b + 1))), (4, .int (nI z)), (0, .int (nI g)), (1, .int (nI u)), (2, .int (nI 1))]) C.x C.b dX1_canClear_84 hl rfl (z_inc b 1) (by decide) rfl (fun ls hl => ?_)
                  refine lv_goto (tgt := 20) C.x C.b dX1_canClear_87 (by decide) ?_
                  exact ih4 (b + 1) (by omega) (by omega) (lt_s hib (by first | (intro z' hz'; exact hiz z' (by omega)) | (intro z' _; simp [ccG, c_1, c_3, c_5, c_7]))) _ _ _ (hW.to rfl) (lv_to (lv_sub (l' := [(3, .int (nI (b + 1))), (0, .int (nI g)), (1, .int (nI u)), (2, .int (nI 1))]) hl [0, 2, 3, 4] rfl) (by first | rfl | (simp [c_1, c_3, c_5, c_7]; done) | (rw [if_pos (by omega)]; done) | (rw [if_neg (by omega)]; done) | (exfalso; omega) | ((repeat' split) <;> first | rfl | contradiction | (exfalso; omega))))
                · refine lv_iload_n C.x C.b dX1_canClear_34 rfl (lv_at hl 3 rfl) ?_
                  refine lv_iload_n C.x C.b dX1_canClear_35 rfl (lv_at hl 1 rfl) ?_
                  refine x_cSI C hW (As := [.int (nI u), .int (nI b)]) (rest := []) (wr := []) (wn := []) (met_X1_holds l E u b (by omega) (by omega)) gX1_canClear_X1_holds rfl 2 rfl ⟨rfl, rfl⟩ ⟨by decide +kernel, by decide +kernel, by decide +kernel⟩ ⟨Nat.le_of_ble_eq_true rfl, Nat.le_of_ble_eq_true rfl⟩ [] [] [] rfl (by decide) rfl (by decide) (by decide) rfl (by decide) hl.1 rfl (Nat.le_of_ble_eq_true rfl) dX1_canClear_36 ⟨Nat.zero_le _, Nat.zero_le _⟩ (fun H locs hW => ?_)
                  refine x_ifb_ne C (tgt := 84) dX1_canClear_39 (by decide) (fun c_8 => ?_) (fun c_8 => ?_)
                  · refine lv_iinc (k := 1) (v := nI (b + 1)) (lv' := [(3, .int (nI (b + 1))), (4, .int (nI z)), (0, .int (nI g)), (1, .int (nI u)), (2, .int (nI 1))]) C.x C.b dX1_canClear_84 hl rfl (z_inc b 1) (by decide) rfl (fun ls hl => ?_)
                    refine lv_goto (tgt := 20) C.x C.b dX1_canClear_87 (by decide) ?_
                    exact ih4 (b + 1) (by omega) (by omega) (lt_s hib (by first | (intro z' hz'; exact hiz z' (by omega)) | (intro z' _; simp [ccG, c_1, c_3, c_5, c_7, c_8]))) _ _ _ (hW.to rfl) (lv_to (lv_sub (l' := [(3, .int (nI (b + 1))), (0, .int (nI g)), (1, .int (nI u)), (2, .int (nI 1))]) hl [0, 2, 3, 4] rfl) (by first | rfl | (simp [c_1, c_3, c_5, c_7, c_8]; done) | (rw [if_pos (by omega)]; done) | (rw [if_neg (by omega)]; done) | (exfalso; omega) | ((repeat' split) <;> first | rfl | contradiction | (exfalso; omega))))
                  · refine lv_iload_n C.x C.b dX1_canClear_42 rfl (lv_at hl 2 rfl) ?_
                    refine lv_iload_n C.x C.b dX1_canClear_43 rfl (lv_at hl 1 rfl) ?_
                    refine lv_iload C.x C.b dX1_canClear_44 (lv_at hl 0 rfl) ?_
                    refine x_cSI C hW (As := [.int (nI g), .int (nI b), .int (nI z)]) (rest := []) (wr := []) (wn := []) (met_X1_felled l E g b z (by omega) (by omega) (by omega)) gX1_canClear_X1_felled rfl 3 rfl ⟨rfl, rfl⟩ ⟨by decide +kernel, by decide +kernel, by decide +kernel⟩ ⟨Nat.le_of_ble_eq_true rfl, Nat.le_of_ble_eq_true rfl⟩ [] [] [] rfl (by decide) rfl (by decide) (by decide) rfl (by decide) hl.1 rfl (Nat.le_of_ble_eq_true rfl) dX1_canClear_46 ⟨Nat.zero_le _, Nat.zero_le _⟩ (fun H locs hW => ?_)
                    refine lv_istore (lv' := [(5, .int (nI (feN g b z))), (4, .int (nI z)), (3, .int (nI b)), (0, .int (nI g)), (1, .int (nI u)), (2, .int (nI 1))]) C.x C.b dX1_canClear_49 hl (by decide) rfl (fun ls hl => ?_)
                    refine lv_iload C.x C.b dX1_canClear_51 (lv_at hl 0 rfl) ?_
                    refine x_if_eq C (by have := fe_lt (b := b) (z := z) hg; omega) (tgt := 78) dX1_canClear_53 (by decide) (fun c_9 => ?_) (fun c_9 => ?_)
                    · refine lv_iinc (k := 1) (v := nI (z + 1)) (lv' := [(4, .int (nI (z + 1))), (5, .int (nI (feN g b z))), (3, .int (nI b)), (0, .int (nI g)), (1, .int (nI u)), (2, .int (nI 1))]) C.x C.b dX1_canClear_78 hl rfl (z_inc z 1) (by decide) rfl (fun ls hl => ?_)
                      refine lv_goto (tgt := 28) C.x C.b dX1_canClear_81 (by decide) ?_
                      exact ih6 (z + 1) (by omega) (by omega) (lt_s hiz (by first | (simp [ccG, hne, c_1, c_3, c_5, c_7, c_8, c_9]; done) | (have heq : roN g b z = g := ((fe_0 hg).mp (by assumption)); simp [ccG, heq]))) _ _ _ (hW.to rfl) (lv_to (lv_sub (l' := [(4, .int (nI (z + 1))), (3, .int (nI b)), (0, .int (nI g)), (1, .int (nI u)), (2, .int (nI 1))]) hl [0, 2, 3, 4, 5] rfl) (by first | rfl | (simp [c_1, c_3, c_5, c_7, c_8, c_9]; done) | (rw [if_pos (by omega)]; done) | (rw [if_neg (by omega)]; done) | (exfalso; omega) | ((repeat' split) <;> first | rfl | contradiction | (exfalso; omega))))
                    · have hne : ¬ roN g b z = g := fun q => absurd ((fe_0 hg).mpr q) (by assumption)
                      refine lv_iload_n C.x C.b dX1_canClear_56 rfl (lv_at hl 3 rfl) ?_
                      refine lv_iload C.x C.b dX1_canClear_57 (lv_at hl 0 rfl) ?_
                      refine lv_iconst (v := nI 4294967295) C.x C.b dX1_canClear_59 (by decide) ?_
                      refine x_ixor C dX1_canClear_60 ?_
                      refine lv_iand C.x C.b dX1_canClear_61 ?_
                      refine x_toi (y := nI (roN g b z)) ((z_and _ _).trans (congrArg nI (fe_rest hg))) ?_
                      refine lv_iload_n C.x C.b dX1_canClear_62 rfl (lv_at hl 4 rfl) ?_
                      refine lv_iconst (v := nI 1) C.x C.b dX1_canClear_63 (by decide) ?_
                      refine lv_iload_n C.x C.b dX1_canClear_64 rfl (lv_at hl 2 rfl) ?_
                      refine x_ishl1 C (by omega) dX1_canClear_65 ?_
                      refine x_ior C dX1_canClear_66 ?_
                      refine lv_iload_n C.x C.b dX1_canClear_67 rfl (lv_at hl 5 rfl) ?_
                      refine lv_iconst (v := nI 1) C.x C.b dX1_canClear_68 (by decide) ?_
                      refine lv_isub C.x C.b dX1_canClear_69 ?_
                      refine x_toi (y := nI 0) (by decide) ?_
                      refine x_cSI C hW (As := [.int (nI (roN g b z)), .int (nI (u ||| (2 ^ b))), .int (nI 0)]) (rest := []) (wr := []) (wn := []) (met_X1_canClear_0 l E (roN g b z) (u ||| (2 ^ b)) (ro_lt hg) (or_lt32 hu (by omega))) gX1_canClear_X1_canClear rfl 3 rfl ⟨rfl, rfl⟩ ⟨by decide +kernel, by decide +kernel, by decide +kernel⟩ ⟨Nat.le_of_ble_eq_true rfl, Nat.le_of_ble_eq_true rfl⟩ [] [] [] rfl (by decide) rfl (by decide) (by decide) rfl (by decide) hl.1 rfl (Nat.le_of_ble_eq_true rfl) dX1_canClear_70 ⟨Nat.zero_le _, Nat.zero_le _⟩ (fun H locs hW => ?_)
                      refine x_ifb_eq C (tgt := 78) dX1_canClear_73 (by decide) (fun c_10 => ?_) (fun c_10 => ?_)
                      · refine lv_iinc (k := 1) (v := nI (z + 1)) (lv' := [(4, .int (nI (z + 1))), (5, .int (nI (feN g b z))), (3, .int (nI b)), (0, .int (nI g)), (1, .int (nI u)), (2, .int (nI 1))]) C.x C.b dX1_canClear_78 hl rfl (z_inc z 1) (by decide) rfl (fun ls hl => ?_)
                        refine lv_goto (tgt := 28) C.x C.b dX1_canClear_81 (by decide) ?_
                        exact ih6 (z + 1) (by omega) (by omega) (lt_s hiz (by first | (simp [ccG, hne, c_1, c_3, c_5, c_7, c_8, c_9, c_10]; done) | (have heq : roN g b z = g := ((fe_0 hg).mp (by assumption)); simp [ccG, heq]))) _ _ _ (hW.to rfl) (lv_to (lv_sub (l' := [(4, .int (nI (z + 1))), (3, .int (nI b)), (0, .int (nI g)), (1, .int (nI u)), (2, .int (nI 1))]) hl [0, 2, 3, 4, 5] rfl) (by first | rfl | (simp [c_1, c_3, c_5, c_7, c_8, c_9, c_10]; done) | (rw [if_pos (by omega)]; done) | (rw [if_neg (by omega)]; done) | (exfalso; omega) | ((repeat' split) <;> first | rfl | contradiction | (exfalso; omega))))
                      · refine lv_iconst (v := nI 1) C.x C.b dX1_canClear_76 (by decide) ?_
                        exact x_iret C hW (by first | rfl | exact z_narb _) (by rw [if_pos (ccB_t (b := b) (z := z) (by omega) (by omega) (by simp [ccG, hne, c_1, c_3, c_5, c_7, c_8, c_9, c_10]))]) rfl dX1_canClear_77
            exact lp_6 (5 + 1) 0 (by omega) (by omega) (fun _ h => absurd h (Nat.not_lt_zero _)) _ _ _ (hW.to rfl) (lv_to (lv_sub (l' := [(4, .int (nI 0)), (3, .int (nI b)), (0, .int (nI g)), (1, .int (nI u)), (2, .int (nI 1))]) hl [0, 1, 2, 3, 4] rfl) rfl)
      exact lp_4 (5 + 1) 0 (by omega) (by omega) (fun _ h => absurd h (Nat.not_lt_zero _)) _ _ _ (hW.to rfl) (lv_to (lv_sub (l' := [(3, .int (nI 0)), (0, .int (nI g)), (1, .int (nI u)), (2, .int (nI 1))]) hl [0, 1, 2, 3] rfl) rfl)
    · exact absurd (by decide) c_3

set_option maxHeartbeats 4000000 in
set_option maxRecDepth 100000 in
theorem met_X1_canClear_2 (l : Launch) (E : EV) (g u : Nat) (hg : g < 512) (hu : u < 32) : MI l yX1_canClear wsX1_canClear { frames := 7, cells := 0, slots := 0, locals := 172 } E [.int (nI g), .int (nI u), .int (nI 2)] [] (nI (if ccB 2 g u = true then 1 else 0)) [] := by
  refine sI (own := RX1) (cc := cX1_canClear) (maxL := 6) (ret := (some .boolean)) rfl (by decide) rfl (Nat.le_of_ble_eq_true rfl) ?_
  intro p e s m below meth c C hnm ls hl hW
  have hl : lv_has ls 6 [(0, .int (nI g)), (1, .int (nI u)), (2, .int (nI 2))] := hl
  have hW : WD E _ s [] s.heap [] := hW
  refine lv_iload_n C.x C.b dX1_canClear_0 rfl (lv_at hl 0 rfl) ?_
  refine x_if_eq C (by omega) (tgt := 8) dX1_canClear_1 (by decide) (fun c_1 => ?_) (fun c_1 => ?_)
  · refine lv_iload_n C.x C.b dX1_canClear_8 rfl (lv_at hl 0 rfl) ?_
    refine x_if_ne C (by omega) (tgt := 16) dX1_canClear_9 (by decide) (fun c_2 => ?_) (fun c_2 => ?_)
    · refine lv_iconst (v := nI 0) C.x C.b dX1_canClear_16 (by decide) ?_
      exact x_iret C hW (by first | rfl | exact z_narb _) (by first | (simp [ccB, c_1, c_2]; done) | (exfalso; omega)) rfl dX1_canClear_17
    · refine lv_iconst (v := nI 1) C.x C.b dX1_canClear_12 (by decide) ?_
      refine lv_goto (tgt := 17) C.x C.b dX1_canClear_13 (by decide) ?_
      exact x_iret C hW (by first | rfl | exact z_narb _) (by first | (simp [ccB, c_1, c_2]; done) | (exfalso; omega)) rfl dX1_canClear_17
  · refine lv_iload_n C.x C.b dX1_canClear_4 rfl (lv_at hl 2 rfl) ?_
    refine x_if_gt C (by omega) (tgt := 18) dX1_canClear_5 (by decide) (fun c_3 => ?_) (fun c_3 => ?_)
    · refine lv_iconst (v := nI 0) C.x C.b dX1_canClear_18 (by decide) ?_
      refine lv_istore_n (lv' := [(3, .int (nI 0)), (0, .int (nI g)), (1, .int (nI u)), (2, .int (nI 2))]) C.x C.b dX1_canClear_19 rfl hl (by decide) rfl (fun ls hl => ?_)
      have lp_4 : ∀ (n4 b : Nat), b ≤ 5 → 5 + 1 ≤ b + n4 → (∀ b', b' < b → ∀ z', z' < 5 → ccG (ccB 1) g u b' z' = false) → ∀ (H : Heap) (locs : List Loc) (ls : Array Slot), WD E (va_A [] s.heap.size) s [] H locs → lv_has ls 6 [(3, .int (nI b)), (0, .int (nI g)), (1, .int (nI u)), (2, .int (nI 2))] → W p l e ({ frames := 7, cells := 0, slots := 0, locals := 172 } : Room) s m ([.int (nI g), .int (nI u), .int (nI 2)] : List Value).toArray below meth c H locs 0 0 (QI E [] (nI (if ccB 2 g u = true then 1 else 0)) [] below ([.int (nI g), .int (nI u), .int (nI 2)] : List Value).toArray s) (F0 m 20 ls []) := by
        intro n4
        induction n4 with
        | zero => intro b hb hn; exact absurd hn (by omega)
        | succ n4 ih4 =>
          intro b hb hn hib H locs ls hW hl
          refine lv_iload_n C.x C.b dX1_canClear_20 rfl (lv_at hl 0 rfl) ?_
          refine lv_iconst (v := nI 5) C.x C.b dX1_canClear_21 (by decide) ?_
          refine x_icmp_ge C (by omega) (by omega) (tgt := 90) dX1_canClear_22 (by decide) (fun c_5 => ?_) (fun c_5 => ?_)
          · obtain rfl : b = 5 := by omega
            refine lv_iconst (v := nI 0) C.x C.b dX1_canClear_90 (by decide) ?_
            exact x_iret C hW (by first | rfl | exact z_narb _) (by rw [if_neg (ccB_f (by assumption) hib)]) rfl dX1_canClear_91
          · refine lv_iconst (v := nI 0) C.x C.b dX1_canClear_25 (by decide) ?_
            refine lv_istore (lv' := [(4, .int (nI 0)), (3, .int (nI b)), (0, .int (nI g)), (1, .int (nI u)), (2, .int (nI 2))]) C.x C.b dX1_canClear_26 hl (by decide) rfl (fun ls hl => ?_)
            have lp_6 : ∀ (n6 z : Nat), z ≤ 5 → 5 + 1 ≤ z + n6 → (∀ z', z' < z → ccG (ccB 1) g u b z' = false) → ∀ (H : Heap) (locs : List Loc) (ls : Array Slot), WD E (va_A [] s.heap.size) s [] H locs → lv_has ls 6 [(4, .int (nI z)), (3, .int (nI b)), (0, .int (nI g)), (1, .int (nI u)), (2, .int (nI 2))] → W p l e ({ frames := 7, cells := 0, slots := 0, locals := 172 } : Room) s m ([.int (nI g), .int (nI u), .int (nI 2)] : List Value).toArray below meth c H locs 0 0 (QI E [] (nI (if ccB 2 g u = true then 1 else 0)) [] below ([.int (nI g), .int (nI u), .int (nI 2)] : List Value).toArray s) (F0 m 28 ls []) := by
              intro n6
              induction n6 with
              | zero => intro z hz hn; exact absurd hn (by omega)
              | succ n6 ih6 =>
                intro z hz hn hiz H locs ls hW hl
                refine lv_iload C.x C.b dX1_canClear_28 (lv_at hl 0 rfl) ?_
                refine lv_iconst (v := nI 5) C.x C.b dX1_canClear_30 (by decide) ?_
                refine x_icmp_ge C (by omega) (by omega) (tgt := 84) dX1_canClear_31 (by decide) (fun c_7 => ?_) (fun c_7 => ?_)
                · refine lv_iinc (k := 1) (v := nI (b + 1)) (lv' := [(3, .int (nI (b + 1))), (4, .int (nI z)), (0, .int (nI g)), (1, .int (nI u)), (2, .int (nI 2))]) C.x C.b dX1_canClear_84 hl rfl (z_inc b 1) (by decide) rfl (fun ls hl => ?_)
                  refine lv_goto (tgt := 20) C.x C.b dX1_canClear_87 (by decide) ?_
                  exact ih4 (b + 1) (by omega) (by omega) (lt_s hib (by first | (intro z' hz'; exact hiz z' (by omega)) | (intro z' _; simp [ccG, c_1, c_3, c_5, c_7]))) _ _ _ (hW.to rfl) (lv_to (lv_sub (l' := [(3, .int (nI (b + 1))), (0, .int (nI g)), (1, .int (nI u)), (2, .int (nI 2))]) hl [0, 2, 3, 4] rfl) (by first | rfl | (simp [c_1, c_3, c_5, c_7]; done) | (rw [if_pos (by omega)]; done) | (rw [if_neg (by omega)]; done) | (exfalso; omega) | ((repeat' split) <;> first | rfl | contradiction | (exfalso; omega))))
                · refine lv_iload_n C.x C.b dX1_canClear_34 rfl (lv_at hl 3 rfl) ?_
                  refine lv_iload_n C.x C.b dX1_canClear_35 rfl (lv_at hl 1 rfl) ?_
                  refine x_cSI C hW (As := [.int (nI u), .int (nI b)]) (rest := []) (wr := []) (wn := []) (met_X1_holds l E u b (by omega) (by omega)) gX1_canClear_X1_holds rfl 2 rfl ⟨rfl, rfl⟩ ⟨by decide +kernel, by decide +kernel, by decide +kernel⟩ ⟨Nat.le_of_ble_eq_true rfl, Nat.le_of_ble_eq_true rfl⟩ [] [] [] rfl (by decide) rfl (by decide) (by decide) rfl (by decide) hl.1 rfl (Nat.le_of_ble_eq_true rfl) dX1_canClear_36 ⟨Nat.zero_le _, Nat.zero_le _⟩ (fun H locs hW => ?_)
                  refine x_ifb_ne C (tgt := 84) dX1_canClear_39 (by decide) (fun c_8 => ?_) (fun c_8 => ?_)
                  · refine lv_iinc (k := 1) (v := nI (b + 1)) (lv' := [(3, .int (nI (b + 1))), (4, .int (nI z)), (0, .int (nI g)), (1, .int (nI u)), (2, .int (nI 2))]) C.x C.b dX1_canClear_84 hl rfl (z_inc b 1) (by decide) rfl (fun ls hl => ?_)
                    refine lv_goto (tgt := 20) C.x C.b dX1_canClear_87 (by decide) ?_
                    exact ih4 (b + 1) (by omega) (by omega) (lt_s hib (by first | (intro z' hz'; exact hiz z' (by omega)) | (intro z' _; simp [ccG, c_1, c_3, c_5, c_7, c_8]))) _ _ _ (hW.to rfl) (lv_to (lv_sub (l' := [(3, .int (nI (b + 1))), (0, .int (nI g)), (1, .int (nI u)), (2, .int (nI 2))]) hl [0, 2, 3, 4] rfl) (by first | rfl | (simp [c_1, c_3, c_5, c_7, c_8]; done) | (rw [if_pos (by omega)]; done) | (rw [if_neg (by omega)]; done) | (exfalso; omega) | ((repeat' split) <;> first | rfl | contradiction | (exfalso; omega))))
                  · refine lv_iload_n C.x C.b dX1_canClear_42 rfl (lv_at hl 2 rfl) ?_
                    refine lv_iload_n C.x C.b dX1_canClear_43 rfl (lv_at hl 1 rfl) ?_
                    refine lv_iload C.x C.b dX1_canClear_44 (lv_at hl 0 rfl) ?_
                    refine x_cSI C hW (As := [.int (nI g), .int (nI b), .int (nI z)]) (rest := []) (wr := []) (wn := []) (met_X1_felled l E g b z (by omega) (by omega) (by omega)) gX1_canClear_X1_felled rfl 3 rfl ⟨rfl, rfl⟩ ⟨by decide +kernel, by decide +kernel, by decide +kernel⟩ ⟨Nat.le_of_ble_eq_true rfl, Nat.le_of_ble_eq_true rfl⟩ [] [] [] rfl (by decide) rfl (by decide) (by decide) rfl (by decide) hl.1 rfl (Nat.le_of_ble_eq_true rfl) dX1_canClear_46 ⟨Nat.zero_le _, Nat.zero_le _⟩ (fun H locs hW => ?_)
                    refine lv_istore (lv' := [(5, .int (nI (feN g b z))), (4, .int (nI z)), (3, .int (nI b)), (0, .int (nI g)), (1, .int (nI u)), (2, .int (nI 2))]) C.x C.b dX1_canClear_49 hl (by decide) rfl (fun ls hl => ?_)
                    refine lv_iload C.x C.b dX1_canClear_51 (lv_at hl 0 rfl) ?_
                    refine x_if_eq C (by have := fe_lt (b := b) (z := z) hg; omega) (tgt := 78) dX1_canClear_53 (by decide) (fun c_9 => ?_) (fun c_9 => ?_)
                    · refine lv_iinc (k := 1) (v := nI (z + 1)) (lv' := [(4, .int (nI (z + 1))), (5, .int (nI (feN g b z))), (3, .int (nI b)), (0, .int (nI g)), (1, .int (nI u)), (2, .int (nI 2))]) C.x C.b dX1_canClear_78 hl rfl (z_inc z 1) (by decide) rfl (fun ls hl => ?_)
                      refine lv_goto (tgt := 28) C.x C.b dX1_canClear_81 (by decide) ?_
                      exact ih6 (z + 1) (by omega) (by omega) (lt_s hiz (by first | (simp [ccG, hne, c_1, c_3, c_5, c_7, c_8, c_9]; done) | (have heq : roN g b z = g := ((fe_0 hg).mp (by assumption)); simp [ccG, heq]))) _ _ _ (hW.to rfl) (lv_to (lv_sub (l' := [(4, .int (nI (z + 1))), (3, .int (nI b)), (0, .int (nI g)), (1, .int (nI u)), (2, .int (nI 2))]) hl [0, 2, 3, 4, 5] rfl) (by first | rfl | (simp [c_1, c_3, c_5, c_7, c_8, c_9]; done) | (rw [if_pos (by omega)]; done) | (rw [if_neg (by omega)]; done) | (exfalso; omega) | ((repeat' split) <;> first | rfl | contradiction | (exfalso; omega))))
                    · have hne : ¬ roN g b z = g := fun q => absurd ((fe_0 hg).mpr q) (by assumption)
                      refine lv_iload_n C.x C.b dX1_canClear_56 rfl (lv_at hl 3 rfl) ?_
                      refine lv_iload C.x C.b dX1_canClear_57 (lv_at hl 0 rfl) ?_
                      refine lv_iconst (v := nI 4294967295) C.x C.b dX1_canClear_59 (by decide) ?_
                      refine x_ixor C dX1_canClear_60 ?_
                      refine lv_iand C.x C.b dX1_canClear_61 ?_
                      refine x_toi (y := nI (roN g b z)) ((z_and _ _).trans (congrArg nI (fe_rest hg))) ?_
                      refine lv_iload_n C.x C.b dX1_canClear_62 rfl (lv_at hl 4 rfl) ?_
                      refine lv_iconst (v := nI 1) C.x C.b dX1_canClear_63 (by decide) ?_
                      refine lv_iload_n C.x C.b dX1_canClear_64 rfl (lv_at hl 2 rfl) ?_
                      refine x_ishl1 C (by omega) dX1_canClear_65 ?_
                      refine x_ior C dX1_canClear_66 ?_
                      refine lv_iload_n C.x C.b dX1_canClear_67 rfl (lv_at hl 5 rfl) ?_
                      refine lv_iconst (v := nI 1) C.x C.b dX1_canClear_68 (by decide) ?_
                      refine lv_isub C.x C.b dX1_canClear_69 ?_
                      refine x_toi (y := nI 1) (by decide) ?_
                      refine x_cSI C hW (As := [.int (nI (roN g b z)), .int (nI (u ||| (2 ^ b))), .int (nI 1)]) (rest := []) (wr := []) (wn := []) (met_X1_canClear_1 l E (roN g b z) (u ||| (2 ^ b)) (ro_lt hg) (or_lt32 hu (by omega))) gX1_canClear_X1_canClear rfl 3 rfl ⟨rfl, rfl⟩ ⟨by decide +kernel, by decide +kernel, by decide +kernel⟩ ⟨Nat.le_of_ble_eq_true rfl, Nat.le_of_ble_eq_true rfl⟩ [] [] [] rfl (by decide) rfl (by decide) (by decide) rfl (by decide) hl.1 rfl (Nat.le_of_ble_eq_true rfl) dX1_canClear_70 ⟨Nat.zero_le _, Nat.zero_le _⟩ (fun H locs hW => ?_)
                      refine x_ifb_eq C (tgt := 78) dX1_canClear_73 (by decide) (fun c_10 => ?_) (fun c_10 => ?_)
                      · refine lv_iinc (k := 1) (v := nI (z + 1)) (lv' := [(4, .int (nI (z + 1))), (5, .int (nI (feN g b z))), (3, .int (nI b)), (0, .int (nI g)), (1, .int (nI u)), (2, .int (nI 2))]) C.x C.b dX1_canClear_78 hl rfl (z_inc z 1) (by decide) rfl (fun ls hl => ?_)
                        refine lv_goto (tgt := 28) C.x C.b dX1_canClear_81 (by decide) ?_
                        exact ih6 (z + 1) (by omega) (by omega) (lt_s hiz (by first | (simp [ccG, hne, c_1, c_3, c_5, c_7, c_8, c_9, c_10]; done) | (have heq : roN g b z = g := ((fe_0 hg).mp (by assumption)); simp [ccG, heq]))) _ _ _ (hW.to rfl) (lv_to (lv_sub (l' := [(4, .int (nI (z + 1))), (3, .int (nI b)), (0, .int (nI g)), (1, .int (nI u)), (2, .int (nI 2))]) hl [0, 2, 3, 4, 5] rfl) (by first | rfl | (simp [c_1, c_3, c_5, c_7, c_8, c_9, c_10]; done) | (rw [if_pos (by omega)]; done) | (rw [if_neg (by omega)]; done) | (exfalso; omega) | ((repeat' split) <;> first | rfl | contradiction | (exfalso; omega))))
                      · refine lv_iconst (v := nI 1) C.x C.b dX1_canClear_76 (by decide) ?_
                        exact x_iret C hW (by first | rfl | exact z_narb _) (by rw [if_pos (ccB_t (b := b) (z := z) (by omega) (by omega) (by simp [ccG, hne, c_1, c_3, c_5, c_7, c_8, c_9, c_10]))]) rfl dX1_canClear_77
            exact lp_6 (5 + 1) 0 (by omega) (by omega) (fun _ h => absurd h (Nat.not_lt_zero _)) _ _ _ (hW.to rfl) (lv_to (lv_sub (l' := [(4, .int (nI 0)), (3, .int (nI b)), (0, .int (nI g)), (1, .int (nI u)), (2, .int (nI 2))]) hl [0, 1, 2, 3, 4] rfl) rfl)
      exact lp_4 (5 + 1) 0 (by omega) (by omega) (fun _ h => absurd h (Nat.not_lt_zero _)) _ _ _ (hW.to rfl) (lv_to (lv_sub (l' := [(3, .int (nI 0)), (0, .int (nI g)), (1, .int (nI u)), (2, .int (nI 2))]) hl [0, 1, 2, 3] rfl) rfl)
    · exact absurd (by decide) c_3

set_option maxHeartbeats 4000000 in
set_option maxRecDepth 100000 in
theorem met_X1_canClear_3 (l : Launch) (E : EV) (g u : Nat) (hg : g < 512) (hu : u < 32) : MI l yX1_canClear wsX1_canClear { frames := 8, cells := 0, slots := 0, locals := 197 } E [.int (nI g), .int (nI u), .int (nI 3)] [] (nI (if ccB 3 g u = true then 1 else 0)) [] := by
  refine sI (own := RX1) (cc := cX1_canClear) (maxL := 6) (ret := (some .boolean)) rfl (by decide) rfl (Nat.le_of_ble_eq_true rfl) ?_
  intro p e s m below meth c C hnm ls hl hW
  have hl : lv_has ls 6 [(0, .int (nI g)), (1, .int (nI u)), (2, .int (nI 3))] := hl
  have hW : WD E _ s [] s.heap [] := hW
  refine lv_iload_n C.x C.b dX1_canClear_0 rfl (lv_at hl 0 rfl) ?_
  refine x_if_eq C (by omega) (tgt := 8) dX1_canClear_1 (by decide) (fun c_1 => ?_) (fun c_1 => ?_)
  · refine lv_iload_n C.x C.b dX1_canClear_8 rfl (lv_at hl 0 rfl) ?_
    refine x_if_ne C (by omega) (tgt := 16) dX1_canClear_9 (by decide) (fun c_2 => ?_) (fun c_2 => ?_)
    · refine lv_iconst (v := nI 0) C.x C.b dX1_canClear_16 (by decide) ?_
      exact x_iret C hW (by first | rfl | exact z_narb _) (by first | (simp [ccB, c_1, c_2]; done) | (exfalso; omega)) rfl dX1_canClear_17
    · refine lv_iconst (v := nI 1) C.x C.b dX1_canClear_12 (by decide) ?_
      refine lv_goto (tgt := 17) C.x C.b dX1_canClear_13 (by decide) ?_
      exact x_iret C hW (by first | rfl | exact z_narb _) (by first | (simp [ccB, c_1, c_2]; done) | (exfalso; omega)) rfl dX1_canClear_17
  · refine lv_iload_n C.x C.b dX1_canClear_4 rfl (lv_at hl 2 rfl) ?_
    refine x_if_gt C (by omega) (tgt := 18) dX1_canClear_5 (by decide) (fun c_3 => ?_) (fun c_3 => ?_)
    · refine lv_iconst (v := nI 0) C.x C.b dX1_canClear_18 (by decide) ?_
      refine lv_istore_n (lv' := [(3, .int (nI 0)), (0, .int (nI g)), (1, .int (nI u)), (2, .int (nI 3))]) C.x C.b dX1_canClear_19 rfl hl (by decide) rfl (fun ls hl => ?_)
      have lp_4 : ∀ (n4 b : Nat), b ≤ 5 → 5 + 1 ≤ b + n4 → (∀ b', b' < b → ∀ z', z' < 5 → ccG (ccB 2) g u b' z' = false) → ∀ (H : Heap) (locs : List Loc) (ls : Array Slot), WD E (va_A [] s.heap.size) s [] H locs → lv_has ls 6 [(3, .int (nI b)), (0, .int (nI g)), (1, .int (nI u)), (2, .int (nI 3))] → W p l e ({ frames := 8, cells := 0, slots := 0, locals := 197 } : Room) s m ([.int (nI g), .int (nI u), .int (nI 3)] : List Value).toArray below meth c H locs 0 0 (QI E [] (nI (if ccB 3 g u = true then 1 else 0)) [] below ([.int (nI g), .int (nI u), .int (nI 3)] : List Value).toArray s) (F0 m 20 ls []) := by
        intro n4
        induction n4 with
        | zero => intro b hb hn; exact absurd hn (by omega)
        | succ n4 ih4 =>
          intro b hb hn hib H locs ls hW hl
          refine lv_iload_n C.x C.b dX1_canClear_20 rfl (lv_at hl 0 rfl) ?_
          refine lv_iconst (v := nI 5) C.x C.b dX1_canClear_21 (by decide) ?_
          refine x_icmp_ge C (by omega) (by omega) (tgt := 90) dX1_canClear_22 (by decide) (fun c_5 => ?_) (fun c_5 => ?_)
          · obtain rfl : b = 5 := by omega
            refine lv_iconst (v := nI 0) C.x C.b dX1_canClear_90 (by decide) ?_
            exact x_iret C hW (by first | rfl | exact z_narb _) (by rw [if_neg (ccB_f (by assumption) hib)]) rfl dX1_canClear_91
          · refine lv_iconst (v := nI 0) C.x C.b dX1_canClear_25 (by decide) ?_
            refine lv_istore (lv' := [(4, .int (nI 0)), (3, .int (nI b)), (0, .int (nI g)), (1, .int (nI u)), (2, .int (nI 3))]) C.x C.b dX1_canClear_26 hl (by decide) rfl (fun ls hl => ?_)
            have lp_6 : ∀ (n6 z : Nat), z ≤ 5 → 5 + 1 ≤ z + n6 → (∀ z', z' < z → ccG (ccB 2) g u b z' = false) → ∀ (H : Heap) (locs : List Loc) (ls : Array Slot), WD E (va_A [] s.heap.size) s [] H locs → lv_has ls 6 [(4, .int (nI z)), (3, .int (nI b)), (0, .int (nI g)), (1, .int (nI u)), (2, .int (nI 3))] → W p l e ({ frames := 8, cells := 0, slots := 0, locals := 197 } : Room) s m ([.int (nI g), .int (nI u), .int (nI 3)] : List Value).toArray below meth c H locs 0 0 (QI E [] (nI (if ccB 3 g u = true then 1 else 0)) [] below ([.int (nI g), .int (nI u), .int (nI 3)] : List Value).toArray s) (F0 m 28 ls []) := by
              intro n6
              induction n6 with
              | zero => intro z hz hn; exact absurd hn (by omega)
              | succ n6 ih6 =>
                intro z hz hn hiz H locs ls hW hl
                refine lv_iload C.x C.b dX1_canClear_28 (lv_at hl 0 rfl) ?_
                refine lv_iconst (v := nI 5) C.x C.b dX1_canClear_30 (by decide) ?_
                refine x_icmp_ge C (by omega) (by omega) (tgt := 84) dX1_canClear_31 (by decide) (fun c_7 => ?_) (fun c_7 => ?_)
                · refine lv_iinc (k := 1) (v := nI (b + 1)) (lv' := [(3, .int (nI (b + 1))), (4, .int (nI z)), (0, .int (nI g)), (1, .int (nI u)), (2, .int (nI 3))]) C.x C.b dX1_canClear_84 hl rfl (z_inc b 1) (by decide) rfl (fun ls hl => ?_)
                  refine lv_goto (tgt := 20) C.x C.b dX1_canClear_87 (by decide) ?_
                  exact ih4 (b + 1) (by omega) (by omega) (lt_s hib (by first | (intro z' hz'; exact hiz z' (by omega)) | (intro z' _; simp [ccG, c_1, c_3, c_5, c_7]))) _ _ _ (hW.to rfl) (lv_to (lv_sub (l' := [(3, .int (nI (b + 1))), (0, .int (nI g)), (1, .int (nI u)), (2, .int (nI 3))]) hl [0, 2, 3, 4] rfl) (by first | rfl | (simp [c_1, c_3, c_5, c_7]; done) | (rw [if_pos (by omega)]; done) | (rw [if_neg (by omega)]; done) | (exfalso; omega) | ((repeat' split) <;> first | rfl | contradiction | (exfalso; omega))))
                · refine lv_iload_n C.x C.b dX1_canClear_34 rfl (lv_at hl 3 rfl) ?_
                  refine lv_iload_n C.x C.b dX1_canClear_35 rfl (lv_at hl 1 rfl) ?_
                  refine x_cSI C hW (As := [.int (nI u), .int (nI b)]) (rest := []) (wr := []) (wn := []) (met_X1_holds l E u b (by omega) (by omega)) gX1_canClear_X1_holds rfl 2 rfl ⟨rfl, rfl⟩ ⟨by decide +kernel, by decide +kernel, by decide +kernel⟩ ⟨Nat.le_of_ble_eq_true rfl, Nat.le_of_ble_eq_true rfl⟩ [] [] [] rfl (by decide) rfl (by decide) (by decide) rfl (by decide) hl.1 rfl (Nat.le_of_ble_eq_true rfl) dX1_canClear_36 ⟨Nat.zero_le _, Nat.zero_le _⟩ (fun H locs hW => ?_)
                  refine x_ifb_ne C (tgt := 84) dX1_canClear_39 (by decide) (fun c_8 => ?_) (fun c_8 => ?_)
                  · refine lv_iinc (k := 1) (v := nI (b + 1)) (lv' := [(3, .int (nI (b + 1))), (4, .int (nI z)), (0, .int (nI g)), (1, .int (nI u)), (2, .int (nI 3))]) C.x C.b dX1_canClear_84 hl rfl (z_inc b 1) (by decide) rfl (fun ls hl => ?_)
                    refine lv_goto (tgt := 20) C.x C.b dX1_canClear_87 (by decide) ?_
                    exact ih4 (b + 1) (by omega) (by omega) (lt_s hib (by first | (intro z' hz'; exact hiz z' (by omega)) | (intro z' _; simp [ccG, c_1, c_3, c_5, c_7, c_8]))) _ _ _ (hW.to rfl) (lv_to (lv_sub (l' := [(3, .int (nI (b + 1))), (0, .int (nI g)), (1, .int (nI u)), (2, .int (nI 3))]) hl [0, 2, 3, 4] rfl) (by first | rfl | (simp [c_1, c_3, c_5, c_7, c_8]; done) | (rw [if_pos (by omega)]; done) | (rw [if_neg (by omega)]; done) | (exfalso; omega) | ((repeat' split) <;> first | rfl | contradiction | (exfalso; omega))))
                  · refine lv_iload_n C.x C.b dX1_canClear_42 rfl (lv_at hl 2 rfl) ?_
                    refine lv_iload_n C.x C.b dX1_canClear_43 rfl (lv_at hl 1 rfl) ?_
                    refine lv_iload C.x C.b dX1_canClear_44 (lv_at hl 0 rfl) ?_
                    refine x_cSI C hW (As := [.int (nI g), .int (nI b), .int (nI z)]) (rest := []) (wr := []) (wn := []) (met_X1_felled l E g b z (by omega) (by omega) (by omega)) gX1_canClear_X1_felled rfl 3 rfl ⟨rfl, rfl⟩ ⟨by decide +kernel, by decide +kernel, by decide +kernel⟩ ⟨Nat.le_of_ble_eq_true rfl, Nat.le_of_ble_eq_true rfl⟩ [] [] [] rfl (by decide) rfl (by decide) (by decide) rfl (by decide) hl.1 rfl (Nat.le_of_ble_eq_true rfl) dX1_canClear_46 ⟨Nat.zero_le _, Nat.zero_le _⟩ (fun H locs hW => ?_)
                    refine lv_istore (lv' := [(5, .int (nI (feN g b z))), (4, .int (nI z)), (3, .int (nI b)), (0, .int (nI g)), (1, .int (nI u)), (2, .int (nI 3))]) C.x C.b dX1_canClear_49 hl (by decide) rfl (fun ls hl => ?_)
                    refine lv_iload C.x C.b dX1_canClear_51 (lv_at hl 0 rfl) ?_
                    refine x_if_eq C (by have := fe_lt (b := b) (z := z) hg; omega) (tgt := 78) dX1_canClear_53 (by decide) (fun c_9 => ?_) (fun c_9 => ?_)
                    · refine lv_iinc (k := 1) (v := nI (z + 1)) (lv' := [(4, .int (nI (z + 1))), (5, .int (nI (feN g b z))), (3, .int (nI b)), (0, .int (nI g)), (1, .int (nI u)), (2, .int (nI 3))]) C.x C.b dX1_canClear_78 hl rfl (z_inc z 1) (by decide) rfl (fun ls hl => ?_)
                      refine lv_goto (tgt := 28) C.x C.b dX1_canClear_81 (by decide) ?_
                      exact ih6 (z + 1) (by omega) (by omega) (lt_s hiz (by first | (simp [ccG, hne, c_1, c_3, c_5, c_7, c_8, c_9]; done) | (have heq : roN g b z = g := ((fe_0 hg).mp (by assumption)); simp [ccG, heq]))) _ _ _ (hW.to rfl) (lv_to (lv_sub (l' := [(4, .int (nI (z + 1))), (3, .int (nI b)), (0, .int (nI g)), (1, .int (nI u)), (2, .int (nI 3))]) hl [0, 2, 3, 4, 5] rfl) (by first | rfl | (simp [c_1, c_3, c_5, c_7, c_8, c_9]; done) | (rw [if_pos (by omega)]; done) | (rw [if_neg (by omega)]; done) | (exfalso; omega) | ((repeat' split) <;> first | rfl | contradiction | (exfalso; omega))))
                    · have hne : ¬ roN g b z = g := fun q => absurd ((fe_0 hg).mpr q) (by assumption)
                      refine lv_iload_n C.x C.b dX1_canClear_56 rfl (lv_at hl 3 rfl) ?_
                      refine lv_iload C.x C.b dX1_canClear_57 (lv_at hl 0 rfl) ?_
                      refine lv_iconst (v := nI 4294967295) C.x C.b dX1_canClear_59 (by decide) ?_
                      refine x_ixor C dX1_canClear_60 ?_
                      refine lv_iand C.x C.b dX1_canClear_61 ?_
                      refine x_toi (y := nI (roN g b z)) ((z_and _ _).trans (congrArg nI (fe_rest hg))) ?_
                      refine lv_iload_n C.x C.b dX1_canClear_62 rfl (lv_at hl 4 rfl) ?_
                      refine lv_iconst (v := nI 1) C.x C.b dX1_canClear_63 (by decide) ?_
                      refine lv_iload_n C.x C.b dX1_canClear_64 rfl (lv_at hl 2 rfl) ?_
                      refine x_ishl1 C (by omega) dX1_canClear_65 ?_
                      refine x_ior C dX1_canClear_66 ?_
                      refine lv_iload_n C.x C.b dX1_canClear_67 rfl (lv_at hl 5 rfl) ?_
                      refine lv_iconst (v := nI 1) C.x C.b dX1_canClear_68 (by decide) ?_
                      refine lv_isub C.x C.b dX1_canClear_69 ?_
                      refine x_toi (y := nI 2) (by decide) ?_
                      refine x_cSI C hW (As := [.int (nI (roN g b z)), .int (nI (u ||| (2 ^ b))), .int (nI 2)]) (rest := []) (wr := []) (wn := []) (met_X1_canClear_2 l E (roN g b z) (u ||| (2 ^ b)) (ro_lt hg) (or_lt32 hu (by omega))) gX1_canClear_X1_canClear rfl 3 rfl ⟨rfl, rfl⟩ ⟨by decide +kernel, by decide +kernel, by decide +kernel⟩ ⟨Nat.le_of_ble_eq_true rfl, Nat.le_of_ble_eq_true rfl⟩ [] [] [] rfl (by decide) rfl (by decide) (by decide) rfl (by decide) hl.1 rfl (Nat.le_of_ble_eq_true rfl) dX1_canClear_70 ⟨Nat.zero_le _, Nat.zero_le _⟩ (fun H locs hW => ?_)
                      refine x_ifb_eq C (tgt := 78) dX1_canClear_73 (by decide) (fun c_10 => ?_) (fun c_10 => ?_)
                      · refine lv_iinc (k := 1) (v := nI (z + 1)) (lv' := [(4, .int (nI (z + 1))), (5, .int (nI (feN g b z))), (3, .int (nI b)), (0, .int (nI g)), (1, .int (nI u)), (2, .int (nI 3))]) C.x C.b dX1_canClear_78 hl rfl (z_inc z 1) (by decide) rfl (fun ls hl => ?_)
                        refine lv_goto (tgt := 28) C.x C.b dX1_canClear_81 (by decide) ?_
                        exact ih6 (z + 1) (by omega) (by omega) (lt_s hiz (by first | (simp [ccG, hne, c_1, c_3, c_5, c_7, c_8, c_9, c_10]; done) | (have heq : roN g b z = g := ((fe_0 hg).mp (by assumption)); simp [ccG, heq]))) _ _ _ (hW.to rfl) (lv_to (lv_sub (l' := [(4, .int (nI (z + 1))), (3, .int (nI b)), (0, .int (nI g)), (1, .int (nI u)), (2, .int (nI 3))]) hl [0, 2, 3, 4, 5] rfl) (by first | rfl | (simp [c_1, c_3, c_5, c_7, c_8, c_9, c_10]; done) | (rw [if_pos (by omega)]; done) | (rw [if_neg (by omega)]; done) | (exfalso; omega) | ((repeat' split) <;> first | rfl | contradiction | (exfalso; omega))))
                      · refine lv_iconst (v := nI 1) C.x C.b dX1_canClear_76 (by decide) ?_
                        exact x_iret C hW (by first | rfl | exact z_narb _) (by rw [if_pos (ccB_t (b := b) (z := z) (by omega) (by omega) (by simp [ccG, hne, c_1, c_3, c_5, c_7, c_8, c_9, c_10]))]) rfl dX1_canClear_77
            exact lp_6 (5 + 1) 0 (by omega) (by omega) (fun _ h => absurd h (Nat.not_lt_zero _)) _ _ _ (hW.to rfl) (lv_to (lv_sub (l' := [(4, .int (nI 0)), (3, .int (nI b)), (0, .int (nI g)), (1, .int (nI u)), (2, .int (nI 3))]) hl [0, 1, 2, 3, 4] rfl) rfl)
      exact lp_4 (5 + 1) 0 (by omega) (by omega) (fun _ h => absurd h (Nat.not_lt_zero _)) _ _ _ (hW.to rfl) (lv_to (lv_sub (l' := [(3, .int (nI 0)), (0, .int (nI g)), (1, .int (nI u)), (2, .int (nI 3))]) hl [0, 1, 2, 3] rfl) rfl)
    · exact absurd (by decide) c_3
end
section
/-! WHAT THE METHODS OF ALLEY, RACK AND SHEET WORK OUT, on numbers -/
def suN (w : Nat → Nat) : Nat → Nat
  | 0 => 0
  | i + 1 => if 12 ≤ w i then suN w i else suN w i ||| 2 ^ i
theorem suN_lt (w : Nat → Nat) : ∀ i, i ≤ 9 → suN w i < 512
  | 0, _ => Nat.lt_of_le_of_lt (Nat.le_refl 0) (by decide)
  | i + 1, h => by
    have ih := suN_lt w i (by omega)
    simp only [suN]
    split
    · exact ih
    · exact Nat.or_lt_two_pow (n := 9) ih (Nat.pow_lt_pow_right (by decide) (by omega))
def rwW (f : Nat) (w : Nat → Nat) : Nat → Nat → Nat
  | 0 => w
  | i + 1 => if f / 2 ^ i % 2 = 1 then upN (rwW f w i) i (rwW f w i i + 1) else rwW f w i
def bkN (w : Nat → Nat) : Nat → Nat
  | 0 => 0
  | i + 1 => if 12 ≤ w i then bkN w i + 1 else bkN w i
def biN (g : Nat) (w : Nat → Nat) : Nat → Nat
  | 0 => 0
  | i + 1 => if 12 ≤ w i + (if g / 2 ^ i % 2 = 1 then 1 else 0) then biN g w i + 1 else biN g w i
def mwM (w : Nat → Nat) : Nat → Int32
  | 0 => -1
  | i + 1 => if 12 ≤ w i then mwM w i else if nI (w i) ≤ mwM w i then mwM w i else nI (w i)
def mwF (w : Nat → Nat) : Nat → Int32
  | 0 => -1
  | i + 1 => if 12 ≤ w i then mwF w i else if nI (w i) ≤ mwM w i then mwF w i else nI i
def dgA (d : Int64) (g : Nat) (w : Nat → Nat) : Nat → Int64
  | 0 => d
  | i + 1 => (dgA d g w i * (31 : Int64) + lN (if g / 2 ^ i % 2 = 1 then 1 else 0)) * (31 : Int64) + lN (w i)
def snW (aw : Nat → Nat) : Nat → Nat → Nat
  | 0 => aw
  | i + 1 => upN (snW aw i) i (snW aw i i - 1)
theorem snW_le {aw : Nat → Nat} {k : Nat} (h : ∀ j, aw j ≤ k) : ∀ i j, snW aw i j ≤ k
  | 0, j => h j
  | i + 1, j => by
    have ih := snW_le h i
    simp only [snW, upN]
    split
    · have := ih i; omega
    · exact ih j
theorem z_max0 {a : Nat} (h : a < 2 ^ 31) : (if nI 0 < nI a - nI 1 then nI a - nI 1 else nI 0) = nI (a - 1) := by
  by_cases q : a = 0
  · subst q; decide
  · rw [pk_sub (by omega : 1 ≤ a)]
    by_cases r : a = 1
    · subst r; decide
    · rw [if_pos ((nI_ltI (by decide) (by omega)).mpr (by omega))]
def zeW (f : Nat → Nat) : Nat → Nat → Nat
  | 0 => f
  | i + 1 => upN (zeW f i) i 0
def dgR (d : Int64) (aw : Nat → Nat) : Nat → Int64
  | 0 => d
  | i + 1 => dgR d aw i * (31 : Int64) + lN (aw i)
def smN (pt : Nat → Nat) (a : Nat) : Nat → Nat
  | 0 => 0
  | k + 1 => smN pt a k + pt (a + k)
theorem smN_le {pt : Nat → Nat} (h : ∀ j, pt j ≤ 9) (a : Nat) : ∀ k, smN pt a k ≤ 9 * k
  | 0 => Nat.le_refl 0
  | k + 1 => by
    have := smN_le h a k
    have := h (a + k)
    simp only [smN]; omega
/-- the points of a frame, of the class -/
def poN (pt ft ti bt : Nat → Nat) (th f : Nat) : Nat := smN pt (ft f) (min th (ft f + ti f + bt f) - ft f)
theorem poN_le {pt ft ti bt : Nat → Nat} {th : Nat} (h : ∀ j, pt j ≤ 9) (ht : th ≤ 30) (f : Nat) : poN pt ft ti bt th f ≤ 270 := by
  have := smN_le h (ft f) (min th (ft f + ti f + bt f) - ft f)
  unfold poN; omega
def scN (pt ft ti bt : Nat → Nat) (th : Nat) : Nat → Nat
  | 0 => 0
  | i + 1 => scN pt ft ti bt th i + poN pt ft ti bt th i
theorem scN_le {pt ft ti bt : Nat → Nat} {th : Nat} (h : ∀ j, pt j ≤ 9) (ht : th ≤ 30) : ∀ i, scN pt ft ti bt th i ≤ 270 * i
  | 0 => Nat.le_refl 0
  | i + 1 => by
    have := scN_le (ft := ft) (ti := ti) (bt := bt) h ht i
    have := poN_le (ft := ft) (ti := ti) (bt := bt) h ht i
    simp only [scN]; omega
def fbN (bt : Nat → Nat) (v : Nat) : Nat → Nat
  | 0 => 0
  | i + 1 => if bt i = v then fbN bt v i + 1 else fbN bt v i
theorem fbN_le (bt : Nat → Nat) (v : Nat) : ∀ i, fbN bt v i ≤ i
  | 0 => Nat.le_refl 0
  | i + 1 => by
    have := fbN_le bt v i
    simp only [fbN]; split <;> omega
def dgP (d : Int64) (f : Nat → Nat) : Nat → Int64
  | 0 => d
  | i + 1 => dgP d f i * (31 : Int64) + lN (f i)
def dgS (d : Int64) (pt ft ti bt : Nat → Nat) (th : Nat) : Int64 := dgP ((((d * (31 : Int64) + lN th) * (31 : Int64) + lN (scN pt ft ti bt th 10)) * (31 : Int64) + lN (fbN bt 2 10)) * (31 : Int64) + lN (fbN bt 1 10)) (poN pt ft ti bt th) 10
end
section
/-! ALLEY, RACK, SHEET -/
set_option maxHeartbeats 4000000 in
set_option maxRecDepth 100000 in
theorem met_X0_standingPins (l : Launch) (E : EV) (h0 h1 : Nat) (g sp : Nat) (w : Nat → Nat)  : MI l yX0_standingPins wsX0_standingPins { frames := 0, cells := 0, slots := 0, locals := 0 } E [.ref h0] [(h0, .inr (0, [.ref h1, .int (nI g), .int (nI sp)])), (h1, aI E 9 w)] (nI g) [(h0, .inr (0, [.ref h1, .int (nI g), .int (nI sp)])), (h1, aI E 9 w)] := by
  refine sI (own := RX0) (cc := cX0_standingPins) (maxL := 1) (ret := (some .int)) rfl (by decide) rfl (Nat.le_of_ble_eq_true rfl) ?_
  intro p e s m below meth c C hnm ls hl hW
  have hl : lv_has ls 1 [(0, .ref h0)] := hl
  have hW : WD E _ s [(h0, .inr (0, [.ref h1, .int (nI g), .int (nI sp)])), (h1, aI E 9 w)] s.heap [] := hW
  have hinX0 : ∀ w ∈ u_ws RX0 TX0 3, w ∈ wsX0_standingPins := by decide +kernel
  have hf17 : Cond.fieldLink RX0 17 (TX0 1).1 (TX0 1).2.1 (TX0 1).2.2.1 ∈ wsX0_standingPins := by decide +kernel
  refine lv_aload_n C.x C.b dX0_standingPins_0 rfl (lv_at hl 0 rfl) ?_
  refine x_get C hW 0 0 1 (Cn := RX0) (T := TX0) (N := 3) rfl rfl (by decide) hinX0 hf17 rfl dX0_standingPins_1 ?_
  exact x_iret C hW rfl rfl rfl dX0_standingPins_4

set_option maxHeartbeats 4000000 in
set_option maxRecDepth 100000 in
theorem met_X0_spares (l : Launch) (E : EV) (h0 h1 : Nat) (g sp : Nat) (w : Nat → Nat)  : MI l yX0_spares wsX0_spares { frames := 0, cells := 0, slots := 0, locals := 0 } E [.ref h0] [(h0, .inr (0, [.ref h1, .int (nI g), .int (nI sp)])), (h1, aI E 9 w)] (nI sp) [(h0, .inr (0, [.ref h1, .int (nI g), .int (nI sp)])), (h1, aI E 9 w)] := by
  refine sI (own := RX0) (cc := cX0_spares) (maxL := 1) (ret := (some .int)) rfl (by decide) rfl (Nat.le_of_ble_eq_true rfl) ?_
  intro p e s m below meth c C hnm ls hl hW
  have hl : lv_has ls 1 [(0, .ref h0)] := hl
  have hW : WD E _ s [(h0, .inr (0, [.ref h1, .int (nI g), .int (nI sp)])), (h1, aI E 9 w)] s.heap [] := hW
  have hinX0 : ∀ w ∈ u_ws RX0 TX0 3, w ∈ wsX0_spares := by decide +kernel
  have hf21 : Cond.fieldLink RX0 21 (TX0 2).1 (TX0 2).2.1 (TX0 2).2.2.1 ∈ wsX0_spares := by decide +kernel
  refine lv_aload_n C.x C.b dX0_spares_0 rfl (lv_at hl 0 rfl) ?_
  refine x_get C hW 0 0 2 (Cn := RX0) (T := TX0) (N := 3) rfl rfl (by decide) hinX0 hf21 rfl dX0_spares_1 ?_
  exact x_iret C hW rfl rfl rfl dX0_spares_4

set_option maxHeartbeats 4000000 in
set_option maxRecDepth 100000 in
theorem met_X0_wear (l : Launch) (E : EV) (h0 h1 : Nat) (g sp : Nat) (w : Nat → Nat) (q : Nat) (hq : q < 9) : MI l yX0_wear wsX0_wear { frames := 0, cells := 0, slots := 0, locals := 0 } E [.ref h0, .int (nI q)] [(h0, .inr (0, [.ref h1, .int (nI g), .int (nI sp)])), (h1, aI E 9 w)] (nI (w q)) [(h0, .inr (0, [.ref h1, .int (nI g), .int (nI sp)])), (h1, aI E 9 w)] := by
  refine sI (own := RX0) (cc := cX0_wear) (maxL := 2) (ret := (some .int)) rfl (by decide) rfl (Nat.le_of_ble_eq_true rfl) ?_
  intro p e s m below meth c C hnm ls hl hW
  have hl : lv_has ls 2 [(0, .ref h0), (1, .int (nI q))] := hl
  have hW : WD E _ s [(h0, .inr (0, [.ref h1, .int (nI g), .int (nI sp)])), (h1, aI E 9 w)] s.heap [] := hW
  have hinX0 : ∀ w ∈ u_ws RX0 TX0 3, w ∈ wsX0_wear := by decide +kernel
  have hf9 : Cond.fieldLink RX0 9 (TX0 0).1 (TX0 0).2.1 (TX0 0).2.2.1 ∈ wsX0_wear := by decide +kernel
  refine lv_aload_n C.x C.b dX0_wear_0 rfl (lv_at hl 0 rfl) ?_
  refine x_get C hW 0 0 0 (Cn := RX0) (T := TX0) (N := 3) rfl rfl (by decide) hinX0 hf9 rfl dX0_wear_1 ?_
  refine lv_iload_n C.x C.b dX0_wear_4 rfl (lv_at hl 1 rfl) ?_
  refine x_ald C hW 1 q rfl rfl (by omega) (by decide) dX0_wear_5 ?_
  exact x_iret C hW rfl rfl rfl dX0_wear_6

set_option maxHeartbeats 4000000 in
set_option maxRecDepth 100000 in
theorem met_X0_broken (l : Launch) (E : EV) (h0 h1 : Nat) (g sp : Nat) (w : Nat → Nat) (q : Nat) (hq : q < 9) (hw : ∀ i, w i ≤ 12) : MI l yX0_broken wsX0_broken { frames := 0, cells := 0, slots := 0, locals := 0 } E [.ref h0, .int (nI q)] [(h0, .inr (0, [.ref h1, .int (nI g), .int (nI sp)])), (h1, aI E 9 w)] (nI (if 12 ≤ w q then 1 else 0)) [(h0, .inr (0, [.ref h1, .int (nI g), .int (nI sp)])), (h1, aI E 9 w)] := by
  refine sI (own := RX0) (cc := cX0_broken) (maxL := 2) (ret := (some .boolean)) rfl (by decide) rfl (Nat.le_of_ble_eq_true rfl) ?_
  intro p e s m below meth c C hnm ls hl hW
  have hl : lv_has ls 2 [(0, .ref h0), (1, .int (nI q))] := hl
  have hW : WD E _ s [(h0, .inr (0, [.ref h1, .int (nI g), .int (nI sp)])), (h1, aI E 9 w)] s.heap [] := hW
  have hinX0 : ∀ w ∈ u_ws RX0 TX0 3, w ∈ wsX0_broken := by decide +kernel
  have hf9 : Cond.fieldLink RX0 9 (TX0 0).1 (TX0 0).2.1 (TX0 0).2.2.1 ∈ wsX0_broken := by decide +kernel
  refine lv_aload_n C.x C.b dX0_broken_0 rfl (lv_at hl 0 rfl) ?_
  refine x_get C hW 0 0 0 (Cn := RX0) (T := TX0) (N := 3) rfl rfl (by decide) hinX0 hf9 rfl dX0_broken_1 ?_
  refine lv_iload_n C.x C.b dX0_broken_4 rfl (lv_at hl 1 rfl) ?_
  refine x_ald C hW 1 q rfl rfl (by omega) (by decide) dX0_broken_5 ?_
  refine lv_bipush (v := nI 12) C.x C.b dX0_broken_6 (by decide) ?_
  refine x_icmp_lt C (by have := hw q; omega) (by omega) (tgt := 15) dX0_broken_8 (by decide) (fun c_1 => ?_) (fun c_1 => ?_)
  · refine lv_iconst (v := nI 0) C.x C.b dX0_broken_15 (by decide) ?_
    exact x_iret C hW (by first | rfl | exact z_narb _) (by first | rfl | (simp [c_1]; done) | (rw [if_pos (by omega)]; done) | (rw [if_neg (by omega)]; done) | (exfalso; omega) | ((repeat' split) <;> first | rfl | contradiction | (exfalso; omega))) rfl dX0_broken_16
  · refine lv_iconst (v := nI 1) C.x C.b dX0_broken_11 (by decide) ?_
    refine lv_goto (tgt := 16) C.x C.b dX0_broken_12 (by decide) ?_
    exact x_iret C hW (by first | rfl | exact z_narb _) (by first | rfl | (simp [c_1]; done) | (rw [if_pos (by omega)]; done) | (rw [if_neg (by omega)]; done) | (exfalso; omega) | ((repeat' split) <;> first | rfl | contradiction | (exfalso; omega))) rfl dX0_broken_16

set_option maxHeartbeats 4000000 in
set_option maxRecDepth 100000 in
theorem met_X0_setUp (l : Launch) (E : EV) (h0 h1 : Nat) (g sp : Nat) (w : Nat → Nat) (hw : ∀ i, w i ≤ 12) : MV l yX0_setUp wsX0_setUp { frames := 1, cells := 0, slots := 0, locals := 21 } E [.ref h0] [(h0, .inr (0, [.ref h1, .int (nI g), .int (nI sp)])), (h1, aI E 9 w)] [(h0, .inr (0, [.ref h1, .int (nI (suN w 9)), .int (nI sp)])), (h1, aI E 9 w)] := by
  refine sV (own := RX0) (cc := cX0_setUp) (maxL := 2) rfl (by decide) rfl (Nat.le_of_ble_eq_true rfl) ?_
  intro p e s m below meth c C hnm ls hl hW
  have hl : lv_has ls 2 [(0, .ref h0)] := hl
  have hW : WD E _ s [(h0, .inr (0, [.ref h1, .int (nI g), .int (nI sp)])), (h1, aI E 9 w)] s.heap [] := hW
  have hinX0 : ∀ w ∈ u_ws RX0 TX0 3, w ∈ wsX0_setUp := by decide +kernel
  have hf17 : Cond.fieldLink RX0 17 (TX0 1).1 (TX0 1).2.1 (TX0 1).2.2.1 ∈ wsX0_setUp := by decide +kernel
  refine lv_aload_n C.x C.b dX0_setUp_0 rfl (lv_at hl 0 rfl) ?_
  refine lv_iconst (v := nI 0) C.x C.b dX0_setUp_1 (by decide) ?_
  refine x_put C hW 0 0 1 (Cn := RX0) (T := TX0) (N := 3) (w' := [(h0, .inr (0, [.ref h1, .int (nI 0), .int (nI sp)])), (h1, aI E 9 w)]) tyX0 tyX0_ok nmX0 rfl rfl (by decide) hinX0 hf17 rfl (by decide +kernel) (Nat.le_of_ble_eq_true rfl) dX0_setUp_2 rfl (fun H locs hW => ?_)
  refine lv_iconst (v := nI 0) C.x C.b dX0_setUp_5 (by decide) ?_
  refine lv_istore_n (lv' := [(1, .int (nI 0)), (0, .ref h0)]) C.x C.b dX0_setUp_6 rfl hl (by decide) rfl (fun ls hl => ?_)
  have lp_1 : ∀ (n1 i : Nat), i ≤ 9 → 9 + 1 ≤ i + n1 → ∀ (H : Heap) (locs : List Loc) (ls : Array Slot), WD E (va_A [(h0, .inr (0, [.ref h1, .int (nI g), .int (nI sp)])), (h1, aI E 9 w)] s.heap.size) s [(h0, .inr (0, [.ref h1, .int (nI (suN w i)), .int (nI sp)])), (h1, aI E 9 w)] H locs → lv_has ls 2 [(1, .int (nI i)), (0, .ref h0)] → W p l e ({ frames := 1, cells := 0, slots := 0, locals := 21 } : Room) s m ([.ref h0] : List Value).toArray below meth c H locs 0 0 (QV E [(h0, .inr (0, [.ref h1, .int (nI g), .int (nI sp)])), (h1, aI E 9 w)] [(h0, .inr (0, [.ref h1, .int (nI (suN w 9)), .int (nI sp)])), (h1, aI E 9 w)] below ([.ref h0] : List Value).toArray s) (F0 m 7 ls []) := by
    intro n1
    induction n1 with
    | zero => intro i hi hn; exact absurd hn (by omega)
    | succ n1 ih1 =>
      intro i hi hn  H locs ls hW hl
      refine lv_iload_n C.x C.b dX0_setUp_7 rfl (lv_at hl 0 rfl) ?_
      refine lv_bipush (v := nI 9) C.x C.b dX0_setUp_8 (by decide) ?_
      refine x_icmp_ge C (by omega) (by omega) (tgt := 39) dX0_setUp_10 (by decide) (fun c_2 => ?_) (fun c_2 => ?_)
      · obtain rfl : i = 9 := by omega
        exact x_vret C hW rfl dX0_setUp_39
      · refine lv_aload_n C.x C.b dX0_setUp_13 rfl (lv_at hl 1 rfl) ?_
        refine lv_iload_n C.x C.b dX0_setUp_14 rfl (lv_at hl 0 rfl) ?_
        refine x_cVI C hW (As := [.int (nI i)]) (rest := []) (wr := []) (wn := [(h0, .inr (0, [.ref h1, .int (nI ((suN w i))), .int (nI sp)])), (h1, aI E 9 w)]) (Cn := RX0) (met_X0_broken l E h0 h1 (suN w i) sp w i (by omega) hw) gX0_setUp_X0_broken rfl 1 rfl ⟨rfl, rfl⟩ ⟨rfl, by decide +kernel, by decide +kernel, by decide +kernel⟩ ⟨Nat.le_of_ble_eq_true rfl, Nat.le_of_ble_eq_true rfl⟩ [0, 1] [] [0, 1] rfl (by decide) rfl (by decide) (by decide) rfl (by decide) 0 0 rfl rfl hl.1 rfl (Nat.le_of_ble_eq_true rfl) dX0_setUp_15 ⟨Nat.zero_le _, Nat.zero_le _⟩ (fun H locs hW => ?_)
        refine x_ifb_ne C (tgt := 33) dX0_setUp_18 (by decide) (fun c_3 => ?_) (fun c_3 => ?_)
        · refine lv_iinc (k := 0) (v := nI (i + 1)) (lv' := [(1, .int (nI (i + 1))), (0, .ref h0)]) C.x C.b dX0_setUp_33 hl rfl (z_inc i 1) (by decide) rfl (fun ls hl => ?_)
          refine lv_goto (tgt := 7) C.x C.b dX0_setUp_36 (by decide) ?_
          exact ih1 (i + 1) (by omega) (by omega)  _ _ _ (hW.to (by first | rfl | (simp [suN, c_2, c_3]; done) | (rw [if_pos (by omega)]; done) | (rw [if_neg (by omega)]; done) | (exfalso; omega) | (simp only [suN]; (repeat' split) <;> first | rfl | contradiction | (exfalso; omega)))) (lv_to (lv_sub (l' := [(1, .int (nI (i + 1))), (0, .ref h0)]) hl [0, 1] rfl) (by first | rfl | (simp [suN, c_2, c_3]; done) | (rw [if_pos (by omega)]; done) | (rw [if_neg (by omega)]; done) | (exfalso; omega) | (simp only [suN]; (repeat' split) <;> first | rfl | contradiction | (exfalso; omega))))
        · refine lv_aload_n C.x C.b dX0_setUp_21 rfl (lv_at hl 1 rfl) ?_
          refine lv_dup C.x C.b dX0_setUp_22 rfl ?_
          refine x_get C hW 0 0 1 (Cn := RX0) (T := TX0) (N := 3) rfl rfl (by decide) hinX0 hf17 rfl dX0_setUp_23 ?_
          refine lv_iconst (v := nI 1) C.x C.b dX0_setUp_26 (by decide) ?_
          refine lv_iload_n C.x C.b dX0_setUp_27 rfl (lv_at hl 0 rfl) ?_
          refine x_ishl1 C (by omega) dX0_setUp_28 ?_
          refine x_ior C dX0_setUp_29 ?_
          refine x_put C hW 0 0 1 (Cn := RX0) (T := TX0) (N := 3) (w' := [(h0, .inr (0, [.ref h1, .int (nI (((suN w i)) ||| (2 ^ i))), .int (nI sp)])), (h1, aI E 9 w)]) tyX0 tyX0_ok nmX0 rfl rfl (by decide) hinX0 hf17 rfl (by decide +kernel) (Nat.le_of_ble_eq_true rfl) dX0_setUp_30 rfl (fun H locs hW => ?_)
          refine lv_iinc (k := 0) (v := nI (i + 1)) (lv' := [(1, .int (nI (i + 1))), (0, .ref h0)]) C.x C.b dX0_setUp_33 hl rfl (z_inc i 1) (by decide) rfl (fun ls hl => ?_)
          refine lv_goto (tgt := 7) C.x C.b dX0_setUp_36 (by decide) ?_
          exact ih1 (i + 1) (by omega) (by omega)  _ _ _ (hW.to (by first | rfl | (simp [suN, c_2, c_3]; done) | (rw [if_pos (by omega)]; done) | (rw [if_neg (by omega)]; done) | (exfalso; omega) | (simp only [suN]; (repeat' split) <;> first | rfl | contradiction | (exfalso; omega)))) (lv_to (lv_sub (l' := [(1, .int (nI (i + 1))), (0, .ref h0)]) hl [0, 1] rfl) (by first | rfl | (simp [suN, c_2, c_3]; done) | (rw [if_pos (by omega)]; done) | (rw [if_neg (by omega)]; done) | (exfalso; omega) | (simp only [suN]; (repeat' split) <;> first | rfl | contradiction | (exfalso; omega))))
  exact lp_1 (9 + 1) 0 (by omega) (by omega)  _ _ _ (hW.to rfl) (lv_to (lv_sub (l' := [(1, .int (nI 0)), (0, .ref h0)]) hl [0, 1] rfl) rfl)

set_option maxHeartbeats 4000000 in
set_option maxRecDepth 100000 in
theorem met_X0_roll (l : Launch) (E : EV) (h0 h1 : Nat) (g sp : Nat) (w : Nat → Nat) (b z : Nat) (hg : g < 512) (hb : b < 5) (hz : z < 5) : MI l yX0_roll wsX0_roll { frames := 6, cells := 0, slots := 0, locals := 147 } E [.ref h0, .int (nI b), .int (nI z)] [(h0, .inr (0, [.ref h1, .int (nI g), .int (nI sp)])), (h1, aI E 9 w)] (nI (pcN (feN g b z))) [(h0, .inr (0, [.ref h1, .int (nI (roN g b z)), .int (nI sp)])), (h1, aI E 9 (rwW (feN g b z) w 9))] := by
  refine sI (own := RX0) (cc := cX0_roll) (maxL := 5) (ret := (some .int)) rfl (by decide) rfl (Nat.le_of_ble_eq_true rfl) ?_
  intro p e s m below meth c C hnm ls hl hW
  have hl : lv_has ls 5 [(0, .ref h0), (1, .int (nI b)), (2, .int (nI z))] := hl
  have hW : WD E _ s [(h0, .inr (0, [.ref h1, .int (nI g), .int (nI sp)])), (h1, aI E 9 w)] s.heap [] := hW
  have hinX0 : ∀ w ∈ u_ws RX0 TX0 3, w ∈ wsX0_roll := by decide +kernel
  have hf9 : Cond.fieldLink RX0 9 (TX0 0).1 (TX0 0).2.1 (TX0 0).2.2.1 ∈ wsX0_roll := by decide +kernel
  have hf17 : Cond.fieldLink RX0 17 (TX0 1).1 (TX0 1).2.1 (TX0 1).2.2.1 ∈ wsX0_roll := by decide +kernel
  refine lv_aload_n C.x C.b dX0_roll_0 rfl (lv_at hl 0 rfl) ?_
  refine x_get C hW 0 0 1 (Cn := RX0) (T := TX0) (N := 3) rfl rfl (by decide) hinX0 hf17 rfl dX0_roll_1 ?_
  refine lv_iload_n C.x C.b dX0_roll_4 rfl (lv_at hl 1 rfl) ?_
  refine lv_iload_n C.x C.b dX0_roll_5 rfl (lv_at hl 2 rfl) ?_
  refine x_cSI C hW (As := [.int (nI g), .int (nI b), .int (nI z)]) (rest := []) (wr := [(h0, .inr (0, [.ref h1, .int (nI g), .int (nI sp)])), (h1, aI E 9 w)]) (wn := [(h0, .inr (0, [.ref h1, .int (nI g), .int (nI sp)])), (h1, aI E 9 w)]) (met_X1_felled l E g b z (by omega) (by omega) (by omega)) gX0_roll_X1_felled rfl 3 rfl ⟨rfl, rfl⟩ ⟨by decide +kernel, by decide +kernel, by decide +kernel⟩ ⟨Nat.le_of_ble_eq_true rfl, Nat.le_of_ble_eq_true rfl⟩ [] [0, 1] [0, 1] rfl (by decide) rfl (by decide) (by decide) rfl (by decide) hl.1 rfl (Nat.le_of_ble_eq_true rfl) dX0_roll_6 ⟨Nat.zero_le _, Nat.zero_le _⟩ (fun H locs hW => ?_)
  refine lv_istore_n (lv' := [(3, .int (nI (feN g b z))), (0, .ref h0), (1, .int (nI b)), (2, .int (nI z))]) C.x C.b dX0_roll_9 rfl hl (by decide) rfl (fun ls hl => ?_)
  refine lv_iconst (v := nI 0) C.x C.b dX0_roll_10 (by decide) ?_
  refine lv_istore (lv' := [(4, .int (nI 0)), (3, .int (nI (feN g b z))), (0, .ref h0), (1, .int (nI b)), (2, .int (nI z))]) C.x C.b dX0_roll_11 hl (by decide) rfl (fun ls hl => ?_)
  have lp_1 : ∀ (n1 i : Nat), i ≤ 9 → 9 + 1 ≤ i + n1 → ∀ (H : Heap) (locs : List Loc) (ls : Array Slot), WD E (va_A [(h0, .inr (0, [.ref h1, .int (nI g), .int (nI sp)])), (h1, aI E 9 w)] s.heap.size) s [(h0, .inr (0, [.ref h1, .int (nI g), .int (nI sp)])), (h1, aI E 9 (rwW (feN g b z) w i))] H locs → lv_has ls 5 [(4, .int (nI i)), (3, .int (nI (feN g b z))), (0, .ref h0), (1, .int (nI b)), (2, .int (nI z))] → W p l e ({ frames := 6, cells := 0, slots := 0, locals := 147 } : Room) s m ([.ref h0, .int (nI b), .int (nI z)] : List Value).toArray below meth c H locs 0 0 (QI E [(h0, .inr (0, [.ref h1, .int (nI g), .int (nI sp)])), (h1, aI E 9 w)] (nI (pcN (feN g b z))) [(h0, .inr (0, [.ref h1, .int (nI (roN g b z)), .int (nI sp)])), (h1, aI E 9 (rwW (feN g b z) w 9))] below ([.ref h0, .int (nI b), .int (nI z)] : List Value).toArray s) (F0 m 13 ls []) := by
    intro n1
    induction n1 with
    | zero => intro i hi hn; exact absurd hn (by omega)
    | succ n1 ih1 =>
      intro i hi hn  H locs ls hW hl
      refine lv_iload C.x C.b dX0_roll_13 (lv_at hl 0 rfl) ?_
      refine lv_bipush (v := nI 9) C.x C.b dX0_roll_15 (by decide) ?_
      refine x_icmp_ge C (by omega) (by omega) (tgt := 46) dX0_roll_17 (by decide) (fun c_2 => ?_) (fun c_2 => ?_)
      · obtain rfl : i = 9 := by omega
        refine lv_aload_n C.x C.b dX0_roll_46 rfl (lv_at hl 2 rfl) ?_
        refine lv_dup C.x C.b dX0_roll_47 rfl ?_
        refine x_get C hW 0 0 1 (Cn := RX0) (T := TX0) (N := 3) rfl rfl (by decide) hinX0 hf17 rfl dX0_roll_48 ?_
        refine lv_iload_n C.x C.b dX0_roll_51 rfl (lv_at hl 1 rfl) ?_
        refine lv_iconst (v := nI 4294967295) C.x C.b dX0_roll_52 (by decide) ?_
        refine x_ixor C dX0_roll_53 ?_
        refine lv_iand C.x C.b dX0_roll_54 ?_
        refine x_toi (y := nI (roN g b z)) ((z_and _ _).trans (congrArg nI (fe_rest hg))) ?_
        refine x_put C hW 0 0 1 (Cn := RX0) (T := TX0) (N := 3) (w' := [(h0, .inr (0, [.ref h1, .int (nI (roN g b z)), .int (nI sp)])), (h1, aI E 9 (rwW (feN g b z) w 9))]) tyX0 tyX0_ok nmX0 rfl rfl (by decide) hinX0 hf17 rfl (by decide +kernel) (Nat.le_of_ble_eq_true rfl) dX0_roll_55 rfl (fun H locs hW => ?_)
        refine lv_iload_n C.x C.b dX0_roll_58 rfl (lv_at hl 1 rfl) ?_
        refine x_cSI C hW (As := [.int (nI (feN g b z))]) (rest := []) (wr := [(h0, .inr (0, [.ref h1, .int (nI (roN g b z)), .int (nI sp)])), (h1, aI E 9 (rwW (feN g b z) w 9))]) (wn := [(h0, .inr (0, [.ref h1, .int (nI (roN g b z)), .int (nI sp)])), (h1, aI E 9 (rwW (feN g b z) w 9))]) (met_J6_bitCount_0f7a4 l E (feN g b z) (fe_lt hg)) gX0_roll_J6_bitCount_0f7a4 rfl 1 rfl ⟨rfl, rfl⟩ ⟨by decide +kernel, by decide +kernel, by decide +kernel⟩ ⟨Nat.le_of_ble_eq_true rfl, Nat.le_of_ble_eq_true rfl⟩ [] [0, 1] [0, 1] rfl (by decide) rfl (by decide) (by decide) rfl (by decide) hl.1 rfl (Nat.le_of_ble_eq_true rfl) dX0_roll_59 ⟨Nat.zero_le _, Nat.zero_le _⟩ (fun H locs hW => ?_)
        exact x_iret C hW rfl rfl rfl dX0_roll_62
      · refine lv_iload_n C.x C.b dX0_roll_20 rfl (lv_at hl 1 rfl) ?_
        refine lv_iload C.x C.b dX0_roll_21 (lv_at hl 0 rfl) ?_
        refine x_cSI C hW (As := [.int (nI (feN g b z)), .int (nI i)]) (rest := []) (wr := [(h0, .inr (0, [.ref h1, .int (nI g), .int (nI sp)])), (h1, aI E 9 (rwW (feN g b z) w i))]) (wn := [(h0, .inr (0, [.ref h1, .int (nI g), .int (nI sp)])), (h1, aI E 9 (rwW (feN g b z) w i))]) (met_X1_holds l E (feN g b z) i (by omega) (by have := fe_lt (b := b) (z := z) hg; omega)) gX0_roll_X1_holds rfl 2 rfl ⟨rfl, rfl⟩ ⟨by decide +kernel, by decide +kernel, by decide +kernel⟩ ⟨Nat.le_of_ble_eq_true rfl, Nat.le_of_ble_eq_true rfl⟩ [] [0, 1] [0, 1] rfl (by decide) rfl (by decide) (by decide) rfl (by decide) hl.1 rfl (Nat.le_of_ble_eq_true rfl) dX0_roll_23 ⟨Nat.zero_le _, Nat.zero_le _⟩ (fun H locs hW => ?_)
        refine x_ifb_eq C (tgt := 40) dX0_roll_26 (by decide) (fun c_3 => ?_) (fun c_3 => ?_)
        · refine lv_iinc (k := 0) (v := nI (i + 1)) (lv' := [(4, .int (nI (i + 1))), (3, .int (nI (feN g b z))), (0, .ref h0), (1, .int (nI b)), (2, .int (nI z))]) C.x C.b dX0_roll_40 hl rfl (z_inc i 1) (by decide) rfl (fun ls hl => ?_)
          refine lv_goto (tgt := 13) C.x C.b dX0_roll_43 (by decide) ?_
          exact ih1 (i + 1) (by omega) (by omega)  _ _ _ (hW.to (by first | rfl | (simp [rwW, c_2, c_3]; done) | (rw [if_pos (by omega)]; done) | (rw [if_neg (by omega)]; done) | (exfalso; omega) | (simp only [rwW]; (repeat' split) <;> first | rfl | contradiction | (exfalso; omega)))) (lv_to (lv_sub (l' := [(4, .int (nI (i + 1))), (3, .int (nI (feN g b z))), (0, .ref h0), (1, .int (nI b)), (2, .int (nI z))]) hl [0, 1, 2, 3, 4] rfl) (by first | rfl | (simp [rwW, c_2, c_3]; done) | (rw [if_pos (by omega)]; done) | (rw [if_neg (by omega)]; done) | (exfalso; omega) | (simp only [rwW]; (repeat' split) <;> first | rfl | contradiction | (exfalso; omega))))
        · refine lv_aload_n C.x C.b dX0_roll_29 rfl (lv_at hl 2 rfl) ?_
          refine x_get C hW 0 0 0 (Cn := RX0) (T := TX0) (N := 3) rfl rfl (by decide) hinX0 hf9 rfl dX0_roll_30 ?_
          refine lv_iload C.x C.b dX0_roll_33 (lv_at hl 0 rfl) ?_
          refine lv_dup2_11 C.x C.b dX0_roll_35 rfl rfl ?_
          refine x_ald C hW 1 i rfl rfl (by omega) (by decide) dX0_roll_36 ?_
          refine lv_iconst (v := nI 1) C.x C.b dX0_roll_37 (by decide) ?_
          refine x_iadd C dX0_roll_38 ?_
          refine x_ast C hW 1 i (((rwW (feN g b z) w i) i) + 1) rfl rfl rfl (by omega) (by decide) dX0_roll_39 (w' := [(h0, .inr (0, [.ref h1, .int (nI g), .int (nI sp)])), (h1, aI E 9 (upN (rwW (feN g b z) w i) i (((rwW (feN g b z) w i) i) + 1)))]) rfl (fun H locs hW => ?_)
          refine lv_iinc (k := 0) (v := nI (i + 1)) (lv' := [(4, .int (nI (i + 1))), (3, .int (nI (feN g b z))), (0, .ref h0), (1, .int (nI b)), (2, .int (nI z))]) C.x C.b dX0_roll_40 hl rfl (z_inc i 1) (by decide) rfl (fun ls hl => ?_)
          refine lv_goto (tgt := 13) C.x C.b dX0_roll_43 (by decide) ?_
          exact ih1 (i + 1) (by omega) (by omega)  _ _ _ (hW.to (by first | rfl | (simp [rwW, c_2, c_3]; done) | (rw [if_pos (by omega)]; done) | (rw [if_neg (by omega)]; done) | (exfalso; omega) | (simp only [rwW]; (repeat' split) <;> first | rfl | contradiction | (exfalso; omega)))) (lv_to (lv_sub (l' := [(4, .int (nI (i + 1))), (3, .int (nI (feN g b z))), (0, .ref h0), (1, .int (nI b)), (2, .int (nI z))]) hl [0, 1, 2, 3, 4] rfl) (by first | rfl | (simp [rwW, c_2, c_3]; done) | (rw [if_pos (by omega)]; done) | (rw [if_neg (by omega)]; done) | (exfalso; omega) | (simp only [rwW]; (repeat' split) <;> first | rfl | contradiction | (exfalso; omega))))
  exact lp_1 (9 + 1) 0 (by omega) (by omega)  _ _ _ (hW.to rfl) (lv_to (lv_sub (l' := [(4, .int (nI 0)), (3, .int (nI (feN g b z))), (0, .ref h0), (1, .int (nI b)), (2, .int (nI z))]) hl [0, 1, 2, 3, 4] rfl) rfl)

set_option maxHeartbeats 4000000 in
set_option maxRecDepth 100000 in
theorem met_X0_replace (l : Launch) (E : EV) (h0 h1 : Nat) (g sp : Nat) (w : Nat → Nat) (q : Nat) (hq : q < 9) (hs : 1 ≤ sp) : MV l yX0_replace wsX0_replace { frames := 0, cells := 0, slots := 0, locals := 0 } E [.ref h0, .int (nI q)] [(h0, .inr (0, [.ref h1, .int (nI g), .int (nI sp)])), (h1, aI E 9 w)] [(h0, .inr (0, [.ref h1, .int (nI g), .int (nI (sp - 1))])), (h1, aI E 9 (upN w q 0))] := by
  refine sV (own := RX0) (cc := cX0_replace) (maxL := 2) rfl (by decide) rfl (Nat.le_of_ble_eq_true rfl) ?_
  intro p e s m below meth c C hnm ls hl hW
  have hl : lv_has ls 2 [(0, .ref h0), (1, .int (nI q))] := hl
  have hW : WD E _ s [(h0, .inr (0, [.ref h1, .int (nI g), .int (nI sp)])), (h1, aI E 9 w)] s.heap [] := hW
  have hinX0 : ∀ w ∈ u_ws RX0 TX0 3, w ∈ wsX0_replace := by decide +kernel
  have hf9 : Cond.fieldLink RX0 9 (TX0 0).1 (TX0 0).2.1 (TX0 0).2.2.1 ∈ wsX0_replace := by decide +kernel
  have hf21 : Cond.fieldLink RX0 21 (TX0 2).1 (TX0 2).2.1 (TX0 2).2.2.1 ∈ wsX0_replace := by decide +kernel
  refine lv_aload_n C.x C.b dX0_replace_0 rfl (lv_at hl 0 rfl) ?_
  refine lv_dup C.x C.b dX0_replace_1 rfl ?_
  refine x_get C hW 0 0 2 (Cn := RX0) (T := TX0) (N := 3) rfl rfl (by decide) hinX0 hf21 rfl dX0_replace_2 ?_
  refine lv_iconst (v := nI 1) C.x C.b dX0_replace_5 (by decide) ?_
  refine x_isub C (by omega) dX0_replace_6 ?_
  refine x_put C hW 0 0 2 (Cn := RX0) (T := TX0) (N := 3) (w' := [(h0, .inr (0, [.ref h1, .int (nI g), .int (nI (sp - 1))])), (h1, aI E 9 w)]) tyX0 tyX0_ok nmX0 rfl rfl (by decide) hinX0 hf21 rfl (by decide +kernel) (Nat.le_of_ble_eq_true rfl) dX0_replace_7 rfl (fun H locs hW => ?_)
  refine lv_aload_n C.x C.b dX0_replace_10 rfl (lv_at hl 0 rfl) ?_
  refine x_get C hW 0 0 0 (Cn := RX0) (T := TX0) (N := 3) rfl rfl (by decide) hinX0 hf9 rfl dX0_replace_11 ?_
  refine lv_iload_n C.x C.b dX0_replace_14 rfl (lv_at hl 1 rfl) ?_
  refine lv_iconst (v := nI 0) C.x C.b dX0_replace_15 (by decide) ?_
  refine x_ast C hW 1 q 0 rfl rfl rfl (by omega) (by decide) dX0_replace_16 (w' := [(h0, .inr (0, [.ref h1, .int (nI g), .int (nI (sp - 1))])), (h1, aI E 9 (upN w q 0))]) rfl (fun H locs hW => ?_)
  exact x_vret C hW rfl dX0_replace_17

set_option maxHeartbeats 4000000 in
set_option maxRecDepth 100000 in
theorem met_X0_stock (l : Launch) (E : EV) (h0 h1 : Nat) (g sp : Nat) (w : Nat → Nat) (k : Nat)  : MV l yX0_stock wsX0_stock { frames := 0, cells := 0, slots := 0, locals := 0 } E [.ref h0, .int (nI k)] [(h0, .inr (0, [.ref h1, .int (nI g), .int (nI sp)])), (h1, aI E 9 w)] [(h0, .inr (0, [.ref h1, .int (nI g), .int (nI (sp + k))])), (h1, aI E 9 w)] := by
  refine sV (own := RX0) (cc := cX0_stock) (maxL := 2) rfl (by decide) rfl (Nat.le_of_ble_eq_true rfl) ?_
  intro p e s m below meth c C hnm ls hl hW
  have hl : lv_has ls 2 [(0, .ref h0), (1, .int (nI k))] := hl
  have hW : WD E _ s [(h0, .inr (0, [.ref h1, .int (nI g), .int (nI sp)])), (h1, aI E 9 w)] s.heap [] := hW
  have hinX0 : ∀ w ∈ u_ws RX0 TX0 3, w ∈ wsX0_stock := by decide +kernel
  have hf21 : Cond.fieldLink RX0 21 (TX0 2).1 (TX0 2).2.1 (TX0 2).2.2.1 ∈ wsX0_stock := by decide +kernel
  refine lv_aload_n C.x C.b dX0_stock_0 rfl (lv_at hl 0 rfl) ?_
  refine lv_dup C.x C.b dX0_stock_1 rfl ?_
  refine x_get C hW 0 0 2 (Cn := RX0) (T := TX0) (N := 3) rfl rfl (by decide) hinX0 hf21 rfl dX0_stock_2 ?_
  refine lv_iload_n C.x C.b dX0_stock_5 rfl (lv_at hl 1 rfl) ?_
  refine x_iadd C dX0_stock_6 ?_
  refine x_put C hW 0 0 2 (Cn := RX0) (T := TX0) (N := 3) (w' := [(h0, .inr (0, [.ref h1, .int (nI g), .int (nI (sp + k))])), (h1, aI E 9 w)]) tyX0 tyX0_ok nmX0 rfl rfl (by decide) hinX0 hf21 rfl (by decide +kernel) (Nat.le_of_ble_eq_true rfl) dX0_stock_7 rfl (fun H locs hW => ?_)
  exact x_vret C hW rfl dX0_stock_10

set_option maxHeartbeats 4000000 in
set_option maxRecDepth 100000 in
theorem met_X0_brokenCount (l : Launch) (E : EV) (h0 h1 : Nat) (g sp : Nat) (w : Nat → Nat) (hw : ∀ i, w i ≤ 12) : MI l yX0_brokenCount wsX0_brokenCount { frames := 1, cells := 0, slots := 0, locals := 21 } E [.ref h0] [(h0, .inr (0, [.ref h1, .int (nI g), .int (nI sp)])), (h1, aI E 9 w)] (nI (bkN w 9)) [(h0, .inr (0, [.ref h1, .int (nI g), .int (nI sp)])), (h1, aI E 9 w)] := by
  refine sI (own := RX0) (cc := cX0_brokenCount) (maxL := 3) (ret := (some .int)) rfl (by decide) rfl (Nat.le_of_ble_eq_true rfl) ?_
  intro p e s m below meth c C hnm ls hl hW
  have hl : lv_has ls 3 [(0, .ref h0)] := hl
  have hW : WD E _ s [(h0, .inr (0, [.ref h1, .int (nI g), .int (nI sp)])), (h1, aI E 9 w)] s.heap [] := hW
  refine lv_iconst (v := nI 0) C.x C.b dX0_brokenCount_0 (by decide) ?_
  refine lv_istore_n (lv' := [(1, .int (nI 0)), (0, .ref h0)]) C.x C.b dX0_brokenCount_1 rfl hl (by decide) rfl (fun ls hl => ?_)
  refine lv_iconst (v := nI 0) C.x C.b dX0_brokenCount_2 (by decide) ?_
  refine lv_istore_n (lv' := [(2, .int (nI 0)), (1, .int (nI 0)), (0, .ref h0)]) C.x C.b dX0_brokenCount_3 rfl hl (by decide) rfl (fun ls hl => ?_)
  have lp_1 : ∀ (n1 i : Nat), i ≤ 9 → 9 + 1 ≤ i + n1 → ∀ (H : Heap) (locs : List Loc) (ls : Array Slot), WD E (va_A [(h0, .inr (0, [.ref h1, .int (nI g), .int (nI sp)])), (h1, aI E 9 w)] s.heap.size) s [(h0, .inr (0, [.ref h1, .int (nI g), .int (nI sp)])), (h1, aI E 9 w)] H locs → lv_has ls 3 [(2, .int (nI i)), (1, .int (nI (bkN w i))), (0, .ref h0)] → W p l e ({ frames := 1, cells := 0, slots := 0, locals := 21 } : Room) s m ([.ref h0] : List Value).toArray below meth c H locs 0 0 (QI E [(h0, .inr (0, [.ref h1, .int (nI g), .int (nI sp)])), (h1, aI E 9 w)] (nI (bkN w 9)) [(h0, .inr (0, [.ref h1, .int (nI g), .int (nI sp)])), (h1, aI E 9 w)] below ([.ref h0] : List Value).toArray s) (F0 m 4 ls []) := by
    intro n1
    induction n1 with
    | zero => intro i hi hn; exact absurd hn (by omega)
    | succ n1 ih1 =>
      intro i hi hn  H locs ls hW hl
      refine lv_iload_n C.x C.b dX0_brokenCount_4 rfl (lv_at hl 0 rfl) ?_
      refine lv_bipush (v := nI 9) C.x C.b dX0_brokenCount_5 (by decide) ?_
      refine x_icmp_ge C (by omega) (by omega) (tgt := 27) dX0_brokenCount_7 (by decide) (fun c_2 => ?_) (fun c_2 => ?_)
      · obtain rfl : i = 9 := by omega
        refine lv_iload_n C.x C.b dX0_brokenCount_27 rfl (lv_at hl 1 rfl) ?_
        exact x_iret C hW rfl rfl rfl dX0_brokenCount_28
      · refine lv_aload_n C.x C.b dX0_brokenCount_10 rfl (lv_at hl 2 rfl) ?_
        refine lv_iload_n C.x C.b dX0_brokenCount_11 rfl (lv_at hl 0 rfl) ?_
        refine x_cVI C hW (As := [.int (nI i)]) (rest := []) (wr := []) (wn := [(h0, .inr (0, [.ref h1, .int (nI g), .int (nI sp)])), (h1, aI E 9 w)]) (Cn := RX0) (met_X0_broken l E h0 h1 g sp w i (by omega) hw) gX0_brokenCount_X0_broken rfl 1 rfl ⟨rfl, rfl⟩ ⟨rfl, by decide +kernel, by decide +kernel, by decide +kernel⟩ ⟨Nat.le_of_ble_eq_true rfl, Nat.le_of_ble_eq_true rfl⟩ [0, 1] [] [0, 1] rfl (by decide) rfl (by decide) (by decide) rfl (by decide) 0 0 rfl rfl hl.1 rfl (Nat.le_of_ble_eq_true rfl) dX0_brokenCount_12 ⟨Nat.zero_le _, Nat.zero_le _⟩ (fun H locs hW => ?_)
        refine x_ifb_eq C (tgt := 21) dX0_brokenCount_15 (by decide) (fun c_3 => ?_) (fun c_3 => ?_)
        · refine lv_iinc (k := 0) (v := nI (i + 1)) (lv' := [(2, .int (nI (i + 1))), (1, .int (nI (bkN w i))), (0, .ref h0)]) C.x C.b dX0_brokenCount_21 hl rfl (z_inc i 1) (by decide) rfl (fun ls hl => ?_)
          refine lv_goto (tgt := 4) C.x C.b dX0_brokenCount_24 (by decide) ?_
          exact ih1 (i + 1) (by omega) (by omega)  _ _ _ (hW.to rfl) (lv_to (lv_sub (l' := [(2, .int (nI (i + 1))), (1, .int (nI (bkN w i))), (0, .ref h0)]) hl [0, 1, 2] rfl) (by first | rfl | (simp [bkN, c_2, c_3]; done) | (rw [if_pos (by omega)]; done) | (rw [if_neg (by omega)]; done) | (exfalso; omega) | (simp only [bkN]; (repeat' split) <;> first | rfl | contradiction | (exfalso; omega))))
        · refine lv_iinc (k := 1) (v := nI ((bkN w i) + 1)) (lv' := [(1, .int (nI ((bkN w i) + 1))), (2, .int (nI i)), (0, .ref h0)]) C.x C.b dX0_brokenCount_18 hl rfl (z_inc (bkN w i) 1) (by decide) rfl (fun ls hl => ?_)
          refine lv_iinc (k := 1) (v := nI (i + 1)) (lv' := [(2, .int (nI (i + 1))), (1, .int (nI ((bkN w i) + 1))), (0, .ref h0)]) C.x C.b dX0_brokenCount_21 hl rfl (z_inc i 1) (by decide) rfl (fun ls hl => ?_)
          refine lv_goto (tgt := 4) C.x C.b dX0_brokenCount_24 (by decide) ?_
          exact ih1 (i + 1) (by omega) (by omega)  _ _ _ (hW.to rfl) (lv_to (lv_sub (l' := [(2, .int (nI (i + 1))), (1, .int (nI ((bkN w i) + 1))), (0, .ref h0)]) hl [0, 1, 2] rfl) (by first | rfl | (simp [bkN, c_2, c_3]; done) | (rw [if_pos (by omega)]; done) | (rw [if_neg (by omega)]; done) | (exfalso; omega) | (simp only [bkN]; (repeat' split) <;> first | rfl | contradiction | (exfalso; omega))))
  exact lp_1 (9 + 1) 0 (by omega) (by omega)  _ _ _ (hW.to rfl) (lv_to (lv_sub (l' := [(2, .int (nI 0)), (1, .int (nI 0)), (0, .ref h0)]) hl [0, 1, 2] rfl) rfl)

set_option maxHeartbeats 4000000 in
set_option maxRecDepth 100000 in
theorem met_X0_brokenIfAllFell (l : Launch) (E : EV) (h0 h1 : Nat) (g sp : Nat) (w : Nat → Nat) (hw : ∀ i, w i ≤ 12) (hg : g < 512) : MI l yX0_brokenIfAllFell wsX0_brokenIfAllFell { frames := 1, cells := 0, slots := 0, locals := 21 } E [.ref h0] [(h0, .inr (0, [.ref h1, .int (nI g), .int (nI sp)])), (h1, aI E 9 w)] (nI (biN g w 9)) [(h0, .inr (0, [.ref h1, .int (nI g), .int (nI sp)])), (h1, aI E 9 w)] := by
  refine sI (own := RX0) (cc := cX0_brokenIfAllFell) (maxL := 4) (ret := (some .int)) rfl (by decide) rfl (Nat.le_of_ble_eq_true rfl) ?_
  intro p e s m below meth c C hnm ls hl hW
  have hl : lv_has ls 4 [(0, .ref h0)] := hl
  have hW : WD E _ s [(h0, .inr (0, [.ref h1, .int (nI g), .int (nI sp)])), (h1, aI E 9 w)] s.heap [] := hW
  have hinX0 : ∀ w ∈ u_ws RX0 TX0 3, w ∈ wsX0_brokenIfAllFell := by decide +kernel
  have hf9 : Cond.fieldLink RX0 9 (TX0 0).1 (TX0 0).2.1 (TX0 0).2.2.1 ∈ wsX0_brokenIfAllFell := by decide +kernel
  have hf17 : Cond.fieldLink RX0 17 (TX0 1).1 (TX0 1).2.1 (TX0 1).2.2.1 ∈ wsX0_brokenIfAllFell := by decide +kernel
  refine lv_iconst (v := nI 0) C.x C.b dX0_brokenIfAllFell_0 (by decide) ?_
  refine lv_istore_n (lv' := [(1, .int (nI 0)), (0, .ref h0)]) C.x C.b dX0_brokenIfAllFell_1 rfl hl (by decide) rfl (fun ls hl => ?_)
  refine lv_iconst (v := nI 0) C.x C.b dX0_brokenIfAllFell_2 (by decide) ?_
  refine lv_istore_n (lv' := [(2, .int (nI 0)), (1, .int (nI 0)), (0, .ref h0)]) C.x C.b dX0_brokenIfAllFell_3 rfl hl (by decide) rfl (fun ls hl => ?_)
  have lp_1 : ∀ (n1 i : Nat), i ≤ 9 → 9 + 1 ≤ i + n1 → ∀ (H : Heap) (locs : List Loc) (ls : Array Slot), WD E (va_A [(h0, .inr (0, [.ref h1, .int (nI g), .int (nI sp)])), (h1, aI E 9 w)] s.heap.size) s [(h0, .inr (0, [.ref h1, .int (nI g), .int (nI sp)])), (h1, aI E 9 w)] H locs → lv_has ls 4 [(2, .int (nI i)), (1, .int (nI (biN g w i))), (0, .ref h0)] → W p l e ({ frames := 1, cells := 0, slots := 0, locals := 21 } : Room) s m ([.ref h0] : List Value).toArray below meth c H locs 0 0 (QI E [(h0, .inr (0, [.ref h1, .int (nI g), .int (nI sp)])), (h1, aI E 9 w)] (nI (biN g w 9)) [(h0, .inr (0, [.ref h1, .int (nI g), .int (nI sp)])), (h1, aI E 9 w)] below ([.ref h0] : List Value).toArray s) (F0 m 4 ls []) := by
    intro n1
    induction n1 with
    | zero => intro i hi hn; exact absurd hn (by omega)
    | succ n1 ih1 =>
      intro i hi hn  H locs ls hW hl
      refine lv_iload_n C.x C.b dX0_brokenIfAllFell_4 rfl (lv_at hl 0 rfl) ?_
      refine lv_bipush (v := nI 9) C.x C.b dX0_brokenIfAllFell_5 (by decide) ?_
      refine x_icmp_ge C (by omega) (by omega) (tgt := 49) dX0_brokenIfAllFell_7 (by decide) (fun c_2 => ?_) (fun c_2 => ?_)
      · obtain rfl : i = 9 := by omega
        refine lv_iload_n C.x C.b dX0_brokenIfAllFell_49 rfl (lv_at hl 1 rfl) ?_
        exact x_iret C hW rfl rfl rfl dX0_brokenIfAllFell_50
      · refine lv_aload_n C.x C.b dX0_brokenIfAllFell_10 rfl (lv_at hl 2 rfl) ?_
        refine x_get C hW 0 0 1 (Cn := RX0) (T := TX0) (N := 3) rfl rfl (by decide) hinX0 hf17 rfl dX0_brokenIfAllFell_11 ?_
        refine lv_iload_n C.x C.b dX0_brokenIfAllFell_14 rfl (lv_at hl 0 rfl) ?_
        refine x_cSI C hW (As := [.int (nI g), .int (nI i)]) (rest := []) (wr := [(h0, .inr (0, [.ref h1, .int (nI g), .int (nI sp)])), (h1, aI E 9 w)]) (wn := [(h0, .inr (0, [.ref h1, .int (nI g), .int (nI sp)])), (h1, aI E 9 w)]) (met_X1_holds l E g i (by omega) (by omega)) gX0_brokenIfAllFell_X1_holds rfl 2 rfl ⟨rfl, rfl⟩ ⟨by decide +kernel, by decide +kernel, by decide +kernel⟩ ⟨Nat.le_of_ble_eq_true rfl, Nat.le_of_ble_eq_true rfl⟩ [] [0, 1] [0, 1] rfl (by decide) rfl (by decide) (by decide) rfl (by decide) hl.1 rfl (Nat.le_of_ble_eq_true rfl) dX0_brokenIfAllFell_15 ⟨Nat.zero_le _, Nat.zero_le _⟩ (fun H locs hW => ?_)
        refine x_ifb_eq C (tgt := 25) dX0_brokenIfAllFell_18 (by decide) (fun c_3 => ?_) (fun c_3 => ?_)
        · refine lv_iconst (v := nI 0) C.x C.b dX0_brokenIfAllFell_25 (by decide) ?_
          refine lv_istore_n (lv' := [(3, .int (nI 0)), (2, .int (nI i)), (1, .int (nI (biN g w i))), (0, .ref h0)]) C.x C.b dX0_brokenIfAllFell_26 rfl hl (by decide) rfl (fun ls hl => ?_)
          refine lv_aload_n C.x C.b dX0_brokenIfAllFell_27 rfl (lv_at hl 3 rfl) ?_
          refine x_get C hW 0 0 0 (Cn := RX0) (T := TX0) (N := 3) rfl rfl (by decide) hinX0 hf9 rfl dX0_brokenIfAllFell_28 ?_
          refine lv_iload_n C.x C.b dX0_brokenIfAllFell_31 rfl (lv_at hl 1 rfl) ?_
          refine x_ald C hW 1 i rfl rfl (by omega) (by decide) dX0_brokenIfAllFell_32 ?_
          refine lv_iload_n C.x C.b dX0_brokenIfAllFell_33 rfl (lv_at hl 0 rfl) ?_
          refine x_iadd C dX0_brokenIfAllFell_34 ?_
          refine lv_bipush (v := nI 12) C.x C.b dX0_brokenIfAllFell_35 (by decide) ?_
          have h9 := hw i
          refine x_icmp_lt C (by omega) (by omega) (tgt := 43) dX0_brokenIfAllFell_37 (by decide) (fun c_4 => ?_) (fun c_4 => ?_)
          · refine lv_iinc (k := 1) (v := nI (i + 1)) (lv' := [(2, .int (nI (i + 1))), (3, .int (nI 0)), (1, .int (nI (biN g w i))), (0, .ref h0)]) C.x C.b dX0_brokenIfAllFell_43 hl rfl (z_inc i 1) (by decide) rfl (fun ls hl => ?_)
            refine lv_goto (tgt := 4) C.x C.b dX0_brokenIfAllFell_46 (by decide) ?_
            exact ih1 (i + 1) (by omega) (by omega)  _ _ _ (hW.to rfl) (lv_to (lv_sub (l' := [(2, .int (nI (i + 1))), (1, .int (nI (biN g w i))), (0, .ref h0)]) hl [0, 2, 3] rfl) (by first | rfl | (simp [biN, c_2, c_3, c_4]; done) | (rw [if_pos (by omega)]; done) | (rw [if_neg (by omega)]; done) | (exfalso; omega) | (simp only [biN]; (repeat' split) <;> first | rfl | contradiction | (exfalso; omega))))
          · refine lv_iinc (k := 2) (v := nI ((biN g w i) + 1)) (lv' := [(1, .int (nI ((biN g w i) + 1))), (3, .int (nI 0)), (2, .int (nI i)), (0, .ref h0)]) C.x C.b dX0_brokenIfAllFell_40 hl rfl (z_inc (biN g w i) 1) (by decide) rfl (fun ls hl => ?_)
            refine lv_iinc (k := 2) (v := nI (i + 1)) (lv' := [(2, .int (nI (i + 1))), (1, .int (nI ((biN g w i) + 1))), (3, .int (nI 0)), (0, .ref h0)]) C.x C.b dX0_brokenIfAllFell_43 hl rfl (z_inc i 1) (by decide) rfl (fun ls hl => ?_)
            refine lv_goto (tgt := 4) C.x C.b dX0_brokenIfAllFell_46 (by decide) ?_
            exact ih1 (i + 1) (by omega) (by omega)  _ _ _ (hW.to rfl) (lv_to (lv_sub (l' := [(2, .int (nI (i + 1))), (1, .int (nI ((biN g w i) + 1))), (0, .ref h0)]) hl [0, 1, 3] rfl) (by first | rfl | (simp [biN, c_2, c_3, c_4]; done) | (rw [if_pos (by omega)]; done) | (rw [if_neg (by omega)]; done) | (exfalso; omega) | (simp only [biN]; (repeat' split) <;> first | rfl | contradiction | (exfalso; omega))))
        · refine lv_iconst (v := nI 1) C.x C.b dX0_brokenIfAllFell_21 (by decide) ?_
          refine lv_goto (tgt := 26) C.x C.b dX0_brokenIfAllFell_22 (by decide) ?_
          refine lv_istore_n (lv' := [(3, .int (nI 1)), (2, .int (nI i)), (1, .int (nI (biN g w i))), (0, .ref h0)]) C.x C.b dX0_brokenIfAllFell_26 rfl hl (by decide) rfl (fun ls hl => ?_)
          refine lv_aload_n C.x C.b dX0_brokenIfAllFell_27 rfl (lv_at hl 3 rfl) ?_
          refine x_get C hW 0 0 0 (Cn := RX0) (T := TX0) (N := 3) rfl rfl (by decide) hinX0 hf9 rfl dX0_brokenIfAllFell_28 ?_
          refine lv_iload_n C.x C.b dX0_brokenIfAllFell_31 rfl (lv_at hl 1 rfl) ?_
          refine x_ald C hW 1 i rfl rfl (by omega) (by decide) dX0_brokenIfAllFell_32 ?_
          refine lv_iload_n C.x C.b dX0_brokenIfAllFell_33 rfl (lv_at hl 0 rfl) ?_
          refine x_iadd C dX0_brokenIfAllFell_34 ?_
          refine lv_bipush (v := nI 12) C.x C.b dX0_brokenIfAllFell_35 (by decide) ?_
          have h9 := hw i
          refine x_icmp_lt C (by omega) (by omega) (tgt := 43) dX0_brokenIfAllFell_37 (by decide) (fun c_5 => ?_) (fun c_5 => ?_)
          · refine lv_iinc (k := 1) (v := nI (i + 1)) (lv' := [(2, .int (nI (i + 1))), (3, .int (nI 1)), (1, .int (nI (biN g w i))), (0, .ref h0)]) C.x C.b dX0_brokenIfAllFell_43 hl rfl (z_inc i 1) (by decide) rfl (fun ls hl => ?_)
            refine lv_goto (tgt := 4) C.x C.b dX0_brokenIfAllFell_46 (by decide) ?_
            exact ih1 (i + 1) (by omega) (by omega)  _ _ _ (hW.to rfl) (lv_to (lv_sub (l' := [(2, .int (nI (i + 1))), (1, .int (nI (biN g w i))), (0, .ref h0)]) hl [0, 2, 3] rfl) (by first | rfl | (simp [biN, c_2, c_3, c_5]; done) | (rw [if_pos (by omega)]; done) | (rw [if_neg (by omega)]; done) | (exfalso; omega) | (simp only [biN]; (repeat' split) <;> first | rfl | contradiction | (exfalso; omega))))
          · refine lv_iinc (k := 2) (v := nI ((biN g w i) + 1)) (lv' := [(1, .int (nI ((biN g w i) + 1))), (3, .int (nI 1)), (2, .int (nI i)), (0, .ref h0)]) C.x C.b dX0_brokenIfAllFell_40 hl rfl (z_inc (biN g w i) 1) (by decide) rfl (fun ls hl => ?_)
            refine lv_iinc (k := 2) (v := nI (i + 1)) (lv' := [(2, .int (nI (i + 1))), (1, .int (nI ((biN g w i) + 1))), (3, .int (nI 1)), (0, .ref h0)]) C.x C.b dX0_brokenIfAllFell_43 hl rfl (z_inc i 1) (by decide) rfl (fun ls hl => ?_)
            refine lv_goto (tgt := 4) C.x C.b dX0_brokenIfAllFell_46 (by decide) ?_
            exact ih1 (i + 1) (by omega) (by omega)  _ _ _ (hW.to rfl) (lv_to (lv_sub (l' := [(2, .int (nI (i + 1))), (1, .int (nI ((biN g w i) + 1))), (0, .ref h0)]) hl [0, 1, 3] rfl) (by first | rfl | (simp [biN, c_2, c_3, c_5]; done) | (rw [if_pos (by omega)]; done) | (rw [if_neg (by omega)]; done) | (exfalso; omega) | (simp only [biN]; (repeat' split) <;> first | rfl | contradiction | (exfalso; omega))))
  exact lp_1 (9 + 1) 0 (by omega) (by omega)  _ _ _ (hW.to rfl) (lv_to (lv_sub (l' := [(2, .int (nI 0)), (1, .int (nI 0)), (0, .ref h0)]) hl [0, 1, 2] rfl) rfl)

set_option maxHeartbeats 4000000 in
set_option maxRecDepth 100000 in
theorem met_X0_mostWornPin (l : Launch) (E : EV) (h0 h1 : Nat) (g sp : Nat) (w : Nat → Nat) (hw : ∀ i, w i ≤ 12) : MI l yX0_mostWornPin wsX0_mostWornPin { frames := 1, cells := 0, slots := 0, locals := 21 } E [.ref h0] [(h0, .inr (0, [.ref h1, .int (nI g), .int (nI sp)])), (h1, aI E 9 w)] (mwF w 9) [(h0, .inr (0, [.ref h1, .int (nI g), .int (nI sp)])), (h1, aI E 9 w)] := by
  refine sI (own := RX0) (cc := cX0_mostWornPin) (maxL := 4) (ret := (some .int)) rfl (by decide) rfl (Nat.le_of_ble_eq_true rfl) ?_
  intro p e s m below meth c C hnm ls hl hW
  have hl : lv_has ls 4 [(0, .ref h0)] := hl
  have hW : WD E _ s [(h0, .inr (0, [.ref h1, .int (nI g), .int (nI sp)])), (h1, aI E 9 w)] s.heap [] := hW
  have hinX0 : ∀ w ∈ u_ws RX0 TX0 3, w ∈ wsX0_mostWornPin := by decide +kernel
  have hf9 : Cond.fieldLink RX0 9 (TX0 0).1 (TX0 0).2.1 (TX0 0).2.2.1 ∈ wsX0_mostWornPin := by decide +kernel
  refine lv_iconst (v := (-1)) C.x C.b dX0_mostWornPin_0 (by decide) ?_
  refine lv_istore_n (lv' := [(1, .int ((-1 : Int32))), (0, .ref h0)]) C.x C.b dX0_mostWornPin_1 rfl hl (by decide) rfl (fun ls hl => ?_)
  refine lv_iconst (v := (-1)) C.x C.b dX0_mostWornPin_2 (by decide) ?_
  refine lv_istore_n (lv' := [(2, .int ((-1 : Int32))), (1, .int ((-1 : Int32))), (0, .ref h0)]) C.x C.b dX0_mostWornPin_3 rfl hl (by decide) rfl (fun ls hl => ?_)
  refine lv_iconst (v := nI 0) C.x C.b dX0_mostWornPin_4 (by decide) ?_
  refine lv_istore_n (lv' := [(3, .int (nI 0)), (2, .int ((-1 : Int32))), (1, .int ((-1 : Int32))), (0, .ref h0)]) C.x C.b dX0_mostWornPin_5 rfl hl (by decide) rfl (fun ls hl => ?_)
  have lp_1 : ∀ (n1 i : Nat), i ≤ 9 → 9 + 1 ≤ i + n1 → ∀ (H : Heap) (locs : List Loc) (ls : Array Slot), WD E (va_A [(h0, .inr (0, [.ref h1, .int (nI g), .int (nI sp)])), (h1, aI E 9 w)] s.heap.size) s [(h0, .inr (0, [.ref h1, .int (nI g), .int (nI sp)])), (h1, aI E 9 w)] H locs → lv_has ls 4 [(3, .int (nI i)), (2, .int (mwM w i)), (1, .int (mwF w i)), (0, .ref h0)] → W p l e ({ frames := 1, cells := 0, slots := 0, locals := 21 } : Room) s m ([.ref h0] : List Value).toArray below meth c H locs 0 0 (QI E [(h0, .inr (0, [.ref h1, .int (nI g), .int (nI sp)])), (h1, aI E 9 w)] (mwF w 9) [(h0, .inr (0, [.ref h1, .int (nI g), .int (nI sp)])), (h1, aI E 9 w)] below ([.ref h0] : List Value).toArray s) (F0 m 6 ls []) := by
    intro n1
    induction n1 with
    | zero => intro i hi hn; exact absurd hn (by omega)
    | succ n1 ih1 =>
      intro i hi hn  H locs ls hW hl
      refine lv_iload_n C.x C.b dX0_mostWornPin_6 rfl (lv_at hl 0 rfl) ?_
      refine lv_bipush (v := nI 9) C.x C.b dX0_mostWornPin_7 (by decide) ?_
      refine x_icmp_ge C (by omega) (by omega) (tgt := 45) dX0_mostWornPin_9 (by decide) (fun c_2 => ?_) (fun c_2 => ?_)
      · obtain rfl : i = 9 := by omega
        refine lv_iload_n C.x C.b dX0_mostWornPin_45 rfl (lv_at hl 2 rfl) ?_
        exact x_iret C hW rfl rfl rfl dX0_mostWornPin_46
      · refine lv_aload_n C.x C.b dX0_mostWornPin_12 rfl (lv_at hl 3 rfl) ?_
        refine lv_iload_n C.x C.b dX0_mostWornPin_13 rfl (lv_at hl 0 rfl) ?_
        refine x_cVI C hW (As := [.int (nI i)]) (rest := []) (wr := []) (wn := [(h0, .inr (0, [.ref h1, .int (nI g), .int (nI sp)])), (h1, aI E 9 w)]) (Cn := RX0) (met_X0_broken l E h0 h1 g sp w i (by omega) hw) gX0_mostWornPin_X0_broken rfl 1 rfl ⟨rfl, rfl⟩ ⟨rfl, by decide +kernel, by decide +kernel, by decide +kernel⟩ ⟨Nat.le_of_ble_eq_true rfl, Nat.le_of_ble_eq_true rfl⟩ [0, 1] [] [0, 1] rfl (by decide) rfl (by decide) (by decide) rfl (by decide) 0 0 rfl rfl hl.1 rfl (Nat.le_of_ble_eq_true rfl) dX0_mostWornPin_14 ⟨Nat.zero_le _, Nat.zero_le _⟩ (fun H locs hW => ?_)
        refine x_ifb_ne C (tgt := 39) dX0_mostWornPin_17 (by decide) (fun c_3 => ?_) (fun c_3 => ?_)
        · refine lv_iinc (k := 0) (v := nI (i + 1)) (lv' := [(3, .int (nI (i + 1))), (2, .int (mwM w i)), (1, .int (mwF w i)), (0, .ref h0)]) C.x C.b dX0_mostWornPin_39 hl rfl (z_inc i 1) (by decide) rfl (fun ls hl => ?_)
          refine lv_goto (tgt := 6) C.x C.b dX0_mostWornPin_42 (by decide) ?_
          exact ih1 (i + 1) (by omega) (by omega)  _ _ _ (hW.to rfl) (lv_to (lv_sub (l' := [(3, .int (nI (i + 1))), (2, .int (mwM w i)), (1, .int (mwF w i)), (0, .ref h0)]) hl [0, 1, 2, 3] rfl) (by first | rfl | (simp [mwF, mwM, c_2, c_3]; done) | (rw [if_pos (by omega)]; done) | (rw [if_neg (by omega)]; done) | (exfalso; omega) | (simp only [mwF, mwM]; (repeat' split) <;> first | rfl | contradiction | (exfalso; omega))))
        · refine lv_aload_n C.x C.b dX0_mostWornPin_20 rfl (lv_at hl 3 rfl) ?_
          refine x_get C hW 0 0 0 (Cn := RX0) (T := TX0) (N := 3) rfl rfl (by decide) hinX0 hf9 rfl dX0_mostWornPin_21 ?_
          refine lv_iload_n C.x C.b dX0_mostWornPin_24 rfl (lv_at hl 0 rfl) ?_
          refine x_ald C hW 1 i rfl rfl (by omega) (by decide) dX0_mostWornPin_25 ?_
          refine lv_iload_n C.x C.b dX0_mostWornPin_26 rfl (lv_at hl 1 rfl) ?_
          refine lv_icmp_le C.x C.b (tgt := 39) dX0_mostWornPin_27 (by decide) (fun c_4 => ?_) (fun c_4 => ?_)
          · have c_4 : nI (w i) ≤ mwM w i := c_4
            refine lv_iinc (k := 0) (v := nI (i + 1)) (lv' := [(3, .int (nI (i + 1))), (2, .int (mwM w i)), (1, .int (mwF w i)), (0, .ref h0)]) C.x C.b dX0_mostWornPin_39 hl rfl (z_inc i 1) (by decide) rfl (fun ls hl => ?_)
            refine lv_goto (tgt := 6) C.x C.b dX0_mostWornPin_42 (by decide) ?_
            exact ih1 (i + 1) (by omega) (by omega)  _ _ _ (hW.to rfl) (lv_to (lv_sub (l' := [(3, .int (nI (i + 1))), (2, .int (mwM w i)), (1, .int (mwF w i)), (0, .ref h0)]) hl [0, 1, 2, 3] rfl) (by first | rfl | (simp [mwF, mwM, c_2, c_3, c_4]; done) | (rw [if_pos (by omega)]; done) | (rw [if_neg (by omega)]; done) | (exfalso; omega) | (simp only [mwF, mwM]; (repeat' split) <;> first | rfl | contradiction | (exfalso; omega))))
          · have c_4 : ¬ (nI (w i) ≤ mwM w i) := c_4
            refine lv_iload_n C.x C.b dX0_mostWornPin_30 rfl (lv_at hl 0 rfl) ?_
            refine lv_istore_n (lv' := [(1, .int (nI i)), (3, .int (nI i)), (2, .int (mwM w i)), (0, .ref h0)]) C.x C.b dX0_mostWornPin_31 rfl hl (by decide) rfl (fun ls hl => ?_)
            refine lv_aload_n C.x C.b dX0_mostWornPin_32 rfl (lv_at hl 3 rfl) ?_
            refine x_get C hW 0 0 0 (Cn := RX0) (T := TX0) (N := 3) rfl rfl (by decide) hinX0 hf9 rfl dX0_mostWornPin_33 ?_
            refine lv_iload_n C.x C.b dX0_mostWornPin_36 rfl (lv_at hl 1 rfl) ?_
            refine x_ald C hW 1 i rfl rfl (by omega) (by decide) dX0_mostWornPin_37 ?_
            refine lv_istore_n (lv' := [(2, .int (nI (w i))), (1, .int (nI i)), (3, .int (nI i)), (0, .ref h0)]) C.x C.b dX0_mostWornPin_38 rfl hl (by decide) rfl (fun ls hl => ?_)
            refine lv_iinc (k := 2) (v := nI (i + 1)) (lv' := [(3, .int (nI (i + 1))), (2, .int (nI (w i))), (1, .int (nI i)), (0, .ref h0)]) C.x C.b dX0_mostWornPin_39 hl rfl (z_inc i 1) (by decide) rfl (fun ls hl => ?_)
            refine lv_goto (tgt := 6) C.x C.b dX0_mostWornPin_42 (by decide) ?_
            exact ih1 (i + 1) (by omega) (by omega)  _ _ _ (hW.to rfl) (lv_to (lv_sub (l' := [(3, .int (nI (i + 1))), (2, .int (nI (w i))), (1, .int (nI i)), (0, .ref h0)]) hl [0, 1, 2, 3] rfl) (by first | rfl | (simp [mwF, mwM, c_2, c_3, c_4]; done) | (rw [if_pos (by omega)]; done) | (rw [if_neg (by omega)]; done) | (exfalso; omega) | (simp only [mwF, mwM]; (repeat' split) <;> first | rfl | contradiction | (exfalso; omega))))
  exact lp_1 (9 + 1) 0 (by omega) (by omega)  _ _ _ (hW.to rfl) (lv_to (lv_sub (l' := [(3, .int (nI 0)), (2, .int ((-1 : Int32))), (1, .int ((-1 : Int32))), (0, .ref h0)]) hl [0, 1, 2, 3] rfl) rfl)

set_option maxHeartbeats 4000000 in
set_option maxRecDepth 100000 in
theorem met_X0_digestOn (l : Launch) (E : EV) (h0 h1 : Nat) (g sp : Nat) (w : Nat → Nat) (d : Int64) (hw : ∀ i, w i ≤ 12) (hg : g < 512) : ML l yX0_digestOn wsX0_digestOn { frames := 1, cells := 0, slots := 0, locals := 21 } E [.ref h0, .long d] [(h0, .inr (0, [.ref h1, .int (nI g), .int (nI sp)])), (h1, aI E 9 w)] (dgA d g w 9) [(h0, .inr (0, [.ref h1, .int (nI g), .int (nI sp)])), (h1, aI E 9 w)] := by
  refine sL (own := RX0) (cc := cX0_digestOn) (maxL := 6) rfl (by decide) rfl (Nat.le_of_ble_eq_true rfl) ?_
  intro p e s m below meth c C hnm ls hl hW
  have hl : lv_has ls 6 [(0, .ref h0), (1, .long d)] := hl
  have hW : WD E _ s [(h0, .inr (0, [.ref h1, .int (nI g), .int (nI sp)])), (h1, aI E 9 w)] s.heap [] := hW
  have hinX0 : ∀ w ∈ u_ws RX0 TX0 3, w ∈ wsX0_digestOn := by decide +kernel
  have hf9 : Cond.fieldLink RX0 9 (TX0 0).1 (TX0 0).2.1 (TX0 0).2.2.1 ∈ wsX0_digestOn := by decide +kernel
  have hf17 : Cond.fieldLink RX0 17 (TX0 1).1 (TX0 1).2.1 (TX0 1).2.2.1 ∈ wsX0_digestOn := by decide +kernel
  refine lv_lload_n C.x C.b dX0_digestOn_0 rfl (lv_at hl 1 rfl) ?_
  refine lv_lstore_n (lv' := [(3, .long d), (0, .ref h0), (1, .long d)]) C.x C.b dX0_digestOn_1 rfl hl (by decide) rfl (fun ls hl => ?_)
  refine lv_iconst (v := nI 0) C.x C.b dX0_digestOn_2 (by decide) ?_
  refine lv_istore (lv' := [(5, .int (nI 0)), (3, .long d), (0, .ref h0), (1, .long d)]) C.x C.b dX0_digestOn_3 hl (by decide) rfl (fun ls hl => ?_)
  have lp_1 : ∀ (n1 i : Nat), i ≤ 9 → 9 + 1 ≤ i + n1 → ∀ (H : Heap) (locs : List Loc) (ls : Array Slot), WD E (va_A [(h0, .inr (0, [.ref h1, .int (nI g), .int (nI sp)])), (h1, aI E 9 w)] s.heap.size) s [(h0, .inr (0, [.ref h1, .int (nI g), .int (nI sp)])), (h1, aI E 9 w)] H locs → lv_has ls 6 [(5, .int (nI i)), (3, .long (dgA d g w i)), (0, .ref h0), (1, .long d)] → W p l e ({ frames := 1, cells := 0, slots := 0, locals := 21 } : Room) s m ([.ref h0, .long d] : List Value).toArray below meth c H locs 0 0 (QL E [(h0, .inr (0, [.ref h1, .int (nI g), .int (nI sp)])), (h1, aI E 9 w)] (dgA d g w 9) [(h0, .inr (0, [.ref h1, .int (nI g), .int (nI sp)])), (h1, aI E 9 w)] below ([.ref h0, .long d] : List Value).toArray s) (F0 m 5 ls []) := by
    intro n1
    induction n1 with
    | zero => intro i hi hn; exact absurd hn (by omega)
    | succ n1 ih1 =>
      intro i hi hn  H locs ls hW hl
      refine lv_iload C.x C.b dX0_digestOn_5 (lv_at hl 0 rfl) ?_
      refine lv_bipush (v := nI 9) C.x C.b dX0_digestOn_7 (by decide) ?_
      refine x_icmp_ge C (by omega) (by omega) (tgt := 58) dX0_digestOn_9 (by decide) (fun c_2 => ?_) (fun c_2 => ?_)
      · obtain rfl : i = 9 := by omega
        refine lv_lload_n C.x C.b dX0_digestOn_58 rfl (lv_at hl 1 rfl) ?_
        exact x_lret C hW rfl rfl dX0_digestOn_59
      · refine lv_lload_n C.x C.b dX0_digestOn_12 rfl (lv_at hl 1 rfl) ?_
        refine lv_ldc2 (v := (31)) C.x C.b C.ow (C.ts (.constantLong RX0 42 (31)) (by decide +kernel)) dX0_digestOn_13 ?_
        refine lv_lmul C.x C.b dX0_digestOn_16 ?_
        refine lv_aload_n C.x C.b dX0_digestOn_17 rfl (lv_at hl 2 rfl) ?_
        refine x_get C hW 0 0 1 (Cn := RX0) (T := TX0) (N := 3) rfl rfl (by decide) hinX0 hf17 rfl dX0_digestOn_18 ?_
        refine lv_iload C.x C.b dX0_digestOn_21 (lv_at hl 0 rfl) ?_
        refine x_cSI C hW (As := [.int (nI g), .int (nI i)]) (rest := [.long ((dgA d g w i) * ((31 : Int64)))]) (wr := [(h0, .inr (0, [.ref h1, .int (nI g), .int (nI sp)])), (h1, aI E 9 w)]) (wn := [(h0, .inr (0, [.ref h1, .int (nI g), .int (nI sp)])), (h1, aI E 9 w)]) (met_X1_holds l E g i (by omega) (by omega)) gX0_digestOn_X1_holds rfl 2 rfl ⟨rfl, rfl⟩ ⟨by decide +kernel, by decide +kernel, by decide +kernel⟩ ⟨Nat.le_of_ble_eq_true rfl, Nat.le_of_ble_eq_true rfl⟩ [] [0, 1] [0, 1] rfl (by decide) rfl (by decide) (by decide) rfl (by decide) hl.1 rfl (Nat.le_of_ble_eq_true rfl) dX0_digestOn_23 ⟨Nat.zero_le _, Nat.zero_le _⟩ (fun H locs hW => ?_)
        refine x_ifb_eq C (tgt := 33) dX0_digestOn_26 (by decide) (fun c_3 => ?_) (fun c_3 => ?_)
        · refine lv_iconst (v := nI 0) C.x C.b dX0_digestOn_33 (by decide) ?_
          refine lv_i2l (v := lN 0) C.x C.b dX0_digestOn_34 (nI_l (by omega)) ?_
          refine lv_ladd C.x C.b dX0_digestOn_35 ?_
          refine lv_lstore_n (lv' := [(3, .long (((dgA d g w i) * ((31 : Int64))) + (lN 0))), (5, .int (nI i)), (0, .ref h0), (1, .long d)]) C.x C.b dX0_digestOn_36 rfl hl (by decide) rfl (fun ls hl => ?_)
          refine lv_lload_n C.x C.b dX0_digestOn_37 rfl (lv_at hl 0 rfl) ?_
          refine lv_ldc2 (v := (31)) C.x C.b C.ow (C.ts (.constantLong RX0 42 (31)) (by decide +kernel)) dX0_digestOn_38 ?_
          refine lv_lmul C.x C.b dX0_digestOn_41 ?_
          refine lv_aload_n C.x C.b dX0_digestOn_42 rfl (lv_at hl 2 rfl) ?_
          refine x_get C hW 0 0 0 (Cn := RX0) (T := TX0) (N := 3) rfl rfl (by decide) hinX0 hf9 rfl dX0_digestOn_43 ?_
          refine lv_iload C.x C.b dX0_digestOn_46 (lv_at hl 1 rfl) ?_
          refine x_ald C hW 1 i rfl rfl (by omega) (by decide) dX0_digestOn_48 ?_
          have h9 := hw i
          refine lv_i2l (v := lN (w i)) C.x C.b dX0_digestOn_49 (nI_l (by omega)) ?_
          refine lv_ladd C.x C.b dX0_digestOn_50 ?_
          refine lv_lstore_n (lv' := [(3, .long (((((dgA d g w i) * ((31 : Int64))) + (lN 0)) * ((31 : Int64))) + (lN (w i)))), (5, .int (nI i)), (0, .ref h0), (1, .long d)]) C.x C.b dX0_digestOn_51 rfl hl (by decide) rfl (fun ls hl => ?_)
          refine lv_iinc (k := 1) (v := nI (i + 1)) (lv' := [(5, .int (nI (i + 1))), (3, .long (((((dgA d g w i) * ((31 : Int64))) + (lN 0)) * ((31 : Int64))) + (lN (w i)))), (0, .ref h0), (1, .long d)]) C.x C.b dX0_digestOn_52 hl rfl (z_inc i 1) (by decide) rfl (fun ls hl => ?_)
          refine lv_goto (tgt := 5) C.x C.b dX0_digestOn_55 (by decide) ?_
          exact ih1 (i + 1) (by omega) (by omega)  _ _ _ (hW.to rfl) (lv_to (lv_sub (l' := [(5, .int (nI (i + 1))), (3, .long (((((dgA d g w i) * ((31 : Int64))) + (lN 0)) * ((31 : Int64))) + (lN (w i)))), (0, .ref h0), (1, .long d)]) hl [0, 1, 2, 3] rfl) (by first | rfl | (simp [dgA, c_2, c_3]; done) | (rw [if_pos (by omega)]; done) | (rw [if_neg (by omega)]; done) | (exfalso; omega) | (simp only [dgA]; (repeat' split) <;> first | rfl | contradiction | (exfalso; omega))))
        · refine lv_iconst (v := nI 1) C.x C.b dX0_digestOn_29 (by decide) ?_
          refine lv_goto (tgt := 34) C.x C.b dX0_digestOn_30 (by decide) ?_
          refine lv_i2l (v := lN 1) C.x C.b dX0_digestOn_34 (nI_l (by omega)) ?_
          refine lv_ladd C.x C.b dX0_digestOn_35 ?_
          refine lv_lstore_n (lv' := [(3, .long (((dgA d g w i) * ((31 : Int64))) + (lN 1))), (5, .int (nI i)), (0, .ref h0), (1, .long d)]) C.x C.b dX0_digestOn_36 rfl hl (by decide) rfl (fun ls hl => ?_)
          refine lv_lload_n C.x C.b dX0_digestOn_37 rfl (lv_at hl 0 rfl) ?_
          refine lv_ldc2 (v := (31)) C.x C.b C.ow (C.ts (.constantLong RX0 42 (31)) (by decide +kernel)) dX0_digestOn_38 ?_
          refine lv_lmul C.x C.b dX0_digestOn_41 ?_
          refine lv_aload_n C.x C.b dX0_digestOn_42 rfl (lv_at hl 2 rfl) ?_
          refine x_get C hW 0 0 0 (Cn := RX0) (T := TX0) (N := 3) rfl rfl (by decide) hinX0 hf9 rfl dX0_digestOn_43 ?_
          refine lv_iload C.x C.b dX0_digestOn_46 (lv_at hl 1 rfl) ?_
          refine x_ald C hW 1 i rfl rfl (by omega) (by decide) dX0_digestOn_48 ?_
          have h9 := hw i
          refine lv_i2l (v := lN (w i)) C.x C.b dX0_digestOn_49 (nI_l (by omega)) ?_
          refine lv_ladd C.x C.b dX0_digestOn_50 ?_
          refine lv_lstore_n (lv' := [(3, .long (((((dgA d g w i) * ((31 : Int64))) + (lN 1)) * ((31 : Int64))) + (lN (w i)))), (5, .int (nI i)), (0, .ref h0), (1, .long d)]) C.x C.b dX0_digestOn_51 rfl hl (by decide) rfl (fun ls hl => ?_)
          refine lv_iinc (k := 1) (v := nI (i + 1)) (lv' := [(5, .int (nI (i + 1))), (3, .long (((((dgA d g w i) * ((31 : Int64))) + (lN 1)) * ((31 : Int64))) + (lN (w i)))), (0, .ref h0), (1, .long d)]) C.x C.b dX0_digestOn_52 hl rfl (z_inc i 1) (by decide) rfl (fun ls hl => ?_)
          refine lv_goto (tgt := 5) C.x C.b dX0_digestOn_55 (by decide) ?_
          exact ih1 (i + 1) (by omega) (by omega)  _ _ _ (hW.to rfl) (lv_to (lv_sub (l' := [(5, .int (nI (i + 1))), (3, .long (((((dgA d g w i) * ((31 : Int64))) + (lN 1)) * ((31 : Int64))) + (lN (w i)))), (0, .ref h0), (1, .long d)]) hl [0, 1, 2, 3] rfl) (by first | rfl | (simp [dgA, c_2, c_3]; done) | (rw [if_pos (by omega)]; done) | (rw [if_neg (by omega)]; done) | (exfalso; omega) | (simp only [dgA]; (repeat' split) <;> first | rfl | contradiction | (exfalso; omega))))
  exact lp_1 (9 + 1) 0 (by omega) (by omega)  _ _ _ (hW.to rfl) (lv_to (lv_sub (l' := [(5, .int (nI 0)), (3, .long d), (0, .ref h0), (1, .long d)]) hl [0, 1, 2, 3] rfl) rfl)

set_option maxHeartbeats 4000000 in
set_option maxRecDepth 100000 in
theorem met_X2_throwsAway (l : Launch) (E : EV) (h0 h1 : Nat) (aw : Nat → Nat) (b : Nat) (hb : b < 5) : MI l yX2_throwsAway wsX2_throwsAway { frames := 0, cells := 0, slots := 0, locals := 0 } E [.ref h0, .int (nI b)] [(h0, .inr (1, [.ref h1])), (h1, aI E 5 aw)] (nI (aw b)) [(h0, .inr (1, [.ref h1])), (h1, aI E 5 aw)] := by
  refine sI (own := RX2) (cc := cX2_throwsAway) (maxL := 2) (ret := (some .int)) rfl (by decide) rfl (Nat.le_of_ble_eq_true rfl) ?_
  intro p e s m below meth c C hnm ls hl hW
  have hl : lv_has ls 2 [(0, .ref h0), (1, .int (nI b))] := hl
  have hW : WD E _ s [(h0, .inr (1, [.ref h1])), (h1, aI E 5 aw)] s.heap [] := hW
  have hinX2 : ∀ w ∈ u_ws RX2 TX2 1, w ∈ wsX2_throwsAway := by decide +kernel
  have hf9 : Cond.fieldLink RX2 9 (TX2 0).1 (TX2 0).2.1 (TX2 0).2.2.1 ∈ wsX2_throwsAway := by decide +kernel
  refine lv_aload_n C.x C.b dX2_throwsAway_0 rfl (lv_at hl 0 rfl) ?_
  refine x_get C hW 0 1 0 (Cn := RX2) (T := TX2) (N := 1) rfl rfl (by decide) hinX2 hf9 rfl dX2_throwsAway_1 ?_
  refine lv_iload_n C.x C.b dX2_throwsAway_4 rfl (lv_at hl 1 rfl) ?_
  refine x_ald C hW 1 b rfl rfl (by omega) (by decide) dX2_throwsAway_5 ?_
  exact x_iret C hW rfl rfl rfl dX2_throwsAway_6

set_option maxHeartbeats 4000000 in
set_option maxRecDepth 100000 in
theorem met_X2_send (l : Launch) (E : EV) (h0 h1 : Nat) (aw : Nat → Nat) (b : Nat) (hb : b < 5) (ha : ∀ i, aw i ≤ 2) : MV l yX2_send wsX2_send { frames := 1, cells := 0, slots := 0, locals := 21 } E [.ref h0, .int (nI b)] [(h0, .inr (1, [.ref h1])), (h1, aI E 5 aw)] [(h0, .inr (1, [.ref h1])), (h1, aI E 5 (upN (snW aw 5) b 2))] := by
  refine sV (own := RX2) (cc := cX2_send) (maxL := 3) rfl (by decide) rfl (Nat.le_of_ble_eq_true rfl) ?_
  intro p e s m below meth c C hnm ls hl hW
  have hl : lv_has ls 3 [(0, .ref h0), (1, .int (nI b))] := hl
  have hW : WD E _ s [(h0, .inr (1, [.ref h1])), (h1, aI E 5 aw)] s.heap [] := hW
  have hinX2 : ∀ w ∈ u_ws RX2 TX2 1, w ∈ wsX2_send := by decide +kernel
  have hf9 : Cond.fieldLink RX2 9 (TX2 0).1 (TX2 0).2.1 (TX2 0).2.2.1 ∈ wsX2_send := by decide +kernel
  refine lv_iconst (v := nI 0) C.x C.b dX2_send_0 (by decide) ?_
  refine lv_istore_n (lv' := [(2, .int (nI 0)), (0, .ref h0), (1, .int (nI b))]) C.x C.b dX2_send_1 rfl hl (by decide) rfl (fun ls hl => ?_)
  have lp_1 : ∀ (n1 i : Nat), i ≤ 5 → 5 + 1 ≤ i + n1 → ∀ (H : Heap) (locs : List Loc) (ls : Array Slot), WD E (va_A [(h0, .inr (1, [.ref h1])), (h1, aI E 5 aw)] s.heap.size) s [(h0, .inr (1, [.ref h1])), (h1, aI E 5 (snW aw i))] H locs → lv_has ls 3 [(2, .int (nI i)), (0, .ref h0), (1, .int (nI b))] → W p l e ({ frames := 1, cells := 0, slots := 0, locals := 21 } : Room) s m ([.ref h0, .int (nI b)] : List Value).toArray below meth c H locs 0 0 (QV E [(h0, .inr (1, [.ref h1])), (h1, aI E 5 aw)] [(h0, .inr (1, [.ref h1])), (h1, aI E 5 (upN (snW aw 5) b 2))] below ([.ref h0, .int (nI b)] : List Value).toArray s) (F0 m 2 ls []) := by
    intro n1
    induction n1 with
    | zero => intro i hi hn; exact absurd hn (by omega)
    | succ n1 ih1 =>
      intro i hi hn  H locs ls hW hl
      refine lv_iload_n C.x C.b dX2_send_2 rfl (lv_at hl 0 rfl) ?_
      refine lv_iconst (v := nI 5) C.x C.b dX2_send_3 (by decide) ?_
      refine x_icmp_ge C (by omega) (by omega) (tgt := 31) dX2_send_4 (by decide) (fun c_2 => ?_) (fun c_2 => ?_)
      · obtain rfl : i = 5 := by omega
        refine lv_aload_n C.x C.b dX2_send_31 rfl (lv_at hl 1 rfl) ?_
        refine x_get C hW 0 1 0 (Cn := RX2) (T := TX2) (N := 1) rfl rfl (by decide) hinX2 hf9 rfl dX2_send_32 ?_
        refine lv_iload_n C.x C.b dX2_send_35 rfl (lv_at hl 2 rfl) ?_
        refine lv_iconst (v := nI 2) C.x C.b dX2_send_36 (by decide) ?_
        refine x_ast C hW 1 b 2 rfl rfl rfl (by omega) (by decide) dX2_send_37 (w' := [(h0, .inr (1, [.ref h1])), (h1, aI E 5 (upN (snW aw 5) b 2))]) rfl (fun H locs hW => ?_)
        exact x_vret C hW rfl dX2_send_38
      · refine lv_aload_n C.x C.b dX2_send_7 rfl (lv_at hl 1 rfl) ?_
        refine x_get C hW 0 1 0 (Cn := RX2) (T := TX2) (N := 1) rfl rfl (by decide) hinX2 hf9 rfl dX2_send_8 ?_
        refine lv_iload_n C.x C.b dX2_send_11 rfl (lv_at hl 0 rfl) ?_
        refine lv_iconst (v := nI 0) C.x C.b dX2_send_12 (by decide) ?_
        refine lv_aload_n C.x C.b dX2_send_13 rfl (lv_at hl 1 rfl) ?_
        refine x_get C hW 0 1 0 (Cn := RX2) (T := TX2) (N := 1) rfl rfl (by decide) hinX2 hf9 rfl dX2_send_14 ?_
        refine lv_iload_n C.x C.b dX2_send_17 rfl (lv_at hl 0 rfl) ?_
        refine x_ald C hW 1 i rfl rfl (by omega) (by decide) dX2_send_18 ?_
        refine lv_iconst (v := nI 1) C.x C.b dX2_send_19 (by decide) ?_
        refine lv_isub C.x C.b dX2_send_20 ?_
        refine va_mmax C.x C.b (C.2.2.1.trans hl.1.symm) C.ow (C.ts (.methodLink RX2 15 Lib.Math.max.name) (by decide +kernel)) (C.ts (.static Lib.Math.max.name) (by decide +kernel)) (C.ts (.initialized "java/lang/Math") (by decide +kernel)) (C.ts (.code Lib.Math.max.name Lib.Math.max.code 2 (some .int)) (by decide +kernel)) (Nat.le_of_ble_eq_true rfl) (Nat.le_of_ble_eq_true rfl) (Nat.zero_le _) (Nat.zero_le _) dX2_send_21 ?_
        refine x_toi (y := nI (snW aw i i - 1)) (z_max0 (by have := snW_le ha i i; omega)) ?_
        refine x_ast C hW 1 i (snW aw i i - 1) rfl rfl rfl (by omega) (by decide) dX2_send_24 (w' := [(h0, .inr (1, [.ref h1])), (h1, aI E 5 (upN (snW aw i) i (snW aw i i - 1)))]) rfl (fun H locs hW => ?_)
        refine lv_iinc (k := 0) (v := nI (i + 1)) (lv' := [(2, .int (nI (i + 1))), (0, .ref h0), (1, .int (nI b))]) C.x C.b dX2_send_25 hl rfl (z_inc i 1) (by decide) rfl (fun ls hl => ?_)
        refine lv_goto (tgt := 2) C.x C.b dX2_send_28 (by decide) ?_
        exact ih1 (i + 1) (by omega) (by omega)  _ _ _ (hW.to (by first | rfl | (simp [snW, c_2]; done) | (rw [if_pos (by omega)]; done) | (rw [if_neg (by omega)]; done) | (exfalso; omega) | (simp only [snW]; (repeat' split) <;> first | rfl | contradiction | (exfalso; omega)))) (lv_to (lv_sub (l' := [(2, .int (nI (i + 1))), (0, .ref h0), (1, .int (nI b))]) hl [0, 1, 2] rfl) (by first | rfl | (simp [snW, c_2]; done) | (rw [if_pos (by omega)]; done) | (rw [if_neg (by omega)]; done) | (exfalso; omega) | (simp only [snW]; (repeat' split) <;> first | rfl | contradiction | (exfalso; omega))))
  exact lp_1 (5 + 1) 0 (by omega) (by omega)  _ _ _ (hW.to rfl) (lv_to (lv_sub (l' := [(2, .int (nI 0)), (0, .ref h0), (1, .int (nI b))]) hl [0, 1, 2] rfl) rfl)

set_option maxHeartbeats 4000000 in
set_option maxRecDepth 100000 in
theorem met_X2_returnAll (l : Launch) (E : EV) (h0 h1 : Nat) (aw : Nat → Nat)  : MV l yX2_returnAll wsX2_returnAll { frames := 0, cells := 0, slots := 0, locals := 0 } E [.ref h0] [(h0, .inr (1, [.ref h1])), (h1, aI E 5 aw)] [(h0, .inr (1, [.ref h1])), (h1, aI E 5 (zeW aw 5))] := by
  refine sV (own := RX2) (cc := cX2_returnAll) (maxL := 2) rfl (by decide) rfl (Nat.le_of_ble_eq_true rfl) ?_
  intro p e s m below meth c C hnm ls hl hW
  have hl : lv_has ls 2 [(0, .ref h0)] := hl
  have hW : WD E _ s [(h0, .inr (1, [.ref h1])), (h1, aI E 5 aw)] s.heap [] := hW
  have hinX2 : ∀ w ∈ u_ws RX2 TX2 1, w ∈ wsX2_returnAll := by decide +kernel
  have hf9 : Cond.fieldLink RX2 9 (TX2 0).1 (TX2 0).2.1 (TX2 0).2.2.1 ∈ wsX2_returnAll := by decide +kernel
  refine lv_iconst (v := nI 0) C.x C.b dX2_returnAll_0 (by decide) ?_
  refine lv_istore_n (lv' := [(1, .int (nI 0)), (0, .ref h0)]) C.x C.b dX2_returnAll_1 rfl hl (by decide) rfl (fun ls hl => ?_)
  have lp_1 : ∀ (n1 i : Nat), i ≤ 5 → 5 + 1 ≤ i + n1 → ∀ (H : Heap) (locs : List Loc) (ls : Array Slot), WD E (va_A [(h0, .inr (1, [.ref h1])), (h1, aI E 5 aw)] s.heap.size) s [(h0, .inr (1, [.ref h1])), (h1, aI E 5 (zeW aw i))] H locs → lv_has ls 2 [(1, .int (nI i)), (0, .ref h0)] → W p l e ({ frames := 0, cells := 0, slots := 0, locals := 0 } : Room) s m ([.ref h0] : List Value).toArray below meth c H locs 0 0 (QV E [(h0, .inr (1, [.ref h1])), (h1, aI E 5 aw)] [(h0, .inr (1, [.ref h1])), (h1, aI E 5 (zeW aw 5))] below ([.ref h0] : List Value).toArray s) (F0 m 2 ls []) := by
    intro n1
    induction n1 with
    | zero => intro i hi hn; exact absurd hn (by omega)
    | succ n1 ih1 =>
      intro i hi hn  H locs ls hW hl
      refine lv_iload_n C.x C.b dX2_returnAll_2 rfl (lv_at hl 0 rfl) ?_
      refine lv_iconst (v := nI 5) C.x C.b dX2_returnAll_3 (by decide) ?_
      refine x_icmp_ge C (by omega) (by omega) (tgt := 20) dX2_returnAll_4 (by decide) (fun c_2 => ?_) (fun c_2 => ?_)
      · obtain rfl : i = 5 := by omega
        exact x_vret C hW rfl dX2_returnAll_20
      · refine lv_aload_n C.x C.b dX2_returnAll_7 rfl (lv_at hl 1 rfl) ?_
        refine x_get C hW 0 1 0 (Cn := RX2) (T := TX2) (N := 1) rfl rfl (by decide) hinX2 hf9 rfl dX2_returnAll_8 ?_
        refine lv_iload_n C.x C.b dX2_returnAll_11 rfl (lv_at hl 0 rfl) ?_
        refine lv_iconst (v := nI 0) C.x C.b dX2_returnAll_12 (by decide) ?_
        refine x_ast C hW 1 i 0 rfl rfl rfl (by omega) (by decide) dX2_returnAll_13 (w' := [(h0, .inr (1, [.ref h1])), (h1, aI E 5 (upN (zeW aw i) i 0))]) rfl (fun H locs hW => ?_)
        refine lv_iinc (k := 0) (v := nI (i + 1)) (lv' := [(1, .int (nI (i + 1))), (0, .ref h0)]) C.x C.b dX2_returnAll_14 hl rfl (z_inc i 1) (by decide) rfl (fun ls hl => ?_)
        refine lv_goto (tgt := 2) C.x C.b dX2_returnAll_17 (by decide) ?_
        exact ih1 (i + 1) (by omega) (by omega)  _ _ _ (hW.to (by first | rfl | (simp [zeW, c_2]; done) | (rw [if_pos (by omega)]; done) | (rw [if_neg (by omega)]; done) | (exfalso; omega) | (simp only [zeW]; (repeat' split) <;> first | rfl | contradiction | (exfalso; omega)))) (lv_to (lv_sub (l' := [(1, .int (nI (i + 1))), (0, .ref h0)]) hl [0, 1] rfl) (by first | rfl | (simp [zeW, c_2]; done) | (rw [if_pos (by omega)]; done) | (rw [if_neg (by omega)]; done) | (exfalso; omega) | (simp only [zeW]; (repeat' split) <;> first | rfl | contradiction | (exfalso; omega))))
  exact lp_1 (5 + 1) 0 (by omega) (by omega)  _ _ _ (hW.to rfl) (lv_to (lv_sub (l' := [(1, .int (nI 0)), (0, .ref h0)]) hl [0, 1] rfl) rfl)

set_option maxHeartbeats 4000000 in
set_option maxRecDepth 100000 in
theorem met_X2_digestOn (l : Launch) (E : EV) (h0 h1 : Nat) (aw : Nat → Nat) (d : Int64) (ha : ∀ i, aw i ≤ 2) : ML l yX2_digestOn wsX2_digestOn { frames := 0, cells := 0, slots := 0, locals := 0 } E [.ref h0, .long d] [(h0, .inr (1, [.ref h1])), (h1, aI E 5 aw)] (dgR d aw 5) [(h0, .inr (1, [.ref h1])), (h1, aI E 5 aw)] := by
  refine sL (own := RX2) (cc := cX2_digestOn) (maxL := 6) rfl (by decide) rfl (Nat.le_of_ble_eq_true rfl) ?_
  intro p e s m below meth c C hnm ls hl hW
  have hl : lv_has ls 6 [(0, .ref h0), (1, .long d)] := hl
  have hW : WD E _ s [(h0, .inr (1, [.ref h1])), (h1, aI E 5 aw)] s.heap [] := hW
  have hinX2 : ∀ w ∈ u_ws RX2 TX2 1, w ∈ wsX2_digestOn := by decide +kernel
  have hf9 : Cond.fieldLink RX2 9 (TX2 0).1 (TX2 0).2.1 (TX2 0).2.2.1 ∈ wsX2_digestOn := by decide +kernel
  refine lv_lload_n C.x C.b dX2_digestOn_0 rfl (lv_at hl 1 rfl) ?_
  refine lv_lstore_n (lv' := [(3, .long d), (0, .ref h0), (1, .long d)]) C.x C.b dX2_digestOn_1 rfl hl (by decide) rfl (fun ls hl => ?_)
  refine lv_iconst (v := nI 0) C.x C.b dX2_digestOn_2 (by decide) ?_
  refine lv_istore (lv' := [(5, .int (nI 0)), (3, .long d), (0, .ref h0), (1, .long d)]) C.x C.b dX2_digestOn_3 hl (by decide) rfl (fun ls hl => ?_)
  have lp_1 : ∀ (n1 i : Nat), i ≤ 5 → 5 + 1 ≤ i + n1 → ∀ (H : Heap) (locs : List Loc) (ls : Array Slot), WD E (va_A [(h0, .inr (1, [.ref h1])), (h1, aI E 5 aw)] s.heap.size) s [(h0, .inr (1, [.ref h1])), (h1, aI E 5 aw)] H locs → lv_has ls 6 [(5, .int (nI i)), (3, .long (dgR d aw i)), (0, .ref h0), (1, .long d)] → W p l e ({ frames := 0, cells := 0, slots := 0, locals := 0 } : Room) s m ([.ref h0, .long d] : List Value).toArray below meth c H locs 0 0 (QL E [(h0, .inr (1, [.ref h1])), (h1, aI E 5 aw)] (dgR d aw 5) [(h0, .inr (1, [.ref h1])), (h1, aI E 5 aw)] below ([.ref h0, .long d] : List Value).toArray s) (F0 m 5 ls []) := by
    intro n1
    induction n1 with
    | zero => intro i hi hn; exact absurd hn (by omega)
    | succ n1 ih1 =>
      intro i hi hn  H locs ls hW hl
      refine lv_iload C.x C.b dX2_digestOn_5 (lv_at hl 0 rfl) ?_
      refine lv_iconst (v := nI 5) C.x C.b dX2_digestOn_7 (by decide) ?_
      refine x_icmp_ge C (by omega) (by omega) (tgt := 32) dX2_digestOn_8 (by decide) (fun c_2 => ?_) (fun c_2 => ?_)
      · obtain rfl : i = 5 := by omega
        refine lv_lload_n C.x C.b dX2_digestOn_32 rfl (lv_at hl 1 rfl) ?_
        exact x_lret C hW rfl rfl dX2_digestOn_33
      · refine lv_lload_n C.x C.b dX2_digestOn_11 rfl (lv_at hl 1 rfl) ?_
        refine lv_ldc2 (v := (31)) C.x C.b C.ow (C.ts (.constantLong RX2 21 (31)) (by decide +kernel)) dX2_digestOn_12 ?_
        refine lv_lmul C.x C.b dX2_digestOn_15 ?_
        refine lv_aload_n C.x C.b dX2_digestOn_16 rfl (lv_at hl 2 rfl) ?_
        refine x_get C hW 0 1 0 (Cn := RX2) (T := TX2) (N := 1) rfl rfl (by decide) hinX2 hf9 rfl dX2_digestOn_17 ?_
        refine lv_iload C.x C.b dX2_digestOn_20 (lv_at hl 0 rfl) ?_
        refine x_ald C hW 1 i rfl rfl (by omega) (by decide) dX2_digestOn_22 ?_
        have h9 := ha i
        refine lv_i2l (v := lN (aw i)) C.x C.b dX2_digestOn_23 (nI_l (by omega)) ?_
        refine lv_ladd C.x C.b dX2_digestOn_24 ?_
        refine lv_lstore_n (lv' := [(3, .long (((dgR d aw i) * ((31 : Int64))) + (lN (aw i)))), (5, .int (nI i)), (0, .ref h0), (1, .long d)]) C.x C.b dX2_digestOn_25 rfl hl (by decide) rfl (fun ls hl => ?_)
        refine lv_iinc (k := 1) (v := nI (i + 1)) (lv' := [(5, .int (nI (i + 1))), (3, .long (((dgR d aw i) * ((31 : Int64))) + (lN (aw i)))), (0, .ref h0), (1, .long d)]) C.x C.b dX2_digestOn_26 hl rfl (z_inc i 1) (by decide) rfl (fun ls hl => ?_)
        refine lv_goto (tgt := 5) C.x C.b dX2_digestOn_29 (by decide) ?_
        exact ih1 (i + 1) (by omega) (by omega)  _ _ _ (hW.to rfl) (lv_to (lv_sub (l' := [(5, .int (nI (i + 1))), (3, .long (((dgR d aw i) * ((31 : Int64))) + (lN (aw i)))), (0, .ref h0), (1, .long d)]) hl [0, 1, 2, 3] rfl) (by first | rfl | (simp [dgR, c_2]; done) | (rw [if_pos (by omega)]; done) | (rw [if_neg (by omega)]; done) | (exfalso; omega) | (simp only [dgR]; (repeat' split) <;> first | rfl | contradiction | (exfalso; omega))))
  exact lp_1 (5 + 1) 0 (by omega) (by omega)  _ _ _ (hW.to rfl) (lv_to (lv_sub (l' := [(5, .int (nI 0)), (3, .long d), (0, .ref h0), (1, .long d)]) hl [0, 1, 2, 3] rfl) rfl)

set_option maxHeartbeats 4000000 in
set_option maxRecDepth 100000 in
theorem met_X3_thrown (l : Launch) (E : EV) (h0 a1 a2 a3 a4 : Nat) (pt ft ti bt : Nat → Nat) (th : Nat)  : MI l yX3_thrown wsX3_thrown { frames := 0, cells := 0, slots := 0, locals := 0 } E [.ref h0] [(h0, .inr (2, [.ref a1, .ref a2, .ref a3, .ref a4, .int (nI th)])), (a1, aI E 30 pt), (a2, aI E 10 ft), (a3, aI E 10 ti), (a4, aI E 10 bt)] (nI th) [(h0, .inr (2, [.ref a1, .ref a2, .ref a3, .ref a4, .int (nI th)])), (a1, aI E 30 pt), (a2, aI E 10 ft), (a3, aI E 10 ti), (a4, aI E 10 bt)] := by
  refine sI (own := RX3) (cc := cX3_thrown) (maxL := 1) (ret := (some .int)) rfl (by decide) rfl (Nat.le_of_ble_eq_true rfl) ?_
  intro p e s m below meth c C hnm ls hl hW
  have hl : lv_has ls 1 [(0, .ref h0)] := hl
  have hW : WD E _ s [(h0, .inr (2, [.ref a1, .ref a2, .ref a3, .ref a4, .int (nI th)])), (a1, aI E 30 pt), (a2, aI E 10 ft), (a3, aI E 10 ti), (a4, aI E 10 bt)] s.heap [] := hW
  have hinX3 : ∀ w ∈ u_ws RX3 TX3 5, w ∈ wsX3_thrown := by decide +kernel
  have hf24 : Cond.fieldLink RX3 24 (TX3 4).1 (TX3 4).2.1 (TX3 4).2.2.1 ∈ wsX3_thrown := by decide +kernel
  refine lv_aload_n C.x C.b dX3_thrown_0 rfl (lv_at hl 0 rfl) ?_
  refine x_get C hW 0 2 4 (Cn := RX3) (T := TX3) (N := 5) rfl rfl (by decide) hinX3 hf24 rfl dX3_thrown_1 ?_
  exact x_iret C hW rfl rfl rfl dX3_thrown_4

set_option maxHeartbeats 4000000 in
set_option maxRecDepth 100000 in
theorem met_X3_clear (l : Launch) (E : EV) (h0 a1 a2 a3 a4 : Nat) (pt ft ti bt : Nat → Nat) (th : Nat)  : MV l yX3_clear wsX3_clear { frames := 0, cells := 0, slots := 0, locals := 0 } E [.ref h0] [(h0, .inr (2, [.ref a1, .ref a2, .ref a3, .ref a4, .int (nI th)])), (a1, aI E 30 pt), (a2, aI E 10 ft), (a3, aI E 10 ti), (a4, aI E 10 bt)] [(h0, .inr (2, [.ref a1, .ref a2, .ref a3, .ref a4, .int (nI 0)])), (a1, aI E 30 pt), (a2, aI E 10 (zeW ft 10)), (a3, aI E 10 (zeW ti 10)), (a4, aI E 10 (zeW bt 10))] := by
  refine sV (own := RX3) (cc := cX3_clear) (maxL := 2) rfl (by decide) rfl (Nat.le_of_ble_eq_true rfl) ?_
  intro p e s m below meth c C hnm ls hl hW
  have hl : lv_has ls 2 [(0, .ref h0)] := hl
  have hW : WD E _ s [(h0, .inr (2, [.ref a1, .ref a2, .ref a3, .ref a4, .int (nI th)])), (a1, aI E 30 pt), (a2, aI E 10 ft), (a3, aI E 10 ti), (a4, aI E 10 bt)] s.heap [] := hW
  have hinX3 : ∀ w ∈ u_ws RX3 TX3 5, w ∈ wsX3_clear := by decide +kernel
  have hf15 : Cond.fieldLink RX3 15 (TX3 1).1 (TX3 1).2.1 (TX3 1).2.2.1 ∈ wsX3_clear := by decide +kernel
  have hf18 : Cond.fieldLink RX3 18 (TX3 2).1 (TX3 2).2.1 (TX3 2).2.2.1 ∈ wsX3_clear := by decide +kernel
  have hf21 : Cond.fieldLink RX3 21 (TX3 3).1 (TX3 3).2.1 (TX3 3).2.2.1 ∈ wsX3_clear := by decide +kernel
  have hf24 : Cond.fieldLink RX3 24 (TX3 4).1 (TX3 4).2.1 (TX3 4).2.2.1 ∈ wsX3_clear := by decide +kernel
  refine lv_aload_n C.x C.b dX3_clear_0 rfl (lv_at hl 0 rfl) ?_
  refine lv_iconst (v := nI 0) C.x C.b dX3_clear_1 (by decide) ?_
  refine x_put C hW 0 2 4 (Cn := RX3) (T := TX3) (N := 5) (w' := [(h0, .inr (2, [.ref a1, .ref a2, .ref a3, .ref a4, .int (nI 0)])), (a1, aI E 30 pt), (a2, aI E 10 ft), (a3, aI E 10 ti), (a4, aI E 10 bt)]) tyX3 tyX3_ok nmX3 rfl rfl (by decide) hinX3 hf24 rfl (by decide +kernel) (Nat.le_of_ble_eq_true rfl) dX3_clear_2 rfl (fun H locs hW => ?_)
  refine lv_iconst (v := nI 0) C.x C.b dX3_clear_5 (by decide) ?_
  refine lv_istore_n (lv' := [(1, .int (nI 0)), (0, .ref h0)]) C.x C.b dX3_clear_6 rfl hl (by decide) rfl (fun ls hl => ?_)
  have lp_1 : ∀ (n1 i : Nat), i ≤ 10 → 10 + 1 ≤ i + n1 → ∀ (H : Heap) (locs : List Loc) (ls : Array Slot), WD E (va_A [(h0, .inr (2, [.ref a1, .ref a2, .ref a3, .ref a4, .int (nI th)])), (a1, aI E 30 pt), (a2, aI E 10 ft), (a3, aI E 10 ti), (a4, aI E 10 bt)] s.heap.size) s [(h0, .inr (2, [.ref a1, .ref a2, .ref a3, .ref a4, .int (nI 0)])), (a1, aI E 30 pt), (a2, aI E 10 (zeW ft i)), (a3, aI E 10 (zeW ti i)), (a4, aI E 10 (zeW bt i))] H locs → lv_has ls 2 [(1, .int (nI i)), (0, .ref h0)] → W p l e ({ frames := 0, cells := 0, slots := 0, locals := 0 } : Room) s m ([.ref h0] : List Value).toArray below meth c H locs 0 0 (QV E [(h0, .inr (2, [.ref a1, .ref a2, .ref a3, .ref a4, .int (nI th)])), (a1, aI E 30 pt), (a2, aI E 10 ft), (a3, aI E 10 ti), (a4, aI E 10 bt)] [(h0, .inr (2, [.ref a1, .ref a2, .ref a3, .ref a4, .int (nI 0)])), (a1, aI E 30 pt), (a2, aI E 10 (zeW ft 10)), (a3, aI E 10 (zeW ti 10)), (a4, aI E 10 (zeW bt 10))] below ([.ref h0] : List Value).toArray s) (F0 m 7 ls []) := by
    intro n1
    induction n1 with
    | zero => intro i hi hn; exact absurd hn (by omega)
    | succ n1 ih1 =>
      intro i hi hn  H locs ls hW hl
      refine lv_iload_n C.x C.b dX3_clear_7 rfl (lv_at hl 0 rfl) ?_
      refine lv_bipush (v := nI 10) C.x C.b dX3_clear_8 (by decide) ?_
      refine x_icmp_ge C (by omega) (by omega) (tgt := 40) dX3_clear_10 (by decide) (fun c_2 => ?_) (fun c_2 => ?_)
      · obtain rfl : i = 10 := by omega
        exact x_vret C hW rfl dX3_clear_40
      · refine lv_aload_n C.x C.b dX3_clear_13 rfl (lv_at hl 1 rfl) ?_
        refine x_get C hW 0 2 1 (Cn := RX3) (T := TX3) (N := 5) rfl rfl (by decide) hinX3 hf15 rfl dX3_clear_14 ?_
        refine lv_iload_n C.x C.b dX3_clear_17 rfl (lv_at hl 0 rfl) ?_
        refine lv_iconst (v := nI 0) C.x C.b dX3_clear_18 (by decide) ?_
        refine x_ast C hW 2 i 0 rfl rfl rfl (by omega) (by decide) dX3_clear_19 (w' := [(h0, .inr (2, [.ref a1, .ref a2, .ref a3, .ref a4, .int (nI 0)])), (a1, aI E 30 pt), (a2, aI E 10 (upN (zeW ft i) i 0)), (a3, aI E 10 (zeW ti i)), (a4, aI E 10 (zeW bt i))]) rfl (fun H locs hW => ?_)
        refine lv_aload_n C.x C.b dX3_clear_20 rfl (lv_at hl 1 rfl) ?_
        refine x_get C hW 0 2 2 (Cn := RX3) (T := TX3) (N := 5) rfl rfl (by decide) hinX3 hf18 rfl dX3_clear_21 ?_
        refine lv_iload_n C.x C.b dX3_clear_24 rfl (lv_at hl 0 rfl) ?_
        refine lv_iconst (v := nI 0) C.x C.b dX3_clear_25 (by decide) ?_
        refine x_ast C hW 3 i 0 rfl rfl rfl (by omega) (by decide) dX3_clear_26 (w' := [(h0, .inr (2, [.ref a1, .ref a2, .ref a3, .ref a4, .int (nI 0)])), (a1, aI E 30 pt), (a2, aI E 10 (upN (zeW ft i) i 0)), (a3, aI E 10 (upN (zeW ti i) i 0)), (a4, aI E 10 (zeW bt i))]) rfl (fun H locs hW => ?_)
        refine lv_aload_n C.x C.b dX3_clear_27 rfl (lv_at hl 1 rfl) ?_
        refine x_get C hW 0 2 3 (Cn := RX3) (T := TX3) (N := 5) rfl rfl (by decide) hinX3 hf21 rfl dX3_clear_28 ?_
        refine lv_iload_n C.x C.b dX3_clear_31 rfl (lv_at hl 0 rfl) ?_
        refine lv_iconst (v := nI 0) C.x C.b dX3_clear_32 (by decide) ?_
        refine x_ast C hW 4 i 0 rfl rfl rfl (by omega) (by decide) dX3_clear_33 (w' := [(h0, .inr (2, [.ref a1, .ref a2, .ref a3, .ref a4, .int (nI 0)])), (a1, aI E 30 pt), (a2, aI E 10 (upN (zeW ft i) i 0)), (a3, aI E 10 (upN (zeW ti i) i 0)), (a4, aI E 10 (upN (zeW bt i) i 0))]) rfl (fun H locs hW => ?_)
        refine lv_iinc (k := 0) (v := nI (i + 1)) (lv' := [(1, .int (nI (i + 1))), (0, .ref h0)]) C.x C.b dX3_clear_34 hl rfl (z_inc i 1) (by decide) rfl (fun ls hl => ?_)
        refine lv_goto (tgt := 7) C.x C.b dX3_clear_37 (by decide) ?_
        exact ih1 (i + 1) (by omega) (by omega)  _ _ _ (hW.to (by first | rfl | (simp [zeW, c_2]; done) | (rw [if_pos (by omega)]; done) | (rw [if_neg (by omega)]; done) | (exfalso; omega) | (simp only [zeW]; (repeat' split) <;> first | rfl | contradiction | (exfalso; omega)))) (lv_to (lv_sub (l' := [(1, .int (nI (i + 1))), (0, .ref h0)]) hl [0, 1] rfl) (by first | rfl | (simp [zeW, c_2]; done) | (rw [if_pos (by omega)]; done) | (rw [if_neg (by omega)]; done) | (exfalso; omega) | (simp only [zeW]; (repeat' split) <;> first | rfl | contradiction | (exfalso; omega))))
  exact lp_1 (10 + 1) 0 (by omega) (by omega)  _ _ _ (hW.to rfl) (lv_to (lv_sub (l' := [(1, .int (nI 0)), (0, .ref h0)]) hl [0, 1] rfl) rfl)

set_option maxHeartbeats 4000000 in
set_option maxRecDepth 100000 in
theorem met_X3_enter_0 (l : Launch) (E : EV) (h0 a1 a2 a3 a4 : Nat) (pt ft ti bt : Nat → Nat) (th : Nat) (f n : Nat) (hf : f < 10) (hth : th < 30) (hti : ∀ j, ti j ≤ 3) (hn : n ≤ 9) : MV l yX3_enter wsX3_enter { frames := 0, cells := 0, slots := 0, locals := 0 } E [.ref h0, .int (nI f), .int (nI n), .int (nI 0)] [(h0, .inr (2, [.ref a1, .ref a2, .ref a3, .ref a4, .int (nI th)])), (a1, aI E 30 pt), (a2, aI E 10 ft), (a3, aI E 10 ti), (a4, aI E 10 bt)] [(h0, .inr (2, [.ref a1, .ref a2, .ref a3, .ref a4, .int (nI (th + 1))])), (a1, aI E 30 (upN pt th n)), (a2, aI E 10 (if ti f = 0 then upN ft f th else ft)), (a3, aI E 10 (upN ti f (ti f + 1))), (a4, aI E 10 bt)] := by
  refine sV (own := RX3) (cc := cX3_enter) (maxL := 4) rfl (by decide) rfl (Nat.le_of_ble_eq_true rfl) ?_
  intro p e s m below meth c C hnm ls hl hW
  have hl : lv_has ls 4 [(0, .ref h0), (1, .int (nI f)), (2, .int (nI n)), (3, .int (nI 0))] := hl
  have hW : WD E _ s [(h0, .inr (2, [.ref a1, .ref a2, .ref a3, .ref a4, .int (nI th)])), (a1, aI E 30 pt), (a2, aI E 10 ft), (a3, aI E 10 ti), (a4, aI E 10 bt)] s.heap [] := hW
  have hinX3 : ∀ w ∈ u_ws RX3 TX3 5, w ∈ wsX3_enter := by decide +kernel
  have hf9 : Cond.fieldLink RX3 9 (TX3 0).1 (TX3 0).2.1 (TX3 0).2.2.1 ∈ wsX3_enter := by decide +kernel
  have hf15 : Cond.fieldLink RX3 15 (TX3 1).1 (TX3 1).2.1 (TX3 1).2.2.1 ∈ wsX3_enter := by decide +kernel
  have hf18 : Cond.fieldLink RX3 18 (TX3 2).1 (TX3 2).2.1 (TX3 2).2.2.1 ∈ wsX3_enter := by decide +kernel
  have hf24 : Cond.fieldLink RX3 24 (TX3 4).1 (TX3 4).2.1 (TX3 4).2.2.1 ∈ wsX3_enter := by decide +kernel
  refine lv_iload_n C.x C.b dX3_enter_0 rfl (lv_at hl 1 rfl) ?_
  refine x_if_lt C (by omega) (tgt := 22) dX3_enter_1 (by decide) (fun c_1 => ?_) (fun c_1 => ?_)
  · exact absurd c_1 (by omega)
  · refine lv_iload_n C.x C.b dX3_enter_4 rfl (lv_at hl 1 rfl) ?_
    refine lv_bipush (v := nI 10) C.x C.b dX3_enter_5 (by decide) ?_
    refine x_icmp_ge C (by omega) (by omega) (tgt := 22) dX3_enter_7 (by decide) (fun c_2 => ?_) (fun c_2 => ?_)
    · exact absurd c_2 (by omega)
    · refine lv_aload_n C.x C.b dX3_enter_10 rfl (lv_at hl 0 rfl) ?_
      refine x_get C hW 0 2 4 (Cn := RX3) (T := TX3) (N := 5) rfl rfl (by decide) hinX3 hf24 rfl dX3_enter_11 ?_
      refine lv_aload_n C.x C.b dX3_enter_14 rfl (lv_at hl 0 rfl) ?_
      refine x_get C hW 0 2 0 (Cn := RX3) (T := TX3) (N := 5) rfl rfl (by decide) hinX3 hf9 rfl dX3_enter_15 ?_
      refine x_alen C hW 1 0 rfl rfl dX3_enter_18 ?_
      refine x_icmp_lt C (by omega) (by omega) (tgt := 23) dX3_enter_19 (by decide) (fun c_3 => ?_) (fun c_3 => ?_)
      · have h9 := hti f
        refine lv_aload_n C.x C.b dX3_enter_23 rfl (lv_at hl 0 rfl) ?_
        refine x_get C hW 0 2 2 (Cn := RX3) (T := TX3) (N := 5) rfl rfl (by decide) hinX3 hf18 rfl dX3_enter_24 ?_
        refine lv_iload_n C.x C.b dX3_enter_27 rfl (lv_at hl 1 rfl) ?_
        refine x_ald C hW 3 f rfl rfl (by omega) (by decide) dX3_enter_28 ?_
        refine x_if_ne C (by omega) (tgt := 42) dX3_enter_29 (by decide) (fun c_4 => ?_) (fun c_4 => ?_)
        · refine lv_aload_n C.x C.b dX3_enter_42 rfl (lv_at hl 0 rfl) ?_
          refine x_get C hW 0 2 0 (Cn := RX3) (T := TX3) (N := 5) rfl rfl (by decide) hinX3 hf9 rfl dX3_enter_43 ?_
          refine lv_aload_n C.x C.b dX3_enter_46 rfl (lv_at hl 0 rfl) ?_
          refine x_get C hW 0 2 4 (Cn := RX3) (T := TX3) (N := 5) rfl rfl (by decide) hinX3 hf24 rfl dX3_enter_47 ?_
          refine lv_iload_n C.x C.b dX3_enter_50 rfl (lv_at hl 2 rfl) ?_
          refine x_ast C hW 1 th n rfl rfl rfl (by omega) (by decide) dX3_enter_51 (w' := [(h0, .inr (2, [.ref a1, .ref a2, .ref a3, .ref a4, .int (nI th)])), (a1, aI E 30 (upN pt th n)), (a2, aI E 10 ft), (a3, aI E 10 ti), (a4, aI E 10 bt)]) rfl (fun H locs hW => ?_)
          refine lv_aload_n C.x C.b dX3_enter_52 rfl (lv_at hl 0 rfl) ?_
          refine lv_dup C.x C.b dX3_enter_53 rfl ?_
          refine x_get C hW 0 2 4 (Cn := RX3) (T := TX3) (N := 5) rfl rfl (by decide) hinX3 hf24 rfl dX3_enter_54 ?_
          refine lv_iconst (v := nI 1) C.x C.b dX3_enter_57 (by decide) ?_
          refine x_iadd C dX3_enter_58 ?_
          refine x_put C hW 0 2 4 (Cn := RX3) (T := TX3) (N := 5) (w' := [(h0, .inr (2, [.ref a1, .ref a2, .ref a3, .ref a4, .int (nI (th + 1))])), (a1, aI E 30 (upN pt th n)), (a2, aI E 10 ft), (a3, aI E 10 ti), (a4, aI E 10 bt)]) tyX3 tyX3_ok nmX3 rfl rfl (by decide) hinX3 hf24 rfl (by decide +kernel) (Nat.le_of_ble_eq_true rfl) dX3_enter_59 rfl (fun H locs hW => ?_)
          refine lv_aload_n C.x C.b dX3_enter_62 rfl (lv_at hl 0 rfl) ?_
          refine x_get C hW 0 2 2 (Cn := RX3) (T := TX3) (N := 5) rfl rfl (by decide) hinX3 hf18 rfl dX3_enter_63 ?_
          refine lv_iload_n C.x C.b dX3_enter_66 rfl (lv_at hl 1 rfl) ?_
          refine lv_dup2_11 C.x C.b dX3_enter_67 rfl rfl ?_
          refine x_ald C hW 3 f rfl rfl (by omega) (by decide) dX3_enter_68 ?_
          refine lv_iconst (v := nI 1) C.x C.b dX3_enter_69 (by decide) ?_
          refine x_iadd C dX3_enter_70 ?_
          refine x_ast C hW 3 f ((ti f) + 1) rfl rfl rfl (by omega) (by decide) dX3_enter_71 (w' := [(h0, .inr (2, [.ref a1, .ref a2, .ref a3, .ref a4, .int (nI (th + 1))])), (a1, aI E 30 (upN pt th n)), (a2, aI E 10 ft), (a3, aI E 10 (upN ti f ((ti f) + 1))), (a4, aI E 10 bt)]) rfl (fun H locs hW => ?_)
          refine lv_iload_n C.x C.b dX3_enter_72 rfl (lv_at hl 3 rfl) ?_
          refine x_if_eq C (by omega) (tgt := 101) dX3_enter_73 (by decide) (fun c_5 => ?_) (fun c_5 => ?_)
          · exact x_vret C hW (by first | rfl | (simp [c_1, c_2, c_3, c_4, c_5]; done) | (rw [if_pos (by omega)]; done) | (rw [if_neg (by omega)]; done) | (exfalso; omega) | ((repeat' split) <;> first | rfl | contradiction | (exfalso; omega))) dX3_enter_101
          · exact absurd (by decide) c_5
        · refine lv_aload_n C.x C.b dX3_enter_32 rfl (lv_at hl 0 rfl) ?_
          refine x_get C hW 0 2 1 (Cn := RX3) (T := TX3) (N := 5) rfl rfl (by decide) hinX3 hf15 rfl dX3_enter_33 ?_
          refine lv_iload_n C.x C.b dX3_enter_36 rfl (lv_at hl 1 rfl) ?_
          refine lv_aload_n C.x C.b dX3_enter_37 rfl (lv_at hl 0 rfl) ?_
          refine x_get C hW 0 2 4 (Cn := RX3) (T := TX3) (N := 5) rfl rfl (by decide) hinX3 hf24 rfl dX3_enter_38 ?_
          refine x_ast C hW 2 f th rfl rfl rfl (by omega) (by decide) dX3_enter_41 (w' := [(h0, .inr (2, [.ref a1, .ref a2, .ref a3, .ref a4, .int (nI th)])), (a1, aI E 30 pt), (a2, aI E 10 (upN ft f th)), (a3, aI E 10 ti), (a4, aI E 10 bt)]) rfl (fun H locs hW => ?_)
          refine lv_aload_n C.x C.b dX3_enter_42 rfl (lv_at hl 0 rfl) ?_
          refine x_get C hW 0 2 0 (Cn := RX3) (T := TX3) (N := 5) rfl rfl (by decide) hinX3 hf9 rfl dX3_enter_43 ?_
          refine lv_aload_n C.x C.b dX3_enter_46 rfl (lv_at hl 0 rfl) ?_
          refine x_get C hW 0 2 4 (Cn := RX3) (T := TX3) (N := 5) rfl rfl (by decide) hinX3 hf24 rfl dX3_enter_47 ?_
          refine lv_iload_n C.x C.b dX3_enter_50 rfl (lv_at hl 2 rfl) ?_
          refine x_ast C hW 1 th n rfl rfl rfl (by omega) (by decide) dX3_enter_51 (w' := [(h0, .inr (2, [.ref a1, .ref a2, .ref a3, .ref a4, .int (nI th)])), (a1, aI E 30 (upN pt th n)), (a2, aI E 10 (upN ft f th)), (a3, aI E 10 ti), (a4, aI E 10 bt)]) rfl (fun H locs hW => ?_)
          refine lv_aload_n C.x C.b dX3_enter_52 rfl (lv_at hl 0 rfl) ?_
          refine lv_dup C.x C.b dX3_enter_53 rfl ?_
          refine x_get C hW 0 2 4 (Cn := RX3) (T := TX3) (N := 5) rfl rfl (by decide) hinX3 hf24 rfl dX3_enter_54 ?_
          refine lv_iconst (v := nI 1) C.x C.b dX3_enter_57 (by decide) ?_
          refine x_iadd C dX3_enter_58 ?_
          refine x_put C hW 0 2 4 (Cn := RX3) (T := TX3) (N := 5) (w' := [(h0, .inr (2, [.ref a1, .ref a2, .ref a3, .ref a4, .int (nI (th + 1))])), (a1, aI E 30 (upN pt th n)), (a2, aI E 10 (upN ft f th)), (a3, aI E 10 ti), (a4, aI E 10 bt)]) tyX3 tyX3_ok nmX3 rfl rfl (by decide) hinX3 hf24 rfl (by decide +kernel) (Nat.le_of_ble_eq_true rfl) dX3_enter_59 rfl (fun H locs hW => ?_)
          refine lv_aload_n C.x C.b dX3_enter_62 rfl (lv_at hl 0 rfl) ?_
          refine x_get C hW 0 2 2 (Cn := RX3) (T := TX3) (N := 5) rfl rfl (by decide) hinX3 hf18 rfl dX3_enter_63 ?_
          refine lv_iload_n C.x C.b dX3_enter_66 rfl (lv_at hl 1 rfl) ?_
          refine lv_dup2_11 C.x C.b dX3_enter_67 rfl rfl ?_
          refine x_ald C hW 3 f rfl rfl (by omega) (by decide) dX3_enter_68 ?_
          refine lv_iconst (v := nI 1) C.x C.b dX3_enter_69 (by decide) ?_
          refine x_iadd C dX3_enter_70 ?_
          refine x_ast C hW 3 f ((ti f) + 1) rfl rfl rfl (by omega) (by decide) dX3_enter_71 (w' := [(h0, .inr (2, [.ref a1, .ref a2, .ref a3, .ref a4, .int (nI (th + 1))])), (a1, aI E 30 (upN pt th n)), (a2, aI E 10 (upN ft f th)), (a3, aI E 10 (upN ti f ((ti f) + 1))), (a4, aI E 10 bt)]) rfl (fun H locs hW => ?_)
          refine lv_iload_n C.x C.b dX3_enter_72 rfl (lv_at hl 3 rfl) ?_
          refine x_if_eq C (by omega) (tgt := 101) dX3_enter_73 (by decide) (fun c_6 => ?_) (fun c_6 => ?_)
          · exact x_vret C hW (by first | rfl | (simp [c_1, c_2, c_3, c_4, c_6]; done) | (rw [if_pos (by omega)]; done) | (rw [if_neg (by omega)]; done) | (exfalso; omega) | ((repeat' split) <;> first | rfl | contradiction | (exfalso; omega))) dX3_enter_101
          · exact absurd (by decide) c_6
      · exact absurd hth c_3

set_option maxHeartbeats 4000000 in
set_option maxRecDepth 100000 in
theorem met_X3_enter_1 (l : Launch) (E : EV) (h0 a1 a2 a3 a4 : Nat) (pt ft ti bt : Nat → Nat) (th : Nat) (f n : Nat) (hf : f < 10) (hth : th < 30) (hti : ∀ j, ti j ≤ 3) (hn : n ≤ 9) : MV l yX3_enter wsX3_enter { frames := 0, cells := 0, slots := 0, locals := 0 } E [.ref h0, .int (nI f), .int (nI n), .int (nI 1)] [(h0, .inr (2, [.ref a1, .ref a2, .ref a3, .ref a4, .int (nI th)])), (a1, aI E 30 pt), (a2, aI E 10 ft), (a3, aI E 10 ti), (a4, aI E 10 bt)] [(h0, .inr (2, [.ref a1, .ref a2, .ref a3, .ref a4, .int (nI (th + 1))])), (a1, aI E 30 (upN pt th n)), (a2, aI E 10 (if ti f = 0 then upN ft f th else ft)), (a3, aI E 10 (upN ti f (ti f + 1))), (a4, aI E 10 (if 0 < n then upN bt f (if ti f + 1 = 1 then 2 else 1) else bt))] := by
  refine sV (own := RX3) (cc := cX3_enter) (maxL := 4) rfl (by decide) rfl (Nat.le_of_ble_eq_true rfl) ?_
  intro p e s m below meth c C hnm ls hl hW
  have hl : lv_has ls 4 [(0, .ref h0), (1, .int (nI f)), (2, .int (nI n)), (3, .int (nI 1))] := hl
  have hW : WD E _ s [(h0, .inr (2, [.ref a1, .ref a2, .ref a3, .ref a4, .int (nI th)])), (a1, aI E 30 pt), (a2, aI E 10 ft), (a3, aI E 10 ti), (a4, aI E 10 bt)] s.heap [] := hW
  have hinX3 : ∀ w ∈ u_ws RX3 TX3 5, w ∈ wsX3_enter := by decide +kernel
  have hf9 : Cond.fieldLink RX3 9 (TX3 0).1 (TX3 0).2.1 (TX3 0).2.2.1 ∈ wsX3_enter := by decide +kernel
  have hf15 : Cond.fieldLink RX3 15 (TX3 1).1 (TX3 1).2.1 (TX3 1).2.2.1 ∈ wsX3_enter := by decide +kernel
  have hf18 : Cond.fieldLink RX3 18 (TX3 2).1 (TX3 2).2.1 (TX3 2).2.2.1 ∈ wsX3_enter := by decide +kernel
  have hf21 : Cond.fieldLink RX3 21 (TX3 3).1 (TX3 3).2.1 (TX3 3).2.2.1 ∈ wsX3_enter := by decide +kernel
  have hf24 : Cond.fieldLink RX3 24 (TX3 4).1 (TX3 4).2.1 (TX3 4).2.2.1 ∈ wsX3_enter := by decide +kernel
  refine lv_iload_n C.x C.b dX3_enter_0 rfl (lv_at hl 1 rfl) ?_
  refine x_if_lt C (by omega) (tgt := 22) dX3_enter_1 (by decide) (fun c_1 => ?_) (fun c_1 => ?_)
  · exact absurd c_1 (by omega)
  · refine lv_iload_n C.x C.b dX3_enter_4 rfl (lv_at hl 1 rfl) ?_
    refine lv_bipush (v := nI 10) C.x C.b dX3_enter_5 (by decide) ?_
    refine x_icmp_ge C (by omega) (by omega) (tgt := 22) dX3_enter_7 (by decide) (fun c_2 => ?_) (fun c_2 => ?_)
    · exact absurd c_2 (by omega)
    · refine lv_aload_n C.x C.b dX3_enter_10 rfl (lv_at hl 0 rfl) ?_
      refine x_get C hW 0 2 4 (Cn := RX3) (T := TX3) (N := 5) rfl rfl (by decide) hinX3 hf24 rfl dX3_enter_11 ?_
      refine lv_aload_n C.x C.b dX3_enter_14 rfl (lv_at hl 0 rfl) ?_
      refine x_get C hW 0 2 0 (Cn := RX3) (T := TX3) (N := 5) rfl rfl (by decide) hinX3 hf9 rfl dX3_enter_15 ?_
      refine x_alen C hW 1 0 rfl rfl dX3_enter_18 ?_
      refine x_icmp_lt C (by omega) (by omega) (tgt := 23) dX3_enter_19 (by decide) (fun c_3 => ?_) (fun c_3 => ?_)
      · have h9 := hti f
        refine lv_aload_n C.x C.b dX3_enter_23 rfl (lv_at hl 0 rfl) ?_
        refine x_get C hW 0 2 2 (Cn := RX3) (T := TX3) (N := 5) rfl rfl (by decide) hinX3 hf18 rfl dX3_enter_24 ?_
        refine lv_iload_n C.x C.b dX3_enter_27 rfl (lv_at hl 1 rfl) ?_
        refine x_ald C hW 3 f rfl rfl (by omega) (by decide) dX3_enter_28 ?_
        refine x_if_ne C (by omega) (tgt := 42) dX3_enter_29 (by decide) (fun c_4 => ?_) (fun c_4 => ?_)
        · refine lv_aload_n C.x C.b dX3_enter_42 rfl (lv_at hl 0 rfl) ?_
          refine x_get C hW 0 2 0 (Cn := RX3) (T := TX3) (N := 5) rfl rfl (by decide) hinX3 hf9 rfl dX3_enter_43 ?_
          refine lv_aload_n C.x C.b dX3_enter_46 rfl (lv_at hl 0 rfl) ?_
          refine x_get C hW 0 2 4 (Cn := RX3) (T := TX3) (N := 5) rfl rfl (by decide) hinX3 hf24 rfl dX3_enter_47 ?_
          refine lv_iload_n C.x C.b dX3_enter_50 rfl (lv_at hl 2 rfl) ?_
          refine x_ast C hW 1 th n rfl rfl rfl (by omega) (by decide) dX3_enter_51 (w' := [(h0, .inr (2, [.ref a1, .ref a2, .ref a3, .ref a4, .int (nI th)])), (a1, aI E 30 (upN pt th n)), (a2, aI E 10 ft), (a3, aI E 10 ti), (a4, aI E 10 bt)]) rfl (fun H locs hW => ?_)
          refine lv_aload_n C.x C.b dX3_enter_52 rfl (lv_at hl 0 rfl) ?_
          refine lv_dup C.x C.b dX3_enter_53 rfl ?_
          refine x_get C hW 0 2 4 (Cn := RX3) (T := TX3) (N := 5) rfl rfl (by decide) hinX3 hf24 rfl dX3_enter_54 ?_
          refine lv_iconst (v := nI 1) C.x C.b dX3_enter_57 (by decide) ?_
          refine x_iadd C dX3_enter_58 ?_
          refine x_put C hW 0 2 4 (Cn := RX3) (T := TX3) (N := 5) (w' := [(h0, .inr (2, [.ref a1, .ref a2, .ref a3, .ref a4, .int (nI (th + 1))])), (a1, aI E 30 (upN pt th n)), (a2, aI E 10 ft), (a3, aI E 10 ti), (a4, aI E 10 bt)]) tyX3 tyX3_ok nmX3 rfl rfl (by decide) hinX3 hf24 rfl (by decide +kernel) (Nat.le_of_ble_eq_true rfl) dX3_enter_59 rfl (fun H locs hW => ?_)
          refine lv_aload_n C.x C.b dX3_enter_62 rfl (lv_at hl 0 rfl) ?_
          refine x_get C hW 0 2 2 (Cn := RX3) (T := TX3) (N := 5) rfl rfl (by decide) hinX3 hf18 rfl dX3_enter_63 ?_
          refine lv_iload_n C.x C.b dX3_enter_66 rfl (lv_at hl 1 rfl) ?_
          refine lv_dup2_11 C.x C.b dX3_enter_67 rfl rfl ?_
          refine x_ald C hW 3 f rfl rfl (by omega) (by decide) dX3_enter_68 ?_
          refine lv_iconst (v := nI 1) C.x C.b dX3_enter_69 (by decide) ?_
          refine x_iadd C dX3_enter_70 ?_
          refine x_ast C hW 3 f ((ti f) + 1) rfl rfl rfl (by omega) (by decide) dX3_enter_71 (w' := [(h0, .inr (2, [.ref a1, .ref a2, .ref a3, .ref a4, .int (nI (th + 1))])), (a1, aI E 30 (upN pt th n)), (a2, aI E 10 ft), (a3, aI E 10 (upN ti f ((ti f) + 1))), (a4, aI E 10 bt)]) rfl (fun H locs hW => ?_)
          refine lv_iload_n C.x C.b dX3_enter_72 rfl (lv_at hl 3 rfl) ?_
          refine x_if_eq C (by omega) (tgt := 101) dX3_enter_73 (by decide) (fun c_5 => ?_) (fun c_5 => ?_)
          · exact absurd c_5 (by decide)
          · refine lv_iload_n C.x C.b dX3_enter_76 rfl (lv_at hl 2 rfl) ?_
            refine x_if_le C (by omega) (tgt := 101) dX3_enter_77 (by decide) (fun c_6 => ?_) (fun c_6 => ?_)
            · exact x_vret C hW (by first | rfl | (simp [c_1, c_2, c_3, c_4, c_5, c_6]; done) | (rw [if_pos (by omega)]; done) | (rw [if_neg (by omega)]; done) | (exfalso; omega) | ((repeat' split) <;> first | rfl | contradiction | (exfalso; omega))) dX3_enter_101
            · refine lv_aload_n C.x C.b dX3_enter_80 rfl (lv_at hl 0 rfl) ?_
              refine x_get C hW 0 2 3 (Cn := RX3) (T := TX3) (N := 5) rfl rfl (by decide) hinX3 hf21 rfl dX3_enter_81 ?_
              refine lv_iload_n C.x C.b dX3_enter_84 rfl (lv_at hl 1 rfl) ?_
              refine lv_aload_n C.x C.b dX3_enter_85 rfl (lv_at hl 0 rfl) ?_
              refine x_get C hW 0 2 2 (Cn := RX3) (T := TX3) (N := 5) rfl rfl (by decide) hinX3 hf18 rfl dX3_enter_86 ?_
              refine lv_iload_n C.x C.b dX3_enter_89 rfl (lv_at hl 1 rfl) ?_
              refine x_ald C hW 3 f rfl rfl (by omega) (by decide) dX3_enter_90 ?_
              refine lv_iconst (v := nI 1) C.x C.b dX3_enter_91 (by decide) ?_
              refine x_icmp_ne C (by rw [upN_s]; omega) (by omega) (tgt := 99) dX3_enter_92 (by decide) (fun c_7 => ?_) (fun c_7 => ?_)
              · have c9 : ¬ ti f + 1 = 1 := by have h8 := ‹upN ti f (ti f + 1) f ≠ 1›; rw [upN_s] at h8; exact h8
                refine lv_iconst (v := nI 1) C.x C.b dX3_enter_99 (by decide) ?_
                refine x_ast C hW 4 f 1 rfl rfl rfl (by omega) (by decide) dX3_enter_100 (w' := [(h0, .inr (2, [.ref a1, .ref a2, .ref a3, .ref a4, .int (nI (th + 1))])), (a1, aI E 30 (upN pt th n)), (a2, aI E 10 ft), (a3, aI E 10 (upN ti f ((ti f) + 1))), (a4, aI E 10 (upN bt f 1))]) rfl (fun H locs hW => ?_)
                exact x_vret C hW (by first | rfl | (simp [c_1, c_2, c_3, c_4, c_5, c_6, c_7]; done) | (rw [if_pos (by omega)]; done) | (rw [if_neg (by omega)]; done) | (exfalso; omega) | ((repeat' split) <;> first | rfl | contradiction | (exfalso; omega))) dX3_enter_101
              · have c9 : ti f + 1 = 1 := by have h8 := ‹upN ti f (ti f + 1) f = 1›; rw [upN_s] at h8; exact h8
                refine lv_iconst (v := nI 2) C.x C.b dX3_enter_95 (by decide) ?_
                refine lv_goto (tgt := 100) C.x C.b dX3_enter_96 (by decide) ?_
                refine x_ast C hW 4 f 2 rfl rfl rfl (by omega) (by decide) dX3_enter_100 (w' := [(h0, .inr (2, [.ref a1, .ref a2, .ref a3, .ref a4, .int (nI (th + 1))])), (a1, aI E 30 (upN pt th n)), (a2, aI E 10 ft), (a3, aI E 10 (upN ti f ((ti f) + 1))), (a4, aI E 10 (upN bt f 2))]) rfl (fun H locs hW => ?_)
                exact x_vret C hW (by first | rfl | (simp [c_1, c_2, c_3, c_4, c_5, c_6, c_7]; done) | (rw [if_pos (by omega)]; done) | (rw [if_neg (by omega)]; done) | (exfalso; omega) | ((repeat' split) <;> first | rfl | contradiction | (exfalso; omega))) dX3_enter_101
        · refine lv_aload_n C.x C.b dX3_enter_32 rfl (lv_at hl 0 rfl) ?_
          refine x_get C hW 0 2 1 (Cn := RX3) (T := TX3) (N := 5) rfl rfl (by decide) hinX3 hf15 rfl dX3_enter_33 ?_
          refine lv_iload_n C.x C.b dX3_enter_36 rfl (lv_at hl 1 rfl) ?_
          refine lv_aload_n C.x C.b dX3_enter_37 rfl (lv_at hl 0 rfl) ?_
          refine x_get C hW 0 2 4 (Cn := RX3) (T := TX3) (N := 5) rfl rfl (by decide) hinX3 hf24 rfl dX3_enter_38 ?_
          refine x_ast C hW 2 f th rfl rfl rfl (by omega) (by decide) dX3_enter_41 (w' := [(h0, .inr (2, [.ref a1, .ref a2, .ref a3, .ref a4, .int (nI th)])), (a1, aI E 30 pt), (a2, aI E 10 (upN ft f th)), (a3, aI E 10 ti), (a4, aI E 10 bt)]) rfl (fun H locs hW => ?_)
          refine lv_aload_n C.x C.b dX3_enter_42 rfl (lv_at hl 0 rfl) ?_
          refine x_get C hW 0 2 0 (Cn := RX3) (T := TX3) (N := 5) rfl rfl (by decide) hinX3 hf9 rfl dX3_enter_43 ?_
          refine lv_aload_n C.x C.b dX3_enter_46 rfl (lv_at hl 0 rfl) ?_
          refine x_get C hW 0 2 4 (Cn := RX3) (T := TX3) (N := 5) rfl rfl (by decide) hinX3 hf24 rfl dX3_enter_47 ?_
          refine lv_iload_n C.x C.b dX3_enter_50 rfl (lv_at hl 2 rfl) ?_
          refine x_ast C hW 1 th n rfl rfl rfl (by omega) (by decide) dX3_enter_51 (w' := [(h0, .inr (2, [.ref a1, .ref a2, .ref a3, .ref a4, .int (nI th)])), (a1, aI E 30 (upN pt th n)), (a2, aI E 10 (upN ft f th)), (a3, aI E 10 ti), (a4, aI E 10 bt)]) rfl (fun H locs hW => ?_)
          refine lv_aload_n C.x C.b dX3_enter_52 rfl (lv_at hl 0 rfl) ?_
          refine lv_dup C.x C.b dX3_enter_53 rfl ?_
          refine x_get C hW 0 2 4 (Cn := RX3) (T := TX3) (N := 5) rfl rfl (by decide) hinX3 hf24 rfl dX3_enter_54 ?_
          refine lv_iconst (v := nI 1) C.x C.b dX3_enter_57 (by decide) ?_
          refine x_iadd C dX3_enter_58 ?_
          refine x_put C hW 0 2 4 (Cn := RX3) (T := TX3) (N := 5) (w' := [(h0, .inr (2, [.ref a1, .ref a2, .ref a3, .ref a4, .int (nI (th + 1))])), (a1, aI E 30 (upN pt th n)), (a2, aI E 10 (upN ft f th)), (a3, aI E 10 ti), (a4, aI E 10 bt)]) tyX3 tyX3_ok nmX3 rfl rfl (by decide) hinX3 hf24 rfl (by decide +kernel) (Nat.le_of_ble_eq_true rfl) dX3_enter_59 rfl (fun H locs hW => ?_)
          refine lv_aload_n C.x C.b dX3_enter_62 rfl (lv_at hl 0 rfl) ?_
          refine x_get C hW 0 2 2 (Cn := RX3) (T := TX3) (N := 5) rfl rfl (by decide) hinX3 hf18 rfl dX3_enter_63 ?_
          refine lv_iload_n C.x C.b dX3_enter_66 rfl (lv_at hl 1 rfl) ?_
          refine lv_dup2_11 C.x C.b dX3_enter_67 rfl rfl ?_
          refine x_ald C hW 3 f rfl rfl (by omega) (by decide) dX3_enter_68 ?_
          refine lv_iconst (v := nI 1) C.x C.b dX3_enter_69 (by decide) ?_
          refine x_iadd C dX3_enter_70 ?_
          refine x_ast C hW 3 f ((ti f) + 1) rfl rfl rfl (by omega) (by decide) dX3_enter_71 (w' := [(h0, .inr (2, [.ref a1, .ref a2, .ref a3, .ref a4, .int (nI (th + 1))])), (a1, aI E 30 (upN pt th n)), (a2, aI E 10 (upN ft f th)), (a3, aI E 10 (upN ti f ((ti f) + 1))), (a4, aI E 10 bt)]) rfl (fun H locs hW => ?_)
          refine lv_iload_n C.x C.b dX3_enter_72 rfl (lv_at hl 3 rfl) ?_
          refine x_if_eq C (by omega) (tgt := 101) dX3_enter_73 (by decide) (fun c_8 => ?_) (fun c_8 => ?_)
          · exact absurd c_8 (by decide)
          · refine lv_iload_n C.x C.b dX3_enter_76 rfl (lv_at hl 2 rfl) ?_
            refine x_if_le C (by omega) (tgt := 101) dX3_enter_77 (by decide) (fun c_9 => ?_) (fun c_9 => ?_)
            · exact x_vret C hW (by first | rfl | (simp [c_1, c_2, c_3, c_4, c_8, c_9]; done) | (rw [if_pos (by omega)]; done) | (rw [if_neg (by omega)]; done) | (exfalso; omega) | ((repeat' split) <;> first | rfl | contradiction | (exfalso; omega))) dX3_enter_101
            · refine lv_aload_n C.x C.b dX3_enter_80 rfl (lv_at hl 0 rfl) ?_
              refine x_get C hW 0 2 3 (Cn := RX3) (T := TX3) (N := 5) rfl rfl (by decide) hinX3 hf21 rfl dX3_enter_81 ?_
              refine lv_iload_n C.x C.b dX3_enter_84 rfl (lv_at hl 1 rfl) ?_
              refine lv_aload_n C.x C.b dX3_enter_85 rfl (lv_at hl 0 rfl) ?_
              refine x_get C hW 0 2 2 (Cn := RX3) (T := TX3) (N := 5) rfl rfl (by decide) hinX3 hf18 rfl dX3_enter_86 ?_
              refine lv_iload_n C.x C.b dX3_enter_89 rfl (lv_at hl 1 rfl) ?_
              refine x_ald C hW 3 f rfl rfl (by omega) (by decide) dX3_enter_90 ?_
              refine lv_iconst (v := nI 1) C.x C.b dX3_enter_91 (by decide) ?_
              refine x_icmp_ne C (by rw [upN_s]; omega) (by omega) (tgt := 99) dX3_enter_92 (by decide) (fun c_10 => ?_) (fun c_10 => ?_)
              · have c9 : ¬ ti f + 1 = 1 := by have h8 := ‹upN ti f (ti f + 1) f ≠ 1›; rw [upN_s] at h8; exact h8
                refine lv_iconst (v := nI 1) C.x C.b dX3_enter_99 (by decide) ?_
                refine x_ast C hW 4 f 1 rfl rfl rfl (by omega) (by decide) dX3_enter_100 (w' := [(h0, .inr (2, [.ref a1, .ref a2, .ref a3, .ref a4, .int (nI (th + 1))])), (a1, aI E 30 (upN pt th n)), (a2, aI E 10 (upN ft f th)), (a3, aI E 10 (upN ti f ((ti f) + 1))), (a4, aI E 10 (upN bt f 1))]) rfl (fun H locs hW => ?_)
                exact x_vret C hW (by first | rfl | (simp [c_1, c_2, c_3, c_4, c_8, c_9, c_10]; done) | (rw [if_pos (by omega)]; done) | (rw [if_neg (by omega)]; done) | (exfalso; omega) | ((repeat' split) <;> first | rfl | contradiction | (exfalso; omega))) dX3_enter_101
              · have c9 : ti f + 1 = 1 := by have h8 := ‹upN ti f (ti f + 1) f = 1›; rw [upN_s] at h8; exact h8
                refine lv_iconst (v := nI 2) C.x C.b dX3_enter_95 (by decide) ?_
                refine lv_goto (tgt := 100) C.x C.b dX3_enter_96 (by decide) ?_
                refine x_ast C hW 4 f 2 rfl rfl rfl (by omega) (by decide) dX3_enter_100 (w' := [(h0, .inr (2, [.ref a1, .ref a2, .ref a3, .ref a4, .int (nI (th + 1))])), (a1, aI E 30 (upN pt th n)), (a2, aI E 10 (upN ft f th)), (a3, aI E 10 (upN ti f ((ti f) + 1))), (a4, aI E 10 (upN bt f 2))]) rfl (fun H locs hW => ?_)
                exact x_vret C hW (by first | rfl | (simp [c_1, c_2, c_3, c_4, c_8, c_9, c_10]; done) | (rw [if_pos (by omega)]; done) | (rw [if_neg (by omega)]; done) | (exfalso; omega) | ((repeat' split) <;> first | rfl | contradiction | (exfalso; omega))) dX3_enter_101
      · exact absurd hth c_3

set_option maxHeartbeats 4000000 in
set_option maxRecDepth 100000 in
theorem met_X3_points (l : Launch) (E : EV) (h0 a1 a2 a3 a4 : Nat) (pt ft ti bt : Nat → Nat) (th : Nat) (f : Nat) (hf : f < 10) (ht : th ≤ 30) (hft : ∀ j, ft j ≤ 30) (hti : ∀ j, ti j ≤ 3) (hbt : ∀ j, bt j ≤ 2) : MI l yX3_points wsX3_points { frames := 1, cells := 0, slots := 0, locals := 21 } E [.ref h0, .int (nI f)] [(h0, .inr (2, [.ref a1, .ref a2, .ref a3, .ref a4, .int (nI th)])), (a1, aI E 30 pt), (a2, aI E 10 ft), (a3, aI E 10 ti), (a4, aI E 10 bt)] (nI (poN pt ft ti bt th f)) [(h0, .inr (2, [.ref a1, .ref a2, .ref a3, .ref a4, .int (nI th)])), (a1, aI E 30 pt), (a2, aI E 10 ft), (a3, aI E 10 ti), (a4, aI E 10 bt)] := by
  refine sI (own := RX3) (cc := cX3_points) (maxL := 5) (ret := (some .int)) rfl (by decide) rfl (Nat.le_of_ble_eq_true rfl) ?_
  intro p e s m below meth c C hnm ls hl hW
  have hl : lv_has ls 5 [(0, .ref h0), (1, .int (nI f))] := hl
  have hW : WD E _ s [(h0, .inr (2, [.ref a1, .ref a2, .ref a3, .ref a4, .int (nI th)])), (a1, aI E 30 pt), (a2, aI E 10 ft), (a3, aI E 10 ti), (a4, aI E 10 bt)] s.heap [] := hW
  have hinX3 : ∀ w ∈ u_ws RX3 TX3 5, w ∈ wsX3_points := by decide +kernel
  have hf9 : Cond.fieldLink RX3 9 (TX3 0).1 (TX3 0).2.1 (TX3 0).2.2.1 ∈ wsX3_points := by decide +kernel
  have hf15 : Cond.fieldLink RX3 15 (TX3 1).1 (TX3 1).2.1 (TX3 1).2.2.1 ∈ wsX3_points := by decide +kernel
  have hf18 : Cond.fieldLink RX3 18 (TX3 2).1 (TX3 2).2.1 (TX3 2).2.2.1 ∈ wsX3_points := by decide +kernel
  have hf21 : Cond.fieldLink RX3 21 (TX3 3).1 (TX3 3).2.1 (TX3 3).2.2.1 ∈ wsX3_points := by decide +kernel
  have hf24 : Cond.fieldLink RX3 24 (TX3 4).1 (TX3 4).2.1 (TX3 4).2.2.1 ∈ wsX3_points := by decide +kernel
  have f1 := hft f
  have f2 := hti f
  have f3 := hbt f
  refine lv_aload_n C.x C.b dX3_points_0 rfl (lv_at hl 0 rfl) ?_
  refine x_get C hW 0 2 4 (Cn := RX3) (T := TX3) (N := 5) rfl rfl (by decide) hinX3 hf24 rfl dX3_points_1 ?_
  refine lv_aload_n C.x C.b dX3_points_4 rfl (lv_at hl 0 rfl) ?_
  refine x_get C hW 0 2 1 (Cn := RX3) (T := TX3) (N := 5) rfl rfl (by decide) hinX3 hf15 rfl dX3_points_5 ?_
  refine lv_iload_n C.x C.b dX3_points_8 rfl (lv_at hl 1 rfl) ?_
  refine x_ald C hW 2 f rfl rfl (by omega) (by decide) dX3_points_9 ?_
  refine lv_aload_n C.x C.b dX3_points_10 rfl (lv_at hl 0 rfl) ?_
  refine x_get C hW 0 2 2 (Cn := RX3) (T := TX3) (N := 5) rfl rfl (by decide) hinX3 hf18 rfl dX3_points_11 ?_
  refine lv_iload_n C.x C.b dX3_points_14 rfl (lv_at hl 1 rfl) ?_
  refine x_ald C hW 3 f rfl rfl (by omega) (by decide) dX3_points_15 ?_
  refine x_iadd C dX3_points_16 ?_
  refine lv_aload_n C.x C.b dX3_points_17 rfl (lv_at hl 0 rfl) ?_
  refine x_get C hW 0 2 3 (Cn := RX3) (T := TX3) (N := 5) rfl rfl (by decide) hinX3 hf21 rfl dX3_points_18 ?_
  refine lv_iload_n C.x C.b dX3_points_21 rfl (lv_at hl 1 rfl) ?_
  refine x_ald C hW 4 f rfl rfl (by omega) (by decide) dX3_points_22 ?_
  refine x_iadd C dX3_points_23 ?_
  refine va_mmin C.x C.b (C.2.2.1.trans hl.1.symm) C.ow (C.ts (.methodLink RX3 28 Lib.Math.min.name) (by decide +kernel)) (C.ts (.static Lib.Math.min.name) (by decide +kernel)) (C.ts (.initialized "java/lang/Math") (by decide +kernel)) (C.ts (.code Lib.Math.min.name Lib.Math.min.code 2 (some .int)) (by decide +kernel)) (Nat.le_of_ble_eq_true rfl) (Nat.le_of_ble_eq_true rfl) (Nat.zero_le _) (Nat.zero_le _) dX3_points_24 ?_
  refine x_toi (y := nI (min th (((ft f) + (ti f)) + (bt f)))) (z_min (by omega) (by omega)) ?_
  refine lv_istore_n (lv' := [(2, .int (nI (min th (((ft f) + (ti f)) + (bt f))))), (0, .ref h0), (1, .int (nI f))]) C.x C.b dX3_points_27 rfl hl (by decide) rfl (fun ls hl => ?_)
  refine lv_iconst (v := nI 0) C.x C.b dX3_points_28 (by decide) ?_
  refine lv_istore_n (lv' := [(3, .int (nI 0)), (2, .int (nI (min th (((ft f) + (ti f)) + (bt f))))), (0, .ref h0), (1, .int (nI f))]) C.x C.b dX3_points_29 rfl hl (by decide) rfl (fun ls hl => ?_)
  refine lv_aload_n C.x C.b dX3_points_30 rfl (lv_at hl 2 rfl) ?_
  refine x_get C hW 0 2 1 (Cn := RX3) (T := TX3) (N := 5) rfl rfl (by decide) hinX3 hf15 rfl dX3_points_31 ?_
  refine lv_iload_n C.x C.b dX3_points_34 rfl (lv_at hl 3 rfl) ?_
  refine x_ald C hW 2 f rfl rfl (by omega) (by decide) dX3_points_35 ?_
  refine lv_istore (lv' := [(4, .int (nI (ft f))), (3, .int (nI 0)), (2, .int (nI (min th (((ft f) + (ti f)) + (bt f))))), (0, .ref h0), (1, .int (nI f))]) C.x C.b dX3_points_36 hl (by decide) rfl (fun ls hl => ?_)
  have lp_1 : ∀ (n1 k : Nat), k ≤ (min th (ft f + ti f + bt f) - ft f) → (min th (ft f + ti f + bt f) - ft f) + 1 ≤ k + n1 → ∀ (H : Heap) (locs : List Loc) (ls : Array Slot), WD E (va_A [(h0, .inr (2, [.ref a1, .ref a2, .ref a3, .ref a4, .int (nI th)])), (a1, aI E 30 pt), (a2, aI E 10 ft), (a3, aI E 10 ti), (a4, aI E 10 bt)] s.heap.size) s [(h0, .inr (2, [.ref a1, .ref a2, .ref a3, .ref a4, .int (nI th)])), (a1, aI E 30 pt), (a2, aI E 10 ft), (a3, aI E 10 ti), (a4, aI E 10 bt)] H locs → lv_has ls 5 [(4, .int (nI (ft f + k))), (3, .int (nI (smN pt (ft f) k))), (2, .int (nI (min th (((ft f) + (ti f)) + (bt f))))), (0, .ref h0), (1, .int (nI f))] → W p l e ({ frames := 1, cells := 0, slots := 0, locals := 21 } : Room) s m ([.ref h0, .int (nI f)] : List Value).toArray below meth c H locs 0 0 (QI E [(h0, .inr (2, [.ref a1, .ref a2, .ref a3, .ref a4, .int (nI th)])), (a1, aI E 30 pt), (a2, aI E 10 ft), (a3, aI E 10 ti), (a4, aI E 10 bt)] (nI (poN pt ft ti bt th f)) [(h0, .inr (2, [.ref a1, .ref a2, .ref a3, .ref a4, .int (nI th)])), (a1, aI E 30 pt), (a2, aI E 10 ft), (a3, aI E 10 ti), (a4, aI E 10 bt)] below ([.ref h0, .int (nI f)] : List Value).toArray s) (F0 m 38 ls []) := by
    intro n1
    induction n1 with
    | zero => intro k hk hn; exact absurd hn (by omega)
    | succ n1 ih1 =>
      intro k hk hn  H locs ls hW hl
      refine lv_iload C.x C.b dX3_points_38 (lv_at hl 0 rfl) ?_
      refine lv_iload_n C.x C.b dX3_points_40 rfl (lv_at hl 2 rfl) ?_
      refine x_icmp_ge C (by omega) (by omega) (tgt := 60) dX3_points_41 (by decide) (fun c_2 => ?_) (fun c_2 => ?_)
      · obtain rfl : k = min th (ft f + ti f + bt f) - ft f := by omega
        refine lv_iload_n C.x C.b dX3_points_60 rfl (lv_at hl 1 rfl) ?_
        exact x_iret C hW rfl (by first | rfl | (simp [smN, c_2]; done) | (rw [if_pos (by omega)]; done) | (rw [if_neg (by omega)]; done) | (exfalso; omega) | (simp only [smN]; (repeat' split) <;> first | rfl | contradiction | (exfalso; omega))) rfl dX3_points_61
      · refine lv_iload_n C.x C.b dX3_points_44 rfl (lv_at hl 1 rfl) ?_
        refine lv_aload_n C.x C.b dX3_points_45 rfl (lv_at hl 3 rfl) ?_
        refine x_get C hW 0 2 0 (Cn := RX3) (T := TX3) (N := 5) rfl rfl (by decide) hinX3 hf9 rfl dX3_points_46 ?_
        refine lv_iload C.x C.b dX3_points_49 (lv_at hl 0 rfl) ?_
        refine x_ald C hW 1 (ft f + k) rfl rfl (by omega) (by decide) dX3_points_51 ?_
        refine x_iadd C dX3_points_52 ?_
        refine lv_istore_n (lv' := [(3, .int (nI ((smN pt (ft f) k) + (pt (ft f + k))))), (4, .int (nI (ft f + k))), (2, .int (nI (min th (((ft f) + (ti f)) + (bt f))))), (0, .ref h0), (1, .int (nI f))]) C.x C.b dX3_points_53 rfl hl (by decide) rfl (fun ls hl => ?_)
        refine lv_iinc (k := 1) (v := nI ((ft f + k) + 1)) (lv' := [(4, .int (nI ((ft f + k) + 1))), (3, .int (nI ((smN pt (ft f) k) + (pt (ft f + k))))), (2, .int (nI (min th (((ft f) + (ti f)) + (bt f))))), (0, .ref h0), (1, .int (nI f))]) C.x C.b dX3_points_54 hl rfl (z_inc (ft f + k) 1) (by decide) rfl (fun ls hl => ?_)
        refine lv_goto (tgt := 38) C.x C.b dX3_points_57 (by decide) ?_
        exact ih1 (k + 1) (by omega) (by omega)  _ _ _ (hW.to rfl) (lv_to (lv_sub (l' := [(4, .int (nI ((ft f + k) + 1))), (3, .int (nI ((smN pt (ft f) k) + (pt (ft f + k))))), (2, .int (nI (min th (((ft f) + (ti f)) + (bt f))))), (0, .ref h0), (1, .int (nI f))]) hl [0, 1, 2, 3, 4] rfl) (by first | rfl | (simp [smN, c_2]; done) | (rw [if_pos (by omega)]; done) | (rw [if_neg (by omega)]; done) | (exfalso; omega) | (simp only [smN]; (repeat' split) <;> first | rfl | contradiction | (exfalso; omega))))
  exact lp_1 ((min th (ft f + ti f + bt f) - ft f) + 1) 0 (by omega) (by omega)  _ _ _ (hW.to rfl) (lv_to (lv_sub (l' := [(4, .int (nI (ft f))), (3, .int (nI 0)), (2, .int (nI (min th (((ft f) + (ti f)) + (bt f))))), (0, .ref h0), (1, .int (nI f))]) hl [0, 1, 2, 3, 4] rfl) rfl)

set_option maxHeartbeats 4000000 in
set_option maxRecDepth 100000 in
theorem met_X3_score (l : Launch) (E : EV) (h0 a1 a2 a3 a4 : Nat) (pt ft ti bt : Nat → Nat) (th : Nat) (ht : th ≤ 30) (hft : ∀ j, ft j ≤ 30) (hti : ∀ j, ti j ≤ 3) (hbt : ∀ j, bt j ≤ 2) : MI l yX3_score wsX3_score { frames := 2, cells := 0, slots := 0, locals := 45 } E [.ref h0] [(h0, .inr (2, [.ref a1, .ref a2, .ref a3, .ref a4, .int (nI th)])), (a1, aI E 30 pt), (a2, aI E 10 ft), (a3, aI E 10 ti), (a4, aI E 10 bt)] (nI (scN pt ft ti bt th 10)) [(h0, .inr (2, [.ref a1, .ref a2, .ref a3, .ref a4, .int (nI th)])), (a1, aI E 30 pt), (a2, aI E 10 ft), (a3, aI E 10 ti), (a4, aI E 10 bt)] := by
  refine sI (own := RX3) (cc := cX3_score) (maxL := 3) (ret := (some .int)) rfl (by decide) rfl (Nat.le_of_ble_eq_true rfl) ?_
  intro p e s m below meth c C hnm ls hl hW
  have hl : lv_has ls 3 [(0, .ref h0)] := hl
  have hW : WD E _ s [(h0, .inr (2, [.ref a1, .ref a2, .ref a3, .ref a4, .int (nI th)])), (a1, aI E 30 pt), (a2, aI E 10 ft), (a3, aI E 10 ti), (a4, aI E 10 bt)] s.heap [] := hW
  refine lv_iconst (v := nI 0) C.x C.b dX3_score_0 (by decide) ?_
  refine lv_istore_n (lv' := [(1, .int (nI 0)), (0, .ref h0)]) C.x C.b dX3_score_1 rfl hl (by decide) rfl (fun ls hl => ?_)
  refine lv_iconst (v := nI 0) C.x C.b dX3_score_2 (by decide) ?_
  refine lv_istore_n (lv' := [(2, .int (nI 0)), (1, .int (nI 0)), (0, .ref h0)]) C.x C.b dX3_score_3 rfl hl (by decide) rfl (fun ls hl => ?_)
  have lp_1 : ∀ (n1 i : Nat), i ≤ 10 → 10 + 1 ≤ i + n1 → ∀ (H : Heap) (locs : List Loc) (ls : Array Slot), WD E (va_A [(h0, .inr (2, [.ref a1, .ref a2, .ref a3, .ref a4, .int (nI th)])), (a1, aI E 30 pt), (a2, aI E 10 ft), (a3, aI E 10 ti), (a4, aI E 10 bt)] s.heap.size) s [(h0, .inr (2, [.ref a1, .ref a2, .ref a3, .ref a4, .int (nI th)])), (a1, aI E 30 pt), (a2, aI E 10 ft), (a3, aI E 10 ti), (a4, aI E 10 bt)] H locs → lv_has ls 3 [(2, .int (nI i)), (1, .int (nI (scN pt ft ti bt th i))), (0, .ref h0)] → W p l e ({ frames := 2, cells := 0, slots := 0, locals := 45 } : Room) s m ([.ref h0] : List Value).toArray below meth c H locs 0 0 (QI E [(h0, .inr (2, [.ref a1, .ref a2, .ref a3, .ref a4, .int (nI th)])), (a1, aI E 30 pt), (a2, aI E 10 ft), (a3, aI E 10 ti), (a4, aI E 10 bt)] (nI (scN pt ft ti bt th 10)) [(h0, .inr (2, [.ref a1, .ref a2, .ref a3, .ref a4, .int (nI th)])), (a1, aI E 30 pt), (a2, aI E 10 ft), (a3, aI E 10 ti), (a4, aI E 10 bt)] below ([.ref h0] : List Value).toArray s) (F0 m 4 ls []) := by
    intro n1
    induction n1 with
    | zero => intro i hi hn; exact absurd hn (by omega)
    | succ n1 ih1 =>
      intro i hi hn  H locs ls hW hl
      refine lv_iload_n C.x C.b dX3_score_4 rfl (lv_at hl 0 rfl) ?_
      refine lv_bipush (v := nI 10) C.x C.b dX3_score_5 (by decide) ?_
      refine x_icmp_ge C (by omega) (by omega) (tgt := 24) dX3_score_7 (by decide) (fun c_2 => ?_) (fun c_2 => ?_)
      · obtain rfl : i = 10 := by omega
        refine lv_iload_n C.x C.b dX3_score_24 rfl (lv_at hl 1 rfl) ?_
        exact x_iret C hW rfl rfl rfl dX3_score_25
      · refine lv_iload_n C.x C.b dX3_score_10 rfl (lv_at hl 1 rfl) ?_
        refine lv_aload_n C.x C.b dX3_score_11 rfl (lv_at hl 2 rfl) ?_
        refine lv_iload_n C.x C.b dX3_score_12 rfl (lv_at hl 0 rfl) ?_
        refine x_cVI C hW (As := [.int (nI i)]) (rest := [.int (nI (scN pt ft ti bt th i))]) (wr := []) (wn := [(h0, .inr (2, [.ref a1, .ref a2, .ref a3, .ref a4, .int (nI th)])), (a1, aI E 30 pt), (a2, aI E 10 ft), (a3, aI E 10 ti), (a4, aI E 10 bt)]) (Cn := RX3) (met_X3_points l E h0 a1 a2 a3 a4 pt ft ti bt th i (by omega) (by omega) hft hti hbt) gX3_score_X3_points rfl 1 rfl ⟨rfl, rfl⟩ ⟨rfl, by decide +kernel, by decide +kernel, by decide +kernel⟩ ⟨Nat.le_of_ble_eq_true rfl, Nat.le_of_ble_eq_true rfl⟩ [0, 1, 2, 3, 4] [] [0, 1, 2, 3, 4] rfl (by decide) rfl (by decide) (by decide) rfl (by decide) 0 2 rfl rfl hl.1 rfl (Nat.le_of_ble_eq_true rfl) dX3_score_13 ⟨Nat.zero_le _, Nat.zero_le _⟩ (fun H locs hW => ?_)
        refine x_iadd C dX3_score_16 ?_
        refine lv_istore_n (lv' := [(1, .int (nI ((scN pt ft ti bt th i) + (poN pt ft ti bt th i)))), (2, .int (nI i)), (0, .ref h0)]) C.x C.b dX3_score_17 rfl hl (by decide) rfl (fun ls hl => ?_)
        refine lv_iinc (k := 1) (v := nI (i + 1)) (lv' := [(2, .int (nI (i + 1))), (1, .int (nI ((scN pt ft ti bt th i) + (poN pt ft ti bt th i)))), (0, .ref h0)]) C.x C.b dX3_score_18 hl rfl (z_inc i 1) (by decide) rfl (fun ls hl => ?_)
        refine lv_goto (tgt := 4) C.x C.b dX3_score_21 (by decide) ?_
        exact ih1 (i + 1) (by omega) (by omega)  _ _ _ (hW.to rfl) (lv_to (lv_sub (l' := [(2, .int (nI (i + 1))), (1, .int (nI ((scN pt ft ti bt th i) + (poN pt ft ti bt th i)))), (0, .ref h0)]) hl [0, 1, 2] rfl) (by first | rfl | (simp [scN, c_2]; done) | (rw [if_pos (by omega)]; done) | (rw [if_neg (by omega)]; done) | (exfalso; omega) | (simp only [scN]; (repeat' split) <;> first | rfl | contradiction | (exfalso; omega))))
  exact lp_1 (10 + 1) 0 (by omega) (by omega)  _ _ _ (hW.to rfl) (lv_to (lv_sub (l' := [(2, .int (nI 0)), (1, .int (nI 0)), (0, .ref h0)]) hl [0, 1, 2] rfl) rfl)

set_option maxHeartbeats 4000000 in
set_option maxRecDepth 100000 in
theorem met_X3_framesWithBonus (l : Launch) (E : EV) (h0 a1 a2 a3 a4 : Nat) (pt ft ti bt : Nat → Nat) (th : Nat) (v : Nat) (hv : v ≤ 2) (hbt : ∀ j, bt j ≤ 2) : MI l yX3_framesWithBonus wsX3_framesWithBonus { frames := 0, cells := 0, slots := 0, locals := 0 } E [.ref h0, .int (nI v)] [(h0, .inr (2, [.ref a1, .ref a2, .ref a3, .ref a4, .int (nI th)])), (a1, aI E 30 pt), (a2, aI E 10 ft), (a3, aI E 10 ti), (a4, aI E 10 bt)] (nI (fbN bt v 10)) [(h0, .inr (2, [.ref a1, .ref a2, .ref a3, .ref a4, .int (nI th)])), (a1, aI E 30 pt), (a2, aI E 10 ft), (a3, aI E 10 ti), (a4, aI E 10 bt)] := by
  refine sI (own := RX3) (cc := cX3_framesWithBonus) (maxL := 4) (ret := (some .int)) rfl (by decide) rfl (Nat.le_of_ble_eq_true rfl) ?_
  intro p e s m below meth c C hnm ls hl hW
  have hl : lv_has ls 4 [(0, .ref h0), (1, .int (nI v))] := hl
  have hW : WD E _ s [(h0, .inr (2, [.ref a1, .ref a2, .ref a3, .ref a4, .int (nI th)])), (a1, aI E 30 pt), (a2, aI E 10 ft), (a3, aI E 10 ti), (a4, aI E 10 bt)] s.heap [] := hW
  have hinX3 : ∀ w ∈ u_ws RX3 TX3 5, w ∈ wsX3_framesWithBonus := by decide +kernel
  have hf21 : Cond.fieldLink RX3 21 (TX3 3).1 (TX3 3).2.1 (TX3 3).2.2.1 ∈ wsX3_framesWithBonus := by decide +kernel
  refine lv_iconst (v := nI 0) C.x C.b dX3_framesWithBonus_0 (by decide) ?_
  refine lv_istore_n (lv' := [(2, .int (nI 0)), (0, .ref h0), (1, .int (nI v))]) C.x C.b dX3_framesWithBonus_1 rfl hl (by decide) rfl (fun ls hl => ?_)
  refine lv_iconst (v := nI 0) C.x C.b dX3_framesWithBonus_2 (by decide) ?_
  refine lv_istore_n (lv' := [(3, .int (nI 0)), (2, .int (nI 0)), (0, .ref h0), (1, .int (nI v))]) C.x C.b dX3_framesWithBonus_3 rfl hl (by decide) rfl (fun ls hl => ?_)
  have lp_1 : ∀ (n1 i : Nat), i ≤ 10 → 10 + 1 ≤ i + n1 → ∀ (H : Heap) (locs : List Loc) (ls : Array Slot), WD E (va_A [(h0, .inr (2, [.ref a1, .ref a2, .ref a3, .ref a4, .int (nI th)])), (a1, aI E 30 pt), (a2, aI E 10 ft), (a3, aI E 10 ti), (a4, aI E 10 bt)] s.heap.size) s [(h0, .inr (2, [.ref a1, .ref a2, .ref a3, .ref a4, .int (nI th)])), (a1, aI E 30 pt), (a2, aI E 10 ft), (a3, aI E 10 ti), (a4, aI E 10 bt)] H locs → lv_has ls 4 [(3, .int (nI i)), (2, .int (nI (fbN bt v i))), (0, .ref h0), (1, .int (nI v))] → W p l e ({ frames := 0, cells := 0, slots := 0, locals := 0 } : Room) s m ([.ref h0, .int (nI v)] : List Value).toArray below meth c H locs 0 0 (QI E [(h0, .inr (2, [.ref a1, .ref a2, .ref a3, .ref a4, .int (nI th)])), (a1, aI E 30 pt), (a2, aI E 10 ft), (a3, aI E 10 ti), (a4, aI E 10 bt)] (nI (fbN bt v 10)) [(h0, .inr (2, [.ref a1, .ref a2, .ref a3, .ref a4, .int (nI th)])), (a1, aI E 30 pt), (a2, aI E 10 ft), (a3, aI E 10 ti), (a4, aI E 10 bt)] below ([.ref h0, .int (nI v)] : List Value).toArray s) (F0 m 4 ls []) := by
    intro n1
    induction n1 with
    | zero => intro i hi hn; exact absurd hn (by omega)
    | succ n1 ih1 =>
      intro i hi hn  H locs ls hW hl
      refine lv_iload_n C.x C.b dX3_framesWithBonus_4 rfl (lv_at hl 0 rfl) ?_
      refine lv_bipush (v := nI 10) C.x C.b dX3_framesWithBonus_5 (by decide) ?_
      refine x_icmp_ge C (by omega) (by omega) (tgt := 29) dX3_framesWithBonus_7 (by decide) (fun c_2 => ?_) (fun c_2 => ?_)
      · obtain rfl : i = 10 := by omega
        refine lv_iload_n C.x C.b dX3_framesWithBonus_29 rfl (lv_at hl 1 rfl) ?_
        exact x_iret C hW rfl rfl rfl dX3_framesWithBonus_30
      · refine lv_aload_n C.x C.b dX3_framesWithBonus_10 rfl (lv_at hl 2 rfl) ?_
        refine x_get C hW 0 2 3 (Cn := RX3) (T := TX3) (N := 5) rfl rfl (by decide) hinX3 hf21 rfl dX3_framesWithBonus_11 ?_
        refine lv_iload_n C.x C.b dX3_framesWithBonus_14 rfl (lv_at hl 0 rfl) ?_
        refine x_ald C hW 4 i rfl rfl (by omega) (by decide) dX3_framesWithBonus_15 ?_
        refine lv_iload_n C.x C.b dX3_framesWithBonus_16 rfl (lv_at hl 3 rfl) ?_
        have h9 := hbt i
        refine x_icmp_ne C (by omega) (by omega) (tgt := 23) dX3_framesWithBonus_17 (by decide) (fun c_3 => ?_) (fun c_3 => ?_)
        · refine lv_iinc (k := 0) (v := nI (i + 1)) (lv' := [(3, .int (nI (i + 1))), (2, .int (nI (fbN bt v i))), (0, .ref h0), (1, .int (nI v))]) C.x C.b dX3_framesWithBonus_23 hl rfl (z_inc i 1) (by decide) rfl (fun ls hl => ?_)
          refine lv_goto (tgt := 4) C.x C.b dX3_framesWithBonus_26 (by decide) ?_
          exact ih1 (i + 1) (by omega) (by omega)  _ _ _ (hW.to rfl) (lv_to (lv_sub (l' := [(3, .int (nI (i + 1))), (2, .int (nI (fbN bt v i))), (0, .ref h0), (1, .int (nI v))]) hl [0, 1, 2, 3] rfl) (by first | rfl | (simp [fbN, c_2, c_3]; done) | (rw [if_pos (by omega)]; done) | (rw [if_neg (by omega)]; done) | (exfalso; omega) | (simp only [fbN]; (repeat' split) <;> first | rfl | contradiction | (exfalso; omega))))
        · refine lv_iinc (k := 1) (v := nI ((fbN bt v i) + 1)) (lv' := [(2, .int (nI ((fbN bt v i) + 1))), (3, .int (nI i)), (0, .ref h0), (1, .int (nI v))]) C.x C.b dX3_framesWithBonus_20 hl rfl (z_inc (fbN bt v i) 1) (by decide) rfl (fun ls hl => ?_)
          refine lv_iinc (k := 1) (v := nI (i + 1)) (lv' := [(3, .int (nI (i + 1))), (2, .int (nI ((fbN bt v i) + 1))), (0, .ref h0), (1, .int (nI v))]) C.x C.b dX3_framesWithBonus_23 hl rfl (z_inc i 1) (by decide) rfl (fun ls hl => ?_)
          refine lv_goto (tgt := 4) C.x C.b dX3_framesWithBonus_26 (by decide) ?_
          exact ih1 (i + 1) (by omega) (by omega)  _ _ _ (hW.to rfl) (lv_to (lv_sub (l' := [(3, .int (nI (i + 1))), (2, .int (nI ((fbN bt v i) + 1))), (0, .ref h0), (1, .int (nI v))]) hl [0, 1, 2, 3] rfl) (by first | rfl | (simp [fbN, c_2, c_3]; done) | (rw [if_pos (by omega)]; done) | (rw [if_neg (by omega)]; done) | (exfalso; omega) | (simp only [fbN]; (repeat' split) <;> first | rfl | contradiction | (exfalso; omega))))
  exact lp_1 (10 + 1) 0 (by omega) (by omega)  _ _ _ (hW.to rfl) (lv_to (lv_sub (l' := [(3, .int (nI 0)), (2, .int (nI 0)), (0, .ref h0), (1, .int (nI v))]) hl [0, 1, 2, 3] rfl) rfl)

set_option maxHeartbeats 4000000 in
set_option maxRecDepth 100000 in
theorem met_X3_strikes (l : Launch) (E : EV) (h0 a1 a2 a3 a4 : Nat) (pt ft ti bt : Nat → Nat) (th : Nat) (hbt : ∀ j, bt j ≤ 2) : MI l yX3_strikes wsX3_strikes { frames := 1, cells := 0, slots := 0, locals := 23 } E [.ref h0] [(h0, .inr (2, [.ref a1, .ref a2, .ref a3, .ref a4, .int (nI th)])), (a1, aI E 30 pt), (a2, aI E 10 ft), (a3, aI E 10 ti), (a4, aI E 10 bt)] (nI (fbN bt 2 10)) [(h0, .inr (2, [.ref a1, .ref a2, .ref a3, .ref a4, .int (nI th)])), (a1, aI E 30 pt), (a2, aI E 10 ft), (a3, aI E 10 ti), (a4, aI E 10 bt)] := by
  refine sI (own := RX3) (cc := cX3_strikes) (maxL := 1) (ret := (some .int)) rfl (by decide) rfl (Nat.le_of_ble_eq_true rfl) ?_
  intro p e s m below meth c C hnm ls hl hW
  have hl : lv_has ls 1 [(0, .ref h0)] := hl
  have hW : WD E _ s [(h0, .inr (2, [.ref a1, .ref a2, .ref a3, .ref a4, .int (nI th)])), (a1, aI E 30 pt), (a2, aI E 10 ft), (a3, aI E 10 ti), (a4, aI E 10 bt)] s.heap [] := hW
  refine lv_aload_n C.x C.b dX3_strikes_0 rfl (lv_at hl 0 rfl) ?_
  refine lv_iconst (v := nI 2) C.x C.b dX3_strikes_1 (by decide) ?_
  refine x_cVI C hW (As := [.int (nI 2)]) (rest := []) (wr := []) (wn := [(h0, .inr (2, [.ref a1, .ref a2, .ref a3, .ref a4, .int (nI th)])), (a1, aI E 30 pt), (a2, aI E 10 ft), (a3, aI E 10 ti), (a4, aI E 10 bt)]) (Cn := RX3) (met_X3_framesWithBonus l E h0 a1 a2 a3 a4 pt ft ti bt th 2 (by omega) hbt) gX3_strikes_X3_framesWithBonus rfl 1 rfl ⟨rfl, rfl⟩ ⟨rfl, by decide +kernel, by decide +kernel, by decide +kernel⟩ ⟨Nat.le_of_ble_eq_true rfl, Nat.le_of_ble_eq_true rfl⟩ [0, 1, 2, 3, 4] [] [0, 1, 2, 3, 4] rfl (by decide) rfl (by decide) (by decide) rfl (by decide) 0 2 rfl rfl hl.1 rfl (Nat.le_of_ble_eq_true rfl) dX3_strikes_2 ⟨Nat.zero_le _, Nat.zero_le _⟩ (fun H locs hW => ?_)
  exact x_iret C hW rfl rfl rfl dX3_strikes_5

set_option maxHeartbeats 4000000 in
set_option maxRecDepth 100000 in
theorem met_X3_spares (l : Launch) (E : EV) (h0 a1 a2 a3 a4 : Nat) (pt ft ti bt : Nat → Nat) (th : Nat) (hbt : ∀ j, bt j ≤ 2) : MI l yX3_spares wsX3_spares { frames := 1, cells := 0, slots := 0, locals := 23 } E [.ref h0] [(h0, .inr (2, [.ref a1, .ref a2, .ref a3, .ref a4, .int (nI th)])), (a1, aI E 30 pt), (a2, aI E 10 ft), (a3, aI E 10 ti), (a4, aI E 10 bt)] (nI (fbN bt 1 10)) [(h0, .inr (2, [.ref a1, .ref a2, .ref a3, .ref a4, .int (nI th)])), (a1, aI E 30 pt), (a2, aI E 10 ft), (a3, aI E 10 ti), (a4, aI E 10 bt)] := by
  refine sI (own := RX3) (cc := cX3_spares) (maxL := 1) (ret := (some .int)) rfl (by decide) rfl (Nat.le_of_ble_eq_true rfl) ?_
  intro p e s m below meth c C hnm ls hl hW
  have hl : lv_has ls 1 [(0, .ref h0)] := hl
  have hW : WD E _ s [(h0, .inr (2, [.ref a1, .ref a2, .ref a3, .ref a4, .int (nI th)])), (a1, aI E 30 pt), (a2, aI E 10 ft), (a3, aI E 10 ti), (a4, aI E 10 bt)] s.heap [] := hW
  refine lv_aload_n C.x C.b dX3_spares_0 rfl (lv_at hl 0 rfl) ?_
  refine lv_iconst (v := nI 1) C.x C.b dX3_spares_1 (by decide) ?_
  refine x_cVI C hW (As := [.int (nI 1)]) (rest := []) (wr := []) (wn := [(h0, .inr (2, [.ref a1, .ref a2, .ref a3, .ref a4, .int (nI th)])), (a1, aI E 30 pt), (a2, aI E 10 ft), (a3, aI E 10 ti), (a4, aI E 10 bt)]) (Cn := RX3) (met_X3_framesWithBonus l E h0 a1 a2 a3 a4 pt ft ti bt th 1 (by omega) hbt) gX3_spares_X3_framesWithBonus rfl 1 rfl ⟨rfl, rfl⟩ ⟨rfl, by decide +kernel, by decide +kernel, by decide +kernel⟩ ⟨Nat.le_of_ble_eq_true rfl, Nat.le_of_ble_eq_true rfl⟩ [0, 1, 2, 3, 4] [] [0, 1, 2, 3, 4] rfl (by decide) rfl (by decide) (by decide) rfl (by decide) 0 2 rfl rfl hl.1 rfl (Nat.le_of_ble_eq_true rfl) dX3_spares_2 ⟨Nat.zero_le _, Nat.zero_le _⟩ (fun H locs hW => ?_)
  exact x_iret C hW rfl rfl rfl dX3_spares_5

set_option maxHeartbeats 4000000 in
set_option maxRecDepth 100000 in
theorem met_X3_digestOn (l : Launch) (E : EV) (h0 a1 a2 a3 a4 : Nat) (pt ft ti bt : Nat → Nat) (th : Nat) (d : Int64) (ht : th ≤ 30) (hft : ∀ j, ft j ≤ 30) (hti : ∀ j, ti j ≤ 3) (hbt : ∀ j, bt j ≤ 2) (hpt : ∀ j, pt j ≤ 9) : ML l yX3_digestOn wsX3_digestOn { frames := 3, cells := 0, slots := 0, locals := 67 } E [.ref h0, .long d] [(h0, .inr (2, [.ref a1, .ref a2, .ref a3, .ref a4, .int (nI th)])), (a1, aI E 30 pt), (a2, aI E 10 ft), (a3, aI E 10 ti), (a4, aI E 10 bt)] (dgS d pt ft ti bt th) [(h0, .inr (2, [.ref a1, .ref a2, .ref a3, .ref a4, .int (nI th)])), (a1, aI E 30 pt), (a2, aI E 10 ft), (a3, aI E 10 ti), (a4, aI E 10 bt)] := by
  refine sL (own := RX3) (cc := cX3_digestOn) (maxL := 6) rfl (by decide) rfl (Nat.le_of_ble_eq_true rfl) ?_
  intro p e s m below meth c C hnm ls hl hW
  have hl : lv_has ls 6 [(0, .ref h0), (1, .long d)] := hl
  have hW : WD E _ s [(h0, .inr (2, [.ref a1, .ref a2, .ref a3, .ref a4, .int (nI th)])), (a1, aI E 30 pt), (a2, aI E 10 ft), (a3, aI E 10 ti), (a4, aI E 10 bt)] s.heap [] := hW
  have hinX3 : ∀ w ∈ u_ws RX3 TX3 5, w ∈ wsX3_digestOn := by decide +kernel
  have hf24 : Cond.fieldLink RX3 24 (TX3 4).1 (TX3 4).2.1 (TX3 4).2.2.1 ∈ wsX3_digestOn := by decide +kernel
  refine lv_lload_n C.x C.b dX3_digestOn_0 rfl (lv_at hl 1 rfl) ?_
  refine lv_ldc2 (v := (31)) C.x C.b C.ow (C.ts (.constantLong RX3 41 (31)) (by decide +kernel)) dX3_digestOn_1 ?_
  refine lv_lmul C.x C.b dX3_digestOn_4 ?_
  refine lv_aload_n C.x C.b dX3_digestOn_5 rfl (lv_at hl 0 rfl) ?_
  refine x_get C hW 0 2 4 (Cn := RX3) (T := TX3) (N := 5) rfl rfl (by decide) hinX3 hf24 rfl dX3_digestOn_6 ?_
  refine lv_i2l (v := lN th) C.x C.b dX3_digestOn_9 (nI_l (by omega)) ?_
  refine lv_ladd C.x C.b dX3_digestOn_10 ?_
  refine lv_lstore_n (lv' := [(3, .long ((d * ((31 : Int64))) + (lN th))), (0, .ref h0), (1, .long d)]) C.x C.b dX3_digestOn_11 rfl hl (by decide) rfl (fun ls hl => ?_)
  refine lv_lload_n C.x C.b dX3_digestOn_12 rfl (lv_at hl 0 rfl) ?_
  refine lv_ldc2 (v := (31)) C.x C.b C.ow (C.ts (.constantLong RX3 41 (31)) (by decide +kernel)) dX3_digestOn_13 ?_
  refine lv_lmul C.x C.b dX3_digestOn_16 ?_
  refine lv_aload_n C.x C.b dX3_digestOn_17 rfl (lv_at hl 1 rfl) ?_
  refine x_cVI C hW (As := []) (rest := [.long (((d * ((31 : Int64))) + (lN th)) * ((31 : Int64)))]) (wr := []) (wn := [(h0, .inr (2, [.ref a1, .ref a2, .ref a3, .ref a4, .int (nI th)])), (a1, aI E 30 pt), (a2, aI E 10 ft), (a3, aI E 10 ti), (a4, aI E 10 bt)]) (Cn := RX3) (met_X3_score l E h0 a1 a2 a3 a4 pt ft ti bt th (by omega) hft hti hbt) gX3_digestOn_X3_score rfl 0 rfl ⟨rfl, rfl⟩ ⟨rfl, by decide +kernel, by decide +kernel, by decide +kernel⟩ ⟨Nat.le_of_ble_eq_true rfl, Nat.le_of_ble_eq_true rfl⟩ [0, 1, 2, 3, 4] [] [0, 1, 2, 3, 4] rfl (by decide) rfl (by decide) (by decide) rfl (by decide) 0 2 rfl rfl hl.1 rfl (Nat.le_of_ble_eq_true rfl) dX3_digestOn_18 ⟨Nat.zero_le _, Nat.zero_le _⟩ (fun H locs hW => ?_)
  have g1 := scN_le (ft := ft) (ti := ti) (bt := bt) hpt ht 10
  refine lv_i2l (v := lN (scN pt ft ti bt th 10)) C.x C.b dX3_digestOn_21 (nI_l (by omega)) ?_
  refine lv_ladd C.x C.b dX3_digestOn_22 ?_
  refine lv_lstore_n (lv' := [(3, .long ((((d * ((31 : Int64))) + (lN th)) * ((31 : Int64))) + (lN (scN pt ft ti bt th 10)))), (0, .ref h0), (1, .long d)]) C.x C.b dX3_digestOn_23 rfl hl (by decide) rfl (fun ls hl => ?_)
  refine lv_lload_n C.x C.b dX3_digestOn_24 rfl (lv_at hl 0 rfl) ?_
  refine lv_ldc2 (v := (31)) C.x C.b C.ow (C.ts (.constantLong RX3 41 (31)) (by decide +kernel)) dX3_digestOn_25 ?_
  refine lv_lmul C.x C.b dX3_digestOn_28 ?_
  refine lv_aload_n C.x C.b dX3_digestOn_29 rfl (lv_at hl 1 rfl) ?_
  refine x_cVI C hW (As := []) (rest := [.long (((((d * ((31 : Int64))) + (lN th)) * ((31 : Int64))) + (lN (scN pt ft ti bt th 10))) * ((31 : Int64)))]) (wr := []) (wn := [(h0, .inr (2, [.ref a1, .ref a2, .ref a3, .ref a4, .int (nI th)])), (a1, aI E 30 pt), (a2, aI E 10 ft), (a3, aI E 10 ti), (a4, aI E 10 bt)]) (Cn := RX3) (met_X3_strikes l E h0 a1 a2 a3 a4 pt ft ti bt th hbt) gX3_digestOn_X3_strikes rfl 0 rfl ⟨rfl, rfl⟩ ⟨rfl, by decide +kernel, by decide +kernel, by decide +kernel⟩ ⟨Nat.le_of_ble_eq_true rfl, Nat.le_of_ble_eq_true rfl⟩ [0, 1, 2, 3, 4] [] [0, 1, 2, 3, 4] rfl (by decide) rfl (by decide) (by decide) rfl (by decide) 0 2 rfl rfl hl.1 rfl (Nat.le_of_ble_eq_true rfl) dX3_digestOn_30 ⟨Nat.zero_le _, Nat.zero_le _⟩ (fun H locs hW => ?_)
  have g2 := fbN_le bt 2 10
  refine lv_i2l (v := lN (fbN bt 2 10)) C.x C.b dX3_digestOn_33 (nI_l (by omega)) ?_
  refine lv_ladd C.x C.b dX3_digestOn_34 ?_
  refine lv_lstore_n (lv' := [(3, .long ((((((d * ((31 : Int64))) + (lN th)) * ((31 : Int64))) + (lN (scN pt ft ti bt th 10))) * ((31 : Int64))) + (lN (fbN bt 2 10)))), (0, .ref h0), (1, .long d)]) C.x C.b dX3_digestOn_35 rfl hl (by decide) rfl (fun ls hl => ?_)
  refine lv_lload_n C.x C.b dX3_digestOn_36 rfl (lv_at hl 0 rfl) ?_
  refine lv_ldc2 (v := (31)) C.x C.b C.ow (C.ts (.constantLong RX3 41 (31)) (by decide +kernel)) dX3_digestOn_37 ?_
  refine lv_lmul C.x C.b dX3_digestOn_40 ?_
  refine lv_aload_n C.x C.b dX3_digestOn_41 rfl (lv_at hl 1 rfl) ?_
  refine x_cVI C hW (As := []) (rest := [.long (((((((d * ((31 : Int64))) + (lN th)) * ((31 : Int64))) + (lN (scN pt ft ti bt th 10))) * ((31 : Int64))) + (lN (fbN bt 2 10))) * ((31 : Int64)))]) (wr := []) (wn := [(h0, .inr (2, [.ref a1, .ref a2, .ref a3, .ref a4, .int (nI th)])), (a1, aI E 30 pt), (a2, aI E 10 ft), (a3, aI E 10 ti), (a4, aI E 10 bt)]) (Cn := RX3) (met_X3_spares l E h0 a1 a2 a3 a4 pt ft ti bt th hbt) gX3_digestOn_X3_spares rfl 0 rfl ⟨rfl, rfl⟩ ⟨rfl, by decide +kernel, by decide +kernel, by decide +kernel⟩ ⟨Nat.le_of_ble_eq_true rfl, Nat.le_of_ble_eq_true rfl⟩ [0, 1, 2, 3, 4] [] [0, 1, 2, 3, 4] rfl (by decide) rfl (by decide) (by decide) rfl (by decide) 0 2 rfl rfl hl.1 rfl (Nat.le_of_ble_eq_true rfl) dX3_digestOn_42 ⟨Nat.zero_le _, Nat.zero_le _⟩ (fun H locs hW => ?_)
  have g3 := fbN_le bt 1 10
  refine lv_i2l (v := lN (fbN bt 1 10)) C.x C.b dX3_digestOn_45 (nI_l (by omega)) ?_
  refine lv_ladd C.x C.b dX3_digestOn_46 ?_
  refine lv_lstore_n (lv' := [(3, .long ((((((((d * ((31 : Int64))) + (lN th)) * ((31 : Int64))) + (lN (scN pt ft ti bt th 10))) * ((31 : Int64))) + (lN (fbN bt 2 10))) * ((31 : Int64))) + (lN (fbN bt 1 10)))), (0, .ref h0), (1, .long d)]) C.x C.b dX3_digestOn_47 rfl hl (by decide) rfl (fun ls hl => ?_)
  refine lv_iconst (v := nI 0) C.x C.b dX3_digestOn_48 (by decide) ?_
  refine lv_istore (lv' := [(5, .int (nI 0)), (3, .long ((((((((d * ((31 : Int64))) + (lN th)) * ((31 : Int64))) + (lN (scN pt ft ti bt th 10))) * ((31 : Int64))) + (lN (fbN bt 2 10))) * ((31 : Int64))) + (lN (fbN bt 1 10)))), (0, .ref h0), (1, .long d)]) C.x C.b dX3_digestOn_49 hl (by decide) rfl (fun ls hl => ?_)
  have lp_1 : ∀ (n1 i : Nat), i ≤ 10 → 10 + 1 ≤ i + n1 → ∀ (H : Heap) (locs : List Loc) (ls : Array Slot), WD E (va_A [(h0, .inr (2, [.ref a1, .ref a2, .ref a3, .ref a4, .int (nI th)])), (a1, aI E 30 pt), (a2, aI E 10 ft), (a3, aI E 10 ti), (a4, aI E 10 bt)] s.heap.size) s [(h0, .inr (2, [.ref a1, .ref a2, .ref a3, .ref a4, .int (nI th)])), (a1, aI E 30 pt), (a2, aI E 10 ft), (a3, aI E 10 ti), (a4, aI E 10 bt)] H locs → lv_has ls 6 [(5, .int (nI i)), (3, .long (dgP ((((d * (31 : Int64) + lN th) * (31 : Int64) + lN (scN pt ft ti bt th 10)) * (31 : Int64) + lN (fbN bt 2 10)) * (31 : Int64) + lN (fbN bt 1 10)) (poN pt ft ti bt th) i)), (0, .ref h0), (1, .long d)] → W p l e ({ frames := 3, cells := 0, slots := 0, locals := 67 } : Room) s m ([.ref h0, .long d] : List Value).toArray below meth c H locs 0 0 (QL E [(h0, .inr (2, [.ref a1, .ref a2, .ref a3, .ref a4, .int (nI th)])), (a1, aI E 30 pt), (a2, aI E 10 ft), (a3, aI E 10 ti), (a4, aI E 10 bt)] (dgS d pt ft ti bt th) [(h0, .inr (2, [.ref a1, .ref a2, .ref a3, .ref a4, .int (nI th)])), (a1, aI E 30 pt), (a2, aI E 10 ft), (a3, aI E 10 ti), (a4, aI E 10 bt)] below ([.ref h0, .long d] : List Value).toArray s) (F0 m 51 ls []) := by
    intro n1
    induction n1 with
    | zero => intro i hi hn; exact absurd hn (by omega)
    | succ n1 ih1 =>
      intro i hi hn  H locs ls hW hl
      refine lv_iload C.x C.b dX3_digestOn_51 (lv_at hl 0 rfl) ?_
      refine lv_bipush (v := nI 10) C.x C.b dX3_digestOn_53 (by decide) ?_
      refine x_icmp_ge C (by omega) (by omega) (tgt := 78) dX3_digestOn_55 (by decide) (fun c_2 => ?_) (fun c_2 => ?_)
      · obtain rfl : i = 10 := by omega
        refine lv_lload_n C.x C.b dX3_digestOn_78 rfl (lv_at hl 1 rfl) ?_
        exact x_lret C hW (by first | rfl | (simp [dgP, c_2]; done) | (rw [if_pos (by omega)]; done) | (rw [if_neg (by omega)]; done) | (exfalso; omega) | (simp only [dgP]; (repeat' split) <;> first | rfl | contradiction | (exfalso; omega))) rfl dX3_digestOn_79
      · refine lv_lload_n C.x C.b dX3_digestOn_58 rfl (lv_at hl 1 rfl) ?_
        refine lv_ldc2 (v := (31)) C.x C.b C.ow (C.ts (.constantLong RX3 41 (31)) (by decide +kernel)) dX3_digestOn_59 ?_
        refine lv_lmul C.x C.b dX3_digestOn_62 ?_
        refine lv_aload_n C.x C.b dX3_digestOn_63 rfl (lv_at hl 2 rfl) ?_
        refine lv_iload C.x C.b dX3_digestOn_64 (lv_at hl 0 rfl) ?_
        refine x_cVI C hW (As := [.int (nI i)]) (rest := [.long ((dgP ((((d * (31 : Int64) + lN th) * (31 : Int64) + lN (scN pt ft ti bt th 10)) * (31 : Int64) + lN (fbN bt 2 10)) * (31 : Int64) + lN (fbN bt 1 10)) (poN pt ft ti bt th) i) * ((31 : Int64)))]) (wr := []) (wn := [(h0, .inr (2, [.ref a1, .ref a2, .ref a3, .ref a4, .int (nI th)])), (a1, aI E 30 pt), (a2, aI E 10 ft), (a3, aI E 10 ti), (a4, aI E 10 bt)]) (Cn := RX3) (met_X3_points l E h0 a1 a2 a3 a4 pt ft ti bt th i (by omega) (by omega) hft hti hbt) gX3_digestOn_X3_points rfl 1 rfl ⟨rfl, rfl⟩ ⟨rfl, by decide +kernel, by decide +kernel, by decide +kernel⟩ ⟨Nat.le_of_ble_eq_true rfl, Nat.le_of_ble_eq_true rfl⟩ [0, 1, 2, 3, 4] [] [0, 1, 2, 3, 4] rfl (by decide) rfl (by decide) (by decide) rfl (by decide) 0 2 rfl rfl hl.1 rfl (Nat.le_of_ble_eq_true rfl) dX3_digestOn_66 ⟨Nat.zero_le _, Nat.zero_le _⟩ (fun H locs hW => ?_)
        have g4 := poN_le (ft := ft) (ti := ti) (bt := bt) hpt ht i
        refine lv_i2l (v := lN (poN pt ft ti bt th i)) C.x C.b dX3_digestOn_69 (nI_l (by omega)) ?_
        refine lv_ladd C.x C.b dX3_digestOn_70 ?_
        refine lv_lstore_n (lv' := [(3, .long (((dgP ((((d * (31 : Int64) + lN th) * (31 : Int64) + lN (scN pt ft ti bt th 10)) * (31 : Int64) + lN (fbN bt 2 10)) * (31 : Int64) + lN (fbN bt 1 10)) (poN pt ft ti bt th) i) * ((31 : Int64))) + (lN (poN pt ft ti bt th i)))), (5, .int (nI i)), (0, .ref h0), (1, .long d)]) C.x C.b dX3_digestOn_71 rfl hl (by decide) rfl (fun ls hl => ?_)
        refine lv_iinc (k := 1) (v := nI (i + 1)) (lv' := [(5, .int (nI (i + 1))), (3, .long (((dgP ((((d * (31 : Int64) + lN th) * (31 : Int64) + lN (scN pt ft ti bt th 10)) * (31 : Int64) + lN (fbN bt 2 10)) * (31 : Int64) + lN (fbN bt 1 10)) (poN pt ft ti bt th) i) * ((31 : Int64))) + (lN (poN pt ft ti bt th i)))), (0, .ref h0), (1, .long d)]) C.x C.b dX3_digestOn_72 hl rfl (z_inc i 1) (by decide) rfl (fun ls hl => ?_)
        refine lv_goto (tgt := 51) C.x C.b dX3_digestOn_75 (by decide) ?_
        exact ih1 (i + 1) (by omega) (by omega)  _ _ _ (hW.to rfl) (lv_to (lv_sub (l' := [(5, .int (nI (i + 1))), (3, .long (((dgP ((((d * (31 : Int64) + lN th) * (31 : Int64) + lN (scN pt ft ti bt th 10)) * (31 : Int64) + lN (fbN bt 2 10)) * (31 : Int64) + lN (fbN bt 1 10)) (poN pt ft ti bt th) i) * ((31 : Int64))) + (lN (poN pt ft ti bt th i)))), (0, .ref h0), (1, .long d)]) hl [0, 1, 2, 3] rfl) (by first | rfl | (simp [dgP, c_2]; done) | (rw [if_pos (by omega)]; done) | (rw [if_neg (by omega)]; done) | (exfalso; omega) | (simp only [dgP]; (repeat' split) <;> first | rfl | contradiction | (exfalso; omega))))
  exact lp_1 (10 + 1) 0 (by omega) (by omega)  _ _ _ (hW.to rfl) (lv_to (lv_sub (l' := [(5, .int (nI 0)), (3, .long ((((((((d * ((31 : Int64))) + (lN th)) * ((31 : Int64))) + (lN (scN pt ft ti bt th 10))) * ((31 : Int64))) + (lN (fbN bt 2 10))) * ((31 : Int64))) + (lN (fbN bt 1 10)))), (0, .ref h0), (1, .long d)]) hl [0, 1, 2, 3] rfl) rfl)
end
