section
-- ===== PART A: goes FIRST, ahead of the names: the tables' words, and 'selects' of the private methods out of them =====
/-- a private method of a class that the tables say can be made, by its rows of tables_1 -/
def lw_okq (q : MethodName × Nat) : Prop := (q.1.cls ≠ "java/lang/invoke/MethodHandle" ∧ q.1.cls ≠ "java/lang/invoke/VarHandle") ∧ Cond.instantiable q.1.cls q.2 ∈ tables_1 ∧ Cond.privateMethod q.1 ∈ tables_1 ∧ Cond.instanceMethod q.1 ∈ tables_1
theorem lw_p0 : lw_okq (⟨"java/lang/Throwable", "fillInStackTrace", "(I)Ljava/lang/Throwable;"⟩, 6) := ⟨⟨by decide +kernel, by decide +kernel⟩, List.mem_of_getElem? (i := 194) (by decide +kernel), List.mem_of_getElem? (i := 192) (by decide +kernel), List.mem_of_getElem? (i := 193) (by decide +kernel)⟩
theorem lw_p1 : lw_okq (⟨"FallingPatterns", "stateProperty", "(II)I"⟩, 5) := ⟨⟨by decide +kernel, by decide +kernel⟩, List.mem_of_getElem? (i := 16) (by decide +kernel), List.mem_of_getElem? (i := 240) (by decide +kernel), List.mem_of_getElem? (i := 241) (by decide +kernel)⟩
theorem lw_p2 : lw_okq (⟨"FallingPatterns", "patternsThatBeginWith", "(I)I"⟩, 5) := ⟨⟨by decide +kernel, by decide +kernel⟩, List.mem_of_getElem? (i := 16) (by decide +kernel), List.mem_of_getElem? (i := 253) (by decide +kernel), List.mem_of_getElem? (i := 254) (by decide +kernel)⟩
theorem lw_p3 : lw_okq (⟨"FallingPatterns", "patternIn", "(I)I"⟩, 5) := ⟨⟨by decide +kernel, by decide +kernel⟩, List.mem_of_getElem? (i := 16) (by decide +kernel), List.mem_of_getElem? (i := 257) (by decide +kernel), List.mem_of_getElem? (i := 258) (by decide +kernel)⟩
theorem lw_p4 : lw_okq (⟨"FallingPatterns", "numberTold", "(I)I"⟩, 5) := ⟨⟨by decide +kernel, by decide +kernel⟩, List.mem_of_getElem? (i := 16) (by decide +kernel), List.mem_of_getElem? (i := 275) (by decide +kernel), List.mem_of_getElem? (i := 276) (by decide +kernel)⟩
theorem lw_p5 : lw_okq (⟨"FallingPatterns", "numberOfPatterns", "()I"⟩, 5) := ⟨⟨by decide +kernel, by decide +kernel⟩, List.mem_of_getElem? (i := 16) (by decide +kernel), List.mem_of_getElem? (i := 279) (by decide +kernel), List.mem_of_getElem? (i := 280) (by decide +kernel)⟩
theorem lw_p6 : lw_okq (⟨"FallingPatterns", "currentState", "()I"⟩, 5) := ⟨⟨by decide +kernel, by decide +kernel⟩, List.mem_of_getElem? (i := 16) (by decide +kernel), List.mem_of_getElem? (i := 283) (by decide +kernel), List.mem_of_getElem? (i := 284) (by decide +kernel)⟩
theorem lw_p7 : lw_okq (⟨"FallingPatterns", "sumOfLengths", "()I"⟩, 5) := ⟨⟨by decide +kernel, by decide +kernel⟩, List.mem_of_getElem? (i := 16) (by decide +kernel), List.mem_of_getElem? (i := 297) (by decide +kernel), List.mem_of_getElem? (i := 298) (by decide +kernel)⟩
theorem lw_p8 : lw_okq (⟨"FallingPatterns", "fedNumber", "(II)I"⟩, 5) := ⟨⟨by decide +kernel, by decide +kernel⟩, List.mem_of_getElem? (i := 16) (by decide +kernel), List.mem_of_getElem? (i := 314) (by decide +kernel), List.mem_of_getElem? (i := 315) (by decide +kernel)⟩
theorem lw_p9 : lw_okq (⟨"FallingPatterns$Machine", "goesOn", "(II)Z"⟩, 5) := ⟨⟨by decide +kernel, by decide +kernel⟩, List.mem_of_getElem? (i := 92) (by decide +kernel), List.mem_of_getElem? (i := 322) (by decide +kernel), List.mem_of_getElem? (i := 323) (by decide +kernel)⟩
theorem lw_p10 : lw_okq (⟨"FallingPatterns", "matchesThatCount", "(III)I"⟩, 5) := ⟨⟨by decide +kernel, by decide +kernel⟩, List.mem_of_getElem? (i := 16) (by decide +kernel), List.mem_of_getElem? (i := 329) (by decide +kernel), List.mem_of_getElem? (i := 330) (by decide +kernel)⟩
theorem lw_p11 : lw_okq (⟨"FallingPatterns", "matchesIfRepeated", "(II)I"⟩, 5) := ⟨⟨by decide +kernel, by decide +kernel⟩, List.mem_of_getElem? (i := 16) (by decide +kernel), List.mem_of_getElem? (i := 347) (by decide +kernel), List.mem_of_getElem? (i := 348) (by decide +kernel)⟩
theorem lw_p12 : lw_okq (⟨"FallingPatterns", "draftPatterns", "()I"⟩, 5) := ⟨⟨by decide +kernel, by decide +kernel⟩, List.mem_of_getElem? (i := 16) (by decide +kernel), List.mem_of_getElem? (i := 416) (by decide +kernel), List.mem_of_getElem? (i := 417) (by decide +kernel)⟩
theorem lw_p13 : lw_okq (⟨"FallingPatterns", "draftSlotOf", "(I)I"⟩, 5) := ⟨⟨by decide +kernel, by decide +kernel⟩, List.mem_of_getElem? (i := 16) (by decide +kernel), List.mem_of_getElem? (i := 423) (by decide +kernel), List.mem_of_getElem? (i := 424) (by decide +kernel)⟩
theorem lw_p14 : lw_okq (⟨"FallingPatterns$Saved", "memoryAt", "(I)LFallingPatterns$Memory;"⟩, 3) := ⟨⟨by decide +kernel, by decide +kernel⟩, List.mem_of_getElem? (i := 72) (by decide +kernel), List.mem_of_getElem? (i := 432) (by decide +kernel), List.mem_of_getElem? (i := 433) (by decide +kernel)⟩
theorem lw_p15 : lw_okq (⟨"FallingPatterns$Machine", "takeState", "(I)V"⟩, 5) := ⟨⟨by decide +kernel, by decide +kernel⟩, List.mem_of_getElem? (i := 92) (by decide +kernel), List.mem_of_getElem? (i := 446) (by decide +kernel), List.mem_of_getElem? (i := 447) (by decide +kernel)⟩
def lw_privs_1 : List (MethodName × Nat) := [(⟨"java/lang/Throwable", "fillInStackTrace", "(I)Ljava/lang/Throwable;"⟩, 6), (⟨"FallingPatterns", "stateProperty", "(II)I"⟩, 5), (⟨"FallingPatterns", "patternsThatBeginWith", "(I)I"⟩, 5), (⟨"FallingPatterns", "patternIn", "(I)I"⟩, 5), (⟨"FallingPatterns", "numberTold", "(I)I"⟩, 5), (⟨"FallingPatterns", "numberOfPatterns", "()I"⟩, 5), (⟨"FallingPatterns", "currentState", "()I"⟩, 5), (⟨"FallingPatterns", "sumOfLengths", "()I"⟩, 5), (⟨"FallingPatterns", "fedNumber", "(II)I"⟩, 5), (⟨"FallingPatterns$Machine", "goesOn", "(II)Z"⟩, 5), (⟨"FallingPatterns", "matchesThatCount", "(III)I"⟩, 5), (⟨"FallingPatterns", "matchesIfRepeated", "(II)I"⟩, 5), (⟨"FallingPatterns", "draftPatterns", "()I"⟩, 5), (⟨"FallingPatterns", "draftSlotOf", "(I)I"⟩, 5), (⟨"FallingPatterns$Saved", "memoryAt", "(I)LFallingPatterns$Memory;"⟩, 3), (⟨"FallingPatterns$Machine", "takeState", "(I)V"⟩, 5)]
theorem lw_r1 : ∀ q ∈ lw_privs_1, lw_okq q := List.forall_mem_cons.mpr ⟨lw_p0, List.forall_mem_cons.mpr ⟨lw_p1, List.forall_mem_cons.mpr ⟨lw_p2, List.forall_mem_cons.mpr ⟨lw_p3, List.forall_mem_cons.mpr ⟨lw_p4, List.forall_mem_cons.mpr ⟨lw_p5, List.forall_mem_cons.mpr ⟨lw_p6, List.forall_mem_cons.mpr ⟨lw_p7, List.forall_mem_cons.mpr ⟨lw_p8, List.forall_mem_cons.mpr ⟨lw_p9, List.forall_mem_cons.mpr ⟨lw_p10, List.forall_mem_cons.mpr ⟨lw_p11, List.forall_mem_cons.mpr ⟨lw_p12, List.forall_mem_cons.mpr ⟨lw_p13, List.forall_mem_cons.mpr ⟨lw_p14, List.forall_mem_cons.mpr ⟨lw_p15, fun _ h => absurd h List.not_mem_nil⟩⟩⟩⟩⟩⟩⟩⟩⟩⟩⟩⟩⟩⟩⟩⟩
theorem lw_p16 : lw_okq (⟨"FallingPatterns$Machine", "leadToLongerStates", "()V"⟩, 5) := ⟨⟨by decide +kernel, by decide +kernel⟩, List.mem_of_getElem? (i := 92) (by decide +kernel), List.mem_of_getElem? (i := 453) (by decide +kernel), List.mem_of_getElem? (i := 454) (by decide +kernel)⟩
theorem lw_p17 : lw_okq (⟨"FallingPatterns$Machine", "fallBack", "()V"⟩, 5) := ⟨⟨by decide +kernel, by decide +kernel⟩, List.mem_of_getElem? (i := 92) (by decide +kernel), List.mem_of_getElem? (i := 458) (by decide +kernel), List.mem_of_getElem? (i := 459) (by decide +kernel)⟩
theorem lw_p18 : lw_okq (⟨"FallingPatterns$Machine", "endsOf", "(I[I)I"⟩, 5) := ⟨⟨by decide +kernel, by decide +kernel⟩, List.mem_of_getElem? (i := 92) (by decide +kernel), List.mem_of_getElem? (i := 462) (by decide +kernel), List.mem_of_getElem? (i := 463) (by decide +kernel)⟩
theorem lw_p19 : lw_okq (⟨"FallingPatterns", "patternProperty", "(II)I"⟩, 5) := ⟨⟨by decide +kernel, by decide +kernel⟩, List.mem_of_getElem? (i := 16) (by decide +kernel), List.mem_of_getElem? (i := 478) (by decide +kernel), List.mem_of_getElem? (i := 479) (by decide +kernel)⟩
theorem lw_p20 : lw_okq (⟨"FallingPatterns", "othersInside", "(I)I"⟩, 5) := ⟨⟨by decide +kernel, by decide +kernel⟩, List.mem_of_getElem? (i := 16) (by decide +kernel), List.mem_of_getElem? (i := 482) (by decide +kernel), List.mem_of_getElem? (i := 483) (by decide +kernel)⟩
theorem lw_p21 : lw_okq (⟨"FallingPatterns", "othersAround", "(I)I"⟩, 5) := ⟨⟨by decide +kernel, by decide +kernel⟩, List.mem_of_getElem? (i := 16) (by decide +kernel), List.mem_of_getElem? (i := 496) (by decide +kernel), List.mem_of_getElem? (i := 497) (by decide +kernel)⟩
theorem lw_p22 : lw_okq (⟨"FallingPatterns", "readLetter", "(I)I"⟩, 5) := ⟨⟨by decide +kernel, by decide +kernel⟩, List.mem_of_getElem? (i := 16) (by decide +kernel), List.mem_of_getElem? (i := 528) (by decide +kernel), List.mem_of_getElem? (i := 529) (by decide +kernel)⟩
theorem lw_p23 : lw_okq (⟨"FallingPatterns", "fewestLettersTo", "(I)I"⟩, 5) := ⟨⟨by decide +kernel, by decide +kernel⟩, List.mem_of_getElem? (i := 16) (by decide +kernel), List.mem_of_getElem? (i := 577) (by decide +kernel), List.mem_of_getElem? (i := 578) (by decide +kernel)⟩
def lw_privs_2 : List (MethodName × Nat) := [(⟨"FallingPatterns$Machine", "leadToLongerStates", "()V"⟩, 5), (⟨"FallingPatterns$Machine", "fallBack", "()V"⟩, 5), (⟨"FallingPatterns$Machine", "endsOf", "(I[I)I"⟩, 5), (⟨"FallingPatterns", "patternProperty", "(II)I"⟩, 5), (⟨"FallingPatterns", "othersInside", "(I)I"⟩, 5), (⟨"FallingPatterns", "othersAround", "(I)I"⟩, 5), (⟨"FallingPatterns", "readLetter", "(I)I"⟩, 5), (⟨"FallingPatterns", "fewestLettersTo", "(I)I"⟩, 5)]
theorem lw_r2 : ∀ q ∈ lw_privs_2, lw_okq q := List.forall_mem_cons.mpr ⟨lw_p16, List.forall_mem_cons.mpr ⟨lw_p17, List.forall_mem_cons.mpr ⟨lw_p18, List.forall_mem_cons.mpr ⟨lw_p19, List.forall_mem_cons.mpr ⟨lw_p20, List.forall_mem_cons.mpr ⟨lw_p21, List.forall_mem_cons.mpr ⟨lw_p22, List.forall_mem_cons.mpr ⟨lw_p23, fun _ h => absurd h List.not_mem_nil⟩⟩⟩⟩⟩⟩⟩⟩
def lw_privs : List (MethodName × Nat) := lw_privs_1 ++ (lw_privs_2)
def lw_tbl : List Cond := k2_sels lw_privs ++ tables_1
theorem lw_privs_ok : ∀ q ∈ lw_privs, lw_okq q := by
  show ∀ q ∈ lw_privs_1 ++ (lw_privs_2), lw_okq q
  exact List.forall_mem_append.mpr ⟨lw_r1, lw_r2⟩
end
section
/-! ===== BEGIN words of one list among another's, by their places ===== -/
theorem goodIn_r {big : List Cond} (ws : List Cond) (ps : List Nat) (hp : ws = ps.filterMap (fun i => big[i]?)) (h : ws.all goodWord = true) : GoodIn big ws := by
  intro w hw
  have h1 := List.all_eq_true.mp h w hw
  rw [hp] at hw
  obtain ⟨i, -, hi⟩ := List.mem_filterMap.mp hw
  have hm : w ∈ big := by first | exact List.mem_of_getElem? hi | exact List.getElem?_mem hi
  exact ⟨hm, good_of_word h1⟩
theorem goodIn_app {big a b : List Cond} (ha : GoodIn big a) (hb : GoodIn big b) : GoodIn big (a ++ b) := fun w h => (List.mem_append.mp h).elim (ha w) (hb w)
theorem goodIn_ca {big a b : List Cond} {c : Cond} (ha : GoodIn big (c :: a)) (hb : GoodIn big b) : GoodIn big (c :: (a ++ b)) := fun w h => (List.mem_cons.mp h).elim (fun e => ha w (List.mem_cons.mpr (Or.inl e))) (fun h => (List.mem_append.mp h).elim (fun h => ha w (List.mem_cons.mpr (Or.inr h))) (hb w))
theorem goodIn_sub {big ws : List Cond} (hm : ∀ w ∈ ws, w ∈ big) (h : ws.all goodWord = true) : GoodIn big ws := fun w hw => ⟨hm w hw, good_of_word (List.all_eq_true.mp h w hw)⟩
/-! ===== END ===== -/

/-! ===== BEGIN exceptions that leave a method, and their catching by the caller (launches without stack traces) ===== -/
section VXA
/-! The laws vx_back, vx_callV, vx_callS, vx_callSW, vx_throw0, vx_throwS follow proofs of the library, with one case more: JvmDerived/Free/Laws.lean (Back.of_free), Shelf42/LK1.lean (callV, callS), Shelf/KitTraced.lean (throwNew0V, throwNewS). -/
/-- where a method has thrown q: the class by its name, the cell, what was written, the world -/
def vx_T (XC : String → State → State → Prop) (st : State) (q : Addr) (t : State) (mc ms : Nat) (free : Addr → Prop) : Prop :=
  ∃ (E : String) (ce : Cell) (L : List Loc), XC E st t ∧ t.heap[q]? = some ce ∧ ce.vm = .none ∧ st.vm.findClass E = some ce.cls ∧ st.WarmedH t.vm ∧ st.sameButNew ({ t with vm := st.vm } : State) L mc ms ∧ ∀ z ∈ L, free z.base
def vx_Q (Qc : Array Value → State → Outcome → State → Prop) (XC : String → State → State → Prop) (mc ms : Nat) (free : Addr → Prop) : Array Value → State → Outcome → State → Prop := fun a st o t =>
  (Qc a st o t ∧ ∃ L, FrameEnd st o t L mc ms ∧ ∀ q ∈ L, free q.base) ∨ ∃ q, o = .threw q ∧ vx_T XC st q t mc ms free
/-- a callee that returns or throws -/
def vx_Met (l : Launch) (y : MethodName) (ws : List Cond) (rm : Room) (Pc : Array Value → State → Prop) (Qc : Array Value → State → Outcome → State → Prop) (XC : String → State → State → Prop) (mc ms : Nat) (free : Addr → Prop) : Prop :=
  MetFree l y (headSpec ws rm) Pc (fun _ _ _ _ _ => True) (vx_Q Qc XC mc ms free)
def vx_Post (XC : String → State → State → Prop) (mc ms : Nat) (free : Addr → Prop) : Pt → Array Value → Addr → Pt → Prop := fun A a q B =>
  ∃ (g : JFrame) (mk : MethodId) (t : State) (L : List Loc) (E : String) (ce : Cell), B.U.heap = t.heap ∧ B.U.vm = t.vm ∧ XC E (A.U.calling g mk a) t ∧ t.heap[q]? = some ce ∧ ce.vm = .none ∧ A.U.vm.findClass E = some ce.cls ∧ B.locs = A.locs ++ L ∧ (∀ z ∈ L, free z.base) ∧ B.cells = A.cells + mc ∧ B.slots = A.slots + ms
def vx_Back (l : Launch) (R : Room) (p : Program) (e : Env) (below : List Frame) (s : State) (sargs : Array Value) (y : MethodName) (len W9 : Nat)
    (Pre : Pt → Array Value → Prop) (Post : Pt → Array Value → Option Value → Pt → Prop) (PostX : Pt → Array Value → Addr → Pt → Prop) : Prop :=
  ∀ (m : MethodId) (meth : Method) (c : Code) (A : Pt) (g : JFrame) (ig : Instr) (mk : MethodId) (a : Array Value),
    Stand p l e R s m sargs below meth c A.U A.locs A.cells A.slots → g.method = m → g.locals.size = c.maxLocals → decode c.code g.pc = .ok (ig, len) →
    2 * g.monitorRoom + (g.stack.map fun v => v.category).sum ≤ W9 → A.U.methodNamed? y = some mk → Pre A a →
    (∃ (v : Option Value) (B : Pt), Stand p l e R s m sargs below meth c B.U B.locs B.cells B.slots ∧ Post A a v B ∧
      Steps p.tables e below (doInvoke e (A.U.setTop g) [] mk a).1 (B.U.setTop { g with pc := g.pc + len, stack := v.toList ++ g.stack })) ∨
    (∃ (q : Addr) (B : Pt), Stand p l e R s m sargs below meth c B.U B.locs B.cells B.slots ∧ PostX A a q B ∧
      Steps p.tables e below (doInvoke e (A.U.setTop g) [] mk a).1 ((B.U.setTop g).pushFrame (.throwing q)))
section Payer
variable {l : Launch} {R : Room} {p : Program} {e : Env} {below : List Frame} {s : State} {sargs : Array Value} {y : MethodName} {len W9 : Nat}
theorem vx_back {ws : List Cond} {rm : Room} {Pc : Array Value → State → Prop} {Qc : Array Value → State → Outcome → State → Prop} {XC : String → State → State → Prop} {mc ms : Nat} {free : Addr → Prop} {bytes : ByteArray} {maxL : Nat} {ret : Option FieldType}
    (hM : vx_Met l y ws rm Pc Qc XC mc ms free) (hblind : FrameBlind Pc) (hrc : rm.cells = mc) (hrs : rm.slots = ms)
    (hframes : rm.frames + 1 ≤ R.frames) (hlocals : W9 + (maxL + 11) + rm.locals ≤ R.locals)
    (hws : ∀ w ∈ ws, ∀ a' U, s.WarmedH U.vm → w.before a' U = true) (hcode : Cond.code y bytes maxL ret ∈ ws) (hinit : ∀ a' U, s.WarmedH U.vm → (Cond.initialized y.cls).before a' U = true) :
    vx_Back l R p e below s sargs y len W9 (PreOf R mc ms Pc) (PostOf Qc mc ms free) (vx_Post XC mc ms free) := by
  intro m meth c A g ig mk a X hg hsize hdg hW hn hp
  have h1 : (headSpec ws rm).pre.before a A.U = true := atoms_intro fun w hw => hws w hw _ _ X.warmed
  have h2 : (Cond.code y bytes maxL ret).before a A.U = true := hws _ hcode _ _ X.warmed
  have h3 : (Cond.initialized y.cls).before a A.U = true := hinit _ _ X.warmed
  have h4 : A.cells + (headSpec ws rm).room.cells ≤ R.cells := by rw [show (headSpec ws rm).room.cells = mc from hrc]; exact hp.1
  have h5 : A.slots + (headSpec ws rm).room.slots ≤ R.slots := by rw [show (headSpec ws rm).room.slots = ms from hrs]; exact hp.2.1
  have hPc : Pc a (A.U.calling g mk a) := hblind _ _ _ _ hp.2.2
  obtain ⟨U, Ls, c0, s0⟩ := A
  dsimp only [Pt.U, Pt.locs, Pt.cells, Pt.slots] at h1 h2 h3 h4 h5 X hn hPc ⊢
  obtain ⟨methY, cY, hmY, hcY, -, hlY, -, -, -, -⟩ := Cond.code_spec hn h2
  obtain ⟨kY, hkY, -⟩ := className_of_methodNamed hn
  have hinitY : kY.init = .initialized := Cond.initialized_spec (findClass_of_methodNamed hn) hkY h3
  have h : At U g.method c below := by rw [hg]; exact X.here
  have hlocals9 : W9 + (maxL + 11) + (headSpec ws rm).room.locals ≤ R.locals := hlocals
  have happ : (headSpec ws rm).appliesLoose y e.platform (U.calling g mk a) = true :=
    Spec.appliesLoose_calling (g := g) h hdg hn hkY hinitY
      (X.room_calling (g := g) (R' := (headSpec ws rm).room) hsize hmY hcY hframes (by rw [hlY]; omega) h4 h5) h1
  obtain ⟨mid, hmid⟩ := h.above
  have hfr : (U.setTop g).frames = (.java g :: mid) ++ below := by rw [State.frames_setTop' g h.top, hmid]; rfl
  obtain ⟨o, s₂, hsteps, -, hend, hq⟩ := Steps.callFree hM p X.admits X.cas X.clock (acts := []) hfr happ hPc trivial
  have hq' : vx_Q Qc XC mc ms free a (U.calling g mk a) o s₂ := hq
  rw [State.frames_setTop' g h.top] at hend
  obtain ⟨g₀, hg0⟩ := Option.isSome_iff_exists.mp h.top
  obtain ⟨r, hr⟩ := State.topJava?_eq_some.mp hg0
  have hr' : (({ U with heap := s₂.heap, slotsUsed := s₂.slotsUsed } : State).setVm s₂.vm).frames = .java g₀ :: r := hr
  rcases hq' with ⟨hqc, L, hfe, hL⟩ | ⟨q, rfl, E, ce, L, hx, hce, hcv, hcl, hW₂, hsm, hL⟩
  · obtain ⟨⟨v, rfl⟩, hW₂, e2, q2, q3, q4, q5, q6⟩ := id hfe
    have e3 : s₂ = ({ (U.calling g mk a).setFrames s₂.frames with heap := s₂.heap, slotsUsed := s₂.slotsUsed } : State).setVm s₂.vm := by
      have : s₂ = ({ s₂ with vm := (U.calling g mk a).vm } : State).setVm s₂.vm := rfl
      rw [e2] at this
      exact this
    obtain ⟨c₂, i₂, len₂, hc₂, hd₂, hf₂⟩ := hend
    have hW' : U.WarmedH s₂.vm := hW₂
    have hcc : c₂ = c := by
      have h1 : s₂.code? g.method = U.code? g.method := by
        rw [State.code?_eq, State.code?_eq, hW'.alike.method?]
      exact Option.some.inj (hc₂.symm.trans (h1.trans h.code))
    subst hcc
    have hlen : len₂ = len := by rw [hdg] at hd₂; cases hd₂; rfl
    subst hlen
    have hs₂ : s₂ = (({ U with heap := s₂.heap, slotsUsed := s₂.slotsUsed } : State).setVm s₂.vm).setTop { g with pc := g.pc + len₂, stack := v.toList ++ g.stack } := by
      refine e3.trans ?_
      rw [hf₂, State.calling_eq h.top, State.setFrames_setFrames, State.setTop_of_frames _ hr', hr]
      rfl
    have hsame : U.sameButNew ({ U with heap := s₂.heap, slotsUsed := s₂.slotsUsed } : State) L mc ms := by
      refine ⟨?_, q2, q3, q4, q5, q6⟩
      obtain ⟨t, ht, -⟩ := State.frames_cons hr
      show ({ U with heap := s₂.heap, slotsUsed := s₂.slotsUsed } : State) = { U.setFrames U.frames with heap := s₂.heap, slotsUsed := s₂.slotsUsed }
      rw [State.setFrames_self ht]
    subst hg
    refine Or.inl ⟨v, ⟨(({ U with heap := s₂.heap, slotsUsed := s₂.slotsUsed } : State).setVm s₂.vm), Ls ++ L, c0 + mc, s0 + ms⟩,
      ⟨X.admits, X.cas, X.clock, X.frames, X.room, X.hears, X.method, X.code, (X.here.setHeapUsed s₂.heap s₂.slotsUsed).setVm hW'.alike, X.tail, State.WarmedH.trans X.warmed hW', X.limits, X.bytes, X.same.trans (hsame.setVm s.vm)⟩,
      ⟨g, mk, s₂, L, rfl, rfl, hqc, rfl, hL, rfl, rfl⟩, ?_⟩
    show Steps p.tables e below _ ((({ U with heap := s₂.heap, slotsUsed := s₂.slotsUsed } : State).setVm s₂.vm).setTop { g with pc := g.pc + len₂, stack := v.toList ++ g.stack })
    rw [← hs₂]
    exact hsteps
  · obtain ⟨e2, q2, q3, q4, q5, q6⟩ := id hsm
    have e3 : s₂ = ({ (U.calling g mk a).setFrames s₂.frames with heap := s₂.heap, slotsUsed := s₂.slotsUsed } : State).setVm s₂.vm := by
      have : s₂ = ({ s₂ with vm := (U.calling g mk a).vm } : State).setVm s₂.vm := rfl
      rw [e2] at this
      exact this
    have hf₂ : s₂.frames = .throwing q :: .java g :: U.frames.tail := hend
    have hW' : U.WarmedH s₂.vm := hW₂
    have hs₂ : s₂ = ((({ U with heap := s₂.heap, slotsUsed := s₂.slotsUsed } : State).setVm s₂.vm).setTop g).pushFrame (.throwing q) := by
      refine e3.trans ?_
      rw [hf₂, State.calling_eq h.top, State.setFrames_setFrames, State.pushFrame, State.frames_setTop _ hr', State.setTop_of_frames _ hr', State.setFrames_setFrames, hr]
      rfl
    have hsame : U.sameButNew ({ U with heap := s₂.heap, slotsUsed := s₂.slotsUsed } : State) L mc ms := by
      refine ⟨?_, q2, q3, q4, q5, q6⟩
      obtain ⟨t, ht, -⟩ := State.frames_cons hr
      show ({ U with heap := s₂.heap, slotsUsed := s₂.slotsUsed } : State) = { U.setFrames U.frames with heap := s₂.heap, slotsUsed := s₂.slotsUsed }
      rw [State.setFrames_self ht]
    subst hg
    refine Or.inr ⟨q, ⟨(({ U with heap := s₂.heap, slotsUsed := s₂.slotsUsed } : State).setVm s₂.vm), Ls ++ L, c0 + mc, s0 + ms⟩,
      ⟨X.admits, X.cas, X.clock, X.frames, X.room, X.hears, X.method, X.code, (X.here.setHeapUsed s₂.heap s₂.slotsUsed).setVm hW'.alike, X.tail, State.WarmedH.trans X.warmed hW', X.limits, X.bytes, X.same.trans (hsame.setVm s.vm)⟩,
      ⟨g, mk, s₂, L, E, ce, rfl, rfl, hx, hce, hcv, hcl, rfl, hL, rfl, rfl⟩, ?_⟩
    show Steps p.tables e below _ (((({ U with heap := s₂.heap, slotsUsed := s₂.slotsUsed } : State).setVm s₂.vm).setTop g).pushFrame (.throwing q))
    rw [← hs₂]
    exact hsteps
end Payer
section Calls
variable {p : Program} {l : Launch} {e : Env} {R : Room} {s : State} {m : MethodId} {args : Array Value} {below : List Frame} {meth : Method} {c : Code} {T : State} {locs : List Loc} {cells slots : Nat}
theorem vx_callV (X : Stand p l e R s m args below meth c T locs cells slots) (hexec : p.tables.exec = Jvm.exec) {own C : String} {index : Nat} {y : MethodName} {bytes : ByteArray} {maxL : Nat} {ret : Option FieldType}
    (hown : s.vm.findClass own = some m.cls) (hlink : (Cond.methodLink own index y).before args s = true) (hinst : (Cond.instanceMethod y).before args s = true) (hsel : (Cond.selects C y y).before args s = true)
    (hcode : (Cond.code y bytes maxL ret).before args s = true) (hy : y.cls ≠ "java/lang/invoke/MethodHandle" ∧ y.cls ≠ "java/lang/invoke/VarHandle")
    {W9 : Nat} {Pre : Pt → Array Value → Prop} {Post : Pt → Array Value → Option Value → Pt → Prop} {PostX : Pt → Array Value → Addr → Pt → Prop} (hK : vx_Back l R p e below s args y 3 W9 Pre Post PostX)
    {b : Addr} {cellB : Cell} (hcell : T.heap[b]? = some cellB) (hobj : cellB.vm.isStatics = false) (hcls : s.vm.findClass C = some cellB.cls)
    {g : JFrame} (hg : g.method = m) (hsize : g.locals.size = c.maxLocals) {argsL rest : List Value} (hlen : ∀ sig, parseMethodDescriptor y.desc = some sig → argsL.length = sig.parameters.length)
    (hstack : g.stack = argsL.reverse ++ .ref b :: rest) (hW : 2 * g.monitorRoom + (rest.map fun v => v.category).sum ≤ W9) (hdg : decode c.code g.pc = .ok (.invokevirtual index, 3))
    (hpre : ∀ vm₁, s.WarmedH vm₁ → Pre ⟨T.setVm vm₁, locs, cells, slots⟩ (Value.ref b :: argsL).toArray) :
    (∃ (v : Option Value) (vm₁ : Vm) (B : Pt), s.WarmedH vm₁ ∧ Stand p l e R s m args below meth c B.U B.locs B.cells B.slots ∧ Post ⟨T.setVm vm₁, locs, cells, slots⟩ (Value.ref b :: argsL).toArray v B ∧
      ∀ target, Steps p.tables e below (B.U.setTop { g with pc := g.pc + 3, stack := v.toList ++ rest }) target → Steps p.tables e below (T.setTop g) target) ∨
    (∃ (q : Addr) (vm₁ : Vm) (B : Pt), s.WarmedH vm₁ ∧ Stand p l e R s m args below meth c B.U B.locs B.cells B.slots ∧ PostX ⟨T.setVm vm₁, locs, cells, slots⟩ (Value.ref b :: argsL).toArray q B ∧
      Steps p.tables e below (T.setTop g) ((B.U.setTop { g with stack := rest }).pushFrame (.throwing q))) := by
  obtain ⟨mk, methM, hnamed, hmethM, hstM, habM⟩ := Cond.instanceMethod_spec hinst
  obtain ⟨methM', cM, hmethM', -, -, -, -, -, -, hsigM⟩ := Cond.code_spec hnamed hcode
  cases hmethM.symm.trans hmethM'
  obtain ⟨c2, r2, m2, q1, q2, q3, q4, kP, hkP, hkPi⟩ := Cond.selects_spec hsel
  cases hcls.symm.trans q1
  cases (State.methodFound?_of_named hnamed hy).symm.trans q2
  cases hnamed.symm.trans q3
  have hselP : selectMethod e.platform s.vm cellB.cls mk = .method mk := by rw [Launch.admits_selectMethod X.admits]; exact q4
  obtain ⟨vm₁, X₁, hstep₁⟩ := X.invokevirtual hexec hown hlink hnamed hmethM hstM hkP hkPi hy (a := b) (cell := cellB) hcell
    (fun z h => by rw [h] at hobj; cases hobj) hselP hmethM habM hkP hkPi (g := g) hg (argsL := argsL) (rest := rest) (hlen _ hsigM) hstack hdg
  rcases hK m meth c ⟨T.setVm vm₁, locs, cells, slots⟩ { g with stack := rest } (.invokevirtual index) mk (Value.ref b :: argsL).toArray X₁ hg hsize hdg hW (X₁.named hnamed) (hpre vm₁ X₁.warmed) with ⟨v, B, X', hpost, hsteps⟩ | ⟨q, B, X', hpost, hsteps⟩
  · exact Or.inl ⟨v, vm₁, B, X₁.warmed, X', hpost, fun target h => hstep₁ _ fun acts => by rw [doInvoke_state]; exact hsteps.trans h⟩
  · exact Or.inr ⟨q, vm₁, B, X₁.warmed, X', hpost, hstep₁ _ fun acts => by rw [doInvoke_state]; exact hsteps⟩
theorem vx_callS (X : Stand p l e R s m args below meth c T locs cells slots) (hexec : p.tables.exec = Jvm.exec) {own : String} {index : Nat} {y : MethodName} {bytes : ByteArray} {maxL : Nat} {ret : Option FieldType}
    (hown : s.vm.findClass own = some m.cls) (hlink : (Cond.methodLink own index y).before args s = true) (hstat : (Cond.static y).before args s = true) (hinit : (Cond.initialized y.cls).before args s = true)
    (hcode : (Cond.code y bytes maxL ret).before args s = true) (hy : y.cls ≠ "java/lang/invoke/MethodHandle" ∧ y.cls ≠ "java/lang/invoke/VarHandle")
    {W9 : Nat} {Pre : Pt → Array Value → Prop} {Post : Pt → Array Value → Option Value → Pt → Prop} {PostX : Pt → Array Value → Addr → Pt → Prop} (hK : vx_Back l R p e below s args y 3 W9 Pre Post PostX)
    {g : JFrame} (hg : g.method = m) (hsize : g.locals.size = c.maxLocals) {argsL rest : List Value} (hlen : ∀ sig, parseMethodDescriptor y.desc = some sig → argsL.length = sig.parameters.length)
    (hstack : g.stack = argsL.reverse ++ rest) (hW : 2 * g.monitorRoom + (rest.map fun v => v.category).sum ≤ W9) (hdg : decode c.code g.pc = .ok (.invokestatic index, 3))
    (hpre : ∀ vm₁, s.WarmedH vm₁ → Pre ⟨T.setVm vm₁, locs, cells, slots⟩ argsL.toArray) :
    (∃ (v : Option Value) (vm₁ : Vm) (B : Pt), s.WarmedH vm₁ ∧ Stand p l e R s m args below meth c B.U B.locs B.cells B.slots ∧ Post ⟨T.setVm vm₁, locs, cells, slots⟩ argsL.toArray v B ∧
      ∀ target, Steps p.tables e below (B.U.setTop { g with pc := g.pc + 3, stack := v.toList ++ rest }) target → Steps p.tables e below (T.setTop g) target) ∨
    (∃ (q : Addr) (vm₁ : Vm) (B : Pt), s.WarmedH vm₁ ∧ Stand p l e R s m args below meth c B.U B.locs B.cells B.slots ∧ PostX ⟨T.setVm vm₁, locs, cells, slots⟩ argsL.toArray q B ∧
      Steps p.tables e below (T.setTop g) ((B.U.setTop { g with stack := rest }).pushFrame (.throwing q))) := by
  obtain ⟨mk, hnamed⟩ := Cond.code_named hcode
  obtain ⟨methM, cM, hmethM, -, -, -, -, -, -, hsigM⟩ := Cond.code_spec hnamed hcode
  have hstatic : methM.isStatic = true := Cond.static_spec hnamed hmethM hstat
  obtain ⟨kP, hkP, -⟩ := className_of_methodNamed hnamed
  have hinitP : kP.init = .initialized := Cond.initialized_spec (findClass_of_methodNamed hnamed) hkP hinit
  obtain ⟨vm₁, X₁, hstep₁⟩ := X.invokestatic hexec hown hlink hnamed hmethM hstatic hkP hinitP hy (g := g) hg (argsL := argsL) (rest := rest) (hlen _ hsigM) hstack hdg
  rcases hK m meth c ⟨T.setVm vm₁, locs, cells, slots⟩ { g with stack := rest } (.invokestatic index) mk argsL.toArray X₁ hg hsize hdg hW (X₁.named hnamed) (hpre vm₁ X₁.warmed) with ⟨v, B, X', hpost, hsteps⟩ | ⟨q, B, X', hpost, hsteps⟩
  · exact Or.inl ⟨v, vm₁, B, X₁.warmed, X', hpost, fun target h => hstep₁ _ fun acts => by rw [doInvoke_state]; exact hsteps.trans h⟩
  · exact Or.inr ⟨q, vm₁, B, X₁.warmed, X', hpost, hstep₁ _ fun acts => by rw [doInvoke_state]; exact hsteps⟩
end Calls
theorem vx_cls {s : State} {T : State} {vm₁ : Vm} {E : String} {k : ClassId} (hW : s.WarmedH vm₁) (h : (T.setVm vm₁).vm.findClass E = some k) : s.vm.findClass E = some k := by
  have h1 : vm₁.findClass E = some k := h
  rw [hW.alike.findClass] at h1
  exact h1
/-- the method's frame g, with q thrown over it -/
def vx_W (p : Program) (l : Launch) (e : Env) (R : Room) (s : State) (m : MethodId) (args : Array Value) (below : List Frame) (meth : Method) (c : Code) (H : Heap) (locs : List Loc) (cells slots : Nat) (Q : State → Prop) (g : JFrame) (q : Addr) : Prop :=
  ∀ T : State, T.heap = H → Stand p l e R s m args below meth c T locs cells slots → ∃ t, Steps p.tables e below ((T.setTop g).pushFrame (.throwing q)) t ∧ Q t
def vx_Run (p : Program) (l : Launch) (e : Env) (R : Room) (s : State) (m : MethodId) (args : Array Value) (below : List Frame) (meth : Method) (c : Code) (H : Heap) (locs : List Loc) (cells slots mc ms : Nat) (g : JFrame) (rest : List Value) (Qa : State → Outcome → State → Prop) (XC : String → State → State → Prop) (free : Addr → Prop) : Prop :=
  ∀ T : State, T.heap = H → Stand p l e R s m args below meth c T locs cells slots →
    (∃ (v : Option Value) (st₀ t T' : State) (L : List Loc), st₀.heap = H ∧ Stand p l e R s m args below meth c T' (locs ++ L) (cells + mc) (slots + ms) ∧ (∀ q ∈ L, free q.base) ∧ T'.heap = t.heap ∧ T'.vm = t.vm ∧ Qa st₀ (.returned v) t ∧
      Goes p e below T g T' { g with pc := g.pc + 3, stack := v.toList ++ rest }) ∨
    (∃ (q : Addr) (st₀ t T' : State) (L : List Loc) (E : String) (ce : Cell), st₀.heap = H ∧ Stand p l e R s m args below meth c T' (locs ++ L) (cells + mc) (slots + ms) ∧ (∀ z ∈ L, free z.base) ∧ T'.heap = t.heap ∧ T'.vm = t.vm ∧ XC E st₀ t ∧ t.heap[q]? = some ce ∧ ce.vm = .none ∧ s.vm.findClass E = some ce.cls ∧
      Steps p.tables e below (T.setTop g) ((T'.setTop { g with stack := rest }).pushFrame (.throwing q)))
def vx_X {S : Type} (px : S → Prop) (B : String → S → State → Prop) (A : Nat → Prop) : String → State → State → Prop := fun E st t => ∃ u : S, px u ∧ B E u t ∧ va_F A st t
section Runs
variable {p : Program} {l : Launch} {e : Env} {R : Room} {s : State} {m : MethodId} {args : Array Value} {below : List Frame} {meth : Method} {c : Code} {H : Heap} {locs : List Loc} {cells slots : Nat}
variable {y : MethodName} {bytes cc : ByteArray} {maxL nL mc ms n index : Nat} {ret : Option FieldType} {ws : List Cond} {rm : Room} {Pc : Array Value → State → Prop} {Qc : Array Value → State → Outcome → State → Prop} {XC : String → State → State → Prop} {free : Addr → Prop} {Ts : List Cond} {own C : String} {b : Addr} {As rest : List Value} {g : JFrame}
theorem vx_callBack (cb : CallB R s args own index y bytes maxL ret ws rm mc ms n) (hM : vx_Met l y ws rm Pc Qc XC mc ms free) (hbl : FrameBlind Pc) : vx_Back l R p e below s args y 3 8 (PreOf R mc ms Pc) (PostOf Qc mc ms free) (vx_Post XC mc ms free) := by
  obtain ⟨hrc, hrs, hfr, hlo, hws, hcw, -, hini, -⟩ := cb
  exact vx_back (bytes := bytes) (maxL := maxL) (ret := ret) hM hbl hrc hrs hfr hlo hws hcw (fun a' U hW => word_at hW (Or.inl (by first | rfl | simp [Cond.onTables, Cond.keeps, Cond.steady])) hini)
theorem vx_runV (S : CallFix p m c cc nL s args Ts own) (hM : vx_Met l y ws rm Pc Qc XC mc ms free) (cw : CallW R s args own C index y bytes maxL ret ws rm mc ms n) (hp : PreV s H C b Pc As)
    (hg : g.method = m) (hn : As.length = n) (hsize : g.locals.size = nL) (hstack : g.stack = As.reverse ++ .ref b :: rest) (hW : 2 * g.monitorRoom + (rest.map fun v => v.category).sum ≤ 8) (hdg : decode cc g.pc = .ok (.invokevirtual index, 3)) (hf : cells + mc ≤ R.cells ∧ slots + ms ≤ R.slots) :
    vx_Run p l e R s m args below meth c H locs cells slots mc ms g rest (Qc (Value.ref b :: As).toArray) XC free := by
  have hK : vx_Back l R p e below s args y 3 8 (PreOf R mc ms Pc) (PostOf Qc mc ms free) (vx_Post XC mc ms free) := vx_callBack cw.1 hM hp.1
  obtain ⟨⟨-, -, -, -, -, -, hcode, -, hy, hlen, hl⟩, hin, hse⟩ := cw
  obtain ⟨hx, hb, hml, ho, -⟩ := S
  obtain ⟨-, ⟨cellB, hcB, hoB, hclB⟩, hPc⟩ := hp
  intro T hT X
  rcases vx_callV X hx (C := C) (bytes := bytes) (maxL := maxL) (ret := ret) ho hl hin hse hcode hy hK (by rw [hT]; exact hcB) hoB hclB hg (hsize.trans hml.symm) (argsL := As) (rest := rest) (fun sig h => hn.trans (hlen sig h)) hstack hW (by rw [hb]; exact hdg)
    (fun vm₁ hW₁ => ⟨hf.1, hf.2, hPc (T.setVm vm₁) hT hW₁⟩) with ⟨v, vm₁, ⟨U', l2, c2, s2⟩, hW₁, X', ⟨g', mk, t, L, e1, e2, hq, h1, hL, h2, h3⟩, st⟩ | ⟨q, vm₁, ⟨U', l2, c2, s2⟩, hW₁, X', ⟨g', mk, t, L, E, ce, e1, e2, hq, hce, hcv, hcl, h1, hL, h2, h3⟩, st⟩
  · dsimp only [Pt.U, Pt.locs, Pt.cells, Pt.slots] at X' e1 e2 h1 h2 h3 st
    subst h1; subst h2; subst h3
    exact Or.inl ⟨v, (T.setVm vm₁).calling g' mk (Value.ref b :: As).toArray, t, U', L, hT, X', hL, e1, e2, hq, st⟩
  · dsimp only [Pt.U, Pt.locs, Pt.cells, Pt.slots] at X' e1 e2 h1 h2 h3 st hcl
    subst h1; subst h2; subst h3
    exact Or.inr ⟨q, (T.setVm vm₁).calling g' mk (Value.ref b :: As).toArray, t, U', L, E, ce, hT, X', hL, e1, e2, hq, hce, hcv, vx_cls hW₁ hcl, st⟩
theorem vx_runS (S : CallFix p m c cc nL s args Ts own) (hM : vx_Met l y ws rm Pc Qc XC mc ms free) (cw : CallB R s args own index y bytes maxL ret ws rm mc ms n ∧ (Cond.static y).before args s = true) (hp : PreS s H Pc As)
    (hg : g.method = m) (hn : As.length = n) (hsize : g.locals.size = nL) (hstack : g.stack = As.reverse ++ rest) (hW : 2 * g.monitorRoom + (rest.map fun v => v.category).sum ≤ 8) (hdg : decode cc g.pc = .ok (.invokestatic index, 3)) (hf : cells + mc ≤ R.cells ∧ slots + ms ≤ R.slots) :
    vx_Run p l e R s m args below meth c H locs cells slots mc ms g rest (Qc As.toArray) XC free := by
  have hK : vx_Back l R p e below s args y 3 8 (PreOf R mc ms Pc) (PostOf Qc mc ms free) (vx_Post XC mc ms free) := vx_callBack cw.1 hM hp.1
  obtain ⟨⟨-, -, -, -, -, -, hcode, hini, hy, hlen, hl⟩, hstt⟩ := cw
  obtain ⟨hx, hb, hml, ho, -⟩ := S
  intro T hT X
  rcases vx_callS X hx (bytes := bytes) (maxL := maxL) (ret := ret) ho hl hstt hini hcode hy hK hg (hsize.trans hml.symm) (argsL := As) (rest := rest) (fun sig h => hn.trans (hlen sig h)) hstack hW (by rw [hb]; exact hdg)
    (fun vm₁ hW₁ => ⟨hf.1, hf.2, hp.2 (T.setVm vm₁) hT hW₁⟩) with ⟨v, vm₁, ⟨U', l2, c2, s2⟩, hW₁, X', ⟨g', mk, t, L, e1, e2, hq, h1, hL, h2, h3⟩, st⟩ | ⟨q, vm₁, ⟨U', l2, c2, s2⟩, hW₁, X', ⟨g', mk, t, L, E, ce, e1, e2, hq, hce, hcv, hcl, h1, hL, h2, h3⟩, st⟩
  · dsimp only [Pt.U, Pt.locs, Pt.cells, Pt.slots] at X' e1 e2 h1 h2 h3 st
    subst h1; subst h2; subst h3
    exact Or.inl ⟨v, (T.setVm vm₁).calling g' mk As.toArray, t, U', L, hT, X', hL, e1, e2, hq, st⟩
  · dsimp only [Pt.U, Pt.locs, Pt.cells, Pt.slots] at X' e1 e2 h1 h2 h3 st hcl
    subst h1; subst h2; subst h3
    exact Or.inr ⟨q, (T.setVm vm₁).calling g' mk As.toArray, t, U', L, E, ce, hT, X', hL, e1, e2, hq, hce, hcv, vx_cls hW₁ hcl, st⟩
end Runs
section Rows
variable {p : Program} {l : Launch} {e : Env} {R : Room} {s : State} {m : MethodId} {args : Array Value} {below : List Frame} {meth : Method} {c : Code} {H : Heap} {locs : List Loc} {cells slots : Nat} {Q : State → Prop}
variable {mc ms : Nat} {free : Addr → Prop} {A0 A1 : Nat → Prop} {H0 : Heap} {a : Array Value} {pc : Nat} {ls : Array Slot} {st0 rest : List Value}
theorem vx_keep {st₀ t T' : State} {L : List Loc} (h0 : st₀.heap = H) (e1 : T'.heap = t.heap) (hS : va_S A0 H0 H locs) (hA : ∀ q, q < H.size → A1 q → A0 q) (hf : ∀ q, free q → A0 q) (hL : ∀ q ∈ L, free q.base) (hF : va_F A1 st₀ t) :
    H.size ≤ T'.heap.size ∧ (∀ q : Nat, q < H.size → ¬ A1 q → T'.heap[q]? = H[q]?) ∧ va_S A0 H0 T'.heap (locs ++ L) := by
  obtain ⟨hz, hk⟩ := hF
  rw [h0] at hz hk
  exact ⟨by rw [e1]; exact hz, fun q h1 h2 => by rw [e1]; exact hk q h1 h2,
    ⟨Nat.le_trans hS.1 (by rw [e1]; exact hz), fun q h1 h2 => by rw [e1, hk q (Nat.lt_of_lt_of_le h1 hS.1) (fun z => h2 (hA q (Nat.lt_of_lt_of_le h1 hS.1) z))]; exact hS.2.1 q h1 h2, fun q hq => by
      rcases List.mem_append.mp hq with h | h
      · exact hS.2.2 q h
      · exact hf _ (hL q h)⟩⟩
theorem vx_calli {S SX : Type} {post : Int32 → S → Prop} {px : SX → Prop} {B : S → State → Prop} {BX : String → SX → State → Prop} {AX : Nat → Prop} (hr : vx_Run p l e R s m args below meth c H locs cells slots mc ms (F0 m pc ls st0) rest (va_Qi post B A1 a) (vx_X px BX AX) free) (hS : va_S A0 H0 H locs) (hA : ∀ q, q < H.size → A1 q → A0 q) (hf : ∀ q, free q → A0 q) (hAX : ∀ q, q < H.size → AX q → A0 q)
    (kx : ∀ (E : String) (ce : Cell) (q9 : Addr) (u : SX) (t : State) (H1 : Heap) (locs1 : List Loc), t.heap = H1 → s.vm.Alike t.vm → px u → BX E u t → H.size ≤ H1.size → (∀ q : Nat, q < H.size → ¬ AX q → H1[q]? = H[q]?) → va_S A0 H0 H1 locs1 → H1[q9]? = some ce → ce.vm = .none → s.vm.findClass E = some ce.cls → vx_W p l e R s m args below meth c H1 locs1 (cells + mc) (slots + ms) Q (F0 m pc ls rest) q9)
    (kk : ∀ (r : Int32) (u : S) (t : State) (H1 : Heap) (locs1 : List Loc), t.heap = H1 → s.vm.Alike t.vm → post r u → B u t → H.size ≤ H1.size → (∀ q : Nat, q < H.size → ¬ A1 q → H1[q]? = H[q]?) → va_S A0 H0 H1 locs1 → W p l e R s m args below meth c H1 locs1 (cells + mc) (slots + ms) Q (F0 m (pc + 3) ls (.int r :: rest))) : W p l e R s m args below meth c H locs cells slots Q (F0 m pc ls st0) := by
  intro T hT X
  rcases hr T hT X with ⟨v, st₀, t, T', L, h0, X', hL, e1, e2, ⟨⟨r, u, hv, hp, hb⟩, hF⟩, st⟩ | ⟨q, st₀, t, T', L, E, ce, h0, X', hL, e1, e2, ⟨u, hp, hb, hF⟩, hce, hcv, hcl, st⟩
  · cases hv
    obtain ⟨k1, k2, k3⟩ := vx_keep h0 e1 hS hA hf hL hF
    obtain ⟨t2, a1, b1⟩ := kk r u t T'.heap (locs ++ L) e1.symm (by rw [← e2]; exact X'.warmed.alike) hp hb k1 k2 k3 T' rfl X'
    exact ⟨t2, st t2 a1, b1⟩
  · obtain ⟨k1, k2, k3⟩ := vx_keep h0 e1 hS hAX hf hL hF
    obtain ⟨t2, a1, b1⟩ := kx E ce q u t T'.heap (locs ++ L) e1.symm (by rw [← e2]; exact X'.warmed.alike) hp hb k1 k2 k3 (by rw [e1]; exact hce) hcv hcl T' rfl X'
    exact ⟨t2, st.trans a1, b1⟩
theorem vx_calll {S SX : Type} {post : Int64 → S → Prop} {px : SX → Prop} {B : S → State → Prop} {BX : String → SX → State → Prop} {AX : Nat → Prop} (hr : vx_Run p l e R s m args below meth c H locs cells slots mc ms (F0 m pc ls st0) rest (va_Ql post B A1 a) (vx_X px BX AX) free) (hS : va_S A0 H0 H locs) (hA : ∀ q, q < H.size → A1 q → A0 q) (hf : ∀ q, free q → A0 q) (hAX : ∀ q, q < H.size → AX q → A0 q)
    (kx : ∀ (E : String) (ce : Cell) (q9 : Addr) (u : SX) (t : State) (H1 : Heap) (locs1 : List Loc), t.heap = H1 → s.vm.Alike t.vm → px u → BX E u t → H.size ≤ H1.size → (∀ q : Nat, q < H.size → ¬ AX q → H1[q]? = H[q]?) → va_S A0 H0 H1 locs1 → H1[q9]? = some ce → ce.vm = .none → s.vm.findClass E = some ce.cls → vx_W p l e R s m args below meth c H1 locs1 (cells + mc) (slots + ms) Q (F0 m pc ls rest) q9)
    (kk : ∀ (r : Int64) (u : S) (t : State) (H1 : Heap) (locs1 : List Loc), t.heap = H1 → s.vm.Alike t.vm → post r u → B u t → H.size ≤ H1.size → (∀ q : Nat, q < H.size → ¬ A1 q → H1[q]? = H[q]?) → va_S A0 H0 H1 locs1 → W p l e R s m args below meth c H1 locs1 (cells + mc) (slots + ms) Q (F0 m (pc + 3) ls (.long r :: rest))) : W p l e R s m args below meth c H locs cells slots Q (F0 m pc ls st0) := by
  intro T hT X
  rcases hr T hT X with ⟨v, st₀, t, T', L, h0, X', hL, e1, e2, ⟨⟨r, u, hv, hp, hb⟩, hF⟩, st⟩ | ⟨q, st₀, t, T', L, E, ce, h0, X', hL, e1, e2, ⟨u, hp, hb, hF⟩, hce, hcv, hcl, st⟩
  · cases hv
    obtain ⟨k1, k2, k3⟩ := vx_keep h0 e1 hS hA hf hL hF
    obtain ⟨t2, a1, b1⟩ := kk r u t T'.heap (locs ++ L) e1.symm (by rw [← e2]; exact X'.warmed.alike) hp hb k1 k2 k3 T' rfl X'
    exact ⟨t2, st t2 a1, b1⟩
  · obtain ⟨k1, k2, k3⟩ := vx_keep h0 e1 hS hAX hf hL hF
    obtain ⟨t2, a1, b1⟩ := kx E ce q u t T'.heap (locs ++ L) e1.symm (by rw [← e2]; exact X'.warmed.alike) hp hb k1 k2 k3 (by rw [e1]; exact hce) hcv hcl T' rfl X'
    exact ⟨t2, st.trans a1, b1⟩
theorem vx_callf {S SX : Type} {post : UInt32 → S → Prop} {px : SX → Prop} {B : S → State → Prop} {BX : String → SX → State → Prop} {AX : Nat → Prop} (hr : vx_Run p l e R s m args below meth c H locs cells slots mc ms (F0 m pc ls st0) rest (va_Qf post B A1 a) (vx_X px BX AX) free) (hS : va_S A0 H0 H locs) (hA : ∀ q, q < H.size → A1 q → A0 q) (hf : ∀ q, free q → A0 q) (hAX : ∀ q, q < H.size → AX q → A0 q)
    (kx : ∀ (E : String) (ce : Cell) (q9 : Addr) (u : SX) (t : State) (H1 : Heap) (locs1 : List Loc), t.heap = H1 → s.vm.Alike t.vm → px u → BX E u t → H.size ≤ H1.size → (∀ q : Nat, q < H.size → ¬ AX q → H1[q]? = H[q]?) → va_S A0 H0 H1 locs1 → H1[q9]? = some ce → ce.vm = .none → s.vm.findClass E = some ce.cls → vx_W p l e R s m args below meth c H1 locs1 (cells + mc) (slots + ms) Q (F0 m pc ls rest) q9)
    (kk : ∀ (r : UInt32) (u : S) (t : State) (H1 : Heap) (locs1 : List Loc), t.heap = H1 → s.vm.Alike t.vm → post r u → B u t → H.size ≤ H1.size → (∀ q : Nat, q < H.size → ¬ A1 q → H1[q]? = H[q]?) → va_S A0 H0 H1 locs1 → W p l e R s m args below meth c H1 locs1 (cells + mc) (slots + ms) Q (F0 m (pc + 3) ls (.float r :: rest))) : W p l e R s m args below meth c H locs cells slots Q (F0 m pc ls st0) := by
  intro T hT X
  rcases hr T hT X with ⟨v, st₀, t, T', L, h0, X', hL, e1, e2, ⟨⟨r, u, hv, hp, hb⟩, hF⟩, st⟩ | ⟨q, st₀, t, T', L, E, ce, h0, X', hL, e1, e2, ⟨u, hp, hb, hF⟩, hce, hcv, hcl, st⟩
  · cases hv
    obtain ⟨k1, k2, k3⟩ := vx_keep h0 e1 hS hA hf hL hF
    obtain ⟨t2, a1, b1⟩ := kk r u t T'.heap (locs ++ L) e1.symm (by rw [← e2]; exact X'.warmed.alike) hp hb k1 k2 k3 T' rfl X'
    exact ⟨t2, st t2 a1, b1⟩
  · obtain ⟨k1, k2, k3⟩ := vx_keep h0 e1 hS hAX hf hL hF
    obtain ⟨t2, a1, b1⟩ := kx E ce q u t T'.heap (locs ++ L) e1.symm (by rw [← e2]; exact X'.warmed.alike) hp hb k1 k2 k3 (by rw [e1]; exact hce) hcv hcl T' rfl X'
    exact ⟨t2, st.trans a1, b1⟩
theorem vx_calld {S SX : Type} {post : UInt64 → S → Prop} {px : SX → Prop} {B : S → State → Prop} {BX : String → SX → State → Prop} {AX : Nat → Prop} (hr : vx_Run p l e R s m args below meth c H locs cells slots mc ms (F0 m pc ls st0) rest (va_Qd post B A1 a) (vx_X px BX AX) free) (hS : va_S A0 H0 H locs) (hA : ∀ q, q < H.size → A1 q → A0 q) (hf : ∀ q, free q → A0 q) (hAX : ∀ q, q < H.size → AX q → A0 q)
    (kx : ∀ (E : String) (ce : Cell) (q9 : Addr) (u : SX) (t : State) (H1 : Heap) (locs1 : List Loc), t.heap = H1 → s.vm.Alike t.vm → px u → BX E u t → H.size ≤ H1.size → (∀ q : Nat, q < H.size → ¬ AX q → H1[q]? = H[q]?) → va_S A0 H0 H1 locs1 → H1[q9]? = some ce → ce.vm = .none → s.vm.findClass E = some ce.cls → vx_W p l e R s m args below meth c H1 locs1 (cells + mc) (slots + ms) Q (F0 m pc ls rest) q9)
    (kk : ∀ (r : UInt64) (u : S) (t : State) (H1 : Heap) (locs1 : List Loc), t.heap = H1 → s.vm.Alike t.vm → post r u → B u t → H.size ≤ H1.size → (∀ q : Nat, q < H.size → ¬ A1 q → H1[q]? = H[q]?) → va_S A0 H0 H1 locs1 → W p l e R s m args below meth c H1 locs1 (cells + mc) (slots + ms) Q (F0 m (pc + 3) ls (.double r :: rest))) : W p l e R s m args below meth c H locs cells slots Q (F0 m pc ls st0) := by
  intro T hT X
  rcases hr T hT X with ⟨v, st₀, t, T', L, h0, X', hL, e1, e2, ⟨⟨r, u, hv, hp, hb⟩, hF⟩, st⟩ | ⟨q, st₀, t, T', L, E, ce, h0, X', hL, e1, e2, ⟨u, hp, hb, hF⟩, hce, hcv, hcl, st⟩
  · cases hv
    obtain ⟨k1, k2, k3⟩ := vx_keep h0 e1 hS hA hf hL hF
    obtain ⟨t2, a1, b1⟩ := kk r u t T'.heap (locs ++ L) e1.symm (by rw [← e2]; exact X'.warmed.alike) hp hb k1 k2 k3 T' rfl X'
    exact ⟨t2, st t2 a1, b1⟩
  · obtain ⟨k1, k2, k3⟩ := vx_keep h0 e1 hS hAX hf hL hF
    obtain ⟨t2, a1, b1⟩ := kx E ce q u t T'.heap (locs ++ L) e1.symm (by rw [← e2]; exact X'.warmed.alike) hp hb k1 k2 k3 (by rw [e1]; exact hce) hcv hcl T' rfl X'
    exact ⟨t2, st.trans a1, b1⟩
theorem vx_callv {S SX : Type} {post : S → Prop} {px : SX → Prop} {B : S → State → Prop} {BX : String → SX → State → Prop} {AX : Nat → Prop} (hr : vx_Run p l e R s m args below meth c H locs cells slots mc ms (F0 m pc ls st0) rest (va_Qv post B A1 a) (vx_X px BX AX) free) (hS : va_S A0 H0 H locs) (hA : ∀ q, q < H.size → A1 q → A0 q) (hf : ∀ q, free q → A0 q) (hAX : ∀ q, q < H.size → AX q → A0 q)
    (kx : ∀ (E : String) (ce : Cell) (q9 : Addr) (u : SX) (t : State) (H1 : Heap) (locs1 : List Loc), t.heap = H1 → s.vm.Alike t.vm → px u → BX E u t → H.size ≤ H1.size → (∀ q : Nat, q < H.size → ¬ AX q → H1[q]? = H[q]?) → va_S A0 H0 H1 locs1 → H1[q9]? = some ce → ce.vm = .none → s.vm.findClass E = some ce.cls → vx_W p l e R s m args below meth c H1 locs1 (cells + mc) (slots + ms) Q (F0 m pc ls rest) q9)
    (kk : ∀ (u : S) (t : State) (H1 : Heap) (locs1 : List Loc), t.heap = H1 → s.vm.Alike t.vm → post u → B u t → H.size ≤ H1.size → (∀ q : Nat, q < H.size → ¬ A1 q → H1[q]? = H[q]?) → va_S A0 H0 H1 locs1 → W p l e R s m args below meth c H1 locs1 (cells + mc) (slots + ms) Q (F0 m (pc + 3) ls (rest))) : W p l e R s m args below meth c H locs cells slots Q (F0 m pc ls st0) := by
  intro T hT X
  rcases hr T hT X with ⟨v, st₀, t, T', L, h0, X', hL, e1, e2, ⟨⟨u, hv, hp, hb⟩, hF⟩, st⟩ | ⟨q, st₀, t, T', L, E, ce, h0, X', hL, e1, e2, ⟨u, hp, hb, hF⟩, hce, hcv, hcl, st⟩
  · cases hv
    obtain ⟨k1, k2, k3⟩ := vx_keep h0 e1 hS hA hf hL hF
    obtain ⟨t2, a1, b1⟩ := kk u t T'.heap (locs ++ L) e1.symm (by rw [← e2]; exact X'.warmed.alike) hp hb k1 k2 k3 T' rfl X'
    exact ⟨t2, st t2 a1, b1⟩
  · obtain ⟨k1, k2, k3⟩ := vx_keep h0 e1 hS hAX hf hL hF
    obtain ⟨t2, a1, b1⟩ := kx E ce q u t T'.heap (locs ++ L) e1.symm (by rw [← e2]; exact X'.warmed.alike) hp hb k1 k2 k3 (by rw [e1]; exact hce) hcv hcl T' rfl X'
    exact ⟨t2, st.trans a1, b1⟩
/-- caught by the row x of this method's table; the rows ahead don't take it -/
theorem vx_catch {own name : String} {E : String} {ce : Cell} {q : Addr} (hown : s.vm.findClass own = some m.cls) (pre : List ExceptionTableEntry) (x : ExceptionTableEntry) (suf : List ExceptionTableEntry) (hsplit : c.exceptionTable.toList = pre ++ x :: suf)
    (hpass : ∀ z ∈ pre, covers z pc = false ∨ (z.catchType ≠ 0 ∧ ∃ nm : String, (Cond.classLink own z.catchType nm).before args s = true ∧ va_Nc E nm s)) (hx : covers x pc = true) (h0 : x.catchType ≠ 0)
    (hlink : (Cond.classLink own x.catchType name).before args s = true) (hcast : (Cond.castable E name).before args s = true) (hcell : H[q]? = some ce) (hv : ce.vm = .none) (hcl : s.vm.findClass E = some ce.cls)
    (kk : W p l e R s m args below meth c H locs cells slots Q (F0 m x.handlerPc ls [.ref q])) : vx_W p l e R s m args below meth c H locs cells slots Q (F0 m pc ls rest) q := by
  intro T hT X
  have hpl : e.platform.magicAccessors = ({} : Platform).magicAccessors := by rw [X.admits.platform]
  obtain ⟨c3, c4, hc3, hc4, hasg⟩ := Cond.castable_spec hcast
  cases Option.some.inj (hc3.symm.trans hcl)
  obtain ⟨c5, hc5, hcl5⟩ := Cond.classLink_spec hown hlink e.platform hpl
  cases Option.some.inj (hc4.symm.trans hc5)
  obtain ⟨vm', X', st⟩ := X.thenCaughtThrough q (g := F0 m pc ls rest) rfl (Steps.refl _) (by rw [hT]; exact hcell) (by rw [hv]; rfl) (by obtain ⟨k9, h9, -⟩ := Vm.findClass_spec hcl; exact ⟨k9, h9⟩) pre x suf hsplit
    (fun z hz => by
      rcases hpass z hz with h | ⟨hz0, nm, hl1, hn1⟩
      · exact Or.inl h
      · obtain ⟨c6, hc6, hcl6⟩ := Cond.classLink_spec hown hl1 e.platform hpl
        obtain ⟨a8, b8, h1, h2, h3⟩ := hn1
        cases Option.some.inj (h1.symm.trans hcl)
        cases Option.some.inj (h2.symm.trans hc6)
        exact Or.inr ⟨hz0, _, hcl6, h3⟩) hx (Or.inr ⟨h0, c4, hcl5, hasg⟩)
  obtain ⟨t, a1, b1⟩ := kk (T.setVm vm') hT X'
  exact ⟨t, st.trans a1, b1⟩
end Rows
section Ends
variable {p : Program} {l : Launch} {e : Env} {R : Room} {s : State} {m : MethodId} {args : Array Value} {below : List Frame} {meth : Method} {c : Code} {H : Heap} {locs : List Loc} {cells slots : Nat} {Q : State → Prop}
variable {mc ms : Nat} {free : Addr → Prop} {A0 A1 : Nat → Prop} {H0 : Heap} {a : Array Value} {ls : Array Slot} {st0 rest : List Value}
variable {Qc : Array Value → State → Outcome → State → Prop} {XC : String → State → State → Prop}
/-- what a body that may throw owes at its end -/
def vx_MQ (below : List Frame) (Qc : Array Value → State → Outcome → State → Prop) (XC : String → State → State → Prop) (a : Array Value) (s : State) (mc ms : Nat) (free : Addr → Prop) : State → Prop := fun t =>
  ∃ o, t.status = .running ∧ Ended t below o ∧ vx_Q Qc XC mc ms free a s o t
theorem vx_ret {g : JFrame} {mc ms : Nat} (k : W p l e R s m args below meth c H locs cells slots (MQ below Qc args s mc ms free) g) : W p l e R s m args below meth c H locs cells slots (vx_MQ below Qc XC args s mc ms free) g := by
  intro T hT X
  obtain ⟨t, a1, o, b1, b2, b3, b4⟩ := k T hT X
  exact ⟨t, a1, o, b1, b2, Or.inl ⟨b3, b4⟩⟩
/-- not caught here: it goes on to the caller -/
theorem vx_widen {g : JFrame} {q : Addr} {k n : Nat} (h1 : cells ≤ k) (h2 : slots ≤ n) (kk : vx_W p l e R s m args below meth c H locs k n Q g q) : vx_W p l e R s m args below meth c H locs cells slots Q g q := fun T hT X => kk T hT (stand_widen X h1 h2)
theorem vx_out {pc : Nat} {E : String} {ce : Cell} {q : Addr} {mc ms : Nat} (hout : ∀ x ∈ c.exceptionTable.toList, covers x pc = false) (hlocks : meth.locks = false) (hcell : H[q]? = some ce) (hv : ce.vm = .none) (hcl : s.vm.findClass E = some ce.cls)
    (hx : ∀ t : State, t.heap = H → s.vm.Alike t.vm → XC E s t) (hf : ∀ z ∈ locs, free z.base) (hc : cells ≤ mc) (hs : slots ≤ ms) :
    vx_W p l e R s m args below meth c H locs cells slots (vx_MQ below Qc XC args s mc ms free) (F0 m pc ls rest) q := by
  intro T hT X
  obtain ⟨st1, hrun, hend, hW, hsm⟩ := X.leaveThrown q (g := F0 m pc ls rest) rfl rfl rfl hout hlocks
  have hcell9 : (T.setFrames (.throwing q :: below)).heap[q]? = some ce := by
    show T.heap[q]? = some ce
    rw [hT]; exact hcell
  exact ⟨_, st1, .threw q, hrun, hend, Or.inr ⟨q, rfl, E, ce, locs, hx _ hT hW.alike, hcell9, hv, hcl, hW, hsm.mono hc hs, hf⟩⟩
theorem vx_frame {U : State} {k n : Nat} (h : s.sameButNew ({ U with vm := s.vm } : State) locs k n) : s.heap.size ≤ U.heap.size ∧ ∀ q : Nat, q < s.heap.size → (∀ z ∈ locs, z.base ≠ q) → U.heap[q]? = s.heap[q]? := by
  obtain ⟨-, h2, -, -, -, h6⟩ := h
  refine ⟨h2, fun q hq hz => ?_⟩
  obtain ⟨c9, e1, e2, e3, e4⟩ := h6 q _ (Array.getElem?_eq_getElem hq)
  have hs : c9.slots = (s.heap[q]).slots := Array.ext_getElem? fun i => e4 i fun hm => hz _ hm rfl
  have h9 : c9 = s.heap[q] := by
    rw [hs] at e2
    exact e2
  have e5 : U.heap[q]? = some c9 := e1
  rw [e5, h9, Array.getElem?_eq_getElem hq]
/-- the words of a throw but the four that speak of the heap -/
def vx_no (w : Cond) : Bool := decide (w ≠ .isRef (.static Bundle.tN "UNASSIGNED_STACK" Bundle.steD)) && decide (w ≠ .isRef (.static Bundle.tN "SUPPRESSED_SENTINEL" Bundle.listD)) && decide (w ≠ .laysStatic Bundle.tN "UNASSIGNED_STACK" Bundle.steD) && decide (w ≠ .laysStatic Bundle.tN "SUPPRESSED_SENTINEL" Bundle.listD)
def vx_at0 (own : String) (ic : Nat) (X : String) (names : List String) : List Cond := (Bundle.ownAtoms0 own ic X names).filter vx_no
def vx_atS (own : String) (ic : Nat) (X : String) (names : List String) : List Cond := (Bundle.ownAtoms own ic X names).filter vx_no
/-- a word that the tables alone decide, or a good one -/
def vx_ot (w : Cond) : Bool := w.onTables || goodWord w
theorem vx_ot_at {args a' : Array Value} {s U : State} {w : Cond} (hW : s.WarmedH U.vm) (hvm : s.vm = U.vm) (hg : vx_ot w = true) (h : w.before args s = true) : w.before a' U = true := by
  simp only [vx_ot, Bool.or_eq_true] at hg
  rcases hg with hg | hg
  · exact va_tabs hg hvm h
  · exact word_at hW (good_of_word hg) h
/-- a list's words: the good ones out of the method's own list, the others by premises of their own -/
theorem vx_hat {args : Array Value} {s : State} {L B : List Cond} (h1 : ∀ w ∈ L.filter goodWord, w.before args s = true) (h2 : ∀ w ∈ L.filter (fun w => !goodWord w), w ∈ B) (h3 : ∀ w ∈ B, w.before args s = true) : ∀ w ∈ L, w.before args s = true := by
  intro w hw
  by_cases g : goodWord w = true
  · exact h1 w (List.mem_filter.mpr ⟨hw, g⟩)
  · refine h3 w (h2 w (List.mem_filter.mpr ⟨hw, ?_⟩))
    show (!goodWord w) = true
    cases hgw : goodWord w
    · rfl
    · exact absurd hgw g
theorem vx_c {args : Array Value} {s : State} {w : Cond} {B : List Cond} (h : w.before args s = true) (t : ∀ w ∈ B, w.before args s = true) : ∀ w' ∈ w :: B, w'.before args s = true := fun w' h' => (List.mem_cons.mp h').elim (fun e => by rw [e]; exact h) (t w')
theorem vx_n {args : Array Value} {s : State} : ∀ w ∈ ([] : List Cond), w.before args s = true := fun _ h => nomatch h
theorem vx_own {args : Array Value} {s : State} {L : List Cond} (h1 : ∀ w ∈ L.filter vx_no, w.before args s = true)
    (hU : (Cond.isRef (.static Bundle.tN "UNASSIGNED_STACK" Bundle.steD)).before args s = true) (hN : (Cond.isRef (.static Bundle.tN "SUPPRESSED_SENTINEL" Bundle.listD)).before args s = true)
    (lU : (Cond.laysStatic Bundle.tN "UNASSIGNED_STACK" Bundle.steD).before args s = true) (lN : (Cond.laysStatic Bundle.tN "SUPPRESSED_SENTINEL" Bundle.listD).before args s = true) : ∀ w ∈ L, w.before args s = true := by
  intro w hw
  by_cases e1 : w = .isRef (.static Bundle.tN "UNASSIGNED_STACK" Bundle.steD)
  · rw [e1]; exact hU
  · by_cases e2 : w = .isRef (.static Bundle.tN "SUPPRESSED_SENTINEL" Bundle.listD)
    · rw [e2]; exact hN
    · by_cases e3 : w = .laysStatic Bundle.tN "UNASSIGNED_STACK" Bundle.steD
      · rw [e3]; exact lU
      · by_cases e4 : w = .laysStatic Bundle.tN "SUPPRESSED_SENTINEL" Bundle.listD
        · rw [e4]; exact lN
        · exact h1 w (List.mem_filter.mpr ⟨hw, by unfold vx_no; rw [decide_eq_true e1, decide_eq_true e2, decide_eq_true e3, decide_eq_true e4]; rfl⟩)
/-- where a static field lies, its class's statics cell in H -/
def vx_L (C n d : String) (A : Nat → Prop) (U : State) (H : Heap) : Prop := ∃ (c : ClassId) (k : Class) (i : Nat) (f : Field) (a : Nat) (cell : Cell), U.vm.findClass C = some c ∧ U.fieldFound? C n d = some (c, k, i, f) ∧ f.isStatic = true ∧ k.statics = some a ∧ H[a]? = some cell ∧ cell.vm.isStatics = true ∧ cell.cls = c ∧ f.slot < cell.slots.size ∧ k.staticTypes[f.slot]? = some f.type ∧ ¬ A a
theorem vx_L.moved {C n d : String} {A : Nat → Prop} {u U : State} {H : Heap} (hvm : u.vm.Alike U.vm) (h : vx_L C n d A u H) : vx_L C n d A U H := by
  obtain ⟨c, k, i, f, a, cell, h1, h2, h3, h4, h5, h6, h7, h8, h9, h10⟩ := h
  obtain ⟨k', hi', he⟩ := State.fieldFound?_setVm hvm h2
  exact ⟨c, k', i, f, a, cell, by rw [hvm.findClass]; exact h1, hi', h3, by rw [he]; exact h4, h5, h6, h7, h8, by rw [he]; exact h9, h10⟩
theorem vx_L.kept {C n d : String} {A : Nat → Prop} {U : State} {H H1 : Heap} (h : vx_L C n d A U H) (hq : ∀ a : Nat, a < H.size → ¬ A a → H1[a]? = H[a]?) : vx_L C n d A U H1 := by
  obtain ⟨c, k, i, f, a, cell, h1, h2, h3, h4, h5, h6, h7, h8, h9, h10⟩ := h
  exact ⟨c, k, i, f, a, cell, h1, h2, h3, h4, by rw [hq a (Array.getElem?_eq_some_iff.mp h5).1 h10]; exact h5, h6, h7, h8, h9, h10⟩
theorem vx_L.narrow {C n d : String} {A B : Nat → Prop} {U : State} {H : Heap} (h : vx_L C n d A U H) (hAB : ∀ q, B q → A q) : vx_L C n d B U H := by
  obtain ⟨c, k, i, f, a, cell, h1, h2, h3, h4, h5, h6, h7, h8, h9, h10⟩ := h
  exact ⟨c, k, i, f, a, cell, h1, h2, h3, h4, h5, h6, h7, h8, h9, fun z => h10 (hAB _ z)⟩
theorem vx_L.word {C n d : String} {A : Nat → Prop} {s : State} {args : Array Value} (h : vx_L C n d A s s.heap) : (Cond.laysStatic C n d).before args s = true := by
  obtain ⟨c, k, i, f, a, cell, h1, h2, h3, h4, h5, h6, h7, h8, h9, -⟩ := h
  show (Cond.laysStatic C n d).holds args s none s [] = true
  exact Cond.laysStatic_of h1 h2 h3 h4 h5 h6 h7 h8 h9
/-- .. and what it holds: null or some reference -/
def vx_Zq (C n d : String) (A : Nat → Prop) (U : State) (H : Heap) : Prop := va_Zq C n d A U H ∧ vx_L C n d A U H
theorem vx_Zq.moved {C n d : String} {A : Nat → Prop} {u U : State} {H : Heap} (hvm : u.vm.Alike U.vm) (h : vx_Zq C n d A u H) : vx_Zq C n d A U H := ⟨va_Zq.moved hvm h.1, vx_L.moved hvm h.2⟩
theorem vx_Zq.kept {C n d : String} {A : Nat → Prop} {U : State} {H H1 : Heap} (h : vx_Zq C n d A U H) (hq : ∀ a : Nat, a < H.size → ¬ A a → H1[a]? = H[a]?) : vx_Zq C n d A U H1 := ⟨va_Zq.kept h.1 hq, vx_L.kept h.2 hq⟩
theorem vx_Zq.narrow {C n d : String} {A B : Nat → Prop} {U : State} {H : Heap} (h : vx_Zq C n d A U H) (hAB : ∀ q, B q → A q) : vx_Zq C n d B U H := ⟨va_Zq.narrow h.1 hAB, vx_L.narrow h.2 hAB⟩
theorem vx_Zqof {args : Array Value} {s : State} {C n d : String} {A : Nat → Prop} (hl : (Cond.laysStatic C n d).before args s = true) (hini : (Cond.initialized C).before args s = true) (h : (Cond.isRef (.static C n d)).before args s = true) (hA : ∀ a : Nat, a < s.heap.size → ¬ A a) : vx_Zq C n d A s s.heap := by
  refine ⟨va_Zqof hl hini h hA, ?_⟩
  obtain ⟨c, k, i, f, a, cell, h1, h2, h3, h4, h5, h6, h7, h8, h9⟩ := Cond.laysStatic_spec hl
  exact ⟨c, k, i, f, a, cell, h1, h2, h3, h4, h5, h6, h7, h8, h9, hA a (Array.getElem?_eq_some_iff.mp h5).1⟩
theorem vx_isRef {C n d : String} {v : Value} {A : Nat → Prop} {s : State} {args : Array Value} (h : va_Z C n d v A s s.heap) (hv : v.isRef = true) : (Cond.isRef (.static C n d)).before args s = true := by
  obtain ⟨cf, kf, fi, f, a, cell, h1, h2, h3, h4, h5, h6, h7, -⟩ := h
  have he : (Term.static C n d).eval args s none [] s = some v := by
    simp [Term.eval, State.fieldNamed?, h1, h2, h4, h5, h6, h7]
  simp only [Cond.before, Cond.holds, Cond.value, he]
  cases v <;> simp_all [Value.isRef]
theorem vx_isRefq {C n d : String} {A : Nat → Prop} {s : State} {args : Array Value} (h : va_Zq C n d A s s.heap) : (Cond.isRef (.static C n d)).before args s = true := by
  rcases h with h | ⟨t, h⟩
  · exact vx_isRef h rfl
  · exact vx_isRef h rfl
/-- the same frame, seen from here: as if the method were called anew in this heap -/
theorem vx_rebase {T : State} (X : Stand p l e R s m args below meth c T locs cells slots) {R' : Room} (hf : R'.frames ≤ R.frames) (hl : R'.locals ≤ R.locals) (hc : cells + R'.cells ≤ R.cells) (hs : slots + R'.slots ≤ R.slots) :
    Stand p l e R' ((T.setVm s.vm).setFrames (.invoking m args :: below)) m args below meth c T [] 0 0 := by
  have htop : (T.setVm s.vm).topJava?.isSome := X.here.top
  have hF : ((T.setVm s.vm).setFrames (.invoking m args :: below)).frames = .invoking m args :: below := State.frames_setFrames _ (State.cur_lt_of_top htop)
  obtain ⟨g₀, hg0⟩ := Option.isSome_iff_exists.mp htop
  obtain ⟨r, hr⟩ := State.topJava?_eq_some.mp hg0
  have hl9 : e.platform.stackLimits (T.setVm s.vm).me = e.platform.stackLimits s.me := X.limits
  have hb9 : (T.setVm s.vm).me.stackBytes = s.me.stackBytes := X.bytes
  refine ⟨X.admits, X.cas, X.clock, hF, ?_, X.hears, X.method, X.code, X.here, X.tail, X.warmed, ?_, ?_, ?_⟩
  · have h := X.room
    have hU : ((T.setVm s.vm).setFrames (.invoking m args :: below)).localsInUse = s.localsInUse := by
      rw [State.localsInUse_invoking hF (meth := meth) (c := c) X.method X.code, State.localsInUse_invoking X.frames X.method X.code]
    simp only [State.hasRoom, Bool.and_eq_true, decide_eq_true_eq] at h ⊢
    obtain ⟨⟨⟨⟨h1, h2, h3, h4, h5, h6⟩, h7⟩, h8⟩, h9⟩ := h
    rw [X.frames, List.length_cons] at h2 h3
    have q1 := X.heapSize
    have q2 := X.used
    simp only [hF, hU, List.length_cons, State.stackLimits_setFrames, State.stackBytes_setFrames, hl9, hb9]
    refine ⟨⟨⟨⟨by omega, by omega, by omega, by omega, by omega, h6⟩, ?_⟩, ?_⟩, X.book⟩
    · show T.heap.size + R'.cells ≤ e.platform.maxCells
      omega
    · show T.slotsUsed + R'.slots ≤ e.platform.maxSlots
      omega
  · rw [State.stackLimits_setFrames]; rfl
  · rw [State.stackBytes_setFrames]; rfl
  · refine ⟨?_, Nat.le_refl _, Nat.le_refl _, ?_, ?_, fun a c9 h9 => ⟨c9, h9, rfl, rfl, fun _ _ => rfl⟩⟩
    · obtain ⟨t, ht, -⟩ := State.frames_cons hr
      show T.setVm s.vm = { ((T.setVm s.vm).setFrames (.invoking m args :: below)).setFrames (T.setVm s.vm).frames with heap := T.heap, slotsUsed := T.slotsUsed }
      rw [State.setFrames_setFrames, State.setFrames_self ht]
      rfl
    · show T.slotsUsed = T.slotsUsed + ((T.heap.toList.drop T.heap.size).map (·.slots.size)).sum
      rw [List.drop_eq_nil_of_le (Nat.le_of_eq Array.length_toList)]
      rfl
    · show ((T.heap.toList.drop T.heap.size).map (·.slots.size)).sum ≤ 0
      rw [List.drop_eq_nil_of_le (Nat.le_of_eq Array.length_toList)]
      exact Nat.le_refl _
/-- 'throw new E()': new; dup; invokespecial; athrow -/
theorem vx_throw0 {cc : ByteArray} {pc : Nat} (hexec : p.tables.exec = Jvm.exec) (hb : c.code = cc) (hl : l.stackTraces = false) {own cls : String} {names : List String} {ik ic mc ms : Nat} {A : Nat → Prop}
    (hown : s.vm.findClass own = some m.cls) (hcls : Bundle.fit cls = true) (hnames : ∀ n ∈ names, Bundle.fit n = true)
    (hk : (Cond.classLink own ik cls).before args s = true) (hini : (Cond.initialized cls).before args s = true) (hat : ∀ w ∈ vx_at0 own ic cls names, w.before args s = true)
    (hgood : ∀ w ∈ Cond.classLink own ik cls :: Cond.initialized cls :: vx_at0 own ic cls names, vx_ot w = true)
    (hU : vx_Zq Bundle.tN "UNASSIGNED_STACK" Bundle.steD A s s.heap) (hN : vx_Zq Bundle.tN "SUPPRESSED_SENTINEL" Bundle.listD A s s.heap) (hS : va_S A s.heap H locs) (hsize : ls.size = c.maxLocals)
    (d0 : decode cc pc = .ok (.new ik, 3)) (d3 : decode cc (pc + 3) = .ok (.dup, 1)) (d4 : decode cc (pc + 4) = .ok (.invokespecial ic, 3)) (d7 : decode cc (pc + 7) = .ok (.athrow, 1))
    (hout : ∀ x ∈ c.exceptionTable.toList, covers x (pc + 7) = false)
    (hRframes : names.length + 3 < R.frames) (hRlocals : (rest.map fun v => v.category).sum + (13 * (names.length + 1) + 42) ≤ R.locals) (hRcells : cells + 1 ≤ R.cells) (hRslots : slots + 6 ≤ R.slots) (hlocks : meth.locks = false)
    (hx : ∀ t : State, s.vm.Alike t.vm → H.size ≤ t.heap.size → (∀ q : Nat, q < H.size → t.heap[q]? = H[q]?) → XC cls s t)
    (hf : ∀ z ∈ locs, free z.base) (hc : cells + 1 ≤ mc) (hs : slots + 6 ≤ ms) :
    W p l e R s m args below meth c H locs cells slots (vx_MQ below Qc XC args s mc ms free) (F0 m pc ls rest) := by
  intro T hT X
  have htr : e.platform.stackTraces = false := (show e.platform.stackTraces = l.stackTraces by rw [X.admits.platform]).trans hl
  have Y := vx_rebase X (R' := { frames := R.frames, locals := R.locals, cells := 1, slots := 6 }) (Nat.le_refl _) (Nat.le_refl _) hRcells hRslots
  obtain ⟨s', hA⟩ : ∃ z, z = (T.setVm s.vm).setFrames (.invoking m args :: below) := ⟨_, rfl⟩
  rw [← hA] at Y
  have hvm : s'.vm = s.vm := by rw [hA]; rfl
  have hhp : s'.heap = H := by rw [hA]; exact hT
  have hW0 : s.WarmedH s'.vm := by rw [hvm]; exact State.WarmedH.refl s
  have hat' : ∀ w ∈ vx_at0 own ic cls names, w.before args s' = true := fun w hw => vx_ot_at hW0 hvm.symm (hgood w (List.mem_cons_of_mem _ (List.mem_cons_of_mem _ hw))) (hat w hw)
  have hk' : (Cond.classLink own ik cls).before args s' = true := vx_ot_at hW0 hvm.symm (hgood _ List.mem_cons_self) hk
  have hini' : (Cond.initialized cls).before args s' = true := vx_ot_at hW0 hvm.symm (hgood _ (List.mem_cons_of_mem _ List.mem_cons_self)) hini
  have hU' : vx_Zq Bundle.tN "UNASSIGNED_STACK" Bundle.steD A s' s'.heap := by rw [hhp]; exact vx_Zq.moved hW0.alike (hU.kept hS.2.1)
  have hN' : vx_Zq Bundle.tN "SUPPRESSED_SENTINEL" Bundle.listD A s' s'.heap := by rw [hhp]; exact vx_Zq.moved hW0.alike (hN.kept hS.2.1)
  have h : ∀ w ∈ Bundle.ownAtoms0 own ic cls names, w.before args s' = true := vx_own hat' (vx_isRefq hU'.1) (vx_isRefq hN'.1) hU'.2.word hN'.2.word
  have hown' : s'.vm.findClass own = some m.cls := by rw [hvm]; exact hown
  have hins : (Cond.instantiable cls 6).before args s' = true := h _ (by simp [Bundle.ownAtoms0])
  obtain ⟨vm₁, cX, kX, hfX, hkX, -, -, X₁, st1⟩ := Y.newCold hexec (own := own) (C := cls) (index := ik) (n := 6) hown' hk' hins hini'
    (g := F0 m pc ls rest) rfl (by rw [hb]; exact d0) (Nat.le_refl _) (Nat.le_refl _)
  generalize hT1 : (T.setVm vm₁).pushCell { cls := cX, slots := kX.instanceTypes.map defaultValue, vm := .none } = T1 at X₁ st1
  have hcat : (Value.ref T.heap.size).category = 1 := rfl
  have hcellA : T1.heap[T.heap.size]? = some (freshCell cX kX) := by rw [← hT1]; exact State.heap_pushCell_size _ _
  have d3' : decode c.code (pc + 3) = .ok (.dup, 1) := by rw [hb]; exact d3
  obtain ⟨U, hsteps, hrun, hend, hW, hsame, ce, hce, hO⟩ := X₁.ctorThrow0 hexec htr (own := own) (cls := cls) (names := names) (ic := ic) hown' hcls hnames h (fun x hx => nomatch hx) hfX hkX hcellA (by rw [hhp, hT]; exact Nat.le_refl _)
    (g := { method := m, pc := pc + 4, locals := ls, stack := .ref T.heap.size :: .ref T.heap.size :: rest, locked := none }) rfl hsize rfl rfl (rest := rest) rfl
    (by rw [hb]; exact d4) (by rw [hb]; exact d7) hout hRframes (by simp only [List.map_cons, List.sum_cons, hcat]; omega) hlocks
  obtain ⟨f1, f2⟩ := vx_frame hsame
  rw [hhp] at f1 f2
  have hWs : s.WarmedH U.vm := State.WarmedH.trans hW0 hW
  have hcl : s.vm.findClass cls = some ce.cls := by
    have h9 := hO.cls
    rw [hvm] at h9
    exact h9
  have hall : s.sameButNew ({ U with vm := s.vm } : State) locs mc ms := by
    subst hA
    obtain ⟨e1, e2⟩ := hsame
    rw [State.setFrames_setFrames] at e1
    have h2 : (T.setVm s.vm).sameButNew ({ U with vm := s.vm } : State) [] (0 + 1) (0 + 6) := ⟨e1, e2⟩
    have h3 := X.same.trans h2
    rw [List.append_nil] at h3
    exact h3.mono hc hs
  refine ⟨U, ?_, .threw T.heap.size, hrun, hend, Or.inr ⟨T.heap.size, rfl, cls, ce, locs, hx U hWs.alike f1 (fun q hq => f2 q hq (fun z hz => nomatch hz)), hce, hO.vm, hcl, hWs, hall, hf⟩⟩
  refine st1 _ ?_
  show Steps p.tables e below (T1.setTop { method := m, pc := pc + 3, locals := ls, stack := .ref T.heap.size :: rest, locked := none }) _
  jvm_step X₁.here [X₁.here.top, hexec, d3', Value.category]
  exact hsteps
/-- 'throw new E("text")': new; dup; ldc; invokespecial; athrow -/
theorem vx_throwS {cc : ByteArray} {pc : Nat} (hexec : p.tables.exec = Jvm.exec) (hb : c.code = cc) (hl : l.stackTraces = false) {own cls text : String} {names : List String} {ik is ic mc ms sa : Nat} {A : Nat → Prop}
    (hown : s.vm.findClass own = some m.cls) (hcls : Bundle.fit cls = true) (hnames : ∀ n ∈ names, Bundle.fit n = true)
    (hk : (Cond.classLink own ik cls).before args s = true) (hini : (Cond.initialized cls).before args s = true) (hstr : vk_R own is text sa s) (hat : ∀ w ∈ vx_atS own ic cls names, w.before args s = true)
    (hgood : ∀ w ∈ Cond.classLink own ik cls :: Cond.initialized cls :: vx_atS own ic cls names, vx_ot w = true)
    (hU : vx_Zq Bundle.tN "UNASSIGNED_STACK" Bundle.steD A s s.heap) (hN : vx_Zq Bundle.tN "SUPPRESSED_SENTINEL" Bundle.listD A s s.heap) (hS : va_S A s.heap H locs) (hsize : ls.size = c.maxLocals)
    (d0 : decode cc pc = .ok (.new ik, 3)) (d3 : decode cc (pc + 3) = .ok (.dup, 1)) (d4 : decode cc (pc + 4) = .ok (.ldc is, 2)) (d6 : decode cc (pc + 6) = .ok (.invokespecial ic, 3)) (d9 : decode cc (pc + 9) = .ok (.athrow, 1))
    (hout : ∀ x ∈ c.exceptionTable.toList, covers x (pc + 9) = false)
    (hRframes : names.length + 3 < R.frames) (hRlocals : (rest.map fun v => v.category).sum + (13 * (names.length + 1) + 43) ≤ R.locals) (hRcells : cells + 1 ≤ R.cells) (hRslots : slots + 6 ≤ R.slots) (hlocks : meth.locks = false)
    (hx : ∀ t : State, s.vm.Alike t.vm → H.size ≤ t.heap.size → (∀ q : Nat, q < H.size → t.heap[q]? = H[q]?) → XC cls s t)
    (hf : ∀ z ∈ locs, free z.base) (hc : cells + 1 ≤ mc) (hs : slots + 6 ≤ ms) :
    W p l e R s m args below meth c H locs cells slots (vx_MQ below Qc XC args s mc ms free) (F0 m pc ls rest) := by
  intro T hT X
  have htr : e.platform.stackTraces = false := (show e.platform.stackTraces = l.stackTraces by rw [X.admits.platform]).trans hl
  have Y := vx_rebase X (R' := { frames := R.frames, locals := R.locals, cells := 1, slots := 6 }) (Nat.le_refl _) (Nat.le_refl _) hRcells hRslots
  obtain ⟨s', hA⟩ : ∃ z, z = (T.setVm s.vm).setFrames (.invoking m args :: below) := ⟨_, rfl⟩
  rw [← hA] at Y
  have hvm : s'.vm = s.vm := by rw [hA]; rfl
  have hhp : s'.heap = H := by rw [hA]; exact hT
  have hW0 : s.WarmedH s'.vm := by rw [hvm]; exact State.WarmedH.refl s
  have hat' : ∀ w ∈ vx_atS own ic cls names, w.before args s' = true := fun w hw => vx_ot_at hW0 hvm.symm (hgood w (List.mem_cons_of_mem _ (List.mem_cons_of_mem _ hw))) (hat w hw)
  have hk' : (Cond.classLink own ik cls).before args s' = true := vx_ot_at hW0 hvm.symm (hgood _ List.mem_cons_self) hk
  have hini' : (Cond.initialized cls).before args s' = true := vx_ot_at hW0 hvm.symm (hgood _ (List.mem_cons_of_mem _ List.mem_cons_self)) hini
  have hU' : vx_Zq Bundle.tN "UNASSIGNED_STACK" Bundle.steD A s' s'.heap := by rw [hhp]; exact vx_Zq.moved hW0.alike (hU.kept hS.2.1)
  have hN' : vx_Zq Bundle.tN "SUPPRESSED_SENTINEL" Bundle.listD A s' s'.heap := by rw [hhp]; exact vx_Zq.moved hW0.alike (hN.kept hS.2.1)
  have h : ∀ w ∈ Bundle.ownAtoms own ic cls names, w.before args s' = true := vx_own hat' (vx_isRefq hU'.1) (vx_isRefq hN'.1) hU'.2.word hN'.2.word
  have hown' : s'.vm.findClass own = some m.cls := by rw [hvm]; exact hown
  have hins : (Cond.instantiable cls 6).before args s' = true := h _ (by simp [Bundle.ownAtoms])
  obtain ⟨vm₁, cX, kX, hfX, hkX, -, -, X₁, st1⟩ := Y.newCold hexec (own := own) (C := cls) (index := ik) (n := 6) hown' hk' hins hini'
    (g := F0 m pc ls rest) rfl (by rw [hb]; exact d0) (Nat.le_refl _) (Nat.le_refl _)
  generalize hT1 : (T.setVm vm₁).pushCell { cls := cX, slots := kX.instanceTypes.map defaultValue, vm := .none } = T1 at X₁ st1
  have hcat : (Value.ref T.heap.size).category = 1 := rfl
  have hcellA : T1.heap[T.heap.size]? = some (freshCell cX kX) := by rw [← hT1]; exact State.heap_pushCell_size _ _
  have d3' : decode c.code (pc + 3) = .ok (.dup, 1) := by rw [hb]; exact d3
  have d4' : decode c.code (pc + 4) = .ok (.ldc is, 2) := by rw [hb]; exact d4
  have hstr' : vk_R own is text sa s' := vk_R.warm hW0 hstr
  obtain ⟨U, hsteps, hrun, hend, hW, hsame, ce, hce, hO⟩ := X₁.ctorThrowS hexec htr (own := own) (cls := cls) (names := names) (ic := ic) hown' hcls hnames h (fun x hx => nomatch hx) hfX hkX hcellA (by rw [hhp, hT]; exact Nat.le_refl _) (msg := .ref sa) rfl
    (g := { method := m, pc := pc + 6, locals := ls, stack := .ref sa :: .ref T.heap.size :: .ref T.heap.size :: rest, locked := none }) rfl hsize rfl rfl (rest := rest) rfl
    (by rw [hb]; exact d6) (by rw [hb]; exact d9) hout hRframes (by simp only [List.map_cons, List.sum_cons, hcat]; omega) hlocks
  obtain ⟨f1, f2⟩ := vx_frame hsame
  rw [hhp] at f1 f2
  have hWs : s.WarmedH U.vm := State.WarmedH.trans hW0 hW
  have hcl : s.vm.findClass cls = some ce.cls := by
    have h9 := hO.cls
    rw [hvm] at h9
    exact h9
  have hall : s.sameButNew ({ U with vm := s.vm } : State) locs mc ms := by
    subst hA
    obtain ⟨e1, e2⟩ := hsame
    rw [State.setFrames_setFrames] at e1
    have h2 : (T.setVm s.vm).sameButNew ({ U with vm := s.vm } : State) [] (0 + 1) (0 + 6) := ⟨e1, e2⟩
    have h3 := X.same.trans h2
    rw [List.append_nil] at h3
    exact h3.mono hc hs
  refine ⟨U, ?_, .threw T.heap.size, hrun, hend, Or.inr ⟨T.heap.size, rfl, cls, ce, locs, hx U hWs.alike f1 (fun q hq => f2 q hq (fun z hz => nomatch hz)), hce, hO.vm, hcl, hWs, hall, hf⟩⟩
  refine st1 _ ?_
  show Steps p.tables e below (T1.setTop { method := m, pc := pc + 3, locals := ls, stack := .ref T.heap.size :: rest, locked := none }) _
  jvm_step X₁.here [X₁.here.top, hexec, d3', Value.category]
  exact X₁.ldcString hexec (own := own) (text := text) (index := is) (a := sa) hown' hstr'.1 hstr'.2
    (g := { method := m, pc := pc + 4, locals := ls, stack := .ref T.heap.size :: .ref T.heap.size :: rest, locked := none }) rfl d4' _ hsteps
/-- 'throw new E("text")', the text by a wide index -/
theorem vx_throwSW {cc : ByteArray} {pc : Nat} (hexec : p.tables.exec = Jvm.exec) (hb : c.code = cc) (hl : l.stackTraces = false) {own cls text : String} {names : List String} {ik is ic mc ms sa : Nat} {A : Nat → Prop}
    (hown : s.vm.findClass own = some m.cls) (hcls : Bundle.fit cls = true) (hnames : ∀ n ∈ names, Bundle.fit n = true)
    (hk : (Cond.classLink own ik cls).before args s = true) (hini : (Cond.initialized cls).before args s = true) (hstr : vk_R own is text sa s) (hat : ∀ w ∈ vx_atS own ic cls names, w.before args s = true)
    (hgood : ∀ w ∈ Cond.classLink own ik cls :: Cond.initialized cls :: vx_atS own ic cls names, vx_ot w = true)
    (hU : vx_Zq Bundle.tN "UNASSIGNED_STACK" Bundle.steD A s s.heap) (hN : vx_Zq Bundle.tN "SUPPRESSED_SENTINEL" Bundle.listD A s s.heap) (hS : va_S A s.heap H locs) (hsize : ls.size = c.maxLocals)
    (d0 : decode cc pc = .ok (.new ik, 3)) (d3 : decode cc (pc + 3) = .ok (.dup, 1)) (d4 : decode cc (pc + 4) = .ok (.ldc_w is, 3)) (d7 : decode cc (pc + 7) = .ok (.invokespecial ic, 3)) (d10 : decode cc (pc + 10) = .ok (.athrow, 1))
    (hout : ∀ x ∈ c.exceptionTable.toList, covers x (pc + 10) = false)
    (hRframes : names.length + 3 < R.frames) (hRlocals : (rest.map fun v => v.category).sum + (13 * (names.length + 1) + 43) ≤ R.locals) (hRcells : cells + 1 ≤ R.cells) (hRslots : slots + 6 ≤ R.slots) (hlocks : meth.locks = false)
    (hx : ∀ t : State, s.vm.Alike t.vm → H.size ≤ t.heap.size → (∀ q : Nat, q < H.size → t.heap[q]? = H[q]?) → XC cls s t)
    (hf : ∀ z ∈ locs, free z.base) (hc : cells + 1 ≤ mc) (hs : slots + 6 ≤ ms) :
    W p l e R s m args below meth c H locs cells slots (vx_MQ below Qc XC args s mc ms free) (F0 m pc ls rest) := by
  intro T hT X
  have htr : e.platform.stackTraces = false := (show e.platform.stackTraces = l.stackTraces by rw [X.admits.platform]).trans hl
  have Y := vx_rebase X (R' := { frames := R.frames, locals := R.locals, cells := 1, slots := 6 }) (Nat.le_refl _) (Nat.le_refl _) hRcells hRslots
  obtain ⟨s', hA⟩ : ∃ z, z = (T.setVm s.vm).setFrames (.invoking m args :: below) := ⟨_, rfl⟩
  rw [← hA] at Y
  have hvm : s'.vm = s.vm := by rw [hA]; rfl
  have hhp : s'.heap = H := by rw [hA]; exact hT
  have hW0 : s.WarmedH s'.vm := by rw [hvm]; exact State.WarmedH.refl s
  have hat' : ∀ w ∈ vx_atS own ic cls names, w.before args s' = true := fun w hw => vx_ot_at hW0 hvm.symm (hgood w (List.mem_cons_of_mem _ (List.mem_cons_of_mem _ hw))) (hat w hw)
  have hk' : (Cond.classLink own ik cls).before args s' = true := vx_ot_at hW0 hvm.symm (hgood _ List.mem_cons_self) hk
  have hini' : (Cond.initialized cls).before args s' = true := vx_ot_at hW0 hvm.symm (hgood _ (List.mem_cons_of_mem _ List.mem_cons_self)) hini
  have hU' : vx_Zq Bundle.tN "UNASSIGNED_STACK" Bundle.steD A s' s'.heap := by rw [hhp]; exact vx_Zq.moved hW0.alike (hU.kept hS.2.1)
  have hN' : vx_Zq Bundle.tN "SUPPRESSED_SENTINEL" Bundle.listD A s' s'.heap := by rw [hhp]; exact vx_Zq.moved hW0.alike (hN.kept hS.2.1)
  have h : ∀ w ∈ Bundle.ownAtoms own ic cls names, w.before args s' = true := vx_own hat' (vx_isRefq hU'.1) (vx_isRefq hN'.1) hU'.2.word hN'.2.word
  have hown' : s'.vm.findClass own = some m.cls := by rw [hvm]; exact hown
  have hins : (Cond.instantiable cls 6).before args s' = true := h _ (by simp [Bundle.ownAtoms])
  obtain ⟨vm₁, cX, kX, hfX, hkX, -, -, X₁, st1⟩ := Y.newCold hexec (own := own) (C := cls) (index := ik) (n := 6) hown' hk' hins hini'
    (g := F0 m pc ls rest) rfl (by rw [hb]; exact d0) (Nat.le_refl _) (Nat.le_refl _)
  generalize hT1 : (T.setVm vm₁).pushCell { cls := cX, slots := kX.instanceTypes.map defaultValue, vm := .none } = T1 at X₁ st1
  have hcat : (Value.ref T.heap.size).category = 1 := rfl
  have hcellA : T1.heap[T.heap.size]? = some (freshCell cX kX) := by rw [← hT1]; exact State.heap_pushCell_size _ _
  have d3' : decode c.code (pc + 3) = .ok (.dup, 1) := by rw [hb]; exact d3
  have d4' : decode c.code (pc + 4) = .ok (.ldc_w is, 3) := by rw [hb]; exact d4
  have hstr' : vk_R own is text sa s' := vk_R.warm hW0 hstr
  obtain ⟨U, hsteps, hrun, hend, hW, hsame, ce, hce, hO⟩ := X₁.ctorThrowS hexec htr (own := own) (cls := cls) (names := names) (ic := ic) hown' hcls hnames h (fun x hx => nomatch hx) hfX hkX hcellA (by rw [hhp, hT]; exact Nat.le_refl _) (msg := .ref sa) rfl
    (g := { method := m, pc := pc + 7, locals := ls, stack := .ref sa :: .ref T.heap.size :: .ref T.heap.size :: rest, locked := none }) rfl hsize rfl rfl (rest := rest) rfl
    (by rw [hb]; exact d7) (by rw [hb]; exact d10) hout hRframes (by simp only [List.map_cons, List.sum_cons, hcat]; omega) hlocks
  obtain ⟨f1, f2⟩ := vx_frame hsame
  rw [hhp] at f1 f2
  have hWs : s.WarmedH U.vm := State.WarmedH.trans hW0 hW
  have hcl : s.vm.findClass cls = some ce.cls := by
    have h9 := hO.cls
    rw [hvm] at h9
    exact h9
  have hall : s.sameButNew ({ U with vm := s.vm } : State) locs mc ms := by
    subst hA
    obtain ⟨e1, e2⟩ := hsame
    rw [State.setFrames_setFrames] at e1
    have h2 : (T.setVm s.vm).sameButNew ({ U with vm := s.vm } : State) [] (0 + 1) (0 + 6) := ⟨e1, e2⟩
    have h3 := X.same.trans h2
    rw [List.append_nil] at h3
    exact h3.mono hc hs
  refine ⟨U, ?_, .threw T.heap.size, hrun, hend, Or.inr ⟨T.heap.size, rfl, cls, ce, locs, hx U hWs.alike f1 (fun q hq => f2 q hq (fun z hz => nomatch hz)), hce, hO.vm, hcl, hWs, hall, hf⟩⟩
  refine st1 _ ?_
  show Steps p.tables e below (T1.setTop { method := m, pc := pc + 3, locals := ls, stack := .ref T.heap.size :: rest, locked := none }) _
  jvm_step X₁.here [X₁.here.top, hexec, d3', Value.category]
  exact X₁.ldcStringW hexec (own := own) (text := text) (index := is) (a := sa) hown' hstr'.1 hstr'.2
    (g := { method := m, pc := pc + 4, locals := ls, stack := .ref T.heap.size :: .ref T.heap.size :: rest, locked := none }) rfl d4' _ hsteps
end Ends
section Bodies
variable {l : Launch}
theorem vx_ofW {y : MethodName} {ws ws' : List Cond} {rm : Room} {Pc : Array Value → State → Prop} {Qc : Array Value → State → Outcome → State → Prop} {XC : String → State → State → Prop} {mc ms : Nat} {free : Addr → Prop} {cc : ByteArray} {maxL : Nat} {ret : Option FieldType}
    (hy : plainName y.cls = true) (hw : ws = Cond.code y cc maxL ret :: ws')
    (body : ∀ p e s m args below meth c s₁, BodyLoose p l y (headSpec ws rm) cc maxL ret e s m args below meth c s₁ → c.maxLocals = maxL → (∀ x ∈ c.exceptionTable.toList, False) → Pc args s →
      W p l e (headSpec ws rm).room s m args below meth c s.heap [] 0 0 (vx_MQ below Qc XC args s mc ms free) (entryFrame m args maxL)) : vx_Met l y ws rm Pc Qc XC mc ms free := by
  refine MetFree.of_bodyS (code := cc) (maxLocals := maxL) (ret := ret) hy ?_ ?_
  · intro args s m h hn
    obtain ⟨meth, c, h1, h2, h3, h4, h5, h6, -, -⟩ := Cond.code_spec hn (atoms_spec (ws := ws) h _ (by rw [hw]; exact List.mem_cons_self))
    exact ⟨meth, c, h1, h2, h3, h4, h5, h6⟩
  · intro p e s m args below meth c s₁ B hml hP _
    have hh0 : s₁.heap = s.heap := by rw [B.state]; rfl
    have ht : ∀ x ∈ c.exceptionTable.toList, False := by
      obtain ⟨meth9, c9, h1, h2, -, -, -, -, h7, -⟩ := Cond.code_spec B.named (atoms_spec (ws := ws) B.pre _ (by rw [hw]; exact List.mem_cons_self))
      cases Option.some.inj (h1.symm.trans B.method)
      cases Option.some.inj (h2.symm.trans (Stand.of_body B).code)
      intro x hx
      rw [Array.isEmpty_iff.mp h7] at hx
      cases hx
    obtain ⟨t, a1, o, b1, b2, b3⟩ := body p e s m args below meth c s₁ B hml ht hP s₁ hh0 (Stand.of_body B)
    exact ⟨t, o, a1, b1, b2, b3⟩
/-- the table of a body with handlers -/
theorem vx_table {p : Program} {x y : MethodName} {S : Spec} {cc bytes : ByteArray} {maxL maxL' : Nat} {ret ret' : Option FieldType} {e : Env} {s s₁ : State} {m : MethodId} {args : Array Value} {below : List Frame} {meth : Method} {c : Code} {hh : List (Nat × Nat × Nat × Nat)}
    (B : BodyLoose p l y S cc maxL ret e s m args below meth c s₁) (h : (Cond.codeWith y bytes maxL' ret' hh).before args s = true) : c.exceptionTable.toList = tableOf hh := by
  obtain ⟨m9, meth9, c9, hn9, h1, h2, -, -, h6, -⟩ := Cond.codeWith_spec h
  cases Option.some.inj (hn9.symm.trans B.named)
  cases Option.some.inj (h1.symm.trans B.method)
  cases Option.some.inj (h2.symm.trans (Stand.of_body B).code)
  rw [← h6, table_eq]
end Bodies
end VXA
/-! ===== END ===== -/
/-! ===== BEGIN a static call of a method with an exception table ===== -/
section VXS
variable {p : Program} {l : Launch} {e : Env} {R : Room} {s : State} {m : MethodId} {args : Array Value} {below : List Frame} {meth : Method} {c : Code} {T : State} {H : Heap} {locs : List Loc} {cells slots : Nat}
abbrev vx_CSW (R : Room) (s : State) (args : Array Value) (own : String) (index : Nat) (y : MethodName) (bytes : ByteArray) (maxL : Nat) (ret : Option FieldType) (hh : List (Nat × Nat × Nat × Nat)) (ws : List Cond) (rm : Room) (mc ms n : Nat) : Prop :=
  (rm.cells = mc ∧ rm.slots = ms ∧ rm.frames + 1 ≤ R.frames ∧ 8 + (maxL + 11) + rm.locals ≤ R.locals ∧ (∀ w ∈ ws, ∀ (a' : Array Value) (U : State), s.WarmedH U.vm → w.before a' U = true) ∧ Cond.codeWith y bytes maxL ret hh ∈ ws) ∧
  (Cond.codeWith y bytes maxL ret hh).before args s = true ∧ (Cond.initialized y.cls).before args s = true ∧ (y.cls ≠ "java/lang/invoke/MethodHandle" ∧ y.cls ≠ "java/lang/invoke/VarHandle") ∧
  (∀ sig, parseMethodDescriptor y.desc = some sig → n = sig.parameters.length) ∧ (Cond.methodLink own index y).before args s = true ∧ (Cond.static y).before args s = true
theorem vx_cwSW {own : String} {index maxL mc ms : Nat} {y : MethodName} {bytes : ByteArray} {ret : Option FieldType} {hh : List (Nat × Nat × Nat × Nat)} {Ts ws ws' : List Cond} {rm : Room} (n : Nat) (ht : ∀ w ∈ Ts, w.before args s = true) (hT : GoodIn Ts (va_wsS own index y ws)) (hw : ws = Cond.codeWith y bytes maxL ret hh :: ws') (hrc : rm.cells = mc) (hrs : rm.slots = ms)
    (hd : y.cls ≠ "java/lang/invoke/MethodHandle" ∧ y.cls ≠ "java/lang/invoke/VarHandle" ∧ (parseMethodDescriptor y.desc).map (fun d => d.parameters.length) = some n) (hR : rm.frames + 1 ≤ R.frames ∧ 8 + (maxL + 11) + rm.locals ≤ R.locals) :
    vx_CSW R s args own index y bytes maxL ret hh ws rm mc ms n := by
  have ok : ∀ w ∈ va_wsS own index y ws, w.before args s = true := fun w h => ht w (hT w h).1
  have hG : GoodIn Ts ws := fun w h => hT w (by unfold va_wsS; exact List.mem_append_right _ h)
  have hc : Cond.codeWith y bytes maxL ret hh ∈ ws := by rw [hw]; exact List.mem_cons_self
  refine ⟨⟨hrc, hrs, hR.1, hR.2, pay_in ht hG, hc⟩, ht _ (hG _ hc).1, ok _ (by simp [va_wsS]), ⟨hd.1, hd.2.1⟩, fun sig h => ?_, ok _ (by simp [va_wsS]), ok _ (by simp [va_wsS])⟩
  have h2 := hd.2.2
  rw [h] at h2
  exact (Option.some.inj h2).symm
theorem vx_callSW (X : Stand p l e R s m args below meth c T locs cells slots) (hexec : p.tables.exec = Jvm.exec) {own : String} {index : Nat} {y : MethodName} {bytes : ByteArray} {maxL : Nat} {ret : Option FieldType} {hh : List (Nat × Nat × Nat × Nat)}
    (hown : s.vm.findClass own = some m.cls) (hlink : (Cond.methodLink own index y).before args s = true) (hstat : (Cond.static y).before args s = true) (hinit : (Cond.initialized y.cls).before args s = true)
    (hcode : (Cond.codeWith y bytes maxL ret hh).before args s = true) (hy : y.cls ≠ "java/lang/invoke/MethodHandle" ∧ y.cls ≠ "java/lang/invoke/VarHandle")
    {W9 : Nat} {Pre : Pt → Array Value → Prop} {Post : Pt → Array Value → Option Value → Pt → Prop} (hK : Back l R p e below s args y 3 W9 Pre Post)
    {g : JFrame} (hg : g.method = m) (hsize : g.locals.size = c.maxLocals) {argsL rest : List Value} (hlen : ∀ sig, parseMethodDescriptor y.desc = some sig → argsL.length = sig.parameters.length)
    (hstack : g.stack = argsL.reverse ++ rest) (hW : 2 * g.monitorRoom + (rest.map fun v => v.category).sum ≤ W9) (hdg : decode c.code g.pc = .ok (.invokestatic index, 3))
    (hpre : ∀ vm₁, s.WarmedH vm₁ → Pre ⟨T.setVm vm₁, locs, cells, slots⟩ argsL.toArray) :
    ∃ (v : Option Value) (vm₁ : Vm) (B : Pt), s.WarmedH vm₁ ∧ Stand p l e R s m args below meth c B.U B.locs B.cells B.slots ∧ Post ⟨T.setVm vm₁, locs, cells, slots⟩ argsL.toArray v B ∧
      ∀ target, Steps p.tables e below (B.U.setTop { g with pc := g.pc + 3, stack := v.toList ++ rest }) target → Steps p.tables e below (T.setTop g) target := by
  obtain ⟨mk, methM, cM, hnamed, hmethM, -, -, -, -, -, -, hsigM⟩ := Cond.codeWith_spec hcode
  have hstatic : methM.isStatic = true := Cond.static_spec hnamed hmethM hstat
  obtain ⟨kP, hkP, -⟩ := className_of_methodNamed hnamed
  have hinitP : kP.init = .initialized := Cond.initialized_spec (findClass_of_methodNamed hnamed) hkP hinit
  obtain ⟨vm₁, X₁, hstep₁⟩ := X.invokestatic hexec hown hlink hnamed hmethM hstatic hkP hinitP hy (g := g) hg (argsL := argsL) (rest := rest) (hlen _ hsigM) hstack hdg
  obtain ⟨v, B, X', hpost, hsteps⟩ := hK m meth c ⟨T.setVm vm₁, locs, cells, slots⟩ { g with stack := rest } (.invokestatic index) mk argsL.toArray X₁ hg hsize hdg hW (X₁.named hnamed) (hpre vm₁ X₁.warmed)
  exact ⟨v, vm₁, B, X₁.warmed, X', hpost, fun target h => hstep₁ _ fun acts => by rw [doInvoke_state]; exact hsteps.trans h⟩
theorem vx_runSW {y : MethodName} {bytes cc : ByteArray} {maxL nL mc ms n index : Nat} {ret : Option FieldType} {hh : List (Nat × Nat × Nat × Nat)} {ws : List Cond} {rm : Room} {Pc : Array Value → State → Prop} {Qc : Array Value → State → Outcome → State → Prop} {free : Addr → Prop} {Ts : List Cond} {own : String} {As rest : List Value} {g : JFrame}
    (S : CallFix p m c cc nL s args Ts own) (hM : Met l y ws rm Pc Qc mc ms free) (cw : vx_CSW R s args own index y bytes maxL ret hh ws rm mc ms n) (hp : PreS s H Pc As)
    (hg : g.method = m) (hn : As.length = n) (hsize : g.locals.size = nL) (hstack : g.stack = As.reverse ++ rest) (hW : 2 * g.monitorRoom + (rest.map fun v => v.category).sum ≤ 8) (hdg : decode cc g.pc = .ok (.invokestatic index, 3)) (hf : cells + mc ≤ R.cells ∧ slots + ms ≤ R.slots) :
    va_Run p l e R s m args below meth c H locs cells slots mc ms g rest (Qc As.toArray) (free) := by
  obtain ⟨⟨hrc, hrs, hfr, hlo, hws, hcw⟩, hcode, hini, hy, hlen, hl, hstt⟩ := cw
  have hK : Back l R p e below s args y 3 8 (PreOf R mc ms Pc) (PostOf Qc mc ms free) := va_backW (hh := hh) (bytes := bytes) (maxL := maxL) (ret := ret) hM hp.1 hrc hrs hfr hlo hws hcw (fun a' U hW => word_at hW (Or.inl (by first | rfl | simp [Cond.onTables, Cond.keeps, Cond.steady])) hini)
  obtain ⟨hx, hb, hml, ho, -⟩ := S
  intro T hT X
  obtain ⟨v, vm₁, ⟨U', l2, c2, s2⟩, hW₁, X', ⟨g', mk, t, L, e1, e2, hq, h1, hL, h2, h3⟩, st⟩ := vx_callSW X hx (hh := hh) (bytes := bytes) (maxL := maxL) (ret := ret) ho hl hstt hini hcode hy hK hg (hsize.trans hml.symm) (argsL := As) (rest := rest) (fun sig h => hn.trans (hlen sig h)) hstack hW (by rw [hb]; exact hdg)
    (fun vm₁ hW₁ => ⟨hf.1, hf.2, hp.2 (T.setVm vm₁) hT hW₁⟩)
  dsimp only [Pt.U, Pt.locs, Pt.cells, Pt.slots] at X' e1 e2 h1 h2 h3 st
  subst h1; subst h2; subst h3
  exact ⟨v, (T.setVm vm₁).calling g' mk As.toArray, t, U', L, hT, X', hL, e1, e2, hq, st⟩
/-- not caught here, past rows that name other classes: it goes on to the caller -/
theorem vx_outP {p : Program} {l : Launch} {e : Env} {R : Room} {s : State} {m : MethodId} {args : Array Value} {below : List Frame} {meth : Method} {c : Code} {H : Heap} {locs : List Loc} {cells slots : Nat} {free : Addr → Prop} {ls : Array Slot} {rest : List Value} {Qc : Array Value → State → Outcome → State → Prop} {XC : String → State → State → Prop}
    {pc : Nat} {own E : String} {ce : Cell} {q : Addr} {mc ms : Nat} (hown : s.vm.findClass own = some m.cls) (hlocks : meth.locks = false)
    (hpass : ∀ z ∈ c.exceptionTable.toList, covers z pc = false ∨ (z.catchType ≠ 0 ∧ ∃ nm : String, (Cond.classLink own z.catchType nm).before args s = true ∧ va_Nc E nm s)) (hcell : H[q]? = some ce) (hv : ce.vm = .none) (hcl : s.vm.findClass E = some ce.cls)
    (hx : ∀ t : State, t.heap = H → s.vm.Alike t.vm → XC E s t) (hf : ∀ z ∈ locs, free z.base) (hc : cells ≤ mc) (hs : slots ≤ ms) :
    vx_W p l e R s m args below meth c H locs cells slots (vx_MQ below Qc XC args s mc ms free) (F0 m pc ls rest) q := by
  intro T hT X
  have hpl : e.platform.magicAccessors = ({} : Platform).magicAccessors := by rw [X.admits.platform]
  obtain ⟨vm', hW', X', st⟩ := X.outThrough hlocks q (g := F0 m pc ls rest) rfl rfl rfl (cell := ce) (by rw [hT]; exact hcell) (by rw [hv]; rfl)
    (by obtain ⟨k9, h9, -⟩ := Vm.findClass_spec hcl; exact ⟨k9, h9⟩) (fun z hz => by
      rcases hpass z hz with h | ⟨hz0, nm, hl1, hn1⟩
      · exact Or.inl h
      · obtain ⟨c6, hc6, hcl6⟩ := Cond.classLink_spec hown hl1 e.platform hpl
        obtain ⟨a8, b8, h1, h2, h3⟩ := hn1
        cases Option.some.inj (h1.symm.trans hcl)
        cases Option.some.inj (h2.symm.trans hc6)
        exact Or.inr ⟨hz0, _, hcl6, h3⟩)
  obtain ⟨g₀, hfr⟩ := X'.frames_eq
  have hcell9 : ((T.setVm vm').setFrames (.throwing q :: below)).heap[q]? = some ce := by
    show T.heap[q]? = some ce
    rw [hT]; exact hcell
  have hend : Ended ((T.setVm vm').setFrames (.throwing q :: below)) below (.threw q) := State.frames_setFrames _ (State.cur_lt_of_frames hfr)
  refine ⟨(T.setVm vm').setFrames (.throwing q :: below), ?_, .threw q, X'.here.running, hend, Or.inr ⟨q, rfl, E, ce, locs, hx _ hT (X'.ends _).1.alike, hcell9, hv, hcl, (X'.ends _).1, (X'.ends _).2.mono hc hs, hf⟩⟩
  rw [X.pushThrowing_eq]
  exact st
/-- a thing of a world lies in the heap -/
theorem vx_lt {D : va_G} {cl : List vw_C} {ws : va_W} {H1 : Heap} (h : va_P D cl ws H1) {k : Nat} {q : Nat × va_E} (hk : ws[k]? = some q) : q.1 < H1.size := (h k q hk).lt
end VXS
/-! ===== END ===== -/
/-! ===== BEGIN methods with a table of their own: called by a name, returning or throwing ===== -/
section VXH
/-! vx_backW, vx_callVX, vx_callSX, vx_callVW, vx_runVW, vx_runVX, vx_runSX, vx_ofWH follow the same proofs as their sisters above (Free/Laws.lean, Shelf42/LK1.lean); vx_outP calls Shelf42/NT130.lean (outThrough). -/
section
variable {l : Launch} {R : Room} {p : Program} {e : Env} {below : List Frame} {s : State} {sargs : Array Value} {y : MethodName} {len W9 : Nat}
theorem vx_backW {ws : List Cond} {rm : Room} {Pc : Array Value → State → Prop} {Qc : Array Value → State → Outcome → State → Prop} {XC : String → State → State → Prop} {mc ms : Nat} {free : Addr → Prop} {bytes : ByteArray} {maxL : Nat} {ret : Option FieldType} {hh : List (Nat × Nat × Nat × Nat)}
    (hM : vx_Met l y ws rm Pc Qc XC mc ms free) (hblind : FrameBlind Pc) (hrc : rm.cells = mc) (hrs : rm.slots = ms)
    (hframes : rm.frames + 1 ≤ R.frames) (hlocals : W9 + (maxL + 11) + rm.locals ≤ R.locals)
    (hws : ∀ w ∈ ws, ∀ a' U, s.WarmedH U.vm → w.before a' U = true) (hcode : Cond.codeWith y bytes maxL ret hh ∈ ws) (hinit : ∀ a' U, s.WarmedH U.vm → (Cond.initialized y.cls).before a' U = true) :
    vx_Back l R p e below s sargs y len W9 (PreOf R mc ms Pc) (PostOf Qc mc ms free) (vx_Post XC mc ms free) := by
  intro m meth c A g ig mk a X hg hsize hdg hW hn hp
  have h1 : (headSpec ws rm).pre.before a A.U = true := atoms_intro fun w hw => hws w hw _ _ X.warmed
  have h2 : (Cond.codeWith y bytes maxL ret hh).before a A.U = true := hws _ hcode _ _ X.warmed
  have h3 : (Cond.initialized y.cls).before a A.U = true := hinit _ _ X.warmed
  have h4 : A.cells + (headSpec ws rm).room.cells ≤ R.cells := by rw [show (headSpec ws rm).room.cells = mc from hrc]; exact hp.1
  have h5 : A.slots + (headSpec ws rm).room.slots ≤ R.slots := by rw [show (headSpec ws rm).room.slots = ms from hrs]; exact hp.2.1
  have hPc : Pc a (A.U.calling g mk a) := hblind _ _ _ _ hp.2.2
  obtain ⟨U, Ls, c0, s0⟩ := A
  dsimp only [Pt.U, Pt.locs, Pt.cells, Pt.slots] at h1 h2 h3 h4 h5 X hn hPc ⊢
  obtain ⟨m9, methY, cY, hn9, hmY, hcY, -, hlY, -⟩ := Cond.codeWith_spec h2
  cases Option.some.inj (hn9.symm.trans hn)
  obtain ⟨kY, hkY, -⟩ := className_of_methodNamed hn
  have hinitY : kY.init = .initialized := Cond.initialized_spec (findClass_of_methodNamed hn) hkY h3
  have h : At U g.method c below := by rw [hg]; exact X.here
  have hlocals9 : W9 + (maxL + 11) + (headSpec ws rm).room.locals ≤ R.locals := hlocals
  have happ : (headSpec ws rm).appliesLoose y e.platform (U.calling g mk a) = true :=
    Spec.appliesLoose_calling (g := g) h hdg hn hkY hinitY
      (X.room_calling (g := g) (R' := (headSpec ws rm).room) hsize hmY hcY hframes (by rw [hlY]; omega) h4 h5) h1
  obtain ⟨mid, hmid⟩ := h.above
  have hfr : (U.setTop g).frames = (.java g :: mid) ++ below := by rw [State.frames_setTop' g h.top, hmid]; rfl
  obtain ⟨o, s₂, hsteps, -, hend, hq⟩ := Steps.callFree hM p X.admits X.cas X.clock (acts := []) hfr happ hPc trivial
  have hq' : vx_Q Qc XC mc ms free a (U.calling g mk a) o s₂ := hq
  rw [State.frames_setTop' g h.top] at hend
  obtain ⟨g₀, hg0⟩ := Option.isSome_iff_exists.mp h.top
  obtain ⟨r, hr⟩ := State.topJava?_eq_some.mp hg0
  have hr' : (({ U with heap := s₂.heap, slotsUsed := s₂.slotsUsed } : State).setVm s₂.vm).frames = .java g₀ :: r := hr
  rcases hq' with ⟨hqc, L, hfe, hL⟩ | ⟨q, rfl, E, ce, L, hx, hce, hcv, hcl, hW₂, hsm, hL⟩
  · obtain ⟨⟨v, rfl⟩, hW₂, e2, q2, q3, q4, q5, q6⟩ := id hfe
    have e3 : s₂ = ({ (U.calling g mk a).setFrames s₂.frames with heap := s₂.heap, slotsUsed := s₂.slotsUsed } : State).setVm s₂.vm := by
      have : s₂ = ({ s₂ with vm := (U.calling g mk a).vm } : State).setVm s₂.vm := rfl
      rw [e2] at this
      exact this
    obtain ⟨c₂, i₂, len₂, hc₂, hd₂, hf₂⟩ := hend
    have hW' : U.WarmedH s₂.vm := hW₂
    have hcc : c₂ = c := by
      have h1 : s₂.code? g.method = U.code? g.method := by
        rw [State.code?_eq, State.code?_eq, hW'.alike.method?]
      exact Option.some.inj (hc₂.symm.trans (h1.trans h.code))
    subst hcc
    have hlen : len₂ = len := by rw [hdg] at hd₂; cases hd₂; rfl
    subst hlen
    have hs₂ : s₂ = (({ U with heap := s₂.heap, slotsUsed := s₂.slotsUsed } : State).setVm s₂.vm).setTop { g with pc := g.pc + len₂, stack := v.toList ++ g.stack } := by
      refine e3.trans ?_
      rw [hf₂, State.calling_eq h.top, State.setFrames_setFrames, State.setTop_of_frames _ hr', hr]
      rfl
    have hsame : U.sameButNew ({ U with heap := s₂.heap, slotsUsed := s₂.slotsUsed } : State) L mc ms := by
      refine ⟨?_, q2, q3, q4, q5, q6⟩
      obtain ⟨t, ht, -⟩ := State.frames_cons hr
      show ({ U with heap := s₂.heap, slotsUsed := s₂.slotsUsed } : State) = { U.setFrames U.frames with heap := s₂.heap, slotsUsed := s₂.slotsUsed }
      rw [State.setFrames_self ht]
    subst hg
    refine Or.inl ⟨v, ⟨(({ U with heap := s₂.heap, slotsUsed := s₂.slotsUsed } : State).setVm s₂.vm), Ls ++ L, c0 + mc, s0 + ms⟩,
      ⟨X.admits, X.cas, X.clock, X.frames, X.room, X.hears, X.method, X.code, (X.here.setHeapUsed s₂.heap s₂.slotsUsed).setVm hW'.alike, X.tail, State.WarmedH.trans X.warmed hW', X.limits, X.bytes, X.same.trans (hsame.setVm s.vm)⟩,
      ⟨g, mk, s₂, L, rfl, rfl, hqc, rfl, hL, rfl, rfl⟩, ?_⟩
    show Steps p.tables e below _ ((({ U with heap := s₂.heap, slotsUsed := s₂.slotsUsed } : State).setVm s₂.vm).setTop { g with pc := g.pc + len₂, stack := v.toList ++ g.stack })
    rw [← hs₂]
    exact hsteps
  · obtain ⟨e2, q2, q3, q4, q5, q6⟩ := id hsm
    have e3 : s₂ = ({ (U.calling g mk a).setFrames s₂.frames with heap := s₂.heap, slotsUsed := s₂.slotsUsed } : State).setVm s₂.vm := by
      have : s₂ = ({ s₂ with vm := (U.calling g mk a).vm } : State).setVm s₂.vm := rfl
      rw [e2] at this
      exact this
    have hf₂ : s₂.frames = .throwing q :: .java g :: U.frames.tail := hend
    have hW' : U.WarmedH s₂.vm := hW₂
    have hs₂ : s₂ = ((({ U with heap := s₂.heap, slotsUsed := s₂.slotsUsed } : State).setVm s₂.vm).setTop g).pushFrame (.throwing q) := by
      refine e3.trans ?_
      rw [hf₂, State.calling_eq h.top, State.setFrames_setFrames, State.pushFrame, State.frames_setTop _ hr', State.setTop_of_frames _ hr', State.setFrames_setFrames, hr]
      rfl
    have hsame : U.sameButNew ({ U with heap := s₂.heap, slotsUsed := s₂.slotsUsed } : State) L mc ms := by
      refine ⟨?_, q2, q3, q4, q5, q6⟩
      obtain ⟨t, ht, -⟩ := State.frames_cons hr
      show ({ U with heap := s₂.heap, slotsUsed := s₂.slotsUsed } : State) = { U.setFrames U.frames with heap := s₂.heap, slotsUsed := s₂.slotsUsed }
      rw [State.setFrames_self ht]
    subst hg
    refine Or.inr ⟨q, ⟨(({ U with heap := s₂.heap, slotsUsed := s₂.slotsUsed } : State).setVm s₂.vm), Ls ++ L, c0 + mc, s0 + ms⟩,
      ⟨X.admits, X.cas, X.clock, X.frames, X.room, X.hears, X.method, X.code, (X.here.setHeapUsed s₂.heap s₂.slotsUsed).setVm hW'.alike, X.tail, State.WarmedH.trans X.warmed hW', X.limits, X.bytes, X.same.trans (hsame.setVm s.vm)⟩,
      ⟨g, mk, s₂, L, E, ce, rfl, rfl, hx, hce, hcv, hcl, rfl, hL, rfl, rfl⟩, ?_⟩
    show Steps p.tables e below _ (((({ U with heap := s₂.heap, slotsUsed := s₂.slotsUsed } : State).setVm s₂.vm).setTop g).pushFrame (.throwing q))
    rw [← hs₂]
    exact hsteps
end
variable {p : Program} {l : Launch} {e : Env} {R : Room} {s : State} {m : MethodId} {args : Array Value} {below : List Frame} {meth : Method} {c : Code} {T : State} {H : Heap} {locs : List Loc} {cells slots : Nat}
theorem vx_callVX (X : Stand p l e R s m args below meth c T locs cells slots) (hexec : p.tables.exec = Jvm.exec) {own C : String} {index : Nat} {y : MethodName} {bytes : ByteArray} {maxL : Nat} {ret : Option FieldType} {hh : List (Nat × Nat × Nat × Nat)}
    (hown : s.vm.findClass own = some m.cls) (hlink : (Cond.methodLink own index y).before args s = true) (hinst : (Cond.instanceMethod y).before args s = true) (hsel : (Cond.selects C y y).before args s = true)
    (hcode : (Cond.codeWith y bytes maxL ret hh).before args s = true) (hy : y.cls ≠ "java/lang/invoke/MethodHandle" ∧ y.cls ≠ "java/lang/invoke/VarHandle")
    {W9 : Nat} {Pre : Pt → Array Value → Prop} {Post : Pt → Array Value → Option Value → Pt → Prop} {PostX : Pt → Array Value → Addr → Pt → Prop} (hK : vx_Back l R p e below s args y 3 W9 Pre Post PostX)
    {b : Addr} {cellB : Cell} (hcell : T.heap[b]? = some cellB) (hobj : cellB.vm.isStatics = false) (hcls : s.vm.findClass C = some cellB.cls)
    {g : JFrame} (hg : g.method = m) (hsize : g.locals.size = c.maxLocals) {argsL rest : List Value} (hlen : ∀ sig, parseMethodDescriptor y.desc = some sig → argsL.length = sig.parameters.length)
    (hstack : g.stack = argsL.reverse ++ .ref b :: rest) (hW : 2 * g.monitorRoom + (rest.map fun v => v.category).sum ≤ W9) (hdg : decode c.code g.pc = .ok (.invokevirtual index, 3))
    (hpre : ∀ vm₁, s.WarmedH vm₁ → Pre ⟨T.setVm vm₁, locs, cells, slots⟩ (Value.ref b :: argsL).toArray) :
    (∃ (v : Option Value) (vm₁ : Vm) (B : Pt), s.WarmedH vm₁ ∧ Stand p l e R s m args below meth c B.U B.locs B.cells B.slots ∧ Post ⟨T.setVm vm₁, locs, cells, slots⟩ (Value.ref b :: argsL).toArray v B ∧
      ∀ target, Steps p.tables e below (B.U.setTop { g with pc := g.pc + 3, stack := v.toList ++ rest }) target → Steps p.tables e below (T.setTop g) target) ∨
    (∃ (q : Addr) (vm₁ : Vm) (B : Pt), s.WarmedH vm₁ ∧ Stand p l e R s m args below meth c B.U B.locs B.cells B.slots ∧ PostX ⟨T.setVm vm₁, locs, cells, slots⟩ (Value.ref b :: argsL).toArray q B ∧
      Steps p.tables e below (T.setTop g) ((B.U.setTop { g with stack := rest }).pushFrame (.throwing q))) := by
  obtain ⟨mk, methM, hnamed, hmethM, hstM, habM⟩ := Cond.instanceMethod_spec hinst
  obtain ⟨m8, methM', cM, hn8, hmethM', -, -, -, -, -, -, hsigM⟩ := Cond.codeWith_spec hcode
  cases Option.some.inj (hn8.symm.trans hnamed)
  cases hmethM.symm.trans hmethM'
  obtain ⟨c2, r2, m2, q1, q2, q3, q4, kP, hkP, hkPi⟩ := Cond.selects_spec hsel
  cases hcls.symm.trans q1
  cases (State.methodFound?_of_named hnamed hy).symm.trans q2
  cases hnamed.symm.trans q3
  have hselP : selectMethod e.platform s.vm cellB.cls mk = .method mk := by rw [Launch.admits_selectMethod X.admits]; exact q4
  obtain ⟨vm₁, X₁, hstep₁⟩ := X.invokevirtual hexec hown hlink hnamed hmethM hstM hkP hkPi hy (a := b) (cell := cellB) hcell
    (fun z h => by rw [h] at hobj; cases hobj) hselP hmethM habM hkP hkPi (g := g) hg (argsL := argsL) (rest := rest) (hlen _ hsigM) hstack hdg
  rcases hK m meth c ⟨T.setVm vm₁, locs, cells, slots⟩ { g with stack := rest } (.invokevirtual index) mk (Value.ref b :: argsL).toArray X₁ hg hsize hdg hW (X₁.named hnamed) (hpre vm₁ X₁.warmed) with ⟨v, B, X', hpost, hsteps⟩ | ⟨q, B, X', hpost, hsteps⟩
  · exact Or.inl ⟨v, vm₁, B, X₁.warmed, X', hpost, fun target h => hstep₁ _ fun acts => by rw [doInvoke_state]; exact hsteps.trans h⟩
  · exact Or.inr ⟨q, vm₁, B, X₁.warmed, X', hpost, hstep₁ _ fun acts => by rw [doInvoke_state]; exact hsteps⟩
theorem vx_callSX (X : Stand p l e R s m args below meth c T locs cells slots) (hexec : p.tables.exec = Jvm.exec) {own : String} {index : Nat} {y : MethodName} {bytes : ByteArray} {maxL : Nat} {ret : Option FieldType} {hh : List (Nat × Nat × Nat × Nat)}
    (hown : s.vm.findClass own = some m.cls) (hlink : (Cond.methodLink own index y).before args s = true) (hstat : (Cond.static y).before args s = true) (hinit : (Cond.initialized y.cls).before args s = true)
    (hcode : (Cond.codeWith y bytes maxL ret hh).before args s = true) (hy : y.cls ≠ "java/lang/invoke/MethodHandle" ∧ y.cls ≠ "java/lang/invoke/VarHandle")
    {W9 : Nat} {Pre : Pt → Array Value → Prop} {Post : Pt → Array Value → Option Value → Pt → Prop} {PostX : Pt → Array Value → Addr → Pt → Prop} (hK : vx_Back l R p e below s args y 3 W9 Pre Post PostX)
    {g : JFrame} (hg : g.method = m) (hsize : g.locals.size = c.maxLocals) {argsL rest : List Value} (hlen : ∀ sig, parseMethodDescriptor y.desc = some sig → argsL.length = sig.parameters.length)
    (hstack : g.stack = argsL.reverse ++ rest) (hW : 2 * g.monitorRoom + (rest.map fun v => v.category).sum ≤ W9) (hdg : decode c.code g.pc = .ok (.invokestatic index, 3))
    (hpre : ∀ vm₁, s.WarmedH vm₁ → Pre ⟨T.setVm vm₁, locs, cells, slots⟩ argsL.toArray) :
    (∃ (v : Option Value) (vm₁ : Vm) (B : Pt), s.WarmedH vm₁ ∧ Stand p l e R s m args below meth c B.U B.locs B.cells B.slots ∧ Post ⟨T.setVm vm₁, locs, cells, slots⟩ argsL.toArray v B ∧
      ∀ target, Steps p.tables e below (B.U.setTop { g with pc := g.pc + 3, stack := v.toList ++ rest }) target → Steps p.tables e below (T.setTop g) target) ∨
    (∃ (q : Addr) (vm₁ : Vm) (B : Pt), s.WarmedH vm₁ ∧ Stand p l e R s m args below meth c B.U B.locs B.cells B.slots ∧ PostX ⟨T.setVm vm₁, locs, cells, slots⟩ argsL.toArray q B ∧
      Steps p.tables e below (T.setTop g) ((B.U.setTop { g with stack := rest }).pushFrame (.throwing q))) := by
  obtain ⟨mk, methM, cM, hnamed, hmethM, -, -, -, -, -, -, hsigM⟩ := Cond.codeWith_spec hcode
  have hstatic : methM.isStatic = true := Cond.static_spec hnamed hmethM hstat
  obtain ⟨kP, hkP, -⟩ := className_of_methodNamed hnamed
  have hinitP : kP.init = .initialized := Cond.initialized_spec (findClass_of_methodNamed hnamed) hkP hinit
  obtain ⟨vm₁, X₁, hstep₁⟩ := X.invokestatic hexec hown hlink hnamed hmethM hstatic hkP hinitP hy (g := g) hg (argsL := argsL) (rest := rest) (hlen _ hsigM) hstack hdg
  rcases hK m meth c ⟨T.setVm vm₁, locs, cells, slots⟩ { g with stack := rest } (.invokestatic index) mk argsL.toArray X₁ hg hsize hdg hW (X₁.named hnamed) (hpre vm₁ X₁.warmed) with ⟨v, B, X', hpost, hsteps⟩ | ⟨q, B, X', hpost, hsteps⟩
  · exact Or.inl ⟨v, vm₁, B, X₁.warmed, X', hpost, fun target h => hstep₁ _ fun acts => by rw [doInvoke_state]; exact hsteps.trans h⟩
  · exact Or.inr ⟨q, vm₁, B, X₁.warmed, X', hpost, hstep₁ _ fun acts => by rw [doInvoke_state]; exact hsteps⟩
theorem vx_callVW (X : Stand p l e R s m args below meth c T locs cells slots) (hexec : p.tables.exec = Jvm.exec) {own C : String} {index : Nat} {y : MethodName} {bytes : ByteArray} {maxL : Nat} {ret : Option FieldType} {hh : List (Nat × Nat × Nat × Nat)}
    (hown : s.vm.findClass own = some m.cls) (hlink : (Cond.methodLink own index y).before args s = true) (hinst : (Cond.instanceMethod y).before args s = true) (hsel : (Cond.selects C y y).before args s = true)
    (hcode : (Cond.codeWith y bytes maxL ret hh).before args s = true) (hy : y.cls ≠ "java/lang/invoke/MethodHandle" ∧ y.cls ≠ "java/lang/invoke/VarHandle")
    {W9 : Nat} {Pre : Pt → Array Value → Prop} {Post : Pt → Array Value → Option Value → Pt → Prop} (hK : Back l R p e below s args y 3 W9 Pre Post)
    {b : Addr} {cellB : Cell} (hcell : T.heap[b]? = some cellB) (hobj : cellB.vm.isStatics = false) (hcls : s.vm.findClass C = some cellB.cls)
    {g : JFrame} (hg : g.method = m) (hsize : g.locals.size = c.maxLocals) {argsL rest : List Value} (hlen : ∀ sig, parseMethodDescriptor y.desc = some sig → argsL.length = sig.parameters.length)
    (hstack : g.stack = argsL.reverse ++ .ref b :: rest) (hW : 2 * g.monitorRoom + (rest.map fun v => v.category).sum ≤ W9) (hdg : decode c.code g.pc = .ok (.invokevirtual index, 3))
    (hpre : ∀ vm₁, s.WarmedH vm₁ → Pre ⟨T.setVm vm₁, locs, cells, slots⟩ (Value.ref b :: argsL).toArray) :
    ∃ (v : Option Value) (vm₁ : Vm) (B : Pt), s.WarmedH vm₁ ∧ Stand p l e R s m args below meth c B.U B.locs B.cells B.slots ∧ Post ⟨T.setVm vm₁, locs, cells, slots⟩ (Value.ref b :: argsL).toArray v B ∧
      ∀ target, Steps p.tables e below (B.U.setTop { g with pc := g.pc + 3, stack := v.toList ++ rest }) target → Steps p.tables e below (T.setTop g) target := by
  obtain ⟨mk, methM, hnamed, hmethM, hstM, habM⟩ := Cond.instanceMethod_spec hinst
  obtain ⟨m8, methM', cM, hn8, hmethM', -, -, -, -, -, -, hsigM⟩ := Cond.codeWith_spec hcode
  cases Option.some.inj (hn8.symm.trans hnamed)
  cases hmethM.symm.trans hmethM'
  obtain ⟨c2, r2, m2, q1, q2, q3, q4, kP, hkP, hkPi⟩ := Cond.selects_spec hsel
  cases hcls.symm.trans q1
  cases (State.methodFound?_of_named hnamed hy).symm.trans q2
  cases hnamed.symm.trans q3
  have hselP : selectMethod e.platform s.vm cellB.cls mk = .method mk := by rw [Launch.admits_selectMethod X.admits]; exact q4
  obtain ⟨vm₁, X₁, hstep₁⟩ := X.invokevirtual hexec hown hlink hnamed hmethM hstM hkP hkPi hy (a := b) (cell := cellB) hcell
    (fun z h => by rw [h] at hobj; cases hobj) hselP hmethM habM hkP hkPi (g := g) hg (argsL := argsL) (rest := rest) (hlen _ hsigM) hstack hdg
  obtain ⟨v, B, X', hpost, hsteps⟩ := hK m meth c ⟨T.setVm vm₁, locs, cells, slots⟩ { g with stack := rest } (.invokevirtual index) mk (Value.ref b :: argsL).toArray X₁ hg hsize hdg hW (X₁.named hnamed) (hpre vm₁ X₁.warmed)
  exact ⟨v, vm₁, B, X₁.warmed, X', hpost, fun target h => hstep₁ _ fun acts => by rw [doInvoke_state]; exact hsteps.trans h⟩
abbrev vx_CVW (R : Room) (s : State) (args : Array Value) (own C : String) (index : Nat) (y : MethodName) (bytes : ByteArray) (maxL : Nat) (ret : Option FieldType) (hh : List (Nat × Nat × Nat × Nat)) (ws : List Cond) (rm : Room) (mc ms n : Nat) : Prop :=
  (rm.cells = mc ∧ rm.slots = ms ∧ rm.frames + 1 ≤ R.frames ∧ 8 + (maxL + 11) + rm.locals ≤ R.locals ∧ (∀ w ∈ ws, ∀ (a' : Array Value) (U : State), s.WarmedH U.vm → w.before a' U = true) ∧ Cond.codeWith y bytes maxL ret hh ∈ ws) ∧
  (Cond.codeWith y bytes maxL ret hh).before args s = true ∧ (Cond.initialized y.cls).before args s = true ∧ (y.cls ≠ "java/lang/invoke/MethodHandle" ∧ y.cls ≠ "java/lang/invoke/VarHandle") ∧
  (∀ sig, parseMethodDescriptor y.desc = some sig → n = sig.parameters.length) ∧ (Cond.methodLink own index y).before args s = true ∧ (Cond.instanceMethod y).before args s = true ∧ (Cond.selects C y y).before args s = true
theorem vx_cwVW {own C : String} {index maxL mc ms : Nat} {y : MethodName} {bytes : ByteArray} {ret : Option FieldType} {hh : List (Nat × Nat × Nat × Nat)} {Ts ws ws' : List Cond} {rm : Room} (n : Nat) (ht : ∀ w ∈ Ts, w.before args s = true) (hT : GoodIn Ts (wsV own index C y ws)) (hw : ws = Cond.codeWith y bytes maxL ret hh :: ws') (hrc : rm.cells = mc) (hrs : rm.slots = ms)
    (hd : y.cls = C ∧ y.cls ≠ "java/lang/invoke/MethodHandle" ∧ y.cls ≠ "java/lang/invoke/VarHandle" ∧ (parseMethodDescriptor y.desc).map (fun d => d.parameters.length) = some n) (hR : rm.frames + 1 ≤ R.frames ∧ 8 + (maxL + 11) + rm.locals ≤ R.locals) :
    vx_CVW R s args own C index y bytes maxL ret hh ws rm mc ms n := by
  obtain ⟨hC, hd⟩ := hd
  subst hC
  have ok : ∀ w ∈ wsV own index y.cls y ws, w.before args s = true := fun w h => ht w (hT w h).1
  have hG : GoodIn Ts ws := fun w h => hT w (by unfold wsV; exact List.mem_append_right _ h)
  have hc : Cond.codeWith y bytes maxL ret hh ∈ ws := by rw [hw]; exact List.mem_cons_self
  refine ⟨⟨hrc, hrs, hR.1, hR.2, pay_in ht hG, hc⟩, ht _ (hG _ hc).1, ok _ (by simp [wsV]), ⟨hd.1, hd.2.1⟩, fun sig h => ?_, ok _ (by simp [wsV]), ok _ (by simp [wsV]), ok _ (by simp [wsV])⟩
  have h2 := hd.2.2
  rw [h] at h2
  exact (Option.some.inj h2).symm
theorem vx_runVW {y : MethodName} {bytes cc : ByteArray} {maxL nL mc ms n index : Nat} {ret : Option FieldType} {hh : List (Nat × Nat × Nat × Nat)} {ws : List Cond} {rm : Room} {Pc : Array Value → State → Prop} {Qc : Array Value → State → Outcome → State → Prop} {free : Addr → Prop} {Ts : List Cond} {own C : String} {b : Addr} {As rest : List Value} {g : JFrame}
    (S : CallFix p m c cc nL s args Ts own) (hM : Met l y ws rm Pc Qc mc ms free) (cw : vx_CVW R s args own C index y bytes maxL ret hh ws rm mc ms n) (hp : PreV s H C b Pc As)
    (hg : g.method = m) (hn : As.length = n) (hsize : g.locals.size = nL) (hstack : g.stack = As.reverse ++ .ref b :: rest) (hW : 2 * g.monitorRoom + (rest.map fun v => v.category).sum ≤ 8) (hdg : decode cc g.pc = .ok (.invokevirtual index, 3)) (hf : cells + mc ≤ R.cells ∧ slots + ms ≤ R.slots) :
    va_Run p l e R s m args below meth c H locs cells slots mc ms g rest (Qc (Value.ref b :: As).toArray) free := by
  obtain ⟨⟨hrc, hrs, hfr, hlo, hws, hcw⟩, hcode, hini, hy, hlen, hl, hin, hse⟩ := cw
  have hK : Back l R p e below s args y 3 8 (PreOf R mc ms Pc) (PostOf Qc mc ms free) := va_backW (hh := hh) (bytes := bytes) (maxL := maxL) (ret := ret) hM hp.1 hrc hrs hfr hlo hws hcw (fun a' U hW => word_at hW (Or.inl (by first | rfl | simp [Cond.onTables, Cond.keeps, Cond.steady])) hini)
  obtain ⟨hx, hb, hml, ho, -⟩ := S
  obtain ⟨-, ⟨cellB, hcB, hoB, hclB⟩, hPc⟩ := hp
  intro T hT X
  obtain ⟨v, vm₁, ⟨U', l2, c2, s2⟩, hW₁, X', ⟨g', mk, t, L, e1, e2, hq, h1, hL, h2, h3⟩, st⟩ := vx_callVW X hx (C := C) (hh := hh) (bytes := bytes) (maxL := maxL) (ret := ret) ho hl hin hse hcode hy hK (by rw [hT]; exact hcB) hoB hclB hg (hsize.trans hml.symm) (argsL := As) (rest := rest) (fun sig h => hn.trans (hlen sig h)) hstack hW (by rw [hb]; exact hdg)
    (fun vm₁ hW₁ => ⟨hf.1, hf.2, hPc (T.setVm vm₁) hT hW₁⟩)
  dsimp only [Pt.U, Pt.locs, Pt.cells, Pt.slots] at X' e1 e2 h1 h2 h3 st
  subst h1; subst h2; subst h3
  exact ⟨v, (T.setVm vm₁).calling g' mk (Value.ref b :: As).toArray, t, U', L, hT, X', hL, e1, e2, hq, st⟩
section
variable {y : MethodName} {bytes cc : ByteArray} {maxL nL mc ms n index : Nat} {ret : Option FieldType} {ws : List Cond} {rm : Room} {Pc : Array Value → State → Prop} {Qc : Array Value → State → Outcome → State → Prop} {XC : String → State → State → Prop} {free : Addr → Prop} {Ts : List Cond} {own C : String} {b : Addr} {As rest : List Value} {g : JFrame}
theorem vx_runVX {hh : List (Nat × Nat × Nat × Nat)} (S : CallFix p m c cc nL s args Ts own) (hM : vx_Met l y ws rm Pc Qc XC mc ms free) (cw : vx_CVW R s args own C index y bytes maxL ret hh ws rm mc ms n) (hp : PreV s H C b Pc As)
    (hg : g.method = m) (hn : As.length = n) (hsize : g.locals.size = nL) (hstack : g.stack = As.reverse ++ .ref b :: rest) (hW : 2 * g.monitorRoom + (rest.map fun v => v.category).sum ≤ 8) (hdg : decode cc g.pc = .ok (.invokevirtual index, 3)) (hf : cells + mc ≤ R.cells ∧ slots + ms ≤ R.slots) :
    vx_Run p l e R s m args below meth c H locs cells slots mc ms g rest (Qc (Value.ref b :: As).toArray) XC free := by
  obtain ⟨⟨hrc, hrs, hfr, hlo, hws, hcw⟩, hcode, hini, hy, hlen, hl, hin, hse⟩ := cw
  have hK : vx_Back l R p e below s args y 3 8 (PreOf R mc ms Pc) (PostOf Qc mc ms free) (vx_Post XC mc ms free) := vx_backW (hh := hh) (bytes := bytes) (maxL := maxL) (ret := ret) hM hp.1 hrc hrs hfr hlo hws hcw (fun a' U hW => word_at hW (Or.inl (by first | rfl | simp [Cond.onTables, Cond.keeps, Cond.steady])) hini)
  obtain ⟨hx, hb, hml, ho, -⟩ := S
  obtain ⟨-, ⟨cellB, hcB, hoB, hclB⟩, hPc⟩ := hp
  intro T hT X
  rcases vx_callVX X hx (C := C) (hh := hh) (bytes := bytes) (maxL := maxL) (ret := ret) ho hl hin hse hcode hy hK (by rw [hT]; exact hcB) hoB hclB hg (hsize.trans hml.symm) (argsL := As) (rest := rest) (fun sig h => hn.trans (hlen sig h)) hstack hW (by rw [hb]; exact hdg)
    (fun vm₁ hW₁ => ⟨hf.1, hf.2, hPc (T.setVm vm₁) hT hW₁⟩) with ⟨v, vm₁, ⟨U', l2, c2, s2⟩, hW₁, X', ⟨g', mk, t, L, e1, e2, hq, h1, hL, h2, h3⟩, st⟩ | ⟨q, vm₁, ⟨U', l2, c2, s2⟩, hW₁, X', ⟨g', mk, t, L, E, ce, e1, e2, hq, hce, hcv, hcl, h1, hL, h2, h3⟩, st⟩
  · dsimp only [Pt.U, Pt.locs, Pt.cells, Pt.slots] at X' e1 e2 h1 h2 h3 st
    subst h1; subst h2; subst h3
    exact Or.inl ⟨v, (T.setVm vm₁).calling g' mk (Value.ref b :: As).toArray, t, U', L, hT, X', hL, e1, e2, hq, st⟩
  · dsimp only [Pt.U, Pt.locs, Pt.cells, Pt.slots] at X' e1 e2 h1 h2 h3 st hcl
    subst h1; subst h2; subst h3
    exact Or.inr ⟨q, (T.setVm vm₁).calling g' mk (Value.ref b :: As).toArray, t, U', L, E, ce, hT, X', hL, e1, e2, hq, hce, hcv, vx_cls hW₁ hcl, st⟩
theorem vx_runSX {hh : List (Nat × Nat × Nat × Nat)} (S : CallFix p m c cc nL s args Ts own) (hM : vx_Met l y ws rm Pc Qc XC mc ms free) (cw : vx_CSW R s args own index y bytes maxL ret hh ws rm mc ms n) (hp : PreS s H Pc As)
    (hg : g.method = m) (hn : As.length = n) (hsize : g.locals.size = nL) (hstack : g.stack = As.reverse ++ rest) (hW : 2 * g.monitorRoom + (rest.map fun v => v.category).sum ≤ 8) (hdg : decode cc g.pc = .ok (.invokestatic index, 3)) (hf : cells + mc ≤ R.cells ∧ slots + ms ≤ R.slots) :
    vx_Run p l e R s m args below meth c H locs cells slots mc ms g rest (Qc As.toArray) XC free := by
  obtain ⟨⟨hrc, hrs, hfr, hlo, hws, hcw⟩, hcode, hini, hy, hlen, hl, hstt⟩ := cw
  have hK : vx_Back l R p e below s args y 3 8 (PreOf R mc ms Pc) (PostOf Qc mc ms free) (vx_Post XC mc ms free) := vx_backW (hh := hh) (bytes := bytes) (maxL := maxL) (ret := ret) hM hp.1 hrc hrs hfr hlo hws hcw (fun a' U hW => word_at hW (Or.inl (by first | rfl | simp [Cond.onTables, Cond.keeps, Cond.steady])) hini)
  obtain ⟨hx, hb, hml, ho, -⟩ := S
  intro T hT X
  rcases vx_callSX X hx (hh := hh) (bytes := bytes) (maxL := maxL) (ret := ret) ho hl hstt hini hcode hy hK hg (hsize.trans hml.symm) (argsL := As) (rest := rest) (fun sig h => hn.trans (hlen sig h)) hstack hW (by rw [hb]; exact hdg)
    (fun vm₁ hW₁ => ⟨hf.1, hf.2, hp.2 (T.setVm vm₁) hT hW₁⟩) with ⟨v, vm₁, ⟨U', l2, c2, s2⟩, hW₁, X', ⟨g', mk, t, L, e1, e2, hq, h1, hL, h2, h3⟩, st⟩ | ⟨q, vm₁, ⟨U', l2, c2, s2⟩, hW₁, X', ⟨g', mk, t, L, E, ce, e1, e2, hq, hce, hcv, hcl, h1, hL, h2, h3⟩, st⟩
  · dsimp only [Pt.U, Pt.locs, Pt.cells, Pt.slots] at X' e1 e2 h1 h2 h3 st
    subst h1; subst h2; subst h3
    exact Or.inl ⟨v, (T.setVm vm₁).calling g' mk As.toArray, t, U', L, hT, X', hL, e1, e2, hq, st⟩
  · dsimp only [Pt.U, Pt.locs, Pt.cells, Pt.slots] at X' e1 e2 h1 h2 h3 st hcl
    subst h1; subst h2; subst h3
    exact Or.inr ⟨q, (T.setVm vm₁).calling g' mk As.toArray, t, U', L, E, ce, hT, X', hL, e1, e2, hq, hce, hcv, vx_cls hW₁ hcl, st⟩
end
end VXH
theorem vx_ofWH {l : Launch} {y : MethodName} {ws ws' : List Cond} {rm : Room} {Pc : Array Value → State → Prop} {Qc : Array Value → State → Outcome → State → Prop} {XC : String → State → State → Prop} {mc ms : Nat} {free : Addr → Prop} {cc : ByteArray} {maxL : Nat} {ret : Option FieldType} {hh : List (Nat × Nat × Nat × Nat)}
    (hy : plainName y.cls = true) (hw : ws = Cond.codeWith y cc maxL ret hh :: ws')
    (body : ∀ p e s m args below meth c s₁, BodyLoose p l y (headSpec ws rm) cc maxL ret e s m args below meth c s₁ → c.maxLocals = maxL → Pc args s →
      W p l e (headSpec ws rm).room s m args below meth c s.heap [] 0 0 (vx_MQ below Qc XC args s mc ms free) (entryFrame m args maxL)) : vx_Met l y ws rm Pc Qc XC mc ms free := by
  refine MetFree.of_bodyS (code := cc) (maxLocals := maxL) (ret := ret) hy ?_ ?_
  · intro args s m h hn
    obtain ⟨m9, meth, c, hn9, h1, h2, h3, h4, -, h5, h6, -⟩ := Cond.codeWith_spec (atoms_spec (ws := ws) h _ (by rw [hw]; exact List.mem_cons_self))
    cases hn.symm.trans hn9
    exact ⟨meth, c, h1, h2, h3, h4, h5, h6⟩
  · intro p e s m args below meth c s₁ B hml hP _
    have hh0 : s₁.heap = s.heap := by rw [B.state]; rfl
    obtain ⟨t, a1, o, b1, b2, b3⟩ := body p e s m args below meth c s₁ B hml hP s₁ hh0 (Stand.of_body B)
    exact ⟨t, o, a1, b1, b2, b3⟩
/-! ===== END ===== -/
end
section
/-! ===== BEGIN printed: names, fields, word lists, decode rows ===== -/
def RX0 : String := "FallingPatterns$Buffer"
def TX0 : u_T := fun k => match k with
  | 0 => ("FallingPatterns$Buffer", "codes", "[I", true)
  | _ => ("FallingPatterns$Buffer", "length", "I", false)
def tyX0 : Nat → FieldType := fun k => match k with
  | 0 => .array .int
  | _ => .int
abbrev wsX00 : List Cond := u_ws RX0 TX0 2
theorem nmX0 : ∀ a, a < 2 → ∀ b, b < 2 → a ≠ b → (TX0 a).2.1 ≠ (TX0 b).2.1 := by decide +kernel
theorem tyX0_ok : ∀ k, k < 2 → parseFieldDescriptor (TX0 k).2.2.1 = some (tyX0 k) := by decide +kernel
abbrev cX0_init : ByteArray := prog_2_method_1_code
def yX0_init : MethodName := ⟨RX0, "<init>", "()V"⟩
abbrev cX0_take : ByteArray := prog_2_method_2_code
def yX0_take : MethodName := ⟨RX0, "take", "(I)V"⟩
abbrev cX0_empty : ByteArray := prog_2_method_3_code
def yX0_empty : MethodName := ⟨RX0, "empty", "()V"⟩
abbrev cX0_isLetterCode : ByteArray := prog_2_method_4_code
def yX0_isLetterCode : MethodName := ⟨RX0, "isLetterCode", "(I)Z"⟩
abbrev cX0_firstErrorInPatterns : ByteArray := prog_2_method_7_code
def yX0_firstErrorInPatterns : MethodName := ⟨RX0, "firstErrorInPatterns", "()I"⟩
abbrev cX0_holdsPatterns : ByteArray := prog_2_method_9_code
def yX0_holdsPatterns : MethodName := ⟨RX0, "holdsPatterns", "()Z"⟩
abbrev cX0_endsPart : ByteArray := prog_2_method_11_code
def yX0_endsPart : MethodName := ⟨RX0, "endsPart", "(I)Z"⟩
def RX1 : String := "FallingPatterns$Machine"
def TX1 : u_T := fun k => match k with
  | 0 => ("FallingPatterns$Machine", "rows", "[I", true)
  | 1 => ("FallingPatterns$Machine", "shorter", "[I", true)
  | 2 => ("FallingPatterns$Machine", "ends", "[I", true)
  | 3 => ("FallingPatterns$Machine", "leads", "[I", true)
  | _ => ("FallingPatterns$Machine", "size", "I", false)
def tyX1 : Nat → FieldType := fun k => match k with
  | 0 => .array .int
  | 1 => .array .int
  | 2 => .array .int
  | 3 => .array .int
  | _ => .int
abbrev wsX10 : List Cond := u_ws RX1 TX1 5
theorem nmX1 : ∀ a, a < 5 → ∀ b, b < 5 → a ≠ b → (TX1 a).2.1 ≠ (TX1 b).2.1 := by decide +kernel
theorem tyX1_ok : ∀ k, k < 5 → parseFieldDescriptor (TX1 k).2.2.1 = some (tyX1 k) := by decide +kernel
abbrev cX1_init : ByteArray := prog_3_method_1_code
def yX1_init : MethodName := ⟨RX1, "<init>", "()V"⟩
abbrev cX1_rebuild : ByteArray := prog_3_method_2_code
def yX1_rebuild : MethodName := ⟨RX1, "rebuild", "([I)V"⟩
abbrev cX1_leadsTo : ByteArray := prog_3_method_3_code
def yX1_leadsTo : MethodName := ⟨RX1, "leadsTo", "(II)I"⟩
abbrev cX1_stateBehind : ByteArray := prog_3_method_4_code
def yX1_stateBehind : MethodName := ⟨RX1, "stateBehind", "(I)I"⟩
abbrev cX1_fallsBefore : ByteArray := prog_3_method_5_code
def yX1_fallsBefore : MethodName := ⟨RX1, "fallsBefore", "(II)I"⟩
abbrev cX1_goesOn : ByteArray := prog_3_method_6_code
def yX1_goesOn : MethodName := ⟨RX1, "goesOn", "(II)Z"⟩
abbrev cX1_takeState : ByteArray := prog_3_method_7_code
def yX1_takeState : MethodName := ⟨RX1, "takeState", "(I)V"⟩
abbrev cX1_leadToLongerStates : ByteArray := prog_3_method_8_code
def yX1_leadToLongerStates : MethodName := ⟨RX1, "leadToLongerStates", "()V"⟩
abbrev cX1_fallBack : ByteArray := prog_3_method_9_code
def yX1_fallBack : MethodName := ⟨RX1, "fallBack", "()V"⟩
abbrev cX1_endsOf : ByteArray := prog_3_method_10_code
def yX1_endsOf : MethodName := ⟨RX1, "endsOf", "(I[I)I"⟩
def RX2 : String := "FallingPatterns$Memory"
def TX2 : u_T := fun k => match k with
  | 0 => ("FallingPatterns$Memory", "patterns", "[I", true)
  | 1 => ("FallingPatterns$Memory", "counted", "[I", true)
  | 2 => ("FallingPatterns$Memory", "latest", "[I", true)
  | 3 => ("FallingPatterns$Memory", "rule", "I", false)
  | 4 => ("FallingPatterns$Memory", "recent", "I", false)
  | 5 => ("FallingPatterns$Memory", "read", "I", false)
  | 6 => ("FallingPatterns$Memory", "countedInAll", "I", false)
  | 7 => ("FallingPatterns$Memory", "last", "I", false)
  | 8 => ("FallingPatterns$Memory", "falls", "I", false)
  | _ => ("FallingPatterns$Memory", "mostFalls", "I", false)
def tyX2 : Nat → FieldType := fun k => match k with
  | 0 => .array .int
  | 1 => .array .int
  | 2 => .array .int
  | 3 => .int
  | 4 => .int
  | 5 => .int
  | 6 => .int
  | 7 => .int
  | 8 => .int
  | _ => .int
abbrev wsX20 : List Cond := u_ws RX2 TX2 10
theorem nmX2 : ∀ a, a < 10 → ∀ b, b < 10 → a ≠ b → (TX2 a).2.1 ≠ (TX2 b).2.1 := by decide +kernel
theorem tyX2_ok : ∀ k, k < 10 → parseFieldDescriptor (TX2 k).2.2.1 = some (tyX2 k) := by decide +kernel
abbrev cX2_init : ByteArray := prog_4_method_1_code
def yX2_init : MethodName := ⟨RX2, "<init>", "()V"⟩
abbrev cX2_copy : ByteArray := prog_4_method_2_code
def yX2_copy : MethodName := ⟨RX2, "copy", "(LFallingPatterns$Memory;)V"⟩
abbrev cX2_forgetMatchesOf : ByteArray := prog_4_method_3_code
def yX2_forgetMatchesOf : MethodName := ⟨RX2, "forgetMatchesOf", "(I)V"⟩
abbrev cX2_forgetText : ByteArray := prog_4_method_4_code
def yX2_forgetText : MethodName := ⟨RX2, "forgetText", "()V"⟩
abbrev cX2_takeFalls : ByteArray := prog_4_method_5_code
def yX2_takeFalls : MethodName := ⟨RX2, "takeFalls", "(I)V"⟩
abbrev cX2_takeMatches : ByteArray := prog_4_method_6_code
def yX2_takeMatches : MethodName := ⟨RX2, "takeMatches", "(I)V"⟩
def RX3 : String := "FallingPatterns$Rows"
def TX3 : u_T := fun k => match k with
  | _ => ("", "", "", false)
def tyX3 : Nat → FieldType := fun k => match k with
  | _ => .int
abbrev wsX30 : List Cond := u_ws RX3 TX3 0
theorem nmX3 : ∀ a, a < 0 → ∀ b, b < 0 → a ≠ b → (TX3 a).2.1 ≠ (TX3 b).2.1 := by decide +kernel
theorem tyX3_ok : ∀ k, k < 0 → parseFieldDescriptor (TX3 k).2.2.1 = some (tyX3 k) := by decide +kernel
abbrev cX3_lengthOf : ByteArray := prog_5_method_2_code
def yX3_lengthOf : MethodName := ⟨RX3, "lengthOf", "(I)I"⟩
abbrev cX3_behind : ByteArray := prog_5_method_3_code
def yX3_behind : MethodName := ⟨RX3, "behind", "(II)I"⟩
abbrev cX3_lastLetter : ByteArray := prog_5_method_4_code
def yX3_lastLetter : MethodName := ⟨RX3, "lastLetter", "(I)I"⟩
abbrev cX3_letterAt : ByteArray := prog_5_method_5_code
def yX3_letterAt : MethodName := ⟨RX3, "letterAt", "(II)I"⟩
abbrev cX3_beginning : ByteArray := prog_5_method_6_code
def yX3_beginning : MethodName := ⟨RX3, "beginning", "(II)I"⟩
abbrev cX3_beginsWith : ByteArray := prog_5_method_7_code
def yX3_beginsWith : MethodName := ⟨RX3, "beginsWith", "(II)Z"⟩
abbrev cX3_endsWith : ByteArray := prog_5_method_8_code
def yX3_endsWith : MethodName := ⟨RX3, "endsWith", "(II)Z"⟩
abbrev cX3_isPart : ByteArray := prog_5_method_9_code
def yX3_isPart : MethodName := ⟨RX3, "isPart", "(II)Z"⟩
abbrev cX3_latest : ByteArray := prog_5_method_10_code
def yX3_latest : MethodName := ⟨RX3, "latest", "(I)I"⟩
abbrev cX3_end : ByteArray := prog_5_method_11_code
def yX3_end : MethodName := ⟨RX3, "end", "(II)I"⟩
def RX4 : String := "FallingPatterns$Saved"
def TX4 : u_T := fun k => match k with
  | 0 => ("FallingPatterns$Saved", "memories", "[LFallingPatterns$Memory;", true)
  | 1 => ("FallingPatterns$Saved", "oldest", "I", false)
  | _ => ("FallingPatterns$Saved", "size", "I", false)
def tyX4 : Nat → FieldType := fun k => match k with
  | 0 => .array (.object "FallingPatterns$Memory")
  | 1 => .int
  | _ => .int
abbrev wsX40 : List Cond := u_ws RX4 TX4 3
theorem nmX4 : ∀ a, a < 3 → ∀ b, b < 3 → a ≠ b → (TX4 a).2.1 ≠ (TX4 b).2.1 := by decide +kernel
theorem tyX4_ok : ∀ k, k < 3 → parseFieldDescriptor (TX4 k).2.2.1 = some (tyX4 k) := by decide +kernel
abbrev cX4_init : ByteArray := prog_6_method_1_code
def yX4_init : MethodName := ⟨RX4, "<init>", "()V"⟩
abbrev cX4_keep : ByteArray := prog_6_method_2_code
def yX4_keep : MethodName := ⟨RX4, "keep", "(LFallingPatterns$Memory;)V"⟩
abbrev cX4_giveBack : ByteArray := prog_6_method_3_code
def yX4_giveBack : MethodName := ⟨RX4, "giveBack", "(LFallingPatterns$Memory;)V"⟩
abbrev cX4_memoryAt : ByteArray := prog_6_method_4_code
def yX4_memoryAt : MethodName := ⟨RX4, "memoryAt", "(I)LFallingPatterns$Memory;"⟩
def RX5 : String := "FallingPatterns"
def TX5 : u_T := fun k => match k with
  | 0 => ("FallingPatterns", "now", "LFallingPatterns$Memory;", true)
  | 1 => ("FallingPatterns", "saved", "LFallingPatterns$Saved;", true)
  | 2 => ("FallingPatterns", "machine", "LFallingPatterns$Machine;", true)
  | 3 => ("FallingPatterns", "buffer", "LFallingPatterns$Buffer;", true)
  | _ => ("FallingPatterns", "draft", "[I", true)
def tyX5 : Nat → FieldType := fun k => match k with
  | 0 => .object "FallingPatterns$Memory"
  | 1 => .object "FallingPatterns$Saved"
  | 2 => .object "FallingPatterns$Machine"
  | 3 => .object "FallingPatterns$Buffer"
  | _ => .array .int
abbrev wsX50 : List Cond := u_ws RX5 TX5 5
theorem nmX5 : ∀ a, a < 5 → ∀ b, b < 5 → a ≠ b → (TX5 a).2.1 ≠ (TX5 b).2.1 := by decide +kernel
theorem tyX5_ok : ∀ k, k < 5 → parseFieldDescriptor (TX5 k).2.2.1 = some (tyX5 k) := by decide +kernel
abbrev cX5_init : ByteArray := prog_1_method_1_code
def yX5_init : MethodName := ⟨RX5, "<init>", "()V"⟩
abbrev cX5_add : ByteArray := prog_1_method_2_code
def yX5_add : MethodName := ⟨RX5, "add", "()I"⟩
abbrev cX5_remove : ByteArray := prog_1_method_3_code
def yX5_remove : MethodName := ⟨RX5, "remove", "(I)I"⟩
abbrev cX5_rule : ByteArray := prog_1_method_4_code
def yX5_rule : MethodName := ⟨RX5, "rule", "(I)I"⟩
abbrev cX5_feed : ByteArray := prog_1_method_5_code
def yX5_feed : MethodName := ⟨RX5, "feed", "(I)I"⟩
abbrev cX5_begin : ByteArray := prog_1_method_7_code
def yX5_begin : MethodName := ⟨RX5, "begin", "()I"⟩
abbrev cX5_append : ByteArray := prog_1_method_8_code
def yX5_append : MethodName := ⟨RX5, "append", "(I)I"⟩
abbrev cX5_clearBuffer : ByteArray := prog_1_method_9_code
def yX5_clearBuffer : MethodName := ⟨RX5, "clearBuffer", "()I"⟩
abbrev cX5_undo : ByteArray := prog_1_method_11_code
def yX5_undo : MethodName := ⟨RX5, "undo", "()I"⟩
abbrev cX5_pattern : ByteArray := prog_1_method_12_code
def yX5_pattern : MethodName := ⟨RX5, "pattern", "(II)I"⟩
abbrev cX5_letter : ByteArray := prog_1_method_13_code
def yX5_letter : MethodName := ⟨RX5, "letter", "(II)I"⟩
abbrev cX5_state : ByteArray := prog_1_method_14_code
def yX5_state : MethodName := ⟨RX5, "state", "(II)I"⟩
abbrev cX5_count : ByteArray := prog_1_method_15_code
def yX5_count : MethodName := ⟨RX5, "count", "(I)I"⟩
abbrev cX5_setting : ByteArray := prog_1_method_16_code
def yX5_setting : MethodName := ⟨RX5, "setting", "()I"⟩
abbrev cX5_ifFed : ByteArray := prog_1_method_17_code
def yX5_ifFed : MethodName := ⟨RX5, "ifFed", "(II)I"⟩
abbrev cX5_lettersTo : ByteArray := prog_1_method_18_code
def yX5_lettersTo : MethodName := ⟨RX5, "lettersTo", "(I)I"⟩
abbrev cX5_ifRepeated : ByteArray := prog_1_method_19_code
def yX5_ifRepeated : MethodName := ⟨RX5, "ifRepeated", "(II)I"⟩
abbrev cX5_at : ByteArray := prog_1_method_23_code
def yX5_at : MethodName := ⟨RX5, "at", "([II)I"⟩
abbrev cX5_put : ByteArray := prog_1_method_24_code
def yX5_put : MethodName := ⟨RX5, "put", "([III)V"⟩
abbrev cX5_isSlot : ByteArray := prog_1_method_25_code
def yX5_isSlot : MethodName := ⟨RX5, "isSlot", "(I)Z"⟩
abbrev cX5_isLetter : ByteArray := prog_1_method_26_code
def yX5_isLetter : MethodName := ⟨RX5, "isLetter", "(I)Z"⟩
abbrev cX5_patternIn : ByteArray := prog_1_method_27_code
def yX5_patternIn : MethodName := ⟨RX5, "patternIn", "(I)I"⟩
abbrev cX5_draftPatterns : ByteArray := prog_1_method_28_code
def yX5_draftPatterns : MethodName := ⟨RX5, "draftPatterns", "()I"⟩
abbrev cX5_draftSlotOf : ByteArray := prog_1_method_29_code
def yX5_draftSlotOf : MethodName := ⟨RX5, "draftSlotOf", "(I)I"⟩
abbrev cX5_patternProperty : ByteArray := prog_1_method_30_code
def yX5_patternProperty : MethodName := ⟨RX5, "patternProperty", "(II)I"⟩
abbrev cX5_othersInside : ByteArray := prog_1_method_31_code
def yX5_othersInside : MethodName := ⟨RX5, "othersInside", "(I)I"⟩
abbrev cX5_othersAround : ByteArray := prog_1_method_32_code
def yX5_othersAround : MethodName := ⟨RX5, "othersAround", "(I)I"⟩
abbrev cX5_patternsThatBeginWith : ByteArray := prog_1_method_33_code
def yX5_patternsThatBeginWith : MethodName := ⟨RX5, "patternsThatBeginWith", "(I)I"⟩
abbrev cX5_numberOfPatterns : ByteArray := prog_1_method_35_code
def yX5_numberOfPatterns : MethodName := ⟨RX5, "numberOfPatterns", "()I"⟩
abbrev cX5_sumOfLengths : ByteArray := prog_1_method_36_code
def yX5_sumOfLengths : MethodName := ⟨RX5, "sumOfLengths", "()I"⟩
abbrev cX5_currentState : ByteArray := prog_1_method_37_code
def yX5_currentState : MethodName := ⟨RX5, "currentState", "()I"⟩
abbrev cX5_readLetter : ByteArray := prog_1_method_38_code
def yX5_readLetter : MethodName := ⟨RX5, "readLetter", "(I)I"⟩
abbrev cX5_matchesThatCount : ByteArray := prog_1_method_40_code
def yX5_matchesThatCount : MethodName := ⟨RX5, "matchesThatCount", "(III)I"⟩
abbrev cX5_stateProperty : ByteArray := prog_1_method_41_code
def yX5_stateProperty : MethodName := ⟨RX5, "stateProperty", "(II)I"⟩
abbrev cX5_numberTold : ByteArray := prog_1_method_42_code
def yX5_numberTold : MethodName := ⟨RX5, "numberTold", "(I)I"⟩
abbrev cX5_fedNumber : ByteArray := prog_1_method_43_code
def yX5_fedNumber : MethodName := ⟨RX5, "fedNumber", "(II)I"⟩
abbrev cX5_lowestSlot : ByteArray := prog_1_method_44_code
def yX5_lowestSlot : MethodName := ⟨RX5, "lowestSlot", "(I)I"⟩
abbrev cX5_fewestLettersTo : ByteArray := prog_1_method_45_code
def yX5_fewestLettersTo : MethodName := ⟨RX5, "fewestLettersTo", "(I)I"⟩
abbrev cX5_matchesIfRepeated : ByteArray := prog_1_method_46_code
def yX5_matchesIfRepeated : MethodName := ⟨RX5, "matchesIfRepeated", "(II)I"⟩
def RX6 : String := "FallingPatternsModel"
def TX6 : u_T := fun k => match k with
  | _ => ("", "", "", false)
def tyX6 : Nat → FieldType := fun k => match k with
  | _ => .int
abbrev wsX60 : List Cond := u_ws RX6 TX6 0
theorem nmX6 : ∀ a, a < 0 → ∀ b, b < 0 → a ≠ b → (TX6 a).2.1 ≠ (TX6 b).2.1 := by decide +kernel
theorem tyX6_ok : ∀ k, k < 0 → parseFieldDescriptor (TX6 k).2.2.1 = some (tyX6 k) := by decide +kernel
def RJ6 : String := "java/lang/Integer"
def TJ6 : u_T := fun k => match k with
  | _ => ("", "", "", false)
def tyJ6 : Nat → FieldType := fun k => match k with
  | _ => .int
abbrev wsJ60 : List Cond := u_ws RJ6 TJ6 0
theorem nmJ6 : ∀ a, a < 0 → ∀ b, b < 0 → a ≠ b → (TJ6 a).2.1 ≠ (TJ6 b).2.1 := by decide +kernel
theorem tyJ6_ok : ∀ k, k < 0 → parseFieldDescriptor (TJ6 k).2.2.1 = some (tyJ6 k) := by decide +kernel
abbrev cJ6_bitCount_0f7a4 : ByteArray := prog_13_method_49_code
def yJ6_bitCount_0f7a4 : MethodName := ⟨RJ6, "bitCount", "(I)I"⟩
def RJ9 : String := "java/lang/Math"
def TJ9 : u_T := fun k => match k with
  | _ => ("", "", "", false)
def tyJ9 : Nat → FieldType := fun k => match k with
  | _ => .int
abbrev wsJ90 : List Cond := u_ws RJ9 TJ9 0
theorem nmJ9 : ∀ a, a < 0 → ∀ b, b < 0 → a ≠ b → (TJ9 a).2.1 ≠ (TJ9 b).2.1 := by decide +kernel
theorem tyJ9_ok : ∀ k, k < 0 → parseFieldDescriptor (TJ9 k).2.2.1 = some (tyJ9 k) := by decide +kernel
abbrev cJ9_max_7cf53 : ByteArray := prog_14_method_65_code
def yJ9_max_7cf53 : MethodName := ⟨RJ9, "max", "(II)I"⟩
def RJ0 : String := "java/lang/String"
def TJ0 : u_T := fun k => match k with
  | _ => ("", "", "", false)
def tyJ0 : Nat → FieldType := fun k => match k with
  | _ => .int
abbrev wsJ00 : List Cond := u_ws RJ0 TJ0 0
theorem nmJ0 : ∀ a, a < 0 → ∀ b, b < 0 → a ≠ b → (TJ0 a).2.1 ≠ (TJ0 b).2.1 := by decide +kernel
theorem tyJ0_ok : ∀ k, k < 0 → parseFieldDescriptor (TJ0 k).2.2.1 = some (tyJ0 k) := by decide +kernel
def RL : String := "FallingPatternsLaw"
abbrev cL_cell : ByteArray := method_2_code
def yL_cell : MethodName := ⟨RL, "cell", "([II)I"⟩
abbrev cL_low : ByteArray := method_3_code
def yL_low : MethodName := ⟨RL, "low", "(II)I"⟩
abbrev cL_add : ByteArray := method_4_code
def yL_add : MethodName := ⟨RL, "add", "(LFallingPatterns;I)V"⟩
abbrev cL_does : ByteArray := method_5_code
def yL_does : MethodName := ⟨RL, "does", "(LFallingPatterns;I)V"⟩
abbrev cL_areStatesSo : ByteArray := method_6_code
def yL_areStatesSo : MethodName := ⟨RL, "areStatesSo", "(LFallingPatterns;)Z"⟩
abbrev cL_isFedSo : ByteArray := method_7_code
def yL_isFedSo : MethodName := ⟨RL, "isFedSo", "(LFallingPatterns;I)Z"⟩
abbrev cL_bits : ByteArray := method_8_code
def yL_bits : MethodName := ⟨RL, "bits", "(I)I"⟩
abbrev cL_areWaysSo : ByteArray := method_9_code
def yL_areWaysSo : MethodName := ⟨RL, "areWaysSo", "(LFallingPatterns;I)Z"⟩
abbrev cL_law : ByteArray := code
def yL_law : MethodName := ⟨RL, "law", "([I)Z"⟩
def wsX0_init : List Cond := .code yX0_init cX0_init 1 none :: ([.methodLink RX0 3 objectInit, .instanceMethod objectInit, .code objectInit ⟨#[0xb1]⟩ 1 none, .arrayClass .int, .fieldLink RX0 9 "FallingPatterns$Buffer" "codes" "[I"] ++ wsX00)
def wsX5_put : List Cond := .code yX5_put cX5_put 3 none :: ([])
def wsX0_take : List Cond := .code yX0_take cX0_take 2 none :: ([.fieldLink RX0 9 "FallingPatterns$Buffer" "codes" "[I", .fieldLink RX0 15 "FallingPatterns$Buffer" "length" "I", .static yX5_put, .initialized RX5, .code yX5_put cX5_put 3 none] ++ wsX00)
def wsX0_empty : List Cond := .code yX0_empty cX0_empty 1 none :: ([.fieldLink RX0 15 "FallingPatterns$Buffer" "length" "I"] ++ wsX00)
def wsX0_isLetterCode : List Cond := .code yX0_isLetterCode cX0_isLetterCode 1 (some .boolean) :: ([])
def wsX5_at : List Cond := .code yX5_at cX5_at 2 (some .int) :: ([])
def wsX0_firstErrorInPatterns : List Cond := .code yX0_firstErrorInPatterns cX0_firstErrorInPatterns 4 (some .int) :: ([.fieldLink RX0 15 "FallingPatterns$Buffer" "length" "I", .fieldLink RX0 9 "FallingPatterns$Buffer" "codes" "[I", .static yX5_at, .initialized RX5, .code yX5_at cX5_at 2 (some .int), .methodLink RX0 31 yX0_isLetterCode, .static yX0_isLetterCode, .initialized RX0, .code yX0_isLetterCode cX0_isLetterCode 1 (some .boolean)] ++ wsX00)
def wsX0_endsPart : List Cond := .code yX0_endsPart cX0_endsPart 2 (some .boolean) :: ([.fieldLink RX0 9 "FallingPatterns$Buffer" "codes" "[I", .fieldLink RX0 15 "FallingPatterns$Buffer" "length" "I", .static yX5_at, .initialized RX5, .code yX5_at cX5_at 2 (some .int)] ++ wsX00)
def wsX0_holdsPatterns : List Cond := .code yX0_holdsPatterns cX0_holdsPatterns 1 (some .boolean) :: ([.fieldLink RX0 15 "FallingPatterns$Buffer" "length" "I", .methodLink RX0 34 yX0_firstErrorInPatterns, .instanceMethod yX0_firstErrorInPatterns, .selects RX0 yX0_firstErrorInPatterns yX0_firstErrorInPatterns, .initialized RX0, .code yX0_firstErrorInPatterns cX0_firstErrorInPatterns 4 (some .int), .fieldLink RX0 9 "FallingPatterns$Buffer" "codes" "[I", .static yX5_at, .initialized RX5, .code yX5_at cX5_at 2 (some .int), .methodLink RX0 31 yX0_isLetterCode, .static yX0_isLetterCode, .code yX0_isLetterCode cX0_isLetterCode 1 (some .boolean), .methodLink RX0 38 yX0_endsPart, .instanceMethod yX0_endsPart, .selects RX0 yX0_endsPart yX0_endsPart, .code yX0_endsPart cX0_endsPart 2 (some .boolean)] ++ wsX00)
def wsX1_init : List Cond := .code yX1_init cX1_init 1 none :: ([.methodLink RX1 3 objectInit, .instanceMethod objectInit, .code objectInit ⟨#[0xb1]⟩ 1 none, .arrayClass .int, .fieldLink RX1 9 "FallingPatterns$Machine" "rows" "[I", .fieldLink RX1 15 "FallingPatterns$Machine" "shorter" "[I", .fieldLink RX1 18 "FallingPatterns$Machine" "ends" "[I", .fieldLink RX1 21 "FallingPatterns$Machine" "leads" "[I", .fieldLink RX1 28 "FallingPatterns$Machine" "size" "I", .static yX5_put, .initialized RX5, .code yX5_put cX5_put 3 none] ++ wsX10)
def wsX1_takeState : List Cond := .code yX1_takeState cX1_takeState 4 none :: ([.fieldLink RX1 28 "FallingPatterns$Machine" "size" "I", .fieldLink RX1 9 "FallingPatterns$Machine" "rows" "[I", .static yX5_at, .initialized RX5, .code yX5_at cX5_at 2 (some .int), .static yX5_put, .code yX5_put cX5_put 3 none] ++ wsX10)
def wsX3_lengthOf : List Cond := .code yX3_lengthOf cX3_lengthOf 2 (some .int) :: ([])
def wsX3_beginning : List Cond := .code yX3_beginning cX3_beginning 2 (some .int) :: ([.methodLink RX3 9 yX3_lengthOf, .static yX3_lengthOf, .initialized RX3, .code yX3_lengthOf cX3_lengthOf 2 (some .int)])
def wsX3_lastLetter : List Cond := .code yX3_lastLetter cX3_lastLetter 1 (some .int) :: ([])
def wsX1_leadToLongerStates : List Cond := .code yX1_leadToLongerStates cX1_leadToLongerStates 4 none :: ([.fieldLink RX1 21 "FallingPatterns$Machine" "leads" "[I", .fieldLink RX1 28 "FallingPatterns$Machine" "size" "I", .fieldLink RX1 9 "FallingPatterns$Machine" "rows" "[I", .static yX5_at, .initialized RX5, .code yX5_at cX5_at 2 (some .int), .methodLink RX1 73 yX3_lastLetter, .static yX3_lastLetter, .initialized RX3, .code yX3_lastLetter cX3_lastLetter 1 (some .int), .static yX5_put, .code yX5_put cX5_put 3 none] ++ wsX10)
def wsX1_leadsTo : List Cond := .code yX1_leadsTo cX1_leadsTo 3 (some .int) :: ([.fieldLink RX1 21 "FallingPatterns$Machine" "leads" "[I", .static yX5_at, .initialized RX5, .code yX5_at cX5_at 2 (some .int)] ++ wsX10)
def wsX1_fallBack : List Cond := .code yX1_fallBack cX1_fallBack 5 none :: ([.fieldLink RX1 15 "FallingPatterns$Machine" "shorter" "[I", .fieldLink RX1 28 "FallingPatterns$Machine" "size" "I", .fieldLink RX1 21 "FallingPatterns$Machine" "leads" "[I", .static yX5_put, .initialized RX5, .code yX5_put cX5_put 3 none, .methodLink RX1 63 yX1_leadsTo, .instanceMethod yX1_leadsTo, .selects RX1 yX1_leadsTo yX1_leadsTo, .initialized RX1, .code yX1_leadsTo cX1_leadsTo 3 (some .int), .static yX5_at, .code yX5_at cX5_at 2 (some .int)] ++ wsX10)
def wsX1_endsOf : List Cond := .code yX1_endsOf cX1_endsOf 5 (some .int) :: ([.fieldLink RX1 18 "FallingPatterns$Machine" "ends" "[I", .fieldLink RX1 15 "FallingPatterns$Machine" "shorter" "[I", .fieldLink RX1 9 "FallingPatterns$Machine" "rows" "[I", .static yX5_at, .initialized RX5, .code yX5_at cX5_at 2 (some .int)] ++ wsX10)
def wsX1_rebuild_r1 : List Cond := [Cond.fieldLink RX1 28 "FallingPatterns$Machine" "size" "I", Cond.fieldLink RX1 18 "FallingPatterns$Machine" "ends" "[I", Cond.methodLink RX1 32 yX1_takeState, Cond.instanceMethod yX1_takeState, Cond.selects RX1 yX1_takeState yX1_takeState, Cond.initialized RX1, Cond.code yX1_takeState cX1_takeState 4 none, Cond.fieldLink RX1 9 "FallingPatterns$Machine" "rows" "[I", Cond.static yX5_at, Cond.initialized RX5, Cond.code yX5_at cX5_at 2 (some .int), Cond.static yX5_put, Cond.code yX5_put cX5_put 3 none, Cond.methodLink RX1 40 yX3_lengthOf, Cond.static yX3_lengthOf, Cond.initialized RX3, Cond.code yX3_lengthOf cX3_lengthOf 2 (some .int), Cond.methodLink RX1 46 yX3_beginning, Cond.static yX3_beginning, Cond.code yX3_beginning cX3_beginning 2 (some .int), Cond.methodLink RX3 9 yX3_lengthOf, Cond.methodLink RX1 50 yX1_leadToLongerStates, Cond.instanceMethod yX1_leadToLongerStates, Cond.selects RX1 yX1_leadToLongerStates yX1_leadToLongerStates]
def wsX1_rebuild_r2 : List Cond := [Cond.code yX1_leadToLongerStates cX1_leadToLongerStates 4 none, Cond.fieldLink RX1 21 "FallingPatterns$Machine" "leads" "[I", Cond.methodLink RX1 73 yX3_lastLetter, Cond.static yX3_lastLetter, Cond.code yX3_lastLetter cX3_lastLetter 1 (some .int), Cond.methodLink RX1 53 yX1_fallBack, Cond.instanceMethod yX1_fallBack, Cond.selects RX1 yX1_fallBack yX1_fallBack, Cond.code yX1_fallBack cX1_fallBack 5 none, Cond.fieldLink RX1 15 "FallingPatterns$Machine" "shorter" "[I", Cond.methodLink RX1 63 yX1_leadsTo, Cond.instanceMethod yX1_leadsTo, Cond.selects RX1 yX1_leadsTo yX1_leadsTo, Cond.code yX1_leadsTo cX1_leadsTo 3 (some .int), Cond.methodLink RX1 56 yX1_endsOf, Cond.instanceMethod yX1_endsOf, Cond.selects RX1 yX1_endsOf yX1_endsOf, Cond.code yX1_endsOf cX1_endsOf 5 (some .int)]
def wsX1_rebuild : List Cond := .code yX1_rebuild cX1_rebuild 6 none :: ((wsX1_rebuild_r1 ++ wsX1_rebuild_r2) ++ wsX10)
def wsX3_letterAt : List Cond := .code yX3_letterAt cX3_letterAt 3 (some .int) :: ([.methodLink RX3 9 yX3_lengthOf, .static yX3_lengthOf, .initialized RX3, .code yX3_lengthOf cX3_lengthOf 2 (some .int), .methodLink RX3 15 yX3_lastLetter, .static yX3_lastLetter, .code yX3_lastLetter cX3_lastLetter 1 (some .int)])
def wsX1_stateBehind : List Cond := .code yX1_stateBehind cX1_stateBehind 5 (some .int) :: ([.methodLink RX1 40 yX3_lengthOf, .static yX3_lengthOf, .initialized RX3, .code yX3_lengthOf cX3_lengthOf 2 (some .int), .methodLink RX1 60 yX3_letterAt, .static yX3_letterAt, .code yX3_letterAt cX3_letterAt 3 (some .int), .methodLink RX3 9 yX3_lengthOf, .methodLink RX3 15 yX3_lastLetter, .static yX3_lastLetter, .code yX3_lastLetter cX3_lastLetter 1 (some .int), .methodLink RX1 63 yX1_leadsTo, .instanceMethod yX1_leadsTo, .selects RX1 yX1_leadsTo yX1_leadsTo, .initialized RX1, .code yX1_leadsTo cX1_leadsTo 3 (some .int), .fieldLink RX1 21 "FallingPatterns$Machine" "leads" "[I", .static yX5_at, .initialized RX5, .code yX5_at cX5_at 2 (some .int)] ++ wsX10)
def wsX3_behind : List Cond := .code yX3_behind cX3_behind 2 (some .int) :: ([])
def wsX1_goesOn : List Cond := .code yX1_goesOn cX1_goesOn 3 (some .boolean) :: ([.fieldLink RX1 9 "FallingPatterns$Machine" "rows" "[I", .methodLink RX1 63 yX1_leadsTo, .instanceMethod yX1_leadsTo, .selects RX1 yX1_leadsTo yX1_leadsTo, .initialized RX1, .code yX1_leadsTo cX1_leadsTo 3 (some .int), .fieldLink RX1 21 "FallingPatterns$Machine" "leads" "[I", .static yX5_at, .initialized RX5, .code yX5_at cX5_at 2 (some .int), .methodLink RX1 70 yX3_behind, .static yX3_behind, .initialized RX3, .code yX3_behind cX3_behind 2 (some .int)] ++ wsX10)
def wsX1_fallsBefore : List Cond := .code yX1_fallsBefore cX1_fallsBefore 5 (some .int) :: ([.fieldLink RX1 15 "FallingPatterns$Machine" "shorter" "[I", .methodLink RX1 66 yX1_goesOn, .instanceMethod yX1_goesOn, .selects RX1 yX1_goesOn yX1_goesOn, .initialized RX1, .code yX1_goesOn cX1_goesOn 3 (some .boolean), .fieldLink RX1 9 "FallingPatterns$Machine" "rows" "[I", .methodLink RX1 63 yX1_leadsTo, .instanceMethod yX1_leadsTo, .selects RX1 yX1_leadsTo yX1_leadsTo, .code yX1_leadsTo cX1_leadsTo 3 (some .int), .fieldLink RX1 21 "FallingPatterns$Machine" "leads" "[I", .static yX5_at, .initialized RX5, .code yX5_at cX5_at 2 (some .int), .methodLink RX1 70 yX3_behind, .static yX3_behind, .initialized RX3, .code yX3_behind cX3_behind 2 (some .int)] ++ wsX10)
def wsX2_init : List Cond := .code yX2_init cX2_init 2 none :: ([.methodLink RX2 3 objectInit, .instanceMethod objectInit, .code objectInit ⟨#[0xb1]⟩ 1 none, .arrayClass .int, .fieldLink RX2 9 "FallingPatterns$Memory" "patterns" "[I", .fieldLink RX2 15 "FallingPatterns$Memory" "counted" "[I", .fieldLink RX2 18 "FallingPatterns$Memory" "latest" "[I", .fieldLink RX2 21 "FallingPatterns$Memory" "rule" "I", .fieldLink RX2 25 "FallingPatterns$Memory" "recent" "I", .fieldLink RX2 28 "FallingPatterns$Memory" "last" "I"] ++ wsX20)
def wsX2_copy : List Cond := .code yX2_copy cX2_copy 3 none :: ([.fieldLink RX2 9 "FallingPatterns$Memory" "patterns" "[I", .fieldLink RX2 15 "FallingPatterns$Memory" "counted" "[I", .fieldLink RX2 18 "FallingPatterns$Memory" "latest" "[I", .fieldLink RX2 21 "FallingPatterns$Memory" "rule" "I", .fieldLink RX2 25 "FallingPatterns$Memory" "recent" "I", .fieldLink RX2 39 "FallingPatterns$Memory" "read" "I", .fieldLink RX2 42 "FallingPatterns$Memory" "countedInAll" "I", .fieldLink RX2 28 "FallingPatterns$Memory" "last" "I", .fieldLink RX2 45 "FallingPatterns$Memory" "falls" "I", .fieldLink RX2 48 "FallingPatterns$Memory" "mostFalls" "I", .static yX5_at, .initialized RX5, .code yX5_at cX5_at 2 (some .int), .static yX5_put, .code yX5_put cX5_put 3 none] ++ wsX20)
def wsX2_forgetMatchesOf : List Cond := .code yX2_forgetMatchesOf cX2_forgetMatchesOf 2 none :: ([.fieldLink RX2 15 "FallingPatterns$Memory" "counted" "[I", .fieldLink RX2 18 "FallingPatterns$Memory" "latest" "[I", .static yX5_put, .initialized RX5, .code yX5_put cX5_put 3 none] ++ wsX20)
def wsX2_forgetText : List Cond := .code yX2_forgetText cX2_forgetText 2 none :: ([.fieldLink RX2 25 "FallingPatterns$Memory" "recent" "I", .fieldLink RX2 39 "FallingPatterns$Memory" "read" "I", .fieldLink RX2 42 "FallingPatterns$Memory" "countedInAll" "I", .fieldLink RX2 28 "FallingPatterns$Memory" "last" "I", .fieldLink RX2 45 "FallingPatterns$Memory" "falls" "I", .fieldLink RX2 48 "FallingPatterns$Memory" "mostFalls" "I", .methodLink RX2 51 yX2_forgetMatchesOf, .instanceMethod yX2_forgetMatchesOf, .selects RX2 yX2_forgetMatchesOf yX2_forgetMatchesOf, .initialized RX2, .code yX2_forgetMatchesOf cX2_forgetMatchesOf 2 none, .fieldLink RX2 15 "FallingPatterns$Memory" "counted" "[I", .fieldLink RX2 18 "FallingPatterns$Memory" "latest" "[I", .static yX5_put, .initialized RX5, .code yX5_put cX5_put 3 none] ++ wsX20)
def wsX2_takeFalls : List Cond := .code yX2_takeFalls cX2_takeFalls 2 none :: ([.fieldLink RX2 45 "FallingPatterns$Memory" "falls" "I", .fieldLink RX2 48 "FallingPatterns$Memory" "mostFalls" "I", .methodLink RX2 55 Lib.Math.max.name, .static Lib.Math.max.name, .initialized "java/lang/Math", .code Lib.Math.max.name Lib.Math.max.code 2 (some .int)] ++ wsX20)
def wsX2_takeMatches : List Cond := .code yX2_takeMatches cX2_takeMatches 3 none :: ([.fieldLink RX2 15 "FallingPatterns$Memory" "counted" "[I", .fieldLink RX2 18 "FallingPatterns$Memory" "latest" "[I", .fieldLink RX2 39 "FallingPatterns$Memory" "read" "I", .fieldLink RX2 42 "FallingPatterns$Memory" "countedInAll" "I", .fieldLink RX2 28 "FallingPatterns$Memory" "last" "I", .static yX5_at, .initialized RX5, .code yX5_at cX5_at 2 (some .int), .static yX5_put, .code yX5_put cX5_put 3 none] ++ wsX20)
def wsX3_beginsWith : List Cond := .code yX3_beginsWith cX3_beginsWith 3 (some .boolean) :: ([.methodLink RX3 9 yX3_lengthOf, .static yX3_lengthOf, .initialized RX3, .code yX3_lengthOf cX3_lengthOf 2 (some .int)])
def wsX3_end : List Cond := .code yX3_end cX3_end 3 (some .int) :: ([])
def wsX3_endsWith : List Cond := .code yX3_endsWith cX3_endsWith 3 (some .boolean) :: ([.methodLink RX3 9 yX3_lengthOf, .static yX3_lengthOf, .initialized RX3, .code yX3_lengthOf cX3_lengthOf 2 (some .int), .methodLink RX3 18 yX3_end, .static yX3_end, .code yX3_end cX3_end 3 (some .int)])
def wsX3_isPart : List Cond := .code yX3_isPart cX3_isPart 4 (some .boolean) :: ([.methodLink RX3 9 yX3_lengthOf, .static yX3_lengthOf, .initialized RX3, .code yX3_lengthOf cX3_lengthOf 2 (some .int), .methodLink RX3 22 yX3_beginning, .static yX3_beginning, .code yX3_beginning cX3_beginning 2 (some .int), .methodLink RX3 25 yX3_endsWith, .static yX3_endsWith, .code yX3_endsWith cX3_endsWith 3 (some .boolean), .methodLink RX3 18 yX3_end, .static yX3_end, .code yX3_end cX3_end 3 (some .int)])
def wsX3_latest : List Cond := .code yX3_latest cX3_latest 1 (some .int) :: ([.methodLink RX3 9 yX3_lengthOf, .static yX3_lengthOf, .initialized RX3, .code yX3_lengthOf cX3_lengthOf 2 (some .int), .methodLink RX3 18 yX3_end, .static yX3_end, .code yX3_end cX3_end 3 (some .int)])
def wsX4_init : List Cond := .code yX4_init cX4_init 2 none :: ([.methodLink RX4 3 objectInit, .instanceMethod objectInit, .code objectInit ⟨#[0xb1]⟩ 1 none, .classLink RX4 9 RX2, .fieldLink RX4 11 "FallingPatterns$Saved" "memories" "[LFallingPatterns$Memory;", .instantiable RX2 10, .initialized RX2, .methodLink RX4 17 yX2_init, .instanceMethod yX2_init, .code yX2_init cX2_init 2 none, .methodLink RX2 3 objectInit, .arrayClass .int, .fieldLink RX2 9 "FallingPatterns$Memory" "patterns" "[I", .fieldLink RX2 15 "FallingPatterns$Memory" "counted" "[I", .fieldLink RX2 18 "FallingPatterns$Memory" "latest" "[I", .fieldLink RX2 21 "FallingPatterns$Memory" "rule" "I", .fieldLink RX2 25 "FallingPatterns$Memory" "recent" "I", .fieldLink RX2 28 "FallingPatterns$Memory" "last" "I"] ++ wsX40 ++ wsX20)
def wsX4_memoryAt : List Cond := .code yX4_memoryAt cX4_memoryAt 3 (some (.object "FallingPatterns$Memory")) :: ([.fieldLink RX4 22 "FallingPatterns$Saved" "oldest" "I", .fieldLink RX4 11 "FallingPatterns$Saved" "memories" "[LFallingPatterns$Memory;"] ++ wsX40)
def wsX4_keep_r1 : List Cond := [Cond.fieldLink RX4 18 "FallingPatterns$Saved" "size" "I", Cond.fieldLink RX4 22 "FallingPatterns$Saved" "oldest" "I", Cond.methodLink RX4 25 yX4_memoryAt, Cond.instanceMethod yX4_memoryAt, Cond.selects RX4 yX4_memoryAt yX4_memoryAt, Cond.initialized RX4, Cond.code yX4_memoryAt cX4_memoryAt 3 (some (.object "FallingPatterns$Memory")), Cond.fieldLink RX4 11 "FallingPatterns$Saved" "memories" "[LFallingPatterns$Memory;", Cond.methodLink RX4 29 yX2_copy, Cond.instanceMethod yX2_copy, Cond.selects RX2 yX2_copy yX2_copy, Cond.initialized RX2, Cond.code yX2_copy cX2_copy 3 none, Cond.fieldLink RX2 9 "FallingPatterns$Memory" "patterns" "[I", Cond.fieldLink RX2 15 "FallingPatterns$Memory" "counted" "[I", Cond.fieldLink RX2 18 "FallingPatterns$Memory" "latest" "[I", Cond.fieldLink RX2 21 "FallingPatterns$Memory" "rule" "I", Cond.fieldLink RX2 25 "FallingPatterns$Memory" "recent" "I", Cond.fieldLink RX2 39 "FallingPatterns$Memory" "read" "I", Cond.fieldLink RX2 42 "FallingPatterns$Memory" "countedInAll" "I", Cond.fieldLink RX2 28 "FallingPatterns$Memory" "last" "I", Cond.fieldLink RX2 45 "FallingPatterns$Memory" "falls" "I", Cond.fieldLink RX2 48 "FallingPatterns$Memory" "mostFalls" "I", Cond.static yX5_at]
def wsX4_keep_r2 : List Cond := [Cond.initialized RX5, Cond.code yX5_at cX5_at 2 (some .int), Cond.static yX5_put, Cond.code yX5_put cX5_put 3 none]
def wsX4_keep : List Cond := .code yX4_keep cX4_keep 3 none :: ((wsX4_keep_r1 ++ wsX4_keep_r2) ++ wsX40 ++ wsX20)
def wsX4_giveBack_r1 : List Cond := [Cond.fieldLink RX4 18 "FallingPatterns$Saved" "size" "I", Cond.methodLink RX4 25 yX4_memoryAt, Cond.instanceMethod yX4_memoryAt, Cond.selects RX4 yX4_memoryAt yX4_memoryAt, Cond.initialized RX4, Cond.code yX4_memoryAt cX4_memoryAt 3 (some (.object "FallingPatterns$Memory")), Cond.fieldLink RX4 22 "FallingPatterns$Saved" "oldest" "I", Cond.fieldLink RX4 11 "FallingPatterns$Saved" "memories" "[LFallingPatterns$Memory;", Cond.methodLink RX4 29 yX2_copy, Cond.instanceMethod yX2_copy, Cond.selects RX2 yX2_copy yX2_copy, Cond.initialized RX2, Cond.code yX2_copy cX2_copy 3 none, Cond.fieldLink RX2 9 "FallingPatterns$Memory" "patterns" "[I", Cond.fieldLink RX2 15 "FallingPatterns$Memory" "counted" "[I", Cond.fieldLink RX2 18 "FallingPatterns$Memory" "latest" "[I", Cond.fieldLink RX2 21 "FallingPatterns$Memory" "rule" "I", Cond.fieldLink RX2 25 "FallingPatterns$Memory" "recent" "I", Cond.fieldLink RX2 39 "FallingPatterns$Memory" "read" "I", Cond.fieldLink RX2 42 "FallingPatterns$Memory" "countedInAll" "I", Cond.fieldLink RX2 28 "FallingPatterns$Memory" "last" "I", Cond.fieldLink RX2 45 "FallingPatterns$Memory" "falls" "I", Cond.fieldLink RX2 48 "FallingPatterns$Memory" "mostFalls" "I", Cond.static yX5_at]
def wsX4_giveBack_r2 : List Cond := [Cond.initialized RX5, Cond.code yX5_at cX5_at 2 (some .int), Cond.static yX5_put, Cond.code yX5_put cX5_put 3 none]
def wsX4_giveBack : List Cond := .code yX4_giveBack cX4_giveBack 3 none :: ((wsX4_giveBack_r1 ++ wsX4_giveBack_r2) ++ wsX40 ++ wsX20)
def wsX5_init_r1 : List Cond := [Cond.methodLink RX5 3 objectInit, Cond.instanceMethod objectInit, Cond.code objectInit ⟨#[0xb1]⟩ 1 none, Cond.classLink RX5 9 RX2, Cond.instantiable RX2 10, Cond.initialized RX2, Cond.fieldLink RX5 12 "FallingPatterns" "now" "LFallingPatterns$Memory;", Cond.classLink RX5 16 RX4, Cond.instantiable RX4 3, Cond.initialized RX4, Cond.fieldLink RX5 19 "FallingPatterns" "saved" "LFallingPatterns$Saved;", Cond.classLink RX5 23 RX1, Cond.instantiable RX1 5, Cond.initialized RX1, Cond.fieldLink RX5 26 "FallingPatterns" "machine" "LFallingPatterns$Machine;", Cond.classLink RX5 30 RX0, Cond.instantiable RX0 2, Cond.initialized RX0, Cond.fieldLink RX5 33 "FallingPatterns" "buffer" "LFallingPatterns$Buffer;", Cond.arrayClass .int, Cond.fieldLink RX5 37 "FallingPatterns" "draft" "[I", Cond.methodLink RX5 11 yX2_init, Cond.instanceMethod yX2_init, Cond.code yX2_init cX2_init 2 none]
def wsX5_init_r2 : List Cond := [Cond.methodLink RX2 3 objectInit, Cond.fieldLink RX2 9 "FallingPatterns$Memory" "patterns" "[I", Cond.fieldLink RX2 15 "FallingPatterns$Memory" "counted" "[I", Cond.fieldLink RX2 18 "FallingPatterns$Memory" "latest" "[I", Cond.fieldLink RX2 21 "FallingPatterns$Memory" "rule" "I", Cond.fieldLink RX2 25 "FallingPatterns$Memory" "recent" "I", Cond.fieldLink RX2 28 "FallingPatterns$Memory" "last" "I", Cond.methodLink RX5 18 yX4_init, Cond.instanceMethod yX4_init, Cond.code yX4_init cX4_init 2 none, Cond.methodLink RX4 3 objectInit, Cond.classLink RX4 9 RX2, Cond.fieldLink RX4 11 "FallingPatterns$Saved" "memories" "[LFallingPatterns$Memory;", Cond.methodLink RX4 17 yX2_init, Cond.methodLink RX5 25 yX1_init, Cond.instanceMethod yX1_init, Cond.code yX1_init cX1_init 1 none, Cond.methodLink RX1 3 objectInit, Cond.fieldLink RX1 9 "FallingPatterns$Machine" "rows" "[I", Cond.fieldLink RX1 15 "FallingPatterns$Machine" "shorter" "[I", Cond.fieldLink RX1 18 "FallingPatterns$Machine" "ends" "[I", Cond.fieldLink RX1 21 "FallingPatterns$Machine" "leads" "[I", Cond.fieldLink RX1 28 "FallingPatterns$Machine" "size" "I", Cond.static yX5_put]
def wsX5_init_r3 : List Cond := [Cond.initialized RX5, Cond.code yX5_put cX5_put 3 none, Cond.methodLink RX5 32 yX0_init, Cond.instanceMethod yX0_init, Cond.code yX0_init cX0_init 1 none, Cond.methodLink RX0 3 objectInit, Cond.fieldLink RX0 9 "FallingPatterns$Buffer" "codes" "[I"]
def wsX5_init : List Cond := .code yX5_init cX5_init 1 none :: ((wsX5_init_r1 ++ (wsX5_init_r2 ++ wsX5_init_r3)) ++ wsX20 ++ wsX50 ++ wsX40 ++ wsX10 ++ wsX00)
def wsX5_patternIn : List Cond := .code yX5_patternIn cX5_patternIn 2 (some .int) :: ([.fieldLink RX5 12 "FallingPatterns" "now" "LFallingPatterns$Memory;", .fieldLink RX5 65 "FallingPatterns$Memory" "patterns" "[I", .methodLink RX5 68 yX5_at, .static yX5_at, .initialized RX5, .code yX5_at cX5_at 2 (some .int)] ++ wsX50 ++ wsX20)
def wsX5_draftSlotOf : List Cond := .code yX5_draftSlotOf cX5_draftSlotOf 3 (some .int) :: ([.fieldLink RX5 37 "FallingPatterns" "draft" "[I", .methodLink RX5 68 yX5_at, .static yX5_at, .initialized RX5, .code yX5_at cX5_at 2 (some .int)] ++ wsX50)
def wsX5_draftPatterns_r1 : List Cond := [Cond.fieldLink RX5 37 "FallingPatterns" "draft" "[I", Cond.fieldLink RX5 33 "FallingPatterns" "buffer" "LFallingPatterns$Buffer;", Cond.fieldLink RX5 142 "FallingPatterns$Buffer" "length" "I", Cond.fieldLink RX5 240 "FallingPatterns$Buffer" "codes" "[I", Cond.methodLink RX5 92 yX5_patternIn, Cond.instanceMethod yX5_patternIn, Cond.selects RX5 yX5_patternIn yX5_patternIn, Cond.initialized RX5, Cond.code yX5_patternIn cX5_patternIn 2 (some .int), Cond.fieldLink RX5 12 "FallingPatterns" "now" "LFallingPatterns$Memory;", Cond.fieldLink RX5 65 "FallingPatterns$Memory" "patterns" "[I", Cond.methodLink RX5 68 yX5_at, Cond.static yX5_at, Cond.code yX5_at cX5_at 2 (some .int), Cond.methodLink RX5 72 yX5_put, Cond.static yX5_put, Cond.code yX5_put cX5_put 3 none, Cond.methodLink RX5 243 yX3_behind, Cond.static yX3_behind, Cond.initialized RX3, Cond.code yX3_behind cX3_behind 2 (some .int), Cond.methodLink RX5 246 yX0_endsPart, Cond.instanceMethod yX0_endsPart, Cond.selects RX0 yX0_endsPart yX0_endsPart]
def wsX5_draftPatterns_r2 : List Cond := [Cond.initialized RX0, Cond.code yX0_endsPart cX0_endsPart 2 (some .boolean), Cond.fieldLink RX0 9 "FallingPatterns$Buffer" "codes" "[I", Cond.fieldLink RX0 15 "FallingPatterns$Buffer" "length" "I", Cond.methodLink RX5 249 yX5_draftSlotOf, Cond.instanceMethod yX5_draftSlotOf, Cond.selects RX5 yX5_draftSlotOf yX5_draftSlotOf, Cond.code yX5_draftSlotOf cX5_draftSlotOf 3 (some .int)]
def wsX5_draftPatterns : List Cond := .code yX5_draftPatterns cX5_draftPatterns 6 (some .int) :: ((wsX5_draftPatterns_r1 ++ wsX5_draftPatterns_r2) ++ wsX50 ++ wsX00 ++ wsX20)
def wsX5_add_r1 : List Cond := [Cond.classLink RX5 45 "java/lang/IllegalArgumentException", Cond.initialized "java/lang/IllegalArgumentException", Cond.classLink RX5 56 "java/lang/IllegalStateException", Cond.initialized "java/lang/IllegalStateException", Cond.fieldLink RX5 33 "FallingPatterns" "buffer" "LFallingPatterns$Buffer;", Cond.fieldLink RX5 19 "FallingPatterns" "saved" "LFallingPatterns$Saved;", Cond.fieldLink RX5 12 "FallingPatterns" "now" "LFallingPatterns$Memory;", Cond.fieldLink RX5 65 "FallingPatterns$Memory" "patterns" "[I", Cond.fieldLink RX5 37 "FallingPatterns" "draft" "[I", Cond.fieldLink RX5 26 "FallingPatterns" "machine" "LFallingPatterns$Machine;", Cond.methodLink RX5 41 yX0_holdsPatterns, Cond.instanceMethod yX0_holdsPatterns, Cond.selects RX0 yX0_holdsPatterns yX0_holdsPatterns, Cond.initialized RX0, Cond.code yX0_holdsPatterns cX0_holdsPatterns 1 (some .boolean), Cond.fieldLink RX0 15 "FallingPatterns$Buffer" "length" "I", Cond.methodLink RX0 34 yX0_firstErrorInPatterns, Cond.instanceMethod yX0_firstErrorInPatterns, Cond.selects RX0 yX0_firstErrorInPatterns yX0_firstErrorInPatterns, Cond.code yX0_firstErrorInPatterns cX0_firstErrorInPatterns 4 (some .int), Cond.fieldLink RX0 9 "FallingPatterns$Buffer" "codes" "[I", Cond.static yX5_at, Cond.initialized RX5, Cond.code yX5_at cX5_at 2 (some .int)]
def wsX5_add_r2 : List Cond := [Cond.methodLink RX0 31 yX0_isLetterCode, Cond.static yX0_isLetterCode, Cond.code yX0_isLetterCode cX0_isLetterCode 1 (some .boolean), Cond.methodLink RX0 38 yX0_endsPart, Cond.instanceMethod yX0_endsPart, Cond.selects RX0 yX0_endsPart yX0_endsPart, Cond.code yX0_endsPart cX0_endsPart 2 (some .boolean), Cond.methodLink RX5 52 yX5_draftPatterns, Cond.instanceMethod yX5_draftPatterns, Cond.selects RX5 yX5_draftPatterns yX5_draftPatterns, Cond.code yX5_draftPatterns cX5_draftPatterns 6 (some .int), Cond.fieldLink RX5 142 "FallingPatterns$Buffer" "length" "I", Cond.fieldLink RX5 240 "FallingPatterns$Buffer" "codes" "[I", Cond.methodLink RX5 92 yX5_patternIn, Cond.instanceMethod yX5_patternIn, Cond.selects RX5 yX5_patternIn yX5_patternIn, Cond.code yX5_patternIn cX5_patternIn 2 (some .int), Cond.methodLink RX5 68 yX5_at, Cond.methodLink RX5 72 yX5_put, Cond.static yX5_put, Cond.code yX5_put cX5_put 3 none, Cond.methodLink RX5 243 yX3_behind, Cond.static yX3_behind, Cond.initialized RX3]
def wsX5_add_r3 : List Cond := [Cond.code yX3_behind cX3_behind 2 (some .int), Cond.methodLink RX5 246 yX0_endsPart, Cond.methodLink RX5 249 yX5_draftSlotOf, Cond.instanceMethod yX5_draftSlotOf, Cond.selects RX5 yX5_draftSlotOf yX5_draftSlotOf, Cond.code yX5_draftSlotOf cX5_draftSlotOf 3 (some .int), Cond.methodLink RX5 61 yX4_keep, Cond.instanceMethod yX4_keep, Cond.selects RX4 yX4_keep yX4_keep, Cond.initialized RX4, Cond.code yX4_keep cX4_keep 3 none, Cond.fieldLink RX4 18 "FallingPatterns$Saved" "size" "I", Cond.fieldLink RX4 22 "FallingPatterns$Saved" "oldest" "I", Cond.methodLink RX4 25 yX4_memoryAt, Cond.instanceMethod yX4_memoryAt, Cond.selects RX4 yX4_memoryAt yX4_memoryAt, Cond.code yX4_memoryAt cX4_memoryAt 3 (some (.object "FallingPatterns$Memory")), Cond.fieldLink RX4 11 "FallingPatterns$Saved" "memories" "[LFallingPatterns$Memory;", Cond.methodLink RX4 29 yX2_copy, Cond.instanceMethod yX2_copy, Cond.selects RX2 yX2_copy yX2_copy, Cond.initialized RX2, Cond.code yX2_copy cX2_copy 3 none, Cond.fieldLink RX2 9 "FallingPatterns$Memory" "patterns" "[I"]
def wsX5_add_r4 : List Cond := [Cond.fieldLink RX2 15 "FallingPatterns$Memory" "counted" "[I", Cond.fieldLink RX2 18 "FallingPatterns$Memory" "latest" "[I", Cond.fieldLink RX2 21 "FallingPatterns$Memory" "rule" "I", Cond.fieldLink RX2 25 "FallingPatterns$Memory" "recent" "I", Cond.fieldLink RX2 39 "FallingPatterns$Memory" "read" "I", Cond.fieldLink RX2 42 "FallingPatterns$Memory" "countedInAll" "I", Cond.fieldLink RX2 28 "FallingPatterns$Memory" "last" "I", Cond.fieldLink RX2 45 "FallingPatterns$Memory" "falls" "I", Cond.fieldLink RX2 48 "FallingPatterns$Memory" "mostFalls" "I", Cond.methodLink RX5 76 yX0_empty, Cond.instanceMethod yX0_empty, Cond.selects RX0 yX0_empty yX0_empty, Cond.code yX0_empty cX0_empty 1 none, Cond.methodLink RX5 79 yX1_rebuild, Cond.instanceMethod yX1_rebuild, Cond.selects RX1 yX1_rebuild yX1_rebuild, Cond.initialized RX1, Cond.code yX1_rebuild cX1_rebuild 6 none, Cond.fieldLink RX1 28 "FallingPatterns$Machine" "size" "I", Cond.fieldLink RX1 18 "FallingPatterns$Machine" "ends" "[I", Cond.methodLink RX1 32 yX1_takeState, Cond.instanceMethod yX1_takeState, Cond.selects RX1 yX1_takeState yX1_takeState, Cond.code yX1_takeState cX1_takeState 4 none]
def wsX5_add_r5 : List Cond := [Cond.fieldLink RX1 9 "FallingPatterns$Machine" "rows" "[I", Cond.methodLink RX1 40 yX3_lengthOf, Cond.static yX3_lengthOf, Cond.code yX3_lengthOf cX3_lengthOf 2 (some .int), Cond.methodLink RX1 46 yX3_beginning, Cond.static yX3_beginning, Cond.code yX3_beginning cX3_beginning 2 (some .int), Cond.methodLink RX3 9 yX3_lengthOf, Cond.methodLink RX1 50 yX1_leadToLongerStates, Cond.instanceMethod yX1_leadToLongerStates, Cond.selects RX1 yX1_leadToLongerStates yX1_leadToLongerStates, Cond.code yX1_leadToLongerStates cX1_leadToLongerStates 4 none, Cond.fieldLink RX1 21 "FallingPatterns$Machine" "leads" "[I", Cond.methodLink RX1 73 yX3_lastLetter, Cond.static yX3_lastLetter, Cond.code yX3_lastLetter cX3_lastLetter 1 (some .int), Cond.methodLink RX1 53 yX1_fallBack, Cond.instanceMethod yX1_fallBack, Cond.selects RX1 yX1_fallBack yX1_fallBack, Cond.code yX1_fallBack cX1_fallBack 5 none, Cond.fieldLink RX1 15 "FallingPatterns$Machine" "shorter" "[I", Cond.methodLink RX1 63 yX1_leadsTo, Cond.instanceMethod yX1_leadsTo, Cond.selects RX1 yX1_leadsTo yX1_leadsTo]
def wsX5_add_r6 : List Cond := [Cond.code yX1_leadsTo cX1_leadsTo 3 (some .int), Cond.methodLink RX1 56 yX1_endsOf, Cond.instanceMethod yX1_endsOf, Cond.selects RX1 yX1_endsOf yX1_endsOf, Cond.code yX1_endsOf cX1_endsOf 5 (some .int)]
def wsX5_add : List Cond := .code yX5_add cX5_add 3 (some .int) :: ((wsX5_add_r1 ++ (wsX5_add_r2 ++ (wsX5_add_r3 ++ (wsX5_add_r4 ++ (wsX5_add_r5 ++ wsX5_add_r6))))) ++ wsX50 ++ wsX20 ++ wsX00 ++ wsX40 ++ wsX10 ++ (vx_atS RX5 49 "java/lang/IllegalArgumentException" ["java/lang/RuntimeException", "java/lang/Exception"]).filter goodWord ++ (vx_atS RX5 60 "java/lang/IllegalStateException" ["java/lang/RuntimeException", "java/lang/Exception"]).filter goodWord)
def wsX5_isSlot : List Cond := .code yX5_isSlot cX5_isSlot 1 (some .boolean) :: ([])
def wsX5_remove_r1 : List Cond := [Cond.classLink RX5 87 "java/lang/IndexOutOfBoundsException", Cond.initialized "java/lang/IndexOutOfBoundsException", Cond.classLink RX5 56 "java/lang/IllegalStateException", Cond.initialized "java/lang/IllegalStateException", Cond.fieldLink RX5 19 "FallingPatterns" "saved" "LFallingPatterns$Saved;", Cond.fieldLink RX5 12 "FallingPatterns" "now" "LFallingPatterns$Memory;", Cond.fieldLink RX5 98 "FallingPatterns$Memory" "counted" "[I", Cond.fieldLink RX5 65 "FallingPatterns$Memory" "patterns" "[I", Cond.fieldLink RX5 26 "FallingPatterns" "machine" "LFallingPatterns$Machine;", Cond.methodLink RX5 83 yX5_isSlot, Cond.static yX5_isSlot, Cond.initialized RX5, Cond.code yX5_isSlot cX5_isSlot 1 (some .boolean), Cond.methodLink RX5 92 yX5_patternIn, Cond.instanceMethod yX5_patternIn, Cond.selects RX5 yX5_patternIn yX5_patternIn, Cond.code yX5_patternIn cX5_patternIn 2 (some .int), Cond.methodLink RX5 68 yX5_at, Cond.static yX5_at, Cond.code yX5_at cX5_at 2 (some .int), Cond.methodLink RX5 61 yX4_keep, Cond.instanceMethod yX4_keep, Cond.selects RX4 yX4_keep yX4_keep, Cond.initialized RX4]
def wsX5_remove_r2 : List Cond := [Cond.code yX4_keep cX4_keep 3 none, Cond.fieldLink RX4 18 "FallingPatterns$Saved" "size" "I", Cond.fieldLink RX4 22 "FallingPatterns$Saved" "oldest" "I", Cond.methodLink RX4 25 yX4_memoryAt, Cond.instanceMethod yX4_memoryAt, Cond.selects RX4 yX4_memoryAt yX4_memoryAt, Cond.code yX4_memoryAt cX4_memoryAt 3 (some (.object "FallingPatterns$Memory")), Cond.fieldLink RX4 11 "FallingPatterns$Saved" "memories" "[LFallingPatterns$Memory;", Cond.methodLink RX4 29 yX2_copy, Cond.instanceMethod yX2_copy, Cond.selects RX2 yX2_copy yX2_copy, Cond.initialized RX2, Cond.code yX2_copy cX2_copy 3 none, Cond.fieldLink RX2 9 "FallingPatterns$Memory" "patterns" "[I", Cond.fieldLink RX2 15 "FallingPatterns$Memory" "counted" "[I", Cond.fieldLink RX2 18 "FallingPatterns$Memory" "latest" "[I", Cond.fieldLink RX2 21 "FallingPatterns$Memory" "rule" "I", Cond.fieldLink RX2 25 "FallingPatterns$Memory" "recent" "I", Cond.fieldLink RX2 39 "FallingPatterns$Memory" "read" "I", Cond.fieldLink RX2 42 "FallingPatterns$Memory" "countedInAll" "I", Cond.fieldLink RX2 28 "FallingPatterns$Memory" "last" "I", Cond.fieldLink RX2 45 "FallingPatterns$Memory" "falls" "I", Cond.fieldLink RX2 48 "FallingPatterns$Memory" "mostFalls" "I", Cond.static yX5_put]
def wsX5_remove_r3 : List Cond := [Cond.code yX5_put cX5_put 3 none, Cond.methodLink RX5 72 yX5_put, Cond.methodLink RX5 101 yX2_forgetMatchesOf, Cond.instanceMethod yX2_forgetMatchesOf, Cond.selects RX2 yX2_forgetMatchesOf yX2_forgetMatchesOf, Cond.code yX2_forgetMatchesOf cX2_forgetMatchesOf 2 none, Cond.methodLink RX5 79 yX1_rebuild, Cond.instanceMethod yX1_rebuild, Cond.selects RX1 yX1_rebuild yX1_rebuild, Cond.initialized RX1, Cond.code yX1_rebuild cX1_rebuild 6 none, Cond.fieldLink RX1 28 "FallingPatterns$Machine" "size" "I", Cond.fieldLink RX1 18 "FallingPatterns$Machine" "ends" "[I", Cond.methodLink RX1 32 yX1_takeState, Cond.instanceMethod yX1_takeState, Cond.selects RX1 yX1_takeState yX1_takeState, Cond.code yX1_takeState cX1_takeState 4 none, Cond.fieldLink RX1 9 "FallingPatterns$Machine" "rows" "[I", Cond.methodLink RX1 40 yX3_lengthOf, Cond.static yX3_lengthOf, Cond.initialized RX3, Cond.code yX3_lengthOf cX3_lengthOf 2 (some .int), Cond.methodLink RX1 46 yX3_beginning, Cond.static yX3_beginning]
def wsX5_remove_r4 : List Cond := [Cond.code yX3_beginning cX3_beginning 2 (some .int), Cond.methodLink RX3 9 yX3_lengthOf, Cond.methodLink RX1 50 yX1_leadToLongerStates, Cond.instanceMethod yX1_leadToLongerStates, Cond.selects RX1 yX1_leadToLongerStates yX1_leadToLongerStates, Cond.code yX1_leadToLongerStates cX1_leadToLongerStates 4 none, Cond.fieldLink RX1 21 "FallingPatterns$Machine" "leads" "[I", Cond.methodLink RX1 73 yX3_lastLetter, Cond.static yX3_lastLetter, Cond.code yX3_lastLetter cX3_lastLetter 1 (some .int), Cond.methodLink RX1 53 yX1_fallBack, Cond.instanceMethod yX1_fallBack, Cond.selects RX1 yX1_fallBack yX1_fallBack, Cond.code yX1_fallBack cX1_fallBack 5 none, Cond.fieldLink RX1 15 "FallingPatterns$Machine" "shorter" "[I", Cond.methodLink RX1 63 yX1_leadsTo, Cond.instanceMethod yX1_leadsTo, Cond.selects RX1 yX1_leadsTo yX1_leadsTo, Cond.code yX1_leadsTo cX1_leadsTo 3 (some .int), Cond.methodLink RX1 56 yX1_endsOf, Cond.instanceMethod yX1_endsOf, Cond.selects RX1 yX1_endsOf yX1_endsOf, Cond.code yX1_endsOf cX1_endsOf 5 (some .int)]
def wsX5_remove : List Cond := .code yX5_remove cX5_remove 3 (some .int) :: ((wsX5_remove_r1 ++ (wsX5_remove_r2 ++ (wsX5_remove_r3 ++ wsX5_remove_r4))) ++ wsX50 ++ wsX20 ++ wsX40 ++ wsX10 ++ (vx_atS RX5 91 "java/lang/IndexOutOfBoundsException" ["java/lang/RuntimeException", "java/lang/Exception"]).filter goodWord ++ (vx_atS RX5 60 "java/lang/IllegalStateException" ["java/lang/RuntimeException", "java/lang/Exception"]).filter goodWord)
def wsX5_rule_r1 : List Cond := [Cond.classLink RX5 45 "java/lang/IllegalArgumentException", Cond.initialized "java/lang/IllegalArgumentException", Cond.fieldLink RX5 19 "FallingPatterns" "saved" "LFallingPatterns$Saved;", Cond.fieldLink RX5 12 "FallingPatterns" "now" "LFallingPatterns$Memory;", Cond.fieldLink RX5 107 "FallingPatterns$Memory" "rule" "I", Cond.methodLink RX5 61 yX4_keep, Cond.instanceMethod yX4_keep, Cond.selects RX4 yX4_keep yX4_keep, Cond.initialized RX4, Cond.code yX4_keep cX4_keep 3 none, Cond.fieldLink RX4 18 "FallingPatterns$Saved" "size" "I", Cond.fieldLink RX4 22 "FallingPatterns$Saved" "oldest" "I", Cond.methodLink RX4 25 yX4_memoryAt, Cond.instanceMethod yX4_memoryAt, Cond.selects RX4 yX4_memoryAt yX4_memoryAt, Cond.code yX4_memoryAt cX4_memoryAt 3 (some (.object "FallingPatterns$Memory")), Cond.fieldLink RX4 11 "FallingPatterns$Saved" "memories" "[LFallingPatterns$Memory;", Cond.methodLink RX4 29 yX2_copy, Cond.instanceMethod yX2_copy, Cond.selects RX2 yX2_copy yX2_copy, Cond.initialized RX2, Cond.code yX2_copy cX2_copy 3 none, Cond.fieldLink RX2 9 "FallingPatterns$Memory" "patterns" "[I", Cond.fieldLink RX2 15 "FallingPatterns$Memory" "counted" "[I"]
def wsX5_rule_r2 : List Cond := [Cond.fieldLink RX2 18 "FallingPatterns$Memory" "latest" "[I", Cond.fieldLink RX2 21 "FallingPatterns$Memory" "rule" "I", Cond.fieldLink RX2 25 "FallingPatterns$Memory" "recent" "I", Cond.fieldLink RX2 39 "FallingPatterns$Memory" "read" "I", Cond.fieldLink RX2 42 "FallingPatterns$Memory" "countedInAll" "I", Cond.fieldLink RX2 28 "FallingPatterns$Memory" "last" "I", Cond.fieldLink RX2 45 "FallingPatterns$Memory" "falls" "I", Cond.fieldLink RX2 48 "FallingPatterns$Memory" "mostFalls" "I", Cond.static yX5_at, Cond.initialized RX5, Cond.code yX5_at cX5_at 2 (some .int), Cond.static yX5_put, Cond.code yX5_put cX5_put 3 none]
def wsX5_rule : List Cond := .code yX5_rule cX5_rule 3 (some .int) :: ((wsX5_rule_r1 ++ wsX5_rule_r2) ++ wsX50 ++ wsX20 ++ wsX40 ++ (vx_atS RX5 49 "java/lang/IllegalArgumentException" ["java/lang/RuntimeException", "java/lang/Exception"]).filter goodWord)
def wsX5_isLetter : List Cond := .code yX5_isLetter cX5_isLetter 1 (some .boolean) :: ([])
def wsX5_currentState_r1 : List Cond := [Cond.fieldLink RX5 26 "FallingPatterns" "machine" "LFallingPatterns$Machine;", Cond.fieldLink RX5 12 "FallingPatterns" "now" "LFallingPatterns$Memory;", Cond.fieldLink RX5 280 "FallingPatterns$Memory" "recent" "I", Cond.methodLink RX5 258 yX1_stateBehind, Cond.instanceMethod yX1_stateBehind, Cond.selects RX1 yX1_stateBehind yX1_stateBehind, Cond.initialized RX1, Cond.code yX1_stateBehind cX1_stateBehind 5 (some .int), Cond.methodLink RX1 40 yX3_lengthOf, Cond.static yX3_lengthOf, Cond.initialized RX3, Cond.code yX3_lengthOf cX3_lengthOf 2 (some .int), Cond.methodLink RX1 60 yX3_letterAt, Cond.static yX3_letterAt, Cond.code yX3_letterAt cX3_letterAt 3 (some .int), Cond.methodLink RX3 9 yX3_lengthOf, Cond.methodLink RX3 15 yX3_lastLetter, Cond.static yX3_lastLetter, Cond.code yX3_lastLetter cX3_lastLetter 1 (some .int), Cond.methodLink RX1 63 yX1_leadsTo, Cond.instanceMethod yX1_leadsTo, Cond.selects RX1 yX1_leadsTo yX1_leadsTo, Cond.code yX1_leadsTo cX1_leadsTo 3 (some .int), Cond.fieldLink RX1 21 "FallingPatterns$Machine" "leads" "[I"]
def wsX5_currentState_r2 : List Cond := [Cond.static yX5_at, Cond.initialized RX5, Cond.code yX5_at cX5_at 2 (some .int)]
def wsX5_currentState : List Cond := .code yX5_currentState cX5_currentState 1 (some .int) :: ((wsX5_currentState_r1 ++ wsX5_currentState_r2) ++ wsX50 ++ wsX20 ++ wsX10)
def wsX5_matchesThatCount : List Cond := .code yX5_matchesThatCount cX5_matchesThatCount 10 (some .int) :: ([.fieldLink RX5 26 "FallingPatterns" "machine" "LFallingPatterns$Machine;", .fieldLink RX5 318 "FallingPatterns$Machine" "ends" "[I", .fieldLink RX5 12 "FallingPatterns" "now" "LFallingPatterns$Memory;", .fieldLink RX5 107 "FallingPatterns$Memory" "rule" "I", .methodLink RX5 68 yX5_at, .static yX5_at, .initialized RX5, .code yX5_at cX5_at 2 (some .int), .methodLink RX5 92 yX5_patternIn, .instanceMethod yX5_patternIn, .selects RX5 yX5_patternIn yX5_patternIn, .code yX5_patternIn cX5_patternIn 2 (some .int), .fieldLink RX5 65 "FallingPatterns$Memory" "patterns" "[I", .methodLink RX5 252 yX3_lengthOf, .static yX3_lengthOf, .initialized RX3, .code yX3_lengthOf cX3_lengthOf 2 (some .int)] ++ wsX50 ++ wsX10 ++ wsX20)
def wsJ6_bitCount_0f7a4 : List Cond := .code yJ6_bitCount_0f7a4 cJ6_bitCount_0f7a4 1 (some .int) :: ([.constant RJ6 265 (1431655765), .constant RJ6 266 (858993459), .constant RJ6 267 (252645135)])
def wsX5_readLetter_r1 : List Cond := [Cond.fieldLink RX5 26 "FallingPatterns" "machine" "LFallingPatterns$Machine;", Cond.fieldLink RX5 12 "FallingPatterns" "now" "LFallingPatterns$Memory;", Cond.fieldLink RX5 116 "FallingPatterns$Memory" "read" "I", Cond.fieldLink RX5 289 "FallingPatterns$Memory" "last" "I", Cond.fieldLink RX5 280 "FallingPatterns$Memory" "recent" "I", Cond.methodLink RX5 283 yX5_currentState, Cond.instanceMethod yX5_currentState, Cond.selects RX5 yX5_currentState yX5_currentState, Cond.initialized RX5, Cond.code yX5_currentState cX5_currentState 1 (some .int), Cond.methodLink RX5 258 yX1_stateBehind, Cond.instanceMethod yX1_stateBehind, Cond.selects RX1 yX1_stateBehind yX1_stateBehind, Cond.initialized RX1, Cond.code yX1_stateBehind cX1_stateBehind 5 (some .int), Cond.methodLink RX1 40 yX3_lengthOf, Cond.static yX3_lengthOf, Cond.initialized RX3, Cond.code yX3_lengthOf cX3_lengthOf 2 (some .int), Cond.methodLink RX1 60 yX3_letterAt, Cond.static yX3_letterAt, Cond.code yX3_letterAt cX3_letterAt 3 (some .int), Cond.methodLink RX3 9 yX3_lengthOf, Cond.methodLink RX3 15 yX3_lastLetter]
def wsX5_readLetter_r2 : List Cond := [Cond.static yX3_lastLetter, Cond.code yX3_lastLetter cX3_lastLetter 1 (some .int), Cond.methodLink RX1 63 yX1_leadsTo, Cond.instanceMethod yX1_leadsTo, Cond.selects RX1 yX1_leadsTo yX1_leadsTo, Cond.code yX1_leadsTo cX1_leadsTo 3 (some .int), Cond.fieldLink RX1 21 "FallingPatterns$Machine" "leads" "[I", Cond.static yX5_at, Cond.code yX5_at cX5_at 2 (some .int), Cond.methodLink RX5 286 yX1_leadsTo, Cond.methodLink RX5 292 yX5_matchesThatCount, Cond.instanceMethod yX5_matchesThatCount, Cond.selects RX5 yX5_matchesThatCount yX5_matchesThatCount, Cond.code yX5_matchesThatCount cX5_matchesThatCount 10 (some .int), Cond.fieldLink RX5 318 "FallingPatterns$Machine" "ends" "[I", Cond.fieldLink RX5 107 "FallingPatterns$Memory" "rule" "I", Cond.methodLink RX5 68 yX5_at, Cond.methodLink RX5 92 yX5_patternIn, Cond.instanceMethod yX5_patternIn, Cond.selects RX5 yX5_patternIn yX5_patternIn, Cond.code yX5_patternIn cX5_patternIn 2 (some .int), Cond.fieldLink RX5 65 "FallingPatterns$Memory" "patterns" "[I", Cond.methodLink RX5 252 yX3_lengthOf, Cond.methodLink RX5 296 yX1_fallsBefore]
def wsX5_readLetter_r3 : List Cond := [Cond.instanceMethod yX1_fallsBefore, Cond.selects RX1 yX1_fallsBefore yX1_fallsBefore, Cond.code yX1_fallsBefore cX1_fallsBefore 5 (some .int), Cond.fieldLink RX1 15 "FallingPatterns$Machine" "shorter" "[I", Cond.methodLink RX1 66 yX1_goesOn, Cond.instanceMethod yX1_goesOn, Cond.selects RX1 yX1_goesOn yX1_goesOn, Cond.code yX1_goesOn cX1_goesOn 3 (some .boolean), Cond.fieldLink RX1 9 "FallingPatterns$Machine" "rows" "[I", Cond.methodLink RX1 70 yX3_behind, Cond.static yX3_behind, Cond.code yX3_behind cX3_behind 2 (some .int), Cond.methodLink RX5 299 yX2_takeFalls, Cond.instanceMethod yX2_takeFalls, Cond.selects RX2 yX2_takeFalls yX2_takeFalls, Cond.initialized RX2, Cond.code yX2_takeFalls cX2_takeFalls 2 none, Cond.fieldLink RX2 45 "FallingPatterns$Memory" "falls" "I", Cond.fieldLink RX2 48 "FallingPatterns$Memory" "mostFalls" "I", Cond.methodLink RX2 55 Lib.Math.max.name, Cond.static Lib.Math.max.name, Cond.initialized "java/lang/Math", Cond.code Lib.Math.max.name Lib.Math.max.code 2 (some .int), Cond.methodLink RX5 302 yX2_takeMatches]
def wsX5_readLetter_r4 : List Cond := [Cond.instanceMethod yX2_takeMatches, Cond.selects RX2 yX2_takeMatches yX2_takeMatches, Cond.code yX2_takeMatches cX2_takeMatches 3 none, Cond.fieldLink RX2 15 "FallingPatterns$Memory" "counted" "[I", Cond.fieldLink RX2 18 "FallingPatterns$Memory" "latest" "[I", Cond.fieldLink RX2 39 "FallingPatterns$Memory" "read" "I", Cond.fieldLink RX2 42 "FallingPatterns$Memory" "countedInAll" "I", Cond.fieldLink RX2 28 "FallingPatterns$Memory" "last" "I", Cond.static yX5_put, Cond.code yX5_put cX5_put 3 none, Cond.methodLink RX5 243 yX3_behind, Cond.methodLink RX5 305 yX3_latest, Cond.static yX3_latest, Cond.code yX3_latest cX3_latest 1 (some .int), Cond.methodLink RX3 18 yX3_end, Cond.static yX3_end, Cond.code yX3_end cX3_end 3 (some .int), Cond.methodLink RX5 307 yJ6_bitCount_0f7a4, Cond.static yJ6_bitCount_0f7a4, Cond.initialized RJ6, Cond.code yJ6_bitCount_0f7a4 cJ6_bitCount_0f7a4 1 (some .int), Cond.constant RJ6 265 (1431655765), Cond.constant RJ6 266 (858993459), Cond.constant RJ6 267 (252645135)]
def wsX5_readLetter : List Cond := .code yX5_readLetter cX5_readLetter 4 (some .int) :: ((wsX5_readLetter_r1 ++ (wsX5_readLetter_r2 ++ (wsX5_readLetter_r3 ++ wsX5_readLetter_r4))) ++ wsX50 ++ wsX20 ++ wsX10)
def wsX5_feed_r1 : List Cond := [Cond.classLink RX5 45 "java/lang/IllegalArgumentException", Cond.initialized "java/lang/IllegalArgumentException", Cond.classLink RX5 56 "java/lang/IllegalStateException", Cond.initialized "java/lang/IllegalStateException", Cond.fieldLink RX5 12 "FallingPatterns" "now" "LFallingPatterns$Memory;", Cond.fieldLink RX5 116 "FallingPatterns$Memory" "read" "I", Cond.fieldLink RX5 19 "FallingPatterns" "saved" "LFallingPatterns$Saved;", Cond.methodLink RX5 111 yX5_isLetter, Cond.static yX5_isLetter, Cond.initialized RX5, Cond.code yX5_isLetter cX5_isLetter 1 (some .boolean), Cond.methodLink RX5 61 yX4_keep, Cond.instanceMethod yX4_keep, Cond.selects RX4 yX4_keep yX4_keep, Cond.initialized RX4, Cond.code yX4_keep cX4_keep 3 none, Cond.fieldLink RX4 18 "FallingPatterns$Saved" "size" "I", Cond.fieldLink RX4 22 "FallingPatterns$Saved" "oldest" "I", Cond.methodLink RX4 25 yX4_memoryAt, Cond.instanceMethod yX4_memoryAt, Cond.selects RX4 yX4_memoryAt yX4_memoryAt, Cond.code yX4_memoryAt cX4_memoryAt 3 (some (.object "FallingPatterns$Memory")), Cond.fieldLink RX4 11 "FallingPatterns$Saved" "memories" "[LFallingPatterns$Memory;", Cond.methodLink RX4 29 yX2_copy]
def wsX5_feed_r2 : List Cond := [Cond.instanceMethod yX2_copy, Cond.selects RX2 yX2_copy yX2_copy, Cond.initialized RX2, Cond.code yX2_copy cX2_copy 3 none, Cond.fieldLink RX2 9 "FallingPatterns$Memory" "patterns" "[I", Cond.fieldLink RX2 15 "FallingPatterns$Memory" "counted" "[I", Cond.fieldLink RX2 18 "FallingPatterns$Memory" "latest" "[I", Cond.fieldLink RX2 21 "FallingPatterns$Memory" "rule" "I", Cond.fieldLink RX2 25 "FallingPatterns$Memory" "recent" "I", Cond.fieldLink RX2 39 "FallingPatterns$Memory" "read" "I", Cond.fieldLink RX2 42 "FallingPatterns$Memory" "countedInAll" "I", Cond.fieldLink RX2 28 "FallingPatterns$Memory" "last" "I", Cond.fieldLink RX2 45 "FallingPatterns$Memory" "falls" "I", Cond.fieldLink RX2 48 "FallingPatterns$Memory" "mostFalls" "I", Cond.static yX5_at, Cond.code yX5_at cX5_at 2 (some .int), Cond.static yX5_put, Cond.code yX5_put cX5_put 3 none, Cond.methodLink RX5 121 yX5_readLetter, Cond.instanceMethod yX5_readLetter, Cond.selects RX5 yX5_readLetter yX5_readLetter, Cond.code yX5_readLetter cX5_readLetter 4 (some .int), Cond.fieldLink RX5 26 "FallingPatterns" "machine" "LFallingPatterns$Machine;", Cond.fieldLink RX5 289 "FallingPatterns$Memory" "last" "I"]
def wsX5_feed_r3 : List Cond := [Cond.fieldLink RX5 280 "FallingPatterns$Memory" "recent" "I", Cond.methodLink RX5 283 yX5_currentState, Cond.instanceMethod yX5_currentState, Cond.selects RX5 yX5_currentState yX5_currentState, Cond.code yX5_currentState cX5_currentState 1 (some .int), Cond.methodLink RX5 258 yX1_stateBehind, Cond.instanceMethod yX1_stateBehind, Cond.selects RX1 yX1_stateBehind yX1_stateBehind, Cond.initialized RX1, Cond.code yX1_stateBehind cX1_stateBehind 5 (some .int), Cond.methodLink RX1 40 yX3_lengthOf, Cond.static yX3_lengthOf, Cond.initialized RX3, Cond.code yX3_lengthOf cX3_lengthOf 2 (some .int), Cond.methodLink RX1 60 yX3_letterAt, Cond.static yX3_letterAt, Cond.code yX3_letterAt cX3_letterAt 3 (some .int), Cond.methodLink RX3 9 yX3_lengthOf, Cond.methodLink RX3 15 yX3_lastLetter, Cond.static yX3_lastLetter, Cond.code yX3_lastLetter cX3_lastLetter 1 (some .int), Cond.methodLink RX1 63 yX1_leadsTo, Cond.instanceMethod yX1_leadsTo, Cond.selects RX1 yX1_leadsTo yX1_leadsTo]
def wsX5_feed_r4 : List Cond := [Cond.code yX1_leadsTo cX1_leadsTo 3 (some .int), Cond.fieldLink RX1 21 "FallingPatterns$Machine" "leads" "[I", Cond.methodLink RX5 286 yX1_leadsTo, Cond.methodLink RX5 292 yX5_matchesThatCount, Cond.instanceMethod yX5_matchesThatCount, Cond.selects RX5 yX5_matchesThatCount yX5_matchesThatCount, Cond.code yX5_matchesThatCount cX5_matchesThatCount 10 (some .int), Cond.fieldLink RX5 318 "FallingPatterns$Machine" "ends" "[I", Cond.fieldLink RX5 107 "FallingPatterns$Memory" "rule" "I", Cond.methodLink RX5 68 yX5_at, Cond.methodLink RX5 92 yX5_patternIn, Cond.instanceMethod yX5_patternIn, Cond.selects RX5 yX5_patternIn yX5_patternIn, Cond.code yX5_patternIn cX5_patternIn 2 (some .int), Cond.fieldLink RX5 65 "FallingPatterns$Memory" "patterns" "[I", Cond.methodLink RX5 252 yX3_lengthOf, Cond.methodLink RX5 296 yX1_fallsBefore, Cond.instanceMethod yX1_fallsBefore, Cond.selects RX1 yX1_fallsBefore yX1_fallsBefore, Cond.code yX1_fallsBefore cX1_fallsBefore 5 (some .int), Cond.fieldLink RX1 15 "FallingPatterns$Machine" "shorter" "[I", Cond.methodLink RX1 66 yX1_goesOn, Cond.instanceMethod yX1_goesOn, Cond.selects RX1 yX1_goesOn yX1_goesOn]
def wsX5_feed_r5 : List Cond := [Cond.code yX1_goesOn cX1_goesOn 3 (some .boolean), Cond.fieldLink RX1 9 "FallingPatterns$Machine" "rows" "[I", Cond.methodLink RX1 70 yX3_behind, Cond.static yX3_behind, Cond.code yX3_behind cX3_behind 2 (some .int), Cond.methodLink RX5 299 yX2_takeFalls, Cond.instanceMethod yX2_takeFalls, Cond.selects RX2 yX2_takeFalls yX2_takeFalls, Cond.code yX2_takeFalls cX2_takeFalls 2 none, Cond.methodLink RX2 55 Lib.Math.max.name, Cond.static Lib.Math.max.name, Cond.initialized "java/lang/Math", Cond.code Lib.Math.max.name Lib.Math.max.code 2 (some .int), Cond.methodLink RX5 302 yX2_takeMatches, Cond.instanceMethod yX2_takeMatches, Cond.selects RX2 yX2_takeMatches yX2_takeMatches, Cond.code yX2_takeMatches cX2_takeMatches 3 none, Cond.methodLink RX5 243 yX3_behind, Cond.methodLink RX5 305 yX3_latest, Cond.static yX3_latest, Cond.code yX3_latest cX3_latest 1 (some .int), Cond.methodLink RX3 18 yX3_end, Cond.static yX3_end, Cond.code yX3_end cX3_end 3 (some .int)]
def wsX5_feed_r6 : List Cond := [Cond.methodLink RX5 307 yJ6_bitCount_0f7a4, Cond.static yJ6_bitCount_0f7a4, Cond.initialized RJ6, Cond.code yJ6_bitCount_0f7a4 cJ6_bitCount_0f7a4 1 (some .int), Cond.constant RJ6 265 (1431655765), Cond.constant RJ6 266 (858993459), Cond.constant RJ6 267 (252645135)]
def wsX5_feed : List Cond := .code yX5_feed cX5_feed 2 (some .int) :: ((wsX5_feed_r1 ++ (wsX5_feed_r2 ++ (wsX5_feed_r3 ++ (wsX5_feed_r4 ++ (wsX5_feed_r5 ++ wsX5_feed_r6))))) ++ wsX50 ++ wsX20 ++ wsX40 ++ wsX10 ++ (vx_atS RX5 49 "java/lang/IllegalArgumentException" ["java/lang/RuntimeException", "java/lang/Exception"]).filter goodWord ++ (vx_atS RX5 60 "java/lang/IllegalStateException" ["java/lang/RuntimeException", "java/lang/Exception"]).filter goodWord)
def wsX5_begin_r1 : List Cond := [Cond.fieldLink RX5 19 "FallingPatterns" "saved" "LFallingPatterns$Saved;", Cond.fieldLink RX5 12 "FallingPatterns" "now" "LFallingPatterns$Memory;", Cond.fieldLink RX5 116 "FallingPatterns$Memory" "read" "I", Cond.methodLink RX5 61 yX4_keep, Cond.instanceMethod yX4_keep, Cond.selects RX4 yX4_keep yX4_keep, Cond.initialized RX4, Cond.code yX4_keep cX4_keep 3 none, Cond.fieldLink RX4 18 "FallingPatterns$Saved" "size" "I", Cond.fieldLink RX4 22 "FallingPatterns$Saved" "oldest" "I", Cond.methodLink RX4 25 yX4_memoryAt, Cond.instanceMethod yX4_memoryAt, Cond.selects RX4 yX4_memoryAt yX4_memoryAt, Cond.code yX4_memoryAt cX4_memoryAt 3 (some (.object "FallingPatterns$Memory")), Cond.fieldLink RX4 11 "FallingPatterns$Saved" "memories" "[LFallingPatterns$Memory;", Cond.methodLink RX4 29 yX2_copy, Cond.instanceMethod yX2_copy, Cond.selects RX2 yX2_copy yX2_copy, Cond.initialized RX2, Cond.code yX2_copy cX2_copy 3 none, Cond.fieldLink RX2 9 "FallingPatterns$Memory" "patterns" "[I", Cond.fieldLink RX2 15 "FallingPatterns$Memory" "counted" "[I", Cond.fieldLink RX2 18 "FallingPatterns$Memory" "latest" "[I", Cond.fieldLink RX2 21 "FallingPatterns$Memory" "rule" "I"]
def wsX5_begin_r2 : List Cond := [Cond.fieldLink RX2 25 "FallingPatterns$Memory" "recent" "I", Cond.fieldLink RX2 39 "FallingPatterns$Memory" "read" "I", Cond.fieldLink RX2 42 "FallingPatterns$Memory" "countedInAll" "I", Cond.fieldLink RX2 28 "FallingPatterns$Memory" "last" "I", Cond.fieldLink RX2 45 "FallingPatterns$Memory" "falls" "I", Cond.fieldLink RX2 48 "FallingPatterns$Memory" "mostFalls" "I", Cond.static yX5_at, Cond.initialized RX5, Cond.code yX5_at cX5_at 2 (some .int), Cond.static yX5_put, Cond.code yX5_put cX5_put 3 none, Cond.methodLink RX5 137 yX2_forgetText, Cond.instanceMethod yX2_forgetText, Cond.selects RX2 yX2_forgetText yX2_forgetText, Cond.code yX2_forgetText cX2_forgetText 2 none, Cond.methodLink RX2 51 yX2_forgetMatchesOf, Cond.instanceMethod yX2_forgetMatchesOf, Cond.selects RX2 yX2_forgetMatchesOf yX2_forgetMatchesOf, Cond.code yX2_forgetMatchesOf cX2_forgetMatchesOf 2 none]
def wsX5_begin : List Cond := .code yX5_begin cX5_begin 2 (some .int) :: ((wsX5_begin_r1 ++ wsX5_begin_r2) ++ wsX50 ++ wsX20 ++ wsX40)
def wsX5_append : List Cond := .code yX5_append cX5_append 2 (some .int) :: ([.classLink RX5 45 "java/lang/IllegalArgumentException", .initialized "java/lang/IllegalArgumentException", .classLink RX5 56 "java/lang/IllegalStateException", .initialized "java/lang/IllegalStateException", .fieldLink RX5 33 "FallingPatterns" "buffer" "LFallingPatterns$Buffer;", .fieldLink RX5 142 "FallingPatterns$Buffer" "length" "I", .methodLink RX5 147 yX0_take, .instanceMethod yX0_take, .selects RX0 yX0_take yX0_take, .initialized RX0, .code yX0_take cX0_take 2 none, .fieldLink RX0 9 "FallingPatterns$Buffer" "codes" "[I", .fieldLink RX0 15 "FallingPatterns$Buffer" "length" "I", .static yX5_put, .initialized RX5, .code yX5_put cX5_put 3 none] ++ wsX50 ++ wsX00 ++ (vx_atS RX5 49 "java/lang/IllegalArgumentException" ["java/lang/RuntimeException", "java/lang/Exception"]).filter goodWord ++ (vx_atS RX5 60 "java/lang/IllegalStateException" ["java/lang/RuntimeException", "java/lang/Exception"]).filter goodWord)
def wsX5_clearBuffer : List Cond := .code yX5_clearBuffer cX5_clearBuffer 2 (some .int) :: ([.fieldLink RX5 33 "FallingPatterns" "buffer" "LFallingPatterns$Buffer;", .fieldLink RX5 142 "FallingPatterns$Buffer" "length" "I", .methodLink RX5 76 yX0_empty, .instanceMethod yX0_empty, .selects RX0 yX0_empty yX0_empty, .initialized RX0, .code yX0_empty cX0_empty 1 none, .fieldLink RX0 15 "FallingPatterns$Buffer" "length" "I"] ++ wsX50 ++ wsX00)
def wsX5_undo_r1 : List Cond := [Cond.classLink RX5 56 "java/lang/IllegalStateException", Cond.initialized "java/lang/IllegalStateException", Cond.fieldLink RX5 19 "FallingPatterns" "saved" "LFallingPatterns$Saved;", Cond.fieldLink RX5 156 "FallingPatterns$Saved" "size" "I", Cond.fieldLink RX5 12 "FallingPatterns" "now" "LFallingPatterns$Memory;", Cond.fieldLink RX5 26 "FallingPatterns" "machine" "LFallingPatterns$Machine;", Cond.fieldLink RX5 65 "FallingPatterns$Memory" "patterns" "[I", Cond.methodLink RX5 161 yX4_giveBack, Cond.instanceMethod yX4_giveBack, Cond.selects RX4 yX4_giveBack yX4_giveBack, Cond.initialized RX4, Cond.code yX4_giveBack cX4_giveBack 3 none, Cond.fieldLink RX4 18 "FallingPatterns$Saved" "size" "I", Cond.methodLink RX4 25 yX4_memoryAt, Cond.instanceMethod yX4_memoryAt, Cond.selects RX4 yX4_memoryAt yX4_memoryAt, Cond.code yX4_memoryAt cX4_memoryAt 3 (some (.object "FallingPatterns$Memory")), Cond.fieldLink RX4 22 "FallingPatterns$Saved" "oldest" "I", Cond.fieldLink RX4 11 "FallingPatterns$Saved" "memories" "[LFallingPatterns$Memory;", Cond.methodLink RX4 29 yX2_copy, Cond.instanceMethod yX2_copy, Cond.selects RX2 yX2_copy yX2_copy, Cond.initialized RX2, Cond.code yX2_copy cX2_copy 3 none]
def wsX5_undo_r2 : List Cond := [Cond.fieldLink RX2 9 "FallingPatterns$Memory" "patterns" "[I", Cond.fieldLink RX2 15 "FallingPatterns$Memory" "counted" "[I", Cond.fieldLink RX2 18 "FallingPatterns$Memory" "latest" "[I", Cond.fieldLink RX2 21 "FallingPatterns$Memory" "rule" "I", Cond.fieldLink RX2 25 "FallingPatterns$Memory" "recent" "I", Cond.fieldLink RX2 39 "FallingPatterns$Memory" "read" "I", Cond.fieldLink RX2 42 "FallingPatterns$Memory" "countedInAll" "I", Cond.fieldLink RX2 28 "FallingPatterns$Memory" "last" "I", Cond.fieldLink RX2 45 "FallingPatterns$Memory" "falls" "I", Cond.fieldLink RX2 48 "FallingPatterns$Memory" "mostFalls" "I", Cond.static yX5_at, Cond.initialized RX5, Cond.code yX5_at cX5_at 2 (some .int), Cond.static yX5_put, Cond.code yX5_put cX5_put 3 none, Cond.methodLink RX5 79 yX1_rebuild, Cond.instanceMethod yX1_rebuild, Cond.selects RX1 yX1_rebuild yX1_rebuild, Cond.initialized RX1, Cond.code yX1_rebuild cX1_rebuild 6 none, Cond.fieldLink RX1 28 "FallingPatterns$Machine" "size" "I", Cond.fieldLink RX1 18 "FallingPatterns$Machine" "ends" "[I", Cond.methodLink RX1 32 yX1_takeState, Cond.instanceMethod yX1_takeState]
def wsX5_undo_r3 : List Cond := [Cond.selects RX1 yX1_takeState yX1_takeState, Cond.code yX1_takeState cX1_takeState 4 none, Cond.fieldLink RX1 9 "FallingPatterns$Machine" "rows" "[I", Cond.methodLink RX1 40 yX3_lengthOf, Cond.static yX3_lengthOf, Cond.initialized RX3, Cond.code yX3_lengthOf cX3_lengthOf 2 (some .int), Cond.methodLink RX1 46 yX3_beginning, Cond.static yX3_beginning, Cond.code yX3_beginning cX3_beginning 2 (some .int), Cond.methodLink RX3 9 yX3_lengthOf, Cond.methodLink RX1 50 yX1_leadToLongerStates, Cond.instanceMethod yX1_leadToLongerStates, Cond.selects RX1 yX1_leadToLongerStates yX1_leadToLongerStates, Cond.code yX1_leadToLongerStates cX1_leadToLongerStates 4 none, Cond.fieldLink RX1 21 "FallingPatterns$Machine" "leads" "[I", Cond.methodLink RX1 73 yX3_lastLetter, Cond.static yX3_lastLetter, Cond.code yX3_lastLetter cX3_lastLetter 1 (some .int), Cond.methodLink RX1 53 yX1_fallBack, Cond.instanceMethod yX1_fallBack, Cond.selects RX1 yX1_fallBack yX1_fallBack, Cond.code yX1_fallBack cX1_fallBack 5 none, Cond.fieldLink RX1 15 "FallingPatterns$Machine" "shorter" "[I"]
def wsX5_undo_r4 : List Cond := [Cond.methodLink RX1 63 yX1_leadsTo, Cond.instanceMethod yX1_leadsTo, Cond.selects RX1 yX1_leadsTo yX1_leadsTo, Cond.code yX1_leadsTo cX1_leadsTo 3 (some .int), Cond.methodLink RX1 56 yX1_endsOf, Cond.instanceMethod yX1_endsOf, Cond.selects RX1 yX1_endsOf yX1_endsOf, Cond.code yX1_endsOf cX1_endsOf 5 (some .int)]
def wsX5_undo : List Cond := .code yX5_undo cX5_undo 1 (some .int) :: ((wsX5_undo_r1 ++ (wsX5_undo_r2 ++ (wsX5_undo_r3 ++ wsX5_undo_r4))) ++ wsX50 ++ wsX40 ++ wsX20 ++ wsX10 ++ (vx_atS RX5 60 "java/lang/IllegalStateException" ["java/lang/RuntimeException", "java/lang/Exception"]).filter goodWord)
def wsX5_othersInside_r1 : List Cond := [Cond.methodLink RX5 92 yX5_patternIn, Cond.instanceMethod yX5_patternIn, Cond.selects RX5 yX5_patternIn yX5_patternIn, Cond.initialized RX5, Cond.code yX5_patternIn cX5_patternIn 2 (some .int), Cond.fieldLink RX5 12 "FallingPatterns" "now" "LFallingPatterns$Memory;", Cond.fieldLink RX5 65 "FallingPatterns$Memory" "patterns" "[I", Cond.methodLink RX5 68 yX5_at, Cond.static yX5_at, Cond.code yX5_at cX5_at 2 (some .int), Cond.methodLink RX5 267 yX3_isPart, Cond.static yX3_isPart, Cond.initialized RX3, Cond.code yX3_isPart cX3_isPart 4 (some .boolean), Cond.methodLink RX3 9 yX3_lengthOf, Cond.static yX3_lengthOf, Cond.code yX3_lengthOf cX3_lengthOf 2 (some .int), Cond.methodLink RX3 22 yX3_beginning, Cond.static yX3_beginning, Cond.code yX3_beginning cX3_beginning 2 (some .int), Cond.methodLink RX3 25 yX3_endsWith, Cond.static yX3_endsWith, Cond.code yX3_endsWith cX3_endsWith 3 (some .boolean), Cond.methodLink RX3 18 yX3_end]
def wsX5_othersInside_r2 : List Cond := [Cond.static yX3_end, Cond.code yX3_end cX3_end 3 (some .int)]
def wsX5_othersInside : List Cond := .code yX5_othersInside cX5_othersInside 4 (some .int) :: ((wsX5_othersInside_r1 ++ wsX5_othersInside_r2) ++ wsX50 ++ wsX20)
def wsX5_othersAround_r1 : List Cond := [Cond.methodLink RX5 92 yX5_patternIn, Cond.instanceMethod yX5_patternIn, Cond.selects RX5 yX5_patternIn yX5_patternIn, Cond.initialized RX5, Cond.code yX5_patternIn cX5_patternIn 2 (some .int), Cond.fieldLink RX5 12 "FallingPatterns" "now" "LFallingPatterns$Memory;", Cond.fieldLink RX5 65 "FallingPatterns$Memory" "patterns" "[I", Cond.methodLink RX5 68 yX5_at, Cond.static yX5_at, Cond.code yX5_at cX5_at 2 (some .int), Cond.methodLink RX5 267 yX3_isPart, Cond.static yX3_isPart, Cond.initialized RX3, Cond.code yX3_isPart cX3_isPart 4 (some .boolean), Cond.methodLink RX3 9 yX3_lengthOf, Cond.static yX3_lengthOf, Cond.code yX3_lengthOf cX3_lengthOf 2 (some .int), Cond.methodLink RX3 22 yX3_beginning, Cond.static yX3_beginning, Cond.code yX3_beginning cX3_beginning 2 (some .int), Cond.methodLink RX3 25 yX3_endsWith, Cond.static yX3_endsWith, Cond.code yX3_endsWith cX3_endsWith 3 (some .boolean), Cond.methodLink RX3 18 yX3_end]
def wsX5_othersAround_r2 : List Cond := [Cond.static yX3_end, Cond.code yX3_end cX3_end 3 (some .int)]
def wsX5_othersAround : List Cond := .code yX5_othersAround cX5_othersAround 4 (some .int) :: ((wsX5_othersAround_r1 ++ wsX5_othersAround_r2) ++ wsX50 ++ wsX20)
def wsX5_patternProperty_r1 : List Cond := [Cond.fieldLink RX5 12 "FallingPatterns" "now" "LFallingPatterns$Memory;", Cond.fieldLink RX5 98 "FallingPatterns$Memory" "counted" "[I", Cond.fieldLink RX5 255 "FallingPatterns$Memory" "latest" "[I", Cond.fieldLink RX5 26 "FallingPatterns" "machine" "LFallingPatterns$Machine;", Cond.methodLink RX5 92 yX5_patternIn, Cond.instanceMethod yX5_patternIn, Cond.selects RX5 yX5_patternIn yX5_patternIn, Cond.initialized RX5, Cond.code yX5_patternIn cX5_patternIn 2 (some .int), Cond.fieldLink RX5 65 "FallingPatterns$Memory" "patterns" "[I", Cond.methodLink RX5 68 yX5_at, Cond.static yX5_at, Cond.code yX5_at cX5_at 2 (some .int), Cond.methodLink RX5 252 yX3_lengthOf, Cond.static yX3_lengthOf, Cond.initialized RX3, Cond.code yX3_lengthOf cX3_lengthOf 2 (some .int), Cond.methodLink RX5 258 yX1_stateBehind, Cond.instanceMethod yX1_stateBehind, Cond.selects RX1 yX1_stateBehind yX1_stateBehind, Cond.initialized RX1, Cond.code yX1_stateBehind cX1_stateBehind 5 (some .int), Cond.methodLink RX1 40 yX3_lengthOf, Cond.methodLink RX1 60 yX3_letterAt]
def wsX5_patternProperty_r2 : List Cond := [Cond.static yX3_letterAt, Cond.code yX3_letterAt cX3_letterAt 3 (some .int), Cond.methodLink RX3 9 yX3_lengthOf, Cond.methodLink RX3 15 yX3_lastLetter, Cond.static yX3_lastLetter, Cond.code yX3_lastLetter cX3_lastLetter 1 (some .int), Cond.methodLink RX1 63 yX1_leadsTo, Cond.instanceMethod yX1_leadsTo, Cond.selects RX1 yX1_leadsTo yX1_leadsTo, Cond.code yX1_leadsTo cX1_leadsTo 3 (some .int), Cond.fieldLink RX1 21 "FallingPatterns$Machine" "leads" "[I", Cond.methodLink RX5 261 yX5_othersInside, Cond.instanceMethod yX5_othersInside, Cond.selects RX5 yX5_othersInside yX5_othersInside, Cond.code yX5_othersInside cX5_othersInside 4 (some .int), Cond.methodLink RX5 267 yX3_isPart, Cond.static yX3_isPart, Cond.code yX3_isPart cX3_isPart 4 (some .boolean), Cond.methodLink RX3 22 yX3_beginning, Cond.static yX3_beginning, Cond.code yX3_beginning cX3_beginning 2 (some .int), Cond.methodLink RX3 25 yX3_endsWith, Cond.static yX3_endsWith, Cond.code yX3_endsWith cX3_endsWith 3 (some .boolean)]
def wsX5_patternProperty_r3 : List Cond := [Cond.methodLink RX3 18 yX3_end, Cond.static yX3_end, Cond.code yX3_end cX3_end 3 (some .int), Cond.methodLink RX5 264 yX5_othersAround, Cond.instanceMethod yX5_othersAround, Cond.selects RX5 yX5_othersAround yX5_othersAround, Cond.code yX5_othersAround cX5_othersAround 4 (some .int)]
def wsX5_patternProperty : List Cond := .code yX5_patternProperty cX5_patternProperty 4 (some .int) :: ((wsX5_patternProperty_r1 ++ (wsX5_patternProperty_r2 ++ wsX5_patternProperty_r3)) ++ wsX50 ++ wsX20 ++ wsX10)
def wsX5_pattern_r1 : List Cond := [Cond.classLink RX5 87 "java/lang/IndexOutOfBoundsException", Cond.initialized "java/lang/IndexOutOfBoundsException", Cond.classLink RX5 45 "java/lang/IllegalArgumentException", Cond.initialized "java/lang/IllegalArgumentException", Cond.methodLink RX5 83 yX5_isSlot, Cond.static yX5_isSlot, Cond.initialized RX5, Cond.code yX5_isSlot cX5_isSlot 1 (some .boolean), Cond.methodLink RX5 166 yX5_patternProperty, Cond.instanceMethod yX5_patternProperty, Cond.selects RX5 yX5_patternProperty yX5_patternProperty, Cond.code yX5_patternProperty cX5_patternProperty 4 (some .int), Cond.fieldLink RX5 12 "FallingPatterns" "now" "LFallingPatterns$Memory;", Cond.fieldLink RX5 98 "FallingPatterns$Memory" "counted" "[I", Cond.fieldLink RX5 255 "FallingPatterns$Memory" "latest" "[I", Cond.fieldLink RX5 26 "FallingPatterns" "machine" "LFallingPatterns$Machine;", Cond.methodLink RX5 92 yX5_patternIn, Cond.instanceMethod yX5_patternIn, Cond.selects RX5 yX5_patternIn yX5_patternIn, Cond.code yX5_patternIn cX5_patternIn 2 (some .int), Cond.fieldLink RX5 65 "FallingPatterns$Memory" "patterns" "[I", Cond.methodLink RX5 68 yX5_at, Cond.static yX5_at, Cond.code yX5_at cX5_at 2 (some .int)]
def wsX5_pattern_r2 : List Cond := [Cond.methodLink RX5 252 yX3_lengthOf, Cond.static yX3_lengthOf, Cond.initialized RX3, Cond.code yX3_lengthOf cX3_lengthOf 2 (some .int), Cond.methodLink RX5 258 yX1_stateBehind, Cond.instanceMethod yX1_stateBehind, Cond.selects RX1 yX1_stateBehind yX1_stateBehind, Cond.initialized RX1, Cond.code yX1_stateBehind cX1_stateBehind 5 (some .int), Cond.methodLink RX1 40 yX3_lengthOf, Cond.methodLink RX1 60 yX3_letterAt, Cond.static yX3_letterAt, Cond.code yX3_letterAt cX3_letterAt 3 (some .int), Cond.methodLink RX3 9 yX3_lengthOf, Cond.methodLink RX3 15 yX3_lastLetter, Cond.static yX3_lastLetter, Cond.code yX3_lastLetter cX3_lastLetter 1 (some .int), Cond.methodLink RX1 63 yX1_leadsTo, Cond.instanceMethod yX1_leadsTo, Cond.selects RX1 yX1_leadsTo yX1_leadsTo, Cond.code yX1_leadsTo cX1_leadsTo 3 (some .int), Cond.fieldLink RX1 21 "FallingPatterns$Machine" "leads" "[I", Cond.methodLink RX5 261 yX5_othersInside, Cond.instanceMethod yX5_othersInside]
def wsX5_pattern_r3 : List Cond := [Cond.selects RX5 yX5_othersInside yX5_othersInside, Cond.code yX5_othersInside cX5_othersInside 4 (some .int), Cond.methodLink RX5 267 yX3_isPart, Cond.static yX3_isPart, Cond.code yX3_isPart cX3_isPart 4 (some .boolean), Cond.methodLink RX3 22 yX3_beginning, Cond.static yX3_beginning, Cond.code yX3_beginning cX3_beginning 2 (some .int), Cond.methodLink RX3 25 yX3_endsWith, Cond.static yX3_endsWith, Cond.code yX3_endsWith cX3_endsWith 3 (some .boolean), Cond.methodLink RX3 18 yX3_end, Cond.static yX3_end, Cond.code yX3_end cX3_end 3 (some .int), Cond.methodLink RX5 264 yX5_othersAround, Cond.instanceMethod yX5_othersAround, Cond.selects RX5 yX5_othersAround yX5_othersAround, Cond.code yX5_othersAround cX5_othersAround 4 (some .int)]
def wsX5_pattern : List Cond := .code yX5_pattern cX5_pattern 3 (some .int) :: ((wsX5_pattern_r1 ++ (wsX5_pattern_r2 ++ wsX5_pattern_r3)) ++ wsX50 ++ wsX20 ++ wsX10 ++ (vx_atS RX5 91 "java/lang/IndexOutOfBoundsException" ["java/lang/RuntimeException", "java/lang/Exception"]).filter goodWord ++ (vx_atS RX5 49 "java/lang/IllegalArgumentException" ["java/lang/RuntimeException", "java/lang/Exception"]).filter goodWord)
def wsX5_letter_r1 : List Cond := [Cond.classLink RX5 87 "java/lang/IndexOutOfBoundsException", Cond.initialized "java/lang/IndexOutOfBoundsException", Cond.classLink RX5 45 "java/lang/IllegalArgumentException", Cond.initialized "java/lang/IllegalArgumentException", Cond.methodLink RX5 83 yX5_isSlot, Cond.static yX5_isSlot, Cond.initialized RX5, Cond.code yX5_isSlot cX5_isSlot 1 (some .boolean), Cond.methodLink RX5 92 yX5_patternIn, Cond.instanceMethod yX5_patternIn, Cond.selects RX5 yX5_patternIn yX5_patternIn, Cond.code yX5_patternIn cX5_patternIn 2 (some .int), Cond.fieldLink RX5 12 "FallingPatterns" "now" "LFallingPatterns$Memory;", Cond.fieldLink RX5 65 "FallingPatterns$Memory" "patterns" "[I", Cond.methodLink RX5 68 yX5_at, Cond.static yX5_at, Cond.code yX5_at cX5_at 2 (some .int), Cond.methodLink RX5 172 yX3_letterAt, Cond.static yX3_letterAt, Cond.initialized RX3, Cond.code yX3_letterAt cX3_letterAt 3 (some .int), Cond.methodLink RX3 9 yX3_lengthOf, Cond.static yX3_lengthOf, Cond.code yX3_lengthOf cX3_lengthOf 2 (some .int)]
def wsX5_letter_r2 : List Cond := [Cond.methodLink RX3 15 yX3_lastLetter, Cond.static yX3_lastLetter, Cond.code yX3_lastLetter cX3_lastLetter 1 (some .int)]
def wsX5_letter : List Cond := .code yX5_letter cX5_letter 3 (some .int) :: ((wsX5_letter_r1 ++ wsX5_letter_r2) ++ wsX50 ++ wsX20 ++ (vx_atS RX5 91 "java/lang/IndexOutOfBoundsException" ["java/lang/RuntimeException", "java/lang/Exception"]).filter goodWord ++ (vx_atS RX5 49 "java/lang/IllegalArgumentException" ["java/lang/RuntimeException", "java/lang/Exception"]).filter goodWord)
def wsX5_patternsThatBeginWith : List Cond := .code yX5_patternsThatBeginWith cX5_patternsThatBeginWith 5 (some .int) :: ([.methodLink RX5 92 yX5_patternIn, .instanceMethod yX5_patternIn, .selects RX5 yX5_patternIn yX5_patternIn, .initialized RX5, .code yX5_patternIn cX5_patternIn 2 (some .int), .fieldLink RX5 12 "FallingPatterns" "now" "LFallingPatterns$Memory;", .fieldLink RX5 65 "FallingPatterns$Memory" "patterns" "[I", .methodLink RX5 68 yX5_at, .static yX5_at, .code yX5_at cX5_at 2 (some .int), .methodLink RX5 271 yX3_beginsWith, .static yX3_beginsWith, .initialized RX3, .code yX3_beginsWith cX3_beginsWith 3 (some .boolean), .methodLink RX3 9 yX3_lengthOf, .static yX3_lengthOf, .code yX3_lengthOf cX3_lengthOf 2 (some .int)] ++ wsX50 ++ wsX20)
def wsX5_stateProperty_r1 : List Cond := [Cond.fieldLink RX5 26 "FallingPatterns" "machine" "LFallingPatterns$Machine;", Cond.fieldLink RX5 321 "FallingPatterns$Machine" "rows" "[I", Cond.fieldLink RX5 327 "FallingPatterns$Machine" "shorter" "[I", Cond.fieldLink RX5 318 "FallingPatterns$Machine" "ends" "[I", Cond.methodLink RX5 68 yX5_at, Cond.static yX5_at, Cond.initialized RX5, Cond.code yX5_at cX5_at 2 (some .int), Cond.methodLink RX5 252 yX3_lengthOf, Cond.static yX3_lengthOf, Cond.initialized RX3, Cond.code yX3_lengthOf cX3_lengthOf 2 (some .int), Cond.methodLink RX5 324 yX3_lastLetter, Cond.static yX3_lastLetter, Cond.code yX3_lastLetter cX3_lastLetter 1 (some .int), Cond.methodLink RX5 277 yX5_patternsThatBeginWith, Cond.instanceMethod yX5_patternsThatBeginWith, Cond.selects RX5 yX5_patternsThatBeginWith yX5_patternsThatBeginWith, Cond.code yX5_patternsThatBeginWith cX5_patternsThatBeginWith 5 (some .int), Cond.methodLink RX5 92 yX5_patternIn, Cond.instanceMethod yX5_patternIn, Cond.selects RX5 yX5_patternIn yX5_patternIn, Cond.code yX5_patternIn cX5_patternIn 2 (some .int), Cond.fieldLink RX5 12 "FallingPatterns" "now" "LFallingPatterns$Memory;"]
def wsX5_stateProperty_r2 : List Cond := [Cond.fieldLink RX5 65 "FallingPatterns$Memory" "patterns" "[I", Cond.methodLink RX5 271 yX3_beginsWith, Cond.static yX3_beginsWith, Cond.code yX3_beginsWith cX3_beginsWith 3 (some .boolean), Cond.methodLink RX3 9 yX3_lengthOf, Cond.methodLink RX5 286 yX1_leadsTo, Cond.instanceMethod yX1_leadsTo, Cond.selects RX1 yX1_leadsTo yX1_leadsTo, Cond.initialized RX1, Cond.code yX1_leadsTo cX1_leadsTo 3 (some .int), Cond.fieldLink RX1 21 "FallingPatterns$Machine" "leads" "[I"]
def wsX5_stateProperty : List Cond := .code yX5_stateProperty cX5_stateProperty 3 (some .int) :: ((wsX5_stateProperty_r1 ++ wsX5_stateProperty_r2) ++ wsX50 ++ wsX10 ++ wsX20)
def wsX5_state_r1 : List Cond := [Cond.classLink RX5 87 "java/lang/IndexOutOfBoundsException", Cond.initialized "java/lang/IndexOutOfBoundsException", Cond.classLink RX5 45 "java/lang/IllegalArgumentException", Cond.initialized "java/lang/IllegalArgumentException", Cond.fieldLink RX5 26 "FallingPatterns" "machine" "LFallingPatterns$Machine;", Cond.fieldLink RX5 177 "FallingPatterns$Machine" "size" "I", Cond.methodLink RX5 182 yX5_stateProperty, Cond.instanceMethod yX5_stateProperty, Cond.selects RX5 yX5_stateProperty yX5_stateProperty, Cond.initialized RX5, Cond.code yX5_stateProperty cX5_stateProperty 3 (some .int), Cond.fieldLink RX5 321 "FallingPatterns$Machine" "rows" "[I", Cond.fieldLink RX5 327 "FallingPatterns$Machine" "shorter" "[I", Cond.fieldLink RX5 318 "FallingPatterns$Machine" "ends" "[I", Cond.methodLink RX5 68 yX5_at, Cond.static yX5_at, Cond.code yX5_at cX5_at 2 (some .int), Cond.methodLink RX5 252 yX3_lengthOf, Cond.static yX3_lengthOf, Cond.initialized RX3, Cond.code yX3_lengthOf cX3_lengthOf 2 (some .int), Cond.methodLink RX5 324 yX3_lastLetter, Cond.static yX3_lastLetter, Cond.code yX3_lastLetter cX3_lastLetter 1 (some .int)]
def wsX5_state_r2 : List Cond := [Cond.methodLink RX5 277 yX5_patternsThatBeginWith, Cond.instanceMethod yX5_patternsThatBeginWith, Cond.selects RX5 yX5_patternsThatBeginWith yX5_patternsThatBeginWith, Cond.code yX5_patternsThatBeginWith cX5_patternsThatBeginWith 5 (some .int), Cond.methodLink RX5 92 yX5_patternIn, Cond.instanceMethod yX5_patternIn, Cond.selects RX5 yX5_patternIn yX5_patternIn, Cond.code yX5_patternIn cX5_patternIn 2 (some .int), Cond.fieldLink RX5 12 "FallingPatterns" "now" "LFallingPatterns$Memory;", Cond.fieldLink RX5 65 "FallingPatterns$Memory" "patterns" "[I", Cond.methodLink RX5 271 yX3_beginsWith, Cond.static yX3_beginsWith, Cond.code yX3_beginsWith cX3_beginsWith 3 (some .boolean), Cond.methodLink RX3 9 yX3_lengthOf, Cond.methodLink RX5 286 yX1_leadsTo, Cond.instanceMethod yX1_leadsTo, Cond.selects RX1 yX1_leadsTo yX1_leadsTo, Cond.initialized RX1, Cond.code yX1_leadsTo cX1_leadsTo 3 (some .int), Cond.fieldLink RX1 21 "FallingPatterns$Machine" "leads" "[I"]
def wsX5_state : List Cond := .code yX5_state cX5_state 3 (some .int) :: ((wsX5_state_r1 ++ wsX5_state_r2) ++ wsX50 ++ wsX10 ++ wsX20 ++ (vx_atS RX5 91 "java/lang/IndexOutOfBoundsException" ["java/lang/RuntimeException", "java/lang/Exception"]).filter goodWord ++ (vx_atS RX5 49 "java/lang/IllegalArgumentException" ["java/lang/RuntimeException", "java/lang/Exception"]).filter goodWord)
def wsX5_numberOfPatterns : List Cond := .code yX5_numberOfPatterns cX5_numberOfPatterns 3 (some .int) :: ([.methodLink RX5 92 yX5_patternIn, .instanceMethod yX5_patternIn, .selects RX5 yX5_patternIn yX5_patternIn, .initialized RX5, .code yX5_patternIn cX5_patternIn 2 (some .int), .fieldLink RX5 12 "FallingPatterns" "now" "LFallingPatterns$Memory;", .fieldLink RX5 65 "FallingPatterns$Memory" "patterns" "[I", .methodLink RX5 68 yX5_at, .static yX5_at, .code yX5_at cX5_at 2 (some .int)] ++ wsX50 ++ wsX20)
def wsX5_sumOfLengths : List Cond := .code yX5_sumOfLengths cX5_sumOfLengths 3 (some .int) :: ([.methodLink RX5 92 yX5_patternIn, .instanceMethod yX5_patternIn, .selects RX5 yX5_patternIn yX5_patternIn, .initialized RX5, .code yX5_patternIn cX5_patternIn 2 (some .int), .fieldLink RX5 12 "FallingPatterns" "now" "LFallingPatterns$Memory;", .fieldLink RX5 65 "FallingPatterns$Memory" "patterns" "[I", .methodLink RX5 68 yX5_at, .static yX5_at, .code yX5_at cX5_at 2 (some .int), .methodLink RX5 252 yX3_lengthOf, .static yX3_lengthOf, .initialized RX3, .code yX3_lengthOf cX3_lengthOf 2 (some .int)] ++ wsX50 ++ wsX20)
def wsX5_numberTold_r1 : List Cond := [Cond.fieldLink RX5 26 "FallingPatterns" "machine" "LFallingPatterns$Machine;", Cond.fieldLink RX5 177 "FallingPatterns$Machine" "size" "I", Cond.fieldLink RX5 12 "FallingPatterns" "now" "LFallingPatterns$Memory;", Cond.fieldLink RX5 116 "FallingPatterns$Memory" "read" "I", Cond.fieldLink RX5 333 "FallingPatterns$Memory" "countedInAll" "I", Cond.fieldLink RX5 289 "FallingPatterns$Memory" "last" "I", Cond.fieldLink RX5 336 "FallingPatterns$Memory" "falls" "I", Cond.fieldLink RX5 339 "FallingPatterns$Memory" "mostFalls" "I", Cond.fieldLink RX5 19 "FallingPatterns" "saved" "LFallingPatterns$Saved;", Cond.fieldLink RX5 156 "FallingPatterns$Saved" "size" "I", Cond.methodLink RX5 330 yX5_numberOfPatterns, Cond.instanceMethod yX5_numberOfPatterns, Cond.selects RX5 yX5_numberOfPatterns yX5_numberOfPatterns, Cond.initialized RX5, Cond.code yX5_numberOfPatterns cX5_numberOfPatterns 3 (some .int), Cond.methodLink RX5 92 yX5_patternIn, Cond.instanceMethod yX5_patternIn, Cond.selects RX5 yX5_patternIn yX5_patternIn, Cond.code yX5_patternIn cX5_patternIn 2 (some .int), Cond.fieldLink RX5 65 "FallingPatterns$Memory" "patterns" "[I", Cond.methodLink RX5 68 yX5_at, Cond.static yX5_at, Cond.code yX5_at cX5_at 2 (some .int), Cond.methodLink RX5 283 yX5_currentState]
def wsX5_numberTold_r2 : List Cond := [Cond.instanceMethod yX5_currentState, Cond.selects RX5 yX5_currentState yX5_currentState, Cond.code yX5_currentState cX5_currentState 1 (some .int), Cond.fieldLink RX5 280 "FallingPatterns$Memory" "recent" "I", Cond.methodLink RX5 258 yX1_stateBehind, Cond.instanceMethod yX1_stateBehind, Cond.selects RX1 yX1_stateBehind yX1_stateBehind, Cond.initialized RX1, Cond.code yX1_stateBehind cX1_stateBehind 5 (some .int), Cond.methodLink RX1 40 yX3_lengthOf, Cond.static yX3_lengthOf, Cond.initialized RX3, Cond.code yX3_lengthOf cX3_lengthOf 2 (some .int), Cond.methodLink RX1 60 yX3_letterAt, Cond.static yX3_letterAt, Cond.code yX3_letterAt cX3_letterAt 3 (some .int), Cond.methodLink RX3 9 yX3_lengthOf, Cond.methodLink RX3 15 yX3_lastLetter, Cond.static yX3_lastLetter, Cond.code yX3_lastLetter cX3_lastLetter 1 (some .int), Cond.methodLink RX1 63 yX1_leadsTo, Cond.instanceMethod yX1_leadsTo, Cond.selects RX1 yX1_leadsTo yX1_leadsTo, Cond.code yX1_leadsTo cX1_leadsTo 3 (some .int)]
def wsX5_numberTold_r3 : List Cond := [Cond.fieldLink RX1 21 "FallingPatterns$Machine" "leads" "[I", Cond.methodLink RX5 206 yX5_sumOfLengths, Cond.instanceMethod yX5_sumOfLengths, Cond.selects RX5 yX5_sumOfLengths yX5_sumOfLengths, Cond.code yX5_sumOfLengths cX5_sumOfLengths 3 (some .int), Cond.methodLink RX5 252 yX3_lengthOf]
def wsX5_numberTold : List Cond := .code yX5_numberTold cX5_numberTold 2 (some .int) :: ((wsX5_numberTold_r1 ++ (wsX5_numberTold_r2 ++ wsX5_numberTold_r3)) ++ wsX50 ++ wsX10 ++ wsX20 ++ wsX40)
def wsX5_count_r1 : List Cond := [Cond.classLink RX5 45 "java/lang/IllegalArgumentException", Cond.initialized "java/lang/IllegalArgumentException", Cond.methodLink RX5 187 yX5_numberTold, Cond.instanceMethod yX5_numberTold, Cond.selects RX5 yX5_numberTold yX5_numberTold, Cond.initialized RX5, Cond.code yX5_numberTold cX5_numberTold 2 (some .int), Cond.fieldLink RX5 26 "FallingPatterns" "machine" "LFallingPatterns$Machine;", Cond.fieldLink RX5 177 "FallingPatterns$Machine" "size" "I", Cond.fieldLink RX5 12 "FallingPatterns" "now" "LFallingPatterns$Memory;", Cond.fieldLink RX5 116 "FallingPatterns$Memory" "read" "I", Cond.fieldLink RX5 333 "FallingPatterns$Memory" "countedInAll" "I", Cond.fieldLink RX5 289 "FallingPatterns$Memory" "last" "I", Cond.fieldLink RX5 336 "FallingPatterns$Memory" "falls" "I", Cond.fieldLink RX5 339 "FallingPatterns$Memory" "mostFalls" "I", Cond.fieldLink RX5 19 "FallingPatterns" "saved" "LFallingPatterns$Saved;", Cond.fieldLink RX5 156 "FallingPatterns$Saved" "size" "I", Cond.methodLink RX5 330 yX5_numberOfPatterns, Cond.instanceMethod yX5_numberOfPatterns, Cond.selects RX5 yX5_numberOfPatterns yX5_numberOfPatterns, Cond.code yX5_numberOfPatterns cX5_numberOfPatterns 3 (some .int), Cond.methodLink RX5 92 yX5_patternIn, Cond.instanceMethod yX5_patternIn, Cond.selects RX5 yX5_patternIn yX5_patternIn]
def wsX5_count_r2 : List Cond := [Cond.code yX5_patternIn cX5_patternIn 2 (some .int), Cond.fieldLink RX5 65 "FallingPatterns$Memory" "patterns" "[I", Cond.methodLink RX5 68 yX5_at, Cond.static yX5_at, Cond.code yX5_at cX5_at 2 (some .int), Cond.methodLink RX5 283 yX5_currentState, Cond.instanceMethod yX5_currentState, Cond.selects RX5 yX5_currentState yX5_currentState, Cond.code yX5_currentState cX5_currentState 1 (some .int), Cond.fieldLink RX5 280 "FallingPatterns$Memory" "recent" "I", Cond.methodLink RX5 258 yX1_stateBehind, Cond.instanceMethod yX1_stateBehind, Cond.selects RX1 yX1_stateBehind yX1_stateBehind, Cond.initialized RX1, Cond.code yX1_stateBehind cX1_stateBehind 5 (some .int), Cond.methodLink RX1 40 yX3_lengthOf, Cond.static yX3_lengthOf, Cond.initialized RX3, Cond.code yX3_lengthOf cX3_lengthOf 2 (some .int), Cond.methodLink RX1 60 yX3_letterAt, Cond.static yX3_letterAt, Cond.code yX3_letterAt cX3_letterAt 3 (some .int), Cond.methodLink RX3 9 yX3_lengthOf, Cond.methodLink RX3 15 yX3_lastLetter]
def wsX5_count_r3 : List Cond := [Cond.static yX3_lastLetter, Cond.code yX3_lastLetter cX3_lastLetter 1 (some .int), Cond.methodLink RX1 63 yX1_leadsTo, Cond.instanceMethod yX1_leadsTo, Cond.selects RX1 yX1_leadsTo yX1_leadsTo, Cond.code yX1_leadsTo cX1_leadsTo 3 (some .int), Cond.fieldLink RX1 21 "FallingPatterns$Machine" "leads" "[I", Cond.methodLink RX5 206 yX5_sumOfLengths, Cond.instanceMethod yX5_sumOfLengths, Cond.selects RX5 yX5_sumOfLengths yX5_sumOfLengths, Cond.code yX5_sumOfLengths cX5_sumOfLengths 3 (some .int), Cond.methodLink RX5 252 yX3_lengthOf]
def wsX5_count : List Cond := .code yX5_count cX5_count 2 (some .int) :: ((wsX5_count_r1 ++ (wsX5_count_r2 ++ wsX5_count_r3)) ++ wsX50 ++ wsX10 ++ wsX20 ++ wsX40 ++ (vx_atS RX5 49 "java/lang/IllegalArgumentException" ["java/lang/RuntimeException", "java/lang/Exception"]).filter goodWord)
def wsX5_setting : List Cond := .code yX5_setting cX5_setting 1 (some .int) :: ([.fieldLink RX5 12 "FallingPatterns" "now" "LFallingPatterns$Memory;", .fieldLink RX5 107 "FallingPatterns$Memory" "rule" "I"] ++ wsX50 ++ wsX20)
def wsX5_lowestSlot : List Cond := .code yX5_lowestSlot cX5_lowestSlot 2 (some .int) :: ([])
def wsX5_fedNumber_r1 : List Cond := [Cond.fieldLink RX5 26 "FallingPatterns" "machine" "LFallingPatterns$Machine;", Cond.fieldLink RX5 12 "FallingPatterns" "now" "LFallingPatterns$Memory;", Cond.fieldLink RX5 116 "FallingPatterns$Memory" "read" "I", Cond.fieldLink RX5 289 "FallingPatterns$Memory" "last" "I", Cond.methodLink RX5 283 yX5_currentState, Cond.instanceMethod yX5_currentState, Cond.selects RX5 yX5_currentState yX5_currentState, Cond.initialized RX5, Cond.code yX5_currentState cX5_currentState 1 (some .int), Cond.fieldLink RX5 280 "FallingPatterns$Memory" "recent" "I", Cond.methodLink RX5 258 yX1_stateBehind, Cond.instanceMethod yX1_stateBehind, Cond.selects RX1 yX1_stateBehind yX1_stateBehind, Cond.initialized RX1, Cond.code yX1_stateBehind cX1_stateBehind 5 (some .int), Cond.methodLink RX1 40 yX3_lengthOf, Cond.static yX3_lengthOf, Cond.initialized RX3, Cond.code yX3_lengthOf cX3_lengthOf 2 (some .int), Cond.methodLink RX1 60 yX3_letterAt, Cond.static yX3_letterAt, Cond.code yX3_letterAt cX3_letterAt 3 (some .int), Cond.methodLink RX3 9 yX3_lengthOf, Cond.methodLink RX3 15 yX3_lastLetter]
def wsX5_fedNumber_r2 : List Cond := [Cond.static yX3_lastLetter, Cond.code yX3_lastLetter cX3_lastLetter 1 (some .int), Cond.methodLink RX1 63 yX1_leadsTo, Cond.instanceMethod yX1_leadsTo, Cond.selects RX1 yX1_leadsTo yX1_leadsTo, Cond.code yX1_leadsTo cX1_leadsTo 3 (some .int), Cond.fieldLink RX1 21 "FallingPatterns$Machine" "leads" "[I", Cond.static yX5_at, Cond.code yX5_at cX5_at 2 (some .int), Cond.methodLink RX5 286 yX1_leadsTo, Cond.methodLink RX5 296 yX1_fallsBefore, Cond.instanceMethod yX1_fallsBefore, Cond.selects RX1 yX1_fallsBefore yX1_fallsBefore, Cond.code yX1_fallsBefore cX1_fallsBefore 5 (some .int), Cond.fieldLink RX1 15 "FallingPatterns$Machine" "shorter" "[I", Cond.methodLink RX1 66 yX1_goesOn, Cond.instanceMethod yX1_goesOn, Cond.selects RX1 yX1_goesOn yX1_goesOn, Cond.code yX1_goesOn cX1_goesOn 3 (some .boolean), Cond.fieldLink RX1 9 "FallingPatterns$Machine" "rows" "[I", Cond.methodLink RX1 70 yX3_behind, Cond.static yX3_behind, Cond.code yX3_behind cX3_behind 2 (some .int), Cond.methodLink RX5 292 yX5_matchesThatCount]
def wsX5_fedNumber_r3 : List Cond := [Cond.instanceMethod yX5_matchesThatCount, Cond.selects RX5 yX5_matchesThatCount yX5_matchesThatCount, Cond.code yX5_matchesThatCount cX5_matchesThatCount 10 (some .int), Cond.fieldLink RX5 318 "FallingPatterns$Machine" "ends" "[I", Cond.fieldLink RX5 107 "FallingPatterns$Memory" "rule" "I", Cond.methodLink RX5 68 yX5_at, Cond.methodLink RX5 92 yX5_patternIn, Cond.instanceMethod yX5_patternIn, Cond.selects RX5 yX5_patternIn yX5_patternIn, Cond.code yX5_patternIn cX5_patternIn 2 (some .int), Cond.fieldLink RX5 65 "FallingPatterns$Memory" "patterns" "[I", Cond.methodLink RX5 252 yX3_lengthOf, Cond.methodLink RX5 307 yJ6_bitCount_0f7a4, Cond.static yJ6_bitCount_0f7a4, Cond.initialized RJ6, Cond.code yJ6_bitCount_0f7a4 cJ6_bitCount_0f7a4 1 (some .int), Cond.constant RJ6 265 (1431655765), Cond.constant RJ6 266 (858993459), Cond.constant RJ6 267 (252645135), Cond.methodLink RX5 342 yX5_lowestSlot, Cond.static yX5_lowestSlot, Cond.code yX5_lowestSlot cX5_lowestSlot 2 (some .int)]
def wsX5_fedNumber : List Cond := .code yX5_fedNumber cX5_fedNumber 5 (some .int) :: ((wsX5_fedNumber_r1 ++ (wsX5_fedNumber_r2 ++ wsX5_fedNumber_r3)) ++ wsX50 ++ wsX20 ++ wsX10)
def wsX5_ifFed_r1 : List Cond := [Cond.classLink RX5 45 "java/lang/IllegalArgumentException", Cond.initialized "java/lang/IllegalArgumentException", Cond.methodLink RX5 111 yX5_isLetter, Cond.static yX5_isLetter, Cond.initialized RX5, Cond.code yX5_isLetter cX5_isLetter 1 (some .boolean), Cond.methodLink RX5 192 yX5_fedNumber, Cond.instanceMethod yX5_fedNumber, Cond.selects RX5 yX5_fedNumber yX5_fedNumber, Cond.code yX5_fedNumber cX5_fedNumber 5 (some .int), Cond.fieldLink RX5 26 "FallingPatterns" "machine" "LFallingPatterns$Machine;", Cond.fieldLink RX5 12 "FallingPatterns" "now" "LFallingPatterns$Memory;", Cond.fieldLink RX5 116 "FallingPatterns$Memory" "read" "I", Cond.fieldLink RX5 289 "FallingPatterns$Memory" "last" "I", Cond.methodLink RX5 283 yX5_currentState, Cond.instanceMethod yX5_currentState, Cond.selects RX5 yX5_currentState yX5_currentState, Cond.code yX5_currentState cX5_currentState 1 (some .int), Cond.fieldLink RX5 280 "FallingPatterns$Memory" "recent" "I", Cond.methodLink RX5 258 yX1_stateBehind, Cond.instanceMethod yX1_stateBehind, Cond.selects RX1 yX1_stateBehind yX1_stateBehind, Cond.initialized RX1, Cond.code yX1_stateBehind cX1_stateBehind 5 (some .int)]
def wsX5_ifFed_r2 : List Cond := [Cond.methodLink RX1 40 yX3_lengthOf, Cond.static yX3_lengthOf, Cond.initialized RX3, Cond.code yX3_lengthOf cX3_lengthOf 2 (some .int), Cond.methodLink RX1 60 yX3_letterAt, Cond.static yX3_letterAt, Cond.code yX3_letterAt cX3_letterAt 3 (some .int), Cond.methodLink RX3 9 yX3_lengthOf, Cond.methodLink RX3 15 yX3_lastLetter, Cond.static yX3_lastLetter, Cond.code yX3_lastLetter cX3_lastLetter 1 (some .int), Cond.methodLink RX1 63 yX1_leadsTo, Cond.instanceMethod yX1_leadsTo, Cond.selects RX1 yX1_leadsTo yX1_leadsTo, Cond.code yX1_leadsTo cX1_leadsTo 3 (some .int), Cond.fieldLink RX1 21 "FallingPatterns$Machine" "leads" "[I", Cond.static yX5_at, Cond.code yX5_at cX5_at 2 (some .int), Cond.methodLink RX5 286 yX1_leadsTo, Cond.methodLink RX5 296 yX1_fallsBefore, Cond.instanceMethod yX1_fallsBefore, Cond.selects RX1 yX1_fallsBefore yX1_fallsBefore, Cond.code yX1_fallsBefore cX1_fallsBefore 5 (some .int), Cond.fieldLink RX1 15 "FallingPatterns$Machine" "shorter" "[I"]
def wsX5_ifFed_r3 : List Cond := [Cond.methodLink RX1 66 yX1_goesOn, Cond.instanceMethod yX1_goesOn, Cond.selects RX1 yX1_goesOn yX1_goesOn, Cond.code yX1_goesOn cX1_goesOn 3 (some .boolean), Cond.fieldLink RX1 9 "FallingPatterns$Machine" "rows" "[I", Cond.methodLink RX1 70 yX3_behind, Cond.static yX3_behind, Cond.code yX3_behind cX3_behind 2 (some .int), Cond.methodLink RX5 292 yX5_matchesThatCount, Cond.instanceMethod yX5_matchesThatCount, Cond.selects RX5 yX5_matchesThatCount yX5_matchesThatCount, Cond.code yX5_matchesThatCount cX5_matchesThatCount 10 (some .int), Cond.fieldLink RX5 318 "FallingPatterns$Machine" "ends" "[I", Cond.fieldLink RX5 107 "FallingPatterns$Memory" "rule" "I", Cond.methodLink RX5 68 yX5_at, Cond.methodLink RX5 92 yX5_patternIn, Cond.instanceMethod yX5_patternIn, Cond.selects RX5 yX5_patternIn yX5_patternIn, Cond.code yX5_patternIn cX5_patternIn 2 (some .int), Cond.fieldLink RX5 65 "FallingPatterns$Memory" "patterns" "[I", Cond.methodLink RX5 252 yX3_lengthOf, Cond.methodLink RX5 307 yJ6_bitCount_0f7a4, Cond.static yJ6_bitCount_0f7a4, Cond.initialized RJ6]
def wsX5_ifFed_r4 : List Cond := [Cond.code yJ6_bitCount_0f7a4 cJ6_bitCount_0f7a4 1 (some .int), Cond.constant RJ6 265 (1431655765), Cond.constant RJ6 266 (858993459), Cond.constant RJ6 267 (252645135), Cond.methodLink RX5 342 yX5_lowestSlot, Cond.static yX5_lowestSlot, Cond.code yX5_lowestSlot cX5_lowestSlot 2 (some .int)]
def wsX5_ifFed : List Cond := .code yX5_ifFed cX5_ifFed 3 (some .int) :: ((wsX5_ifFed_r1 ++ (wsX5_ifFed_r2 ++ (wsX5_ifFed_r3 ++ wsX5_ifFed_r4))) ++ wsX50 ++ wsX20 ++ wsX10 ++ (vx_atS RX5 49 "java/lang/IllegalArgumentException" ["java/lang/RuntimeException", "java/lang/Exception"]).filter goodWord)
def wsX5_fewestLettersTo_r1 : List Cond := [Cond.fieldLink RX5 26 "FallingPatterns" "machine" "LFallingPatterns$Machine;", Cond.fieldLink RX5 321 "FallingPatterns$Machine" "rows" "[I", Cond.methodLink RX5 283 yX5_currentState, Cond.instanceMethod yX5_currentState, Cond.selects RX5 yX5_currentState yX5_currentState, Cond.initialized RX5, Cond.code yX5_currentState cX5_currentState 1 (some .int), Cond.fieldLink RX5 12 "FallingPatterns" "now" "LFallingPatterns$Memory;", Cond.fieldLink RX5 280 "FallingPatterns$Memory" "recent" "I", Cond.methodLink RX5 258 yX1_stateBehind, Cond.instanceMethod yX1_stateBehind, Cond.selects RX1 yX1_stateBehind yX1_stateBehind, Cond.initialized RX1, Cond.code yX1_stateBehind cX1_stateBehind 5 (some .int), Cond.methodLink RX1 40 yX3_lengthOf, Cond.static yX3_lengthOf, Cond.initialized RX3, Cond.code yX3_lengthOf cX3_lengthOf 2 (some .int), Cond.methodLink RX1 60 yX3_letterAt, Cond.static yX3_letterAt, Cond.code yX3_letterAt cX3_letterAt 3 (some .int), Cond.methodLink RX3 9 yX3_lengthOf, Cond.methodLink RX3 15 yX3_lastLetter, Cond.static yX3_lastLetter]
def wsX5_fewestLettersTo_r2 : List Cond := [Cond.code yX3_lastLetter cX3_lastLetter 1 (some .int), Cond.methodLink RX1 63 yX1_leadsTo, Cond.instanceMethod yX1_leadsTo, Cond.selects RX1 yX1_leadsTo yX1_leadsTo, Cond.code yX1_leadsTo cX1_leadsTo 3 (some .int), Cond.fieldLink RX1 21 "FallingPatterns$Machine" "leads" "[I", Cond.static yX5_at, Cond.code yX5_at cX5_at 2 (some .int), Cond.methodLink RX5 68 yX5_at, Cond.methodLink RX5 252 yX3_lengthOf, Cond.methodLink RX5 274 yX3_beginning, Cond.static yX3_beginning, Cond.code yX3_beginning cX3_beginning 2 (some .int), Cond.methodLink RX5 345 yX3_endsWith, Cond.static yX3_endsWith, Cond.code yX3_endsWith cX3_endsWith 3 (some .boolean), Cond.methodLink RX3 18 yX3_end, Cond.static yX3_end, Cond.code yX3_end cX3_end 3 (some .int)]
def wsX5_fewestLettersTo : List Cond := .code yX5_fewestLettersTo cX5_fewestLettersTo 5 (some .int) :: ((wsX5_fewestLettersTo_r1 ++ wsX5_fewestLettersTo_r2) ++ wsX50 ++ wsX10 ++ wsX20)
def wsX5_lettersTo_r1 : List Cond := [Cond.classLink RX5 87 "java/lang/IndexOutOfBoundsException", Cond.initialized "java/lang/IndexOutOfBoundsException", Cond.methodLink RX5 83 yX5_isSlot, Cond.static yX5_isSlot, Cond.initialized RX5, Cond.code yX5_isSlot cX5_isSlot 1 (some .boolean), Cond.methodLink RX5 92 yX5_patternIn, Cond.instanceMethod yX5_patternIn, Cond.selects RX5 yX5_patternIn yX5_patternIn, Cond.code yX5_patternIn cX5_patternIn 2 (some .int), Cond.fieldLink RX5 12 "FallingPatterns" "now" "LFallingPatterns$Memory;", Cond.fieldLink RX5 65 "FallingPatterns$Memory" "patterns" "[I", Cond.methodLink RX5 68 yX5_at, Cond.static yX5_at, Cond.code yX5_at cX5_at 2 (some .int), Cond.methodLink RX5 195 yX5_fewestLettersTo, Cond.instanceMethod yX5_fewestLettersTo, Cond.selects RX5 yX5_fewestLettersTo yX5_fewestLettersTo, Cond.code yX5_fewestLettersTo cX5_fewestLettersTo 5 (some .int), Cond.fieldLink RX5 26 "FallingPatterns" "machine" "LFallingPatterns$Machine;", Cond.fieldLink RX5 321 "FallingPatterns$Machine" "rows" "[I", Cond.methodLink RX5 283 yX5_currentState, Cond.instanceMethod yX5_currentState, Cond.selects RX5 yX5_currentState yX5_currentState]
def wsX5_lettersTo_r2 : List Cond := [Cond.code yX5_currentState cX5_currentState 1 (some .int), Cond.fieldLink RX5 280 "FallingPatterns$Memory" "recent" "I", Cond.methodLink RX5 258 yX1_stateBehind, Cond.instanceMethod yX1_stateBehind, Cond.selects RX1 yX1_stateBehind yX1_stateBehind, Cond.initialized RX1, Cond.code yX1_stateBehind cX1_stateBehind 5 (some .int), Cond.methodLink RX1 40 yX3_lengthOf, Cond.static yX3_lengthOf, Cond.initialized RX3, Cond.code yX3_lengthOf cX3_lengthOf 2 (some .int), Cond.methodLink RX1 60 yX3_letterAt, Cond.static yX3_letterAt, Cond.code yX3_letterAt cX3_letterAt 3 (some .int), Cond.methodLink RX3 9 yX3_lengthOf, Cond.methodLink RX3 15 yX3_lastLetter, Cond.static yX3_lastLetter, Cond.code yX3_lastLetter cX3_lastLetter 1 (some .int), Cond.methodLink RX1 63 yX1_leadsTo, Cond.instanceMethod yX1_leadsTo, Cond.selects RX1 yX1_leadsTo yX1_leadsTo, Cond.code yX1_leadsTo cX1_leadsTo 3 (some .int), Cond.fieldLink RX1 21 "FallingPatterns$Machine" "leads" "[I", Cond.methodLink RX5 252 yX3_lengthOf]
def wsX5_lettersTo_r3 : List Cond := [Cond.methodLink RX5 274 yX3_beginning, Cond.static yX3_beginning, Cond.code yX3_beginning cX3_beginning 2 (some .int), Cond.methodLink RX5 345 yX3_endsWith, Cond.static yX3_endsWith, Cond.code yX3_endsWith cX3_endsWith 3 (some .boolean), Cond.methodLink RX3 18 yX3_end, Cond.static yX3_end, Cond.code yX3_end cX3_end 3 (some .int)]
def wsX5_lettersTo : List Cond := .code yX5_lettersTo cX5_lettersTo 2 (some .int) :: ((wsX5_lettersTo_r1 ++ (wsX5_lettersTo_r2 ++ wsX5_lettersTo_r3)) ++ wsX50 ++ wsX20 ++ wsX10 ++ (vx_atS RX5 91 "java/lang/IndexOutOfBoundsException" ["java/lang/RuntimeException", "java/lang/Exception"]).filter goodWord)
def wsX5_matchesIfRepeated_r1 : List Cond := [Cond.fieldLink RX5 12 "FallingPatterns" "now" "LFallingPatterns$Memory;", Cond.fieldLink RX5 289 "FallingPatterns$Memory" "last" "I", Cond.fieldLink RX5 26 "FallingPatterns" "machine" "LFallingPatterns$Machine;", Cond.fieldLink RX5 116 "FallingPatterns$Memory" "read" "I", Cond.methodLink RX5 283 yX5_currentState, Cond.instanceMethod yX5_currentState, Cond.selects RX5 yX5_currentState yX5_currentState, Cond.initialized RX5, Cond.code yX5_currentState cX5_currentState 1 (some .int), Cond.fieldLink RX5 280 "FallingPatterns$Memory" "recent" "I", Cond.methodLink RX5 258 yX1_stateBehind, Cond.instanceMethod yX1_stateBehind, Cond.selects RX1 yX1_stateBehind yX1_stateBehind, Cond.initialized RX1, Cond.code yX1_stateBehind cX1_stateBehind 5 (some .int), Cond.methodLink RX1 40 yX3_lengthOf, Cond.static yX3_lengthOf, Cond.initialized RX3, Cond.code yX3_lengthOf cX3_lengthOf 2 (some .int), Cond.methodLink RX1 60 yX3_letterAt, Cond.static yX3_letterAt, Cond.code yX3_letterAt cX3_letterAt 3 (some .int), Cond.methodLink RX3 9 yX3_lengthOf, Cond.methodLink RX3 15 yX3_lastLetter]
def wsX5_matchesIfRepeated_r2 : List Cond := [Cond.static yX3_lastLetter, Cond.code yX3_lastLetter cX3_lastLetter 1 (some .int), Cond.methodLink RX1 63 yX1_leadsTo, Cond.instanceMethod yX1_leadsTo, Cond.selects RX1 yX1_leadsTo yX1_leadsTo, Cond.code yX1_leadsTo cX1_leadsTo 3 (some .int), Cond.fieldLink RX1 21 "FallingPatterns$Machine" "leads" "[I", Cond.static yX5_at, Cond.code yX5_at cX5_at 2 (some .int), Cond.methodLink RX5 286 yX1_leadsTo, Cond.methodLink RX5 292 yX5_matchesThatCount, Cond.instanceMethod yX5_matchesThatCount, Cond.selects RX5 yX5_matchesThatCount yX5_matchesThatCount, Cond.code yX5_matchesThatCount cX5_matchesThatCount 10 (some .int), Cond.fieldLink RX5 318 "FallingPatterns$Machine" "ends" "[I", Cond.fieldLink RX5 107 "FallingPatterns$Memory" "rule" "I", Cond.methodLink RX5 68 yX5_at, Cond.methodLink RX5 92 yX5_patternIn, Cond.instanceMethod yX5_patternIn, Cond.selects RX5 yX5_patternIn yX5_patternIn, Cond.code yX5_patternIn cX5_patternIn 2 (some .int), Cond.fieldLink RX5 65 "FallingPatterns$Memory" "patterns" "[I", Cond.methodLink RX5 252 yX3_lengthOf, Cond.methodLink RX5 307 yJ6_bitCount_0f7a4]
def wsX5_matchesIfRepeated_r3 : List Cond := [Cond.static yJ6_bitCount_0f7a4, Cond.initialized RJ6, Cond.code yJ6_bitCount_0f7a4 cJ6_bitCount_0f7a4 1 (some .int), Cond.constant RJ6 265 (1431655765), Cond.constant RJ6 266 (858993459), Cond.constant RJ6 267 (252645135)]
def wsX5_matchesIfRepeated : List Cond := .code yX5_matchesIfRepeated cX5_matchesIfRepeated 8 (some .int) :: ((wsX5_matchesIfRepeated_r1 ++ (wsX5_matchesIfRepeated_r2 ++ wsX5_matchesIfRepeated_r3)) ++ wsX50 ++ wsX20 ++ wsX10)
def wsX5_ifRepeated_r1 : List Cond := [Cond.classLink RX5 45 "java/lang/IllegalArgumentException", Cond.initialized "java/lang/IllegalArgumentException", Cond.methodLink RX5 111 yX5_isLetter, Cond.static yX5_isLetter, Cond.initialized RX5, Cond.code yX5_isLetter cX5_isLetter 1 (some .boolean), Cond.methodLink RX5 200 yX5_matchesIfRepeated, Cond.instanceMethod yX5_matchesIfRepeated, Cond.selects RX5 yX5_matchesIfRepeated yX5_matchesIfRepeated, Cond.code yX5_matchesIfRepeated cX5_matchesIfRepeated 8 (some .int), Cond.fieldLink RX5 12 "FallingPatterns" "now" "LFallingPatterns$Memory;", Cond.fieldLink RX5 289 "FallingPatterns$Memory" "last" "I", Cond.fieldLink RX5 26 "FallingPatterns" "machine" "LFallingPatterns$Machine;", Cond.fieldLink RX5 116 "FallingPatterns$Memory" "read" "I", Cond.methodLink RX5 283 yX5_currentState, Cond.instanceMethod yX5_currentState, Cond.selects RX5 yX5_currentState yX5_currentState, Cond.code yX5_currentState cX5_currentState 1 (some .int), Cond.fieldLink RX5 280 "FallingPatterns$Memory" "recent" "I", Cond.methodLink RX5 258 yX1_stateBehind, Cond.instanceMethod yX1_stateBehind, Cond.selects RX1 yX1_stateBehind yX1_stateBehind, Cond.initialized RX1, Cond.code yX1_stateBehind cX1_stateBehind 5 (some .int)]
def wsX5_ifRepeated_r2 : List Cond := [Cond.methodLink RX1 40 yX3_lengthOf, Cond.static yX3_lengthOf, Cond.initialized RX3, Cond.code yX3_lengthOf cX3_lengthOf 2 (some .int), Cond.methodLink RX1 60 yX3_letterAt, Cond.static yX3_letterAt, Cond.code yX3_letterAt cX3_letterAt 3 (some .int), Cond.methodLink RX3 9 yX3_lengthOf, Cond.methodLink RX3 15 yX3_lastLetter, Cond.static yX3_lastLetter, Cond.code yX3_lastLetter cX3_lastLetter 1 (some .int), Cond.methodLink RX1 63 yX1_leadsTo, Cond.instanceMethod yX1_leadsTo, Cond.selects RX1 yX1_leadsTo yX1_leadsTo, Cond.code yX1_leadsTo cX1_leadsTo 3 (some .int), Cond.fieldLink RX1 21 "FallingPatterns$Machine" "leads" "[I", Cond.static yX5_at, Cond.code yX5_at cX5_at 2 (some .int), Cond.methodLink RX5 286 yX1_leadsTo, Cond.methodLink RX5 292 yX5_matchesThatCount, Cond.instanceMethod yX5_matchesThatCount, Cond.selects RX5 yX5_matchesThatCount yX5_matchesThatCount, Cond.code yX5_matchesThatCount cX5_matchesThatCount 10 (some .int), Cond.fieldLink RX5 318 "FallingPatterns$Machine" "ends" "[I"]
def wsX5_ifRepeated_r3 : List Cond := [Cond.fieldLink RX5 107 "FallingPatterns$Memory" "rule" "I", Cond.methodLink RX5 68 yX5_at, Cond.methodLink RX5 92 yX5_patternIn, Cond.instanceMethod yX5_patternIn, Cond.selects RX5 yX5_patternIn yX5_patternIn, Cond.code yX5_patternIn cX5_patternIn 2 (some .int), Cond.fieldLink RX5 65 "FallingPatterns$Memory" "patterns" "[I", Cond.methodLink RX5 252 yX3_lengthOf, Cond.methodLink RX5 307 yJ6_bitCount_0f7a4, Cond.static yJ6_bitCount_0f7a4, Cond.initialized RJ6, Cond.code yJ6_bitCount_0f7a4 cJ6_bitCount_0f7a4 1 (some .int), Cond.constant RJ6 265 (1431655765), Cond.constant RJ6 266 (858993459), Cond.constant RJ6 267 (252645135)]
def wsX5_ifRepeated : List Cond := .code yX5_ifRepeated cX5_ifRepeated 3 (some .int) :: ((wsX5_ifRepeated_r1 ++ (wsX5_ifRepeated_r2 ++ wsX5_ifRepeated_r3)) ++ wsX50 ++ wsX20 ++ wsX10 ++ (vx_atS RX5 49 "java/lang/IllegalArgumentException" ["java/lang/RuntimeException", "java/lang/Exception"]).filter goodWord)
def wsJ9_max_7cf53 : List Cond := .code yJ9_max_7cf53 cJ9_max_7cf53 2 (some .int) :: ([])
def wsL_cell : List Cond := .code yL_cell cL_cell 2 (some .int) :: ([])
def wsL_low : List Cond := .code yL_low cL_low 2 (some .int) :: ([.constant RL 7 (2147483647)])
def wsL_add_r1 : List Cond := [Cond.methodLink RL 8 yX5_clearBuffer, Cond.instanceMethod yX5_clearBuffer, Cond.selects RX5 yX5_clearBuffer yX5_clearBuffer, Cond.initialized RX5, Cond.code yX5_clearBuffer cX5_clearBuffer 2 (some .int), Cond.fieldLink RX5 33 "FallingPatterns" "buffer" "LFallingPatterns$Buffer;", Cond.fieldLink RX5 142 "FallingPatterns$Buffer" "length" "I", Cond.methodLink RX5 76 yX0_empty, Cond.instanceMethod yX0_empty, Cond.selects RX0 yX0_empty yX0_empty, Cond.initialized RX0, Cond.code yX0_empty cX0_empty 1 none, Cond.fieldLink RX0 15 "FallingPatterns$Buffer" "length" "I", Cond.methodLink RL 14 yL_low, Cond.static yL_low, Cond.initialized RL, Cond.code yL_low cL_low 2 (some .int), Cond.constant RL 7 (2147483647), Cond.methodLink RL 20 yX5_append, Cond.instanceMethod yX5_append, Cond.selects RX5 yX5_append yX5_append, Cond.code yX5_append cX5_append 2 (some .int), Cond.classLink RX5 45 "java/lang/IllegalArgumentException", Cond.initialized "java/lang/IllegalArgumentException"]
def wsL_add_r2 : List Cond := [Cond.classLink RX5 56 "java/lang/IllegalStateException", Cond.initialized "java/lang/IllegalStateException", Cond.methodLink RX5 147 yX0_take, Cond.instanceMethod yX0_take, Cond.selects RX0 yX0_take yX0_take, Cond.code yX0_take cX0_take 2 none, Cond.fieldLink RX0 9 "FallingPatterns$Buffer" "codes" "[I", Cond.static yX5_put, Cond.code yX5_put cX5_put 3 none, Cond.methodLink RL 24 yX5_count, Cond.instanceMethod yX5_count, Cond.selects RX5 yX5_count yX5_count, Cond.code yX5_count cX5_count 2 (some .int), Cond.methodLink RX5 187 yX5_numberTold, Cond.instanceMethod yX5_numberTold, Cond.selects RX5 yX5_numberTold yX5_numberTold, Cond.code yX5_numberTold cX5_numberTold 2 (some .int), Cond.fieldLink RX5 26 "FallingPatterns" "machine" "LFallingPatterns$Machine;", Cond.fieldLink RX5 177 "FallingPatterns$Machine" "size" "I", Cond.fieldLink RX5 12 "FallingPatterns" "now" "LFallingPatterns$Memory;", Cond.fieldLink RX5 116 "FallingPatterns$Memory" "read" "I", Cond.fieldLink RX5 333 "FallingPatterns$Memory" "countedInAll" "I", Cond.fieldLink RX5 289 "FallingPatterns$Memory" "last" "I", Cond.fieldLink RX5 336 "FallingPatterns$Memory" "falls" "I"]
def wsL_add_r3 : List Cond := [Cond.fieldLink RX5 339 "FallingPatterns$Memory" "mostFalls" "I", Cond.fieldLink RX5 19 "FallingPatterns" "saved" "LFallingPatterns$Saved;", Cond.fieldLink RX5 156 "FallingPatterns$Saved" "size" "I", Cond.methodLink RX5 330 yX5_numberOfPatterns, Cond.instanceMethod yX5_numberOfPatterns, Cond.selects RX5 yX5_numberOfPatterns yX5_numberOfPatterns, Cond.code yX5_numberOfPatterns cX5_numberOfPatterns 3 (some .int), Cond.methodLink RX5 92 yX5_patternIn, Cond.instanceMethod yX5_patternIn, Cond.selects RX5 yX5_patternIn yX5_patternIn, Cond.code yX5_patternIn cX5_patternIn 2 (some .int), Cond.fieldLink RX5 65 "FallingPatterns$Memory" "patterns" "[I", Cond.methodLink RX5 68 yX5_at, Cond.static yX5_at, Cond.code yX5_at cX5_at 2 (some .int), Cond.methodLink RX5 283 yX5_currentState, Cond.instanceMethod yX5_currentState, Cond.selects RX5 yX5_currentState yX5_currentState, Cond.code yX5_currentState cX5_currentState 1 (some .int), Cond.fieldLink RX5 280 "FallingPatterns$Memory" "recent" "I", Cond.methodLink RX5 258 yX1_stateBehind, Cond.instanceMethod yX1_stateBehind, Cond.selects RX1 yX1_stateBehind yX1_stateBehind, Cond.initialized RX1]
def wsL_add_r4 : List Cond := [Cond.code yX1_stateBehind cX1_stateBehind 5 (some .int), Cond.methodLink RX1 40 yX3_lengthOf, Cond.static yX3_lengthOf, Cond.initialized RX3, Cond.code yX3_lengthOf cX3_lengthOf 2 (some .int), Cond.methodLink RX1 60 yX3_letterAt, Cond.static yX3_letterAt, Cond.code yX3_letterAt cX3_letterAt 3 (some .int), Cond.methodLink RX3 9 yX3_lengthOf, Cond.methodLink RX3 15 yX3_lastLetter, Cond.static yX3_lastLetter, Cond.code yX3_lastLetter cX3_lastLetter 1 (some .int), Cond.methodLink RX1 63 yX1_leadsTo, Cond.instanceMethod yX1_leadsTo, Cond.selects RX1 yX1_leadsTo yX1_leadsTo, Cond.code yX1_leadsTo cX1_leadsTo 3 (some .int), Cond.fieldLink RX1 21 "FallingPatterns$Machine" "leads" "[I", Cond.methodLink RX5 206 yX5_sumOfLengths, Cond.instanceMethod yX5_sumOfLengths, Cond.selects RX5 yX5_sumOfLengths yX5_sumOfLengths, Cond.code yX5_sumOfLengths cX5_sumOfLengths 3 (some .int), Cond.methodLink RX5 252 yX3_lengthOf, Cond.methodLink RL 27 yX5_add, Cond.instanceMethod yX5_add]
def wsL_add_r5 : List Cond := [Cond.selects RX5 yX5_add yX5_add, Cond.code yX5_add cX5_add 3 (some .int), Cond.fieldLink RX5 37 "FallingPatterns" "draft" "[I", Cond.methodLink RX5 41 yX0_holdsPatterns, Cond.instanceMethod yX0_holdsPatterns, Cond.selects RX0 yX0_holdsPatterns yX0_holdsPatterns, Cond.code yX0_holdsPatterns cX0_holdsPatterns 1 (some .boolean), Cond.methodLink RX0 34 yX0_firstErrorInPatterns, Cond.instanceMethod yX0_firstErrorInPatterns, Cond.selects RX0 yX0_firstErrorInPatterns yX0_firstErrorInPatterns, Cond.code yX0_firstErrorInPatterns cX0_firstErrorInPatterns 4 (some .int), Cond.methodLink RX0 31 yX0_isLetterCode, Cond.static yX0_isLetterCode, Cond.code yX0_isLetterCode cX0_isLetterCode 1 (some .boolean), Cond.methodLink RX0 38 yX0_endsPart, Cond.instanceMethod yX0_endsPart, Cond.selects RX0 yX0_endsPart yX0_endsPart, Cond.code yX0_endsPart cX0_endsPart 2 (some .boolean), Cond.methodLink RX5 52 yX5_draftPatterns, Cond.instanceMethod yX5_draftPatterns, Cond.selects RX5 yX5_draftPatterns yX5_draftPatterns, Cond.code yX5_draftPatterns cX5_draftPatterns 6 (some .int), Cond.fieldLink RX5 240 "FallingPatterns$Buffer" "codes" "[I", Cond.methodLink RX5 72 yX5_put]
def wsL_add_r6 : List Cond := [Cond.methodLink RX5 243 yX3_behind, Cond.static yX3_behind, Cond.code yX3_behind cX3_behind 2 (some .int), Cond.methodLink RX5 246 yX0_endsPart, Cond.methodLink RX5 249 yX5_draftSlotOf, Cond.instanceMethod yX5_draftSlotOf, Cond.selects RX5 yX5_draftSlotOf yX5_draftSlotOf, Cond.code yX5_draftSlotOf cX5_draftSlotOf 3 (some .int), Cond.methodLink RX5 61 yX4_keep, Cond.instanceMethod yX4_keep, Cond.selects RX4 yX4_keep yX4_keep, Cond.initialized RX4, Cond.code yX4_keep cX4_keep 3 none, Cond.fieldLink RX4 18 "FallingPatterns$Saved" "size" "I", Cond.fieldLink RX4 22 "FallingPatterns$Saved" "oldest" "I", Cond.methodLink RX4 25 yX4_memoryAt, Cond.instanceMethod yX4_memoryAt, Cond.selects RX4 yX4_memoryAt yX4_memoryAt, Cond.code yX4_memoryAt cX4_memoryAt 3 (some (.object "FallingPatterns$Memory")), Cond.fieldLink RX4 11 "FallingPatterns$Saved" "memories" "[LFallingPatterns$Memory;", Cond.methodLink RX4 29 yX2_copy, Cond.instanceMethod yX2_copy, Cond.selects RX2 yX2_copy yX2_copy, Cond.initialized RX2]
def wsL_add_r7 : List Cond := [Cond.code yX2_copy cX2_copy 3 none, Cond.fieldLink RX2 9 "FallingPatterns$Memory" "patterns" "[I", Cond.fieldLink RX2 15 "FallingPatterns$Memory" "counted" "[I", Cond.fieldLink RX2 18 "FallingPatterns$Memory" "latest" "[I", Cond.fieldLink RX2 21 "FallingPatterns$Memory" "rule" "I", Cond.fieldLink RX2 25 "FallingPatterns$Memory" "recent" "I", Cond.fieldLink RX2 39 "FallingPatterns$Memory" "read" "I", Cond.fieldLink RX2 42 "FallingPatterns$Memory" "countedInAll" "I", Cond.fieldLink RX2 28 "FallingPatterns$Memory" "last" "I", Cond.fieldLink RX2 45 "FallingPatterns$Memory" "falls" "I", Cond.fieldLink RX2 48 "FallingPatterns$Memory" "mostFalls" "I", Cond.methodLink RX5 79 yX1_rebuild, Cond.instanceMethod yX1_rebuild, Cond.selects RX1 yX1_rebuild yX1_rebuild, Cond.code yX1_rebuild cX1_rebuild 6 none, Cond.fieldLink RX1 28 "FallingPatterns$Machine" "size" "I", Cond.fieldLink RX1 18 "FallingPatterns$Machine" "ends" "[I", Cond.methodLink RX1 32 yX1_takeState, Cond.instanceMethod yX1_takeState, Cond.selects RX1 yX1_takeState yX1_takeState, Cond.code yX1_takeState cX1_takeState 4 none, Cond.fieldLink RX1 9 "FallingPatterns$Machine" "rows" "[I", Cond.methodLink RX1 46 yX3_beginning, Cond.static yX3_beginning]
def wsL_add_r8 : List Cond := [Cond.code yX3_beginning cX3_beginning 2 (some .int), Cond.methodLink RX1 50 yX1_leadToLongerStates, Cond.instanceMethod yX1_leadToLongerStates, Cond.selects RX1 yX1_leadToLongerStates yX1_leadToLongerStates, Cond.code yX1_leadToLongerStates cX1_leadToLongerStates 4 none, Cond.methodLink RX1 73 yX3_lastLetter, Cond.methodLink RX1 53 yX1_fallBack, Cond.instanceMethod yX1_fallBack, Cond.selects RX1 yX1_fallBack yX1_fallBack, Cond.code yX1_fallBack cX1_fallBack 5 none, Cond.fieldLink RX1 15 "FallingPatterns$Machine" "shorter" "[I", Cond.methodLink RX1 56 yX1_endsOf, Cond.instanceMethod yX1_endsOf, Cond.selects RX1 yX1_endsOf yX1_endsOf, Cond.code yX1_endsOf cX1_endsOf 5 (some .int)]
def wsL_add : List Cond := .code yL_add cL_add 7 none :: ((wsL_add_r1 ++ (wsL_add_r2 ++ (wsL_add_r3 ++ (wsL_add_r4 ++ (wsL_add_r5 ++ (wsL_add_r6 ++ (wsL_add_r7 ++ wsL_add_r8))))))) ++ wsX50 ++ wsX00 ++ wsX10 ++ wsX20 ++ wsX40 ++ (vx_atS RX5 49 "java/lang/IllegalArgumentException" ["java/lang/RuntimeException", "java/lang/Exception"]).filter goodWord ++ (vx_atS RX5 60 "java/lang/IllegalStateException" ["java/lang/RuntimeException", "java/lang/Exception"]).filter goodWord)
def wsL_does_r1 : List Cond := [Cond.methodLink RL 30 yL_add, Cond.static yL_add, Cond.initialized RL, Cond.code yL_add cL_add 7 none, Cond.methodLink RL 8 yX5_clearBuffer, Cond.instanceMethod yX5_clearBuffer, Cond.selects RX5 yX5_clearBuffer yX5_clearBuffer, Cond.initialized RX5, Cond.code yX5_clearBuffer cX5_clearBuffer 2 (some .int), Cond.fieldLink RX5 33 "FallingPatterns" "buffer" "LFallingPatterns$Buffer;", Cond.fieldLink RX5 142 "FallingPatterns$Buffer" "length" "I", Cond.methodLink RX5 76 yX0_empty, Cond.instanceMethod yX0_empty, Cond.selects RX0 yX0_empty yX0_empty, Cond.initialized RX0, Cond.code yX0_empty cX0_empty 1 none, Cond.fieldLink RX0 15 "FallingPatterns$Buffer" "length" "I", Cond.methodLink RL 14 yL_low, Cond.static yL_low, Cond.code yL_low cL_low 2 (some .int), Cond.constant RL 7 (2147483647), Cond.methodLink RL 20 yX5_append, Cond.instanceMethod yX5_append, Cond.selects RX5 yX5_append yX5_append]
def wsL_does_r2 : List Cond := [Cond.code yX5_append cX5_append 2 (some .int), Cond.classLink RX5 45 "java/lang/IllegalArgumentException", Cond.initialized "java/lang/IllegalArgumentException", Cond.classLink RX5 56 "java/lang/IllegalStateException", Cond.initialized "java/lang/IllegalStateException", Cond.methodLink RX5 147 yX0_take, Cond.instanceMethod yX0_take, Cond.selects RX0 yX0_take yX0_take, Cond.code yX0_take cX0_take 2 none, Cond.fieldLink RX0 9 "FallingPatterns$Buffer" "codes" "[I", Cond.static yX5_put, Cond.code yX5_put cX5_put 3 none, Cond.methodLink RL 24 yX5_count, Cond.instanceMethod yX5_count, Cond.selects RX5 yX5_count yX5_count, Cond.code yX5_count cX5_count 2 (some .int), Cond.methodLink RX5 187 yX5_numberTold, Cond.instanceMethod yX5_numberTold, Cond.selects RX5 yX5_numberTold yX5_numberTold, Cond.code yX5_numberTold cX5_numberTold 2 (some .int), Cond.fieldLink RX5 26 "FallingPatterns" "machine" "LFallingPatterns$Machine;", Cond.fieldLink RX5 177 "FallingPatterns$Machine" "size" "I", Cond.fieldLink RX5 12 "FallingPatterns" "now" "LFallingPatterns$Memory;", Cond.fieldLink RX5 116 "FallingPatterns$Memory" "read" "I"]
def wsL_does_r3 : List Cond := [Cond.fieldLink RX5 333 "FallingPatterns$Memory" "countedInAll" "I", Cond.fieldLink RX5 289 "FallingPatterns$Memory" "last" "I", Cond.fieldLink RX5 336 "FallingPatterns$Memory" "falls" "I", Cond.fieldLink RX5 339 "FallingPatterns$Memory" "mostFalls" "I", Cond.fieldLink RX5 19 "FallingPatterns" "saved" "LFallingPatterns$Saved;", Cond.fieldLink RX5 156 "FallingPatterns$Saved" "size" "I", Cond.methodLink RX5 330 yX5_numberOfPatterns, Cond.instanceMethod yX5_numberOfPatterns, Cond.selects RX5 yX5_numberOfPatterns yX5_numberOfPatterns, Cond.code yX5_numberOfPatterns cX5_numberOfPatterns 3 (some .int), Cond.methodLink RX5 92 yX5_patternIn, Cond.instanceMethod yX5_patternIn, Cond.selects RX5 yX5_patternIn yX5_patternIn, Cond.code yX5_patternIn cX5_patternIn 2 (some .int), Cond.fieldLink RX5 65 "FallingPatterns$Memory" "patterns" "[I", Cond.methodLink RX5 68 yX5_at, Cond.static yX5_at, Cond.code yX5_at cX5_at 2 (some .int), Cond.methodLink RX5 283 yX5_currentState, Cond.instanceMethod yX5_currentState, Cond.selects RX5 yX5_currentState yX5_currentState, Cond.code yX5_currentState cX5_currentState 1 (some .int), Cond.fieldLink RX5 280 "FallingPatterns$Memory" "recent" "I", Cond.methodLink RX5 258 yX1_stateBehind]
def wsL_does_r4 : List Cond := [Cond.instanceMethod yX1_stateBehind, Cond.selects RX1 yX1_stateBehind yX1_stateBehind, Cond.initialized RX1, Cond.code yX1_stateBehind cX1_stateBehind 5 (some .int), Cond.methodLink RX1 40 yX3_lengthOf, Cond.static yX3_lengthOf, Cond.initialized RX3, Cond.code yX3_lengthOf cX3_lengthOf 2 (some .int), Cond.methodLink RX1 60 yX3_letterAt, Cond.static yX3_letterAt, Cond.code yX3_letterAt cX3_letterAt 3 (some .int), Cond.methodLink RX3 9 yX3_lengthOf, Cond.methodLink RX3 15 yX3_lastLetter, Cond.static yX3_lastLetter, Cond.code yX3_lastLetter cX3_lastLetter 1 (some .int), Cond.methodLink RX1 63 yX1_leadsTo, Cond.instanceMethod yX1_leadsTo, Cond.selects RX1 yX1_leadsTo yX1_leadsTo, Cond.code yX1_leadsTo cX1_leadsTo 3 (some .int), Cond.fieldLink RX1 21 "FallingPatterns$Machine" "leads" "[I", Cond.methodLink RX5 206 yX5_sumOfLengths, Cond.instanceMethod yX5_sumOfLengths, Cond.selects RX5 yX5_sumOfLengths yX5_sumOfLengths, Cond.code yX5_sumOfLengths cX5_sumOfLengths 3 (some .int)]
def wsL_does_r5 : List Cond := [Cond.methodLink RX5 252 yX3_lengthOf, Cond.methodLink RL 27 yX5_add, Cond.instanceMethod yX5_add, Cond.selects RX5 yX5_add yX5_add, Cond.code yX5_add cX5_add 3 (some .int), Cond.fieldLink RX5 37 "FallingPatterns" "draft" "[I", Cond.methodLink RX5 41 yX0_holdsPatterns, Cond.instanceMethod yX0_holdsPatterns, Cond.selects RX0 yX0_holdsPatterns yX0_holdsPatterns, Cond.code yX0_holdsPatterns cX0_holdsPatterns 1 (some .boolean), Cond.methodLink RX0 34 yX0_firstErrorInPatterns, Cond.instanceMethod yX0_firstErrorInPatterns, Cond.selects RX0 yX0_firstErrorInPatterns yX0_firstErrorInPatterns, Cond.code yX0_firstErrorInPatterns cX0_firstErrorInPatterns 4 (some .int), Cond.methodLink RX0 31 yX0_isLetterCode, Cond.static yX0_isLetterCode, Cond.code yX0_isLetterCode cX0_isLetterCode 1 (some .boolean), Cond.methodLink RX0 38 yX0_endsPart, Cond.instanceMethod yX0_endsPart, Cond.selects RX0 yX0_endsPart yX0_endsPart, Cond.code yX0_endsPart cX0_endsPart 2 (some .boolean), Cond.methodLink RX5 52 yX5_draftPatterns, Cond.instanceMethod yX5_draftPatterns, Cond.selects RX5 yX5_draftPatterns yX5_draftPatterns]
def wsL_does_r6 : List Cond := [Cond.code yX5_draftPatterns cX5_draftPatterns 6 (some .int), Cond.fieldLink RX5 240 "FallingPatterns$Buffer" "codes" "[I", Cond.methodLink RX5 72 yX5_put, Cond.methodLink RX5 243 yX3_behind, Cond.static yX3_behind, Cond.code yX3_behind cX3_behind 2 (some .int), Cond.methodLink RX5 246 yX0_endsPart, Cond.methodLink RX5 249 yX5_draftSlotOf, Cond.instanceMethod yX5_draftSlotOf, Cond.selects RX5 yX5_draftSlotOf yX5_draftSlotOf, Cond.code yX5_draftSlotOf cX5_draftSlotOf 3 (some .int), Cond.methodLink RX5 61 yX4_keep, Cond.instanceMethod yX4_keep, Cond.selects RX4 yX4_keep yX4_keep, Cond.initialized RX4, Cond.code yX4_keep cX4_keep 3 none, Cond.fieldLink RX4 18 "FallingPatterns$Saved" "size" "I", Cond.fieldLink RX4 22 "FallingPatterns$Saved" "oldest" "I", Cond.methodLink RX4 25 yX4_memoryAt, Cond.instanceMethod yX4_memoryAt, Cond.selects RX4 yX4_memoryAt yX4_memoryAt, Cond.code yX4_memoryAt cX4_memoryAt 3 (some (.object "FallingPatterns$Memory")), Cond.fieldLink RX4 11 "FallingPatterns$Saved" "memories" "[LFallingPatterns$Memory;", Cond.methodLink RX4 29 yX2_copy]
def wsL_does_r7 : List Cond := [Cond.instanceMethod yX2_copy, Cond.selects RX2 yX2_copy yX2_copy, Cond.initialized RX2, Cond.code yX2_copy cX2_copy 3 none, Cond.fieldLink RX2 9 "FallingPatterns$Memory" "patterns" "[I", Cond.fieldLink RX2 15 "FallingPatterns$Memory" "counted" "[I", Cond.fieldLink RX2 18 "FallingPatterns$Memory" "latest" "[I", Cond.fieldLink RX2 21 "FallingPatterns$Memory" "rule" "I", Cond.fieldLink RX2 25 "FallingPatterns$Memory" "recent" "I", Cond.fieldLink RX2 39 "FallingPatterns$Memory" "read" "I", Cond.fieldLink RX2 42 "FallingPatterns$Memory" "countedInAll" "I", Cond.fieldLink RX2 28 "FallingPatterns$Memory" "last" "I", Cond.fieldLink RX2 45 "FallingPatterns$Memory" "falls" "I", Cond.fieldLink RX2 48 "FallingPatterns$Memory" "mostFalls" "I", Cond.methodLink RX5 79 yX1_rebuild, Cond.instanceMethod yX1_rebuild, Cond.selects RX1 yX1_rebuild yX1_rebuild, Cond.code yX1_rebuild cX1_rebuild 6 none, Cond.fieldLink RX1 28 "FallingPatterns$Machine" "size" "I", Cond.fieldLink RX1 18 "FallingPatterns$Machine" "ends" "[I", Cond.methodLink RX1 32 yX1_takeState, Cond.instanceMethod yX1_takeState, Cond.selects RX1 yX1_takeState yX1_takeState, Cond.code yX1_takeState cX1_takeState 4 none]
def wsL_does_r8 : List Cond := [Cond.fieldLink RX1 9 "FallingPatterns$Machine" "rows" "[I", Cond.methodLink RX1 46 yX3_beginning, Cond.static yX3_beginning, Cond.code yX3_beginning cX3_beginning 2 (some .int), Cond.methodLink RX1 50 yX1_leadToLongerStates, Cond.instanceMethod yX1_leadToLongerStates, Cond.selects RX1 yX1_leadToLongerStates yX1_leadToLongerStates, Cond.code yX1_leadToLongerStates cX1_leadToLongerStates 4 none, Cond.methodLink RX1 73 yX3_lastLetter, Cond.methodLink RX1 53 yX1_fallBack, Cond.instanceMethod yX1_fallBack, Cond.selects RX1 yX1_fallBack yX1_fallBack, Cond.code yX1_fallBack cX1_fallBack 5 none, Cond.fieldLink RX1 15 "FallingPatterns$Machine" "shorter" "[I", Cond.methodLink RX1 56 yX1_endsOf, Cond.instanceMethod yX1_endsOf, Cond.selects RX1 yX1_endsOf yX1_endsOf, Cond.code yX1_endsOf cX1_endsOf 5 (some .int), Cond.methodLink RL 33 yX5_pattern, Cond.instanceMethod yX5_pattern, Cond.selects RX5 yX5_pattern yX5_pattern, Cond.code yX5_pattern cX5_pattern 3 (some .int), Cond.classLink RX5 87 "java/lang/IndexOutOfBoundsException", Cond.initialized "java/lang/IndexOutOfBoundsException"]
def wsL_does_r9 : List Cond := [Cond.methodLink RX5 83 yX5_isSlot, Cond.static yX5_isSlot, Cond.code yX5_isSlot cX5_isSlot 1 (some .boolean), Cond.methodLink RX5 166 yX5_patternProperty, Cond.instanceMethod yX5_patternProperty, Cond.selects RX5 yX5_patternProperty yX5_patternProperty, Cond.code yX5_patternProperty cX5_patternProperty 4 (some .int), Cond.fieldLink RX5 98 "FallingPatterns$Memory" "counted" "[I", Cond.fieldLink RX5 255 "FallingPatterns$Memory" "latest" "[I", Cond.methodLink RX5 261 yX5_othersInside, Cond.instanceMethod yX5_othersInside, Cond.selects RX5 yX5_othersInside yX5_othersInside, Cond.code yX5_othersInside cX5_othersInside 4 (some .int), Cond.methodLink RX5 267 yX3_isPart, Cond.static yX3_isPart, Cond.code yX3_isPart cX3_isPart 4 (some .boolean), Cond.methodLink RX3 22 yX3_beginning, Cond.methodLink RX3 25 yX3_endsWith, Cond.static yX3_endsWith, Cond.code yX3_endsWith cX3_endsWith 3 (some .boolean), Cond.methodLink RX3 18 yX3_end, Cond.static yX3_end, Cond.code yX3_end cX3_end 3 (some .int), Cond.methodLink RX5 264 yX5_othersAround]
def wsL_does_r10 : List Cond := [Cond.instanceMethod yX5_othersAround, Cond.selects RX5 yX5_othersAround yX5_othersAround, Cond.code yX5_othersAround cX5_othersAround 4 (some .int), Cond.methodLink RL 36 yX5_remove, Cond.instanceMethod yX5_remove, Cond.selects RX5 yX5_remove yX5_remove, Cond.code yX5_remove cX5_remove 3 (some .int), Cond.methodLink RX5 101 yX2_forgetMatchesOf, Cond.instanceMethod yX2_forgetMatchesOf, Cond.selects RX2 yX2_forgetMatchesOf yX2_forgetMatchesOf, Cond.code yX2_forgetMatchesOf cX2_forgetMatchesOf 2 none, Cond.methodLink RL 39 yX5_rule, Cond.instanceMethod yX5_rule, Cond.selects RX5 yX5_rule yX5_rule, Cond.code yX5_rule cX5_rule 3 (some .int), Cond.fieldLink RX5 107 "FallingPatterns$Memory" "rule" "I", Cond.methodLink RL 42 yX5_begin, Cond.instanceMethod yX5_begin, Cond.selects RX5 yX5_begin yX5_begin, Cond.code yX5_begin cX5_begin 2 (some .int), Cond.methodLink RX5 137 yX2_forgetText, Cond.instanceMethod yX2_forgetText, Cond.selects RX2 yX2_forgetText yX2_forgetText, Cond.code yX2_forgetText cX2_forgetText 2 none]
def wsL_does_r11 : List Cond := [Cond.methodLink RX2 51 yX2_forgetMatchesOf, Cond.methodLink RL 45 yX5_feed, Cond.instanceMethod yX5_feed, Cond.selects RX5 yX5_feed yX5_feed, Cond.code yX5_feed cX5_feed 2 (some .int), Cond.methodLink RX5 111 yX5_isLetter, Cond.static yX5_isLetter, Cond.code yX5_isLetter cX5_isLetter 1 (some .boolean), Cond.methodLink RX5 121 yX5_readLetter, Cond.instanceMethod yX5_readLetter, Cond.selects RX5 yX5_readLetter yX5_readLetter, Cond.code yX5_readLetter cX5_readLetter 4 (some .int), Cond.methodLink RX5 286 yX1_leadsTo, Cond.methodLink RX5 292 yX5_matchesThatCount, Cond.instanceMethod yX5_matchesThatCount, Cond.selects RX5 yX5_matchesThatCount yX5_matchesThatCount, Cond.code yX5_matchesThatCount cX5_matchesThatCount 10 (some .int), Cond.fieldLink RX5 318 "FallingPatterns$Machine" "ends" "[I", Cond.methodLink RX5 296 yX1_fallsBefore, Cond.instanceMethod yX1_fallsBefore, Cond.selects RX1 yX1_fallsBefore yX1_fallsBefore, Cond.code yX1_fallsBefore cX1_fallsBefore 5 (some .int), Cond.methodLink RX1 66 yX1_goesOn, Cond.instanceMethod yX1_goesOn]
def wsL_does_r12 : List Cond := [Cond.selects RX1 yX1_goesOn yX1_goesOn, Cond.code yX1_goesOn cX1_goesOn 3 (some .boolean), Cond.methodLink RX1 70 yX3_behind, Cond.methodLink RX5 299 yX2_takeFalls, Cond.instanceMethod yX2_takeFalls, Cond.selects RX2 yX2_takeFalls yX2_takeFalls, Cond.code yX2_takeFalls cX2_takeFalls 2 none, Cond.methodLink RX2 55 Lib.Math.max.name, Cond.static Lib.Math.max.name, Cond.initialized "java/lang/Math", Cond.code Lib.Math.max.name Lib.Math.max.code 2 (some .int), Cond.methodLink RX5 302 yX2_takeMatches, Cond.instanceMethod yX2_takeMatches, Cond.selects RX2 yX2_takeMatches yX2_takeMatches, Cond.code yX2_takeMatches cX2_takeMatches 3 none, Cond.methodLink RX5 305 yX3_latest, Cond.static yX3_latest, Cond.code yX3_latest cX3_latest 1 (some .int), Cond.methodLink RX5 307 yJ6_bitCount_0f7a4, Cond.static yJ6_bitCount_0f7a4, Cond.initialized RJ6, Cond.code yJ6_bitCount_0f7a4 cJ6_bitCount_0f7a4 1 (some .int), Cond.constant RJ6 265 (1431655765), Cond.constant RJ6 266 (858993459)]
def wsL_does_r13 : List Cond := [Cond.constant RJ6 267 (252645135)]
def wsL_does : List Cond := .code yL_does cL_does 4 none :: ((wsL_does_r1 ++ (wsL_does_r2 ++ (wsL_does_r3 ++ (wsL_does_r4 ++ (wsL_does_r5 ++ (wsL_does_r6 ++ (wsL_does_r7 ++ (wsL_does_r8 ++ (wsL_does_r9 ++ (wsL_does_r10 ++ (wsL_does_r11 ++ (wsL_does_r12 ++ wsL_does_r13)))))))))))) ++ wsX50 ++ wsX00 ++ wsX10 ++ wsX20 ++ wsX40 ++ (vx_atS RX5 49 "java/lang/IllegalArgumentException" ["java/lang/RuntimeException", "java/lang/Exception"]).filter goodWord ++ (vx_atS RX5 60 "java/lang/IllegalStateException" ["java/lang/RuntimeException", "java/lang/Exception"]).filter goodWord ++ (vx_atS RX5 91 "java/lang/IndexOutOfBoundsException" ["java/lang/RuntimeException", "java/lang/Exception"]).filter goodWord)
def wsL_areStatesSo_r1 : List Cond := [Cond.methodLink RL 24 yX5_count, Cond.instanceMethod yX5_count, Cond.selects RX5 yX5_count yX5_count, Cond.initialized RX5, Cond.code yX5_count cX5_count 2 (some .int), Cond.classLink RX5 45 "java/lang/IllegalArgumentException", Cond.initialized "java/lang/IllegalArgumentException", Cond.methodLink RX5 187 yX5_numberTold, Cond.instanceMethod yX5_numberTold, Cond.selects RX5 yX5_numberTold yX5_numberTold, Cond.code yX5_numberTold cX5_numberTold 2 (some .int), Cond.fieldLink RX5 26 "FallingPatterns" "machine" "LFallingPatterns$Machine;", Cond.fieldLink RX5 177 "FallingPatterns$Machine" "size" "I", Cond.fieldLink RX5 12 "FallingPatterns" "now" "LFallingPatterns$Memory;", Cond.fieldLink RX5 116 "FallingPatterns$Memory" "read" "I", Cond.fieldLink RX5 333 "FallingPatterns$Memory" "countedInAll" "I", Cond.fieldLink RX5 289 "FallingPatterns$Memory" "last" "I", Cond.fieldLink RX5 336 "FallingPatterns$Memory" "falls" "I", Cond.fieldLink RX5 339 "FallingPatterns$Memory" "mostFalls" "I", Cond.fieldLink RX5 19 "FallingPatterns" "saved" "LFallingPatterns$Saved;", Cond.fieldLink RX5 156 "FallingPatterns$Saved" "size" "I", Cond.methodLink RX5 330 yX5_numberOfPatterns, Cond.instanceMethod yX5_numberOfPatterns, Cond.selects RX5 yX5_numberOfPatterns yX5_numberOfPatterns]
def wsL_areStatesSo_r2 : List Cond := [Cond.code yX5_numberOfPatterns cX5_numberOfPatterns 3 (some .int), Cond.methodLink RX5 92 yX5_patternIn, Cond.instanceMethod yX5_patternIn, Cond.selects RX5 yX5_patternIn yX5_patternIn, Cond.code yX5_patternIn cX5_patternIn 2 (some .int), Cond.fieldLink RX5 65 "FallingPatterns$Memory" "patterns" "[I", Cond.methodLink RX5 68 yX5_at, Cond.static yX5_at, Cond.code yX5_at cX5_at 2 (some .int), Cond.methodLink RX5 283 yX5_currentState, Cond.instanceMethod yX5_currentState, Cond.selects RX5 yX5_currentState yX5_currentState, Cond.code yX5_currentState cX5_currentState 1 (some .int), Cond.fieldLink RX5 280 "FallingPatterns$Memory" "recent" "I", Cond.methodLink RX5 258 yX1_stateBehind, Cond.instanceMethod yX1_stateBehind, Cond.selects RX1 yX1_stateBehind yX1_stateBehind, Cond.initialized RX1, Cond.code yX1_stateBehind cX1_stateBehind 5 (some .int), Cond.methodLink RX1 40 yX3_lengthOf, Cond.static yX3_lengthOf, Cond.initialized RX3, Cond.code yX3_lengthOf cX3_lengthOf 2 (some .int), Cond.methodLink RX1 60 yX3_letterAt]
def wsL_areStatesSo_r3 : List Cond := [Cond.static yX3_letterAt, Cond.code yX3_letterAt cX3_letterAt 3 (some .int), Cond.methodLink RX3 9 yX3_lengthOf, Cond.methodLink RX3 15 yX3_lastLetter, Cond.static yX3_lastLetter, Cond.code yX3_lastLetter cX3_lastLetter 1 (some .int), Cond.methodLink RX1 63 yX1_leadsTo, Cond.instanceMethod yX1_leadsTo, Cond.selects RX1 yX1_leadsTo yX1_leadsTo, Cond.code yX1_leadsTo cX1_leadsTo 3 (some .int), Cond.fieldLink RX1 21 "FallingPatterns$Machine" "leads" "[I", Cond.methodLink RX5 206 yX5_sumOfLengths, Cond.instanceMethod yX5_sumOfLengths, Cond.selects RX5 yX5_sumOfLengths yX5_sumOfLengths, Cond.code yX5_sumOfLengths cX5_sumOfLengths 3 (some .int), Cond.methodLink RX5 252 yX3_lengthOf, Cond.methodLink RL 48 yX5_state, Cond.instanceMethod yX5_state, Cond.selects RX5 yX5_state yX5_state, Cond.code yX5_state cX5_state 3 (some .int), Cond.classLink RX5 87 "java/lang/IndexOutOfBoundsException", Cond.initialized "java/lang/IndexOutOfBoundsException", Cond.methodLink RX5 182 yX5_stateProperty, Cond.instanceMethod yX5_stateProperty]
def wsL_areStatesSo_r4 : List Cond := [Cond.selects RX5 yX5_stateProperty yX5_stateProperty, Cond.code yX5_stateProperty cX5_stateProperty 3 (some .int), Cond.fieldLink RX5 321 "FallingPatterns$Machine" "rows" "[I", Cond.fieldLink RX5 327 "FallingPatterns$Machine" "shorter" "[I", Cond.fieldLink RX5 318 "FallingPatterns$Machine" "ends" "[I", Cond.methodLink RX5 324 yX3_lastLetter, Cond.methodLink RX5 277 yX5_patternsThatBeginWith, Cond.instanceMethod yX5_patternsThatBeginWith, Cond.selects RX5 yX5_patternsThatBeginWith yX5_patternsThatBeginWith, Cond.code yX5_patternsThatBeginWith cX5_patternsThatBeginWith 5 (some .int), Cond.methodLink RX5 271 yX3_beginsWith, Cond.static yX3_beginsWith, Cond.code yX3_beginsWith cX3_beginsWith 3 (some .boolean), Cond.methodLink RX5 286 yX1_leadsTo, Cond.methodLink RL 33 yX5_pattern, Cond.instanceMethod yX5_pattern, Cond.selects RX5 yX5_pattern yX5_pattern, Cond.code yX5_pattern cX5_pattern 3 (some .int), Cond.methodLink RX5 83 yX5_isSlot, Cond.static yX5_isSlot, Cond.code yX5_isSlot cX5_isSlot 1 (some .boolean), Cond.methodLink RX5 166 yX5_patternProperty, Cond.instanceMethod yX5_patternProperty, Cond.selects RX5 yX5_patternProperty yX5_patternProperty]
def wsL_areStatesSo_r5 : List Cond := [Cond.code yX5_patternProperty cX5_patternProperty 4 (some .int), Cond.fieldLink RX5 98 "FallingPatterns$Memory" "counted" "[I", Cond.fieldLink RX5 255 "FallingPatterns$Memory" "latest" "[I", Cond.methodLink RX5 261 yX5_othersInside, Cond.instanceMethod yX5_othersInside, Cond.selects RX5 yX5_othersInside yX5_othersInside, Cond.code yX5_othersInside cX5_othersInside 4 (some .int), Cond.methodLink RX5 267 yX3_isPart, Cond.static yX3_isPart, Cond.code yX3_isPart cX3_isPart 4 (some .boolean), Cond.methodLink RX3 22 yX3_beginning, Cond.static yX3_beginning, Cond.code yX3_beginning cX3_beginning 2 (some .int), Cond.methodLink RX3 25 yX3_endsWith, Cond.static yX3_endsWith, Cond.code yX3_endsWith cX3_endsWith 3 (some .boolean), Cond.methodLink RX3 18 yX3_end, Cond.static yX3_end, Cond.code yX3_end cX3_end 3 (some .int), Cond.methodLink RX5 264 yX5_othersAround, Cond.instanceMethod yX5_othersAround, Cond.selects RX5 yX5_othersAround yX5_othersAround, Cond.code yX5_othersAround cX5_othersAround 4 (some .int), Cond.methodLink RL 51 yX5_letter]
def wsL_areStatesSo_r6 : List Cond := [Cond.instanceMethod yX5_letter, Cond.selects RX5 yX5_letter yX5_letter, Cond.code yX5_letter cX5_letter 3 (some .int), Cond.methodLink RX5 172 yX3_letterAt]
def wsL_areStatesSo : List Cond := .code yL_areStatesSo cL_areStatesSo 9 (some .boolean) :: ((wsL_areStatesSo_r1 ++ (wsL_areStatesSo_r2 ++ (wsL_areStatesSo_r3 ++ (wsL_areStatesSo_r4 ++ (wsL_areStatesSo_r5 ++ wsL_areStatesSo_r6))))) ++ wsX50 ++ wsX10 ++ wsX20 ++ wsX40 ++ (vx_atS RX5 49 "java/lang/IllegalArgumentException" ["java/lang/RuntimeException", "java/lang/Exception"]).filter goodWord ++ (vx_atS RX5 91 "java/lang/IndexOutOfBoundsException" ["java/lang/RuntimeException", "java/lang/Exception"]).filter goodWord)
def wsL_isFedSo_r1 : List Cond := [Cond.methodLink RL 24 yX5_count, Cond.instanceMethod yX5_count, Cond.selects RX5 yX5_count yX5_count, Cond.initialized RX5, Cond.code yX5_count cX5_count 2 (some .int), Cond.classLink RX5 45 "java/lang/IllegalArgumentException", Cond.initialized "java/lang/IllegalArgumentException", Cond.methodLink RX5 187 yX5_numberTold, Cond.instanceMethod yX5_numberTold, Cond.selects RX5 yX5_numberTold yX5_numberTold, Cond.code yX5_numberTold cX5_numberTold 2 (some .int), Cond.fieldLink RX5 26 "FallingPatterns" "machine" "LFallingPatterns$Machine;", Cond.fieldLink RX5 177 "FallingPatterns$Machine" "size" "I", Cond.fieldLink RX5 12 "FallingPatterns" "now" "LFallingPatterns$Memory;", Cond.fieldLink RX5 116 "FallingPatterns$Memory" "read" "I", Cond.fieldLink RX5 333 "FallingPatterns$Memory" "countedInAll" "I", Cond.fieldLink RX5 289 "FallingPatterns$Memory" "last" "I", Cond.fieldLink RX5 336 "FallingPatterns$Memory" "falls" "I", Cond.fieldLink RX5 339 "FallingPatterns$Memory" "mostFalls" "I", Cond.fieldLink RX5 19 "FallingPatterns" "saved" "LFallingPatterns$Saved;", Cond.fieldLink RX5 156 "FallingPatterns$Saved" "size" "I", Cond.methodLink RX5 330 yX5_numberOfPatterns, Cond.instanceMethod yX5_numberOfPatterns, Cond.selects RX5 yX5_numberOfPatterns yX5_numberOfPatterns]
def wsL_isFedSo_r2 : List Cond := [Cond.code yX5_numberOfPatterns cX5_numberOfPatterns 3 (some .int), Cond.methodLink RX5 92 yX5_patternIn, Cond.instanceMethod yX5_patternIn, Cond.selects RX5 yX5_patternIn yX5_patternIn, Cond.code yX5_patternIn cX5_patternIn 2 (some .int), Cond.fieldLink RX5 65 "FallingPatterns$Memory" "patterns" "[I", Cond.methodLink RX5 68 yX5_at, Cond.static yX5_at, Cond.code yX5_at cX5_at 2 (some .int), Cond.methodLink RX5 283 yX5_currentState, Cond.instanceMethod yX5_currentState, Cond.selects RX5 yX5_currentState yX5_currentState, Cond.code yX5_currentState cX5_currentState 1 (some .int), Cond.fieldLink RX5 280 "FallingPatterns$Memory" "recent" "I", Cond.methodLink RX5 258 yX1_stateBehind, Cond.instanceMethod yX1_stateBehind, Cond.selects RX1 yX1_stateBehind yX1_stateBehind, Cond.initialized RX1, Cond.code yX1_stateBehind cX1_stateBehind 5 (some .int), Cond.methodLink RX1 40 yX3_lengthOf, Cond.static yX3_lengthOf, Cond.initialized RX3, Cond.code yX3_lengthOf cX3_lengthOf 2 (some .int), Cond.methodLink RX1 60 yX3_letterAt]
def wsL_isFedSo_r3 : List Cond := [Cond.static yX3_letterAt, Cond.code yX3_letterAt cX3_letterAt 3 (some .int), Cond.methodLink RX3 9 yX3_lengthOf, Cond.methodLink RX3 15 yX3_lastLetter, Cond.static yX3_lastLetter, Cond.code yX3_lastLetter cX3_lastLetter 1 (some .int), Cond.methodLink RX1 63 yX1_leadsTo, Cond.instanceMethod yX1_leadsTo, Cond.selects RX1 yX1_leadsTo yX1_leadsTo, Cond.code yX1_leadsTo cX1_leadsTo 3 (some .int), Cond.fieldLink RX1 21 "FallingPatterns$Machine" "leads" "[I", Cond.methodLink RX5 206 yX5_sumOfLengths, Cond.instanceMethod yX5_sumOfLengths, Cond.selects RX5 yX5_sumOfLengths yX5_sumOfLengths, Cond.code yX5_sumOfLengths cX5_sumOfLengths 3 (some .int), Cond.methodLink RX5 252 yX3_lengthOf, Cond.methodLink RL 54 yX5_ifFed, Cond.instanceMethod yX5_ifFed, Cond.selects RX5 yX5_ifFed yX5_ifFed, Cond.code yX5_ifFed cX5_ifFed 3 (some .int), Cond.methodLink RX5 111 yX5_isLetter, Cond.static yX5_isLetter, Cond.code yX5_isLetter cX5_isLetter 1 (some .boolean), Cond.methodLink RX5 192 yX5_fedNumber]
def wsL_isFedSo_r4 : List Cond := [Cond.instanceMethod yX5_fedNumber, Cond.selects RX5 yX5_fedNumber yX5_fedNumber, Cond.code yX5_fedNumber cX5_fedNumber 5 (some .int), Cond.methodLink RX5 286 yX1_leadsTo, Cond.methodLink RX5 296 yX1_fallsBefore, Cond.instanceMethod yX1_fallsBefore, Cond.selects RX1 yX1_fallsBefore yX1_fallsBefore, Cond.code yX1_fallsBefore cX1_fallsBefore 5 (some .int), Cond.fieldLink RX1 15 "FallingPatterns$Machine" "shorter" "[I", Cond.methodLink RX1 66 yX1_goesOn, Cond.instanceMethod yX1_goesOn, Cond.selects RX1 yX1_goesOn yX1_goesOn, Cond.code yX1_goesOn cX1_goesOn 3 (some .boolean), Cond.fieldLink RX1 9 "FallingPatterns$Machine" "rows" "[I", Cond.methodLink RX1 70 yX3_behind, Cond.static yX3_behind, Cond.code yX3_behind cX3_behind 2 (some .int), Cond.methodLink RX5 292 yX5_matchesThatCount, Cond.instanceMethod yX5_matchesThatCount, Cond.selects RX5 yX5_matchesThatCount yX5_matchesThatCount, Cond.code yX5_matchesThatCount cX5_matchesThatCount 10 (some .int), Cond.fieldLink RX5 318 "FallingPatterns$Machine" "ends" "[I", Cond.fieldLink RX5 107 "FallingPatterns$Memory" "rule" "I", Cond.methodLink RX5 307 yJ6_bitCount_0f7a4]
def wsL_isFedSo_r5 : List Cond := [Cond.static yJ6_bitCount_0f7a4, Cond.initialized RJ6, Cond.code yJ6_bitCount_0f7a4 cJ6_bitCount_0f7a4 1 (some .int), Cond.constant RJ6 265 (1431655765), Cond.constant RJ6 266 (858993459), Cond.constant RJ6 267 (252645135), Cond.methodLink RX5 342 yX5_lowestSlot, Cond.static yX5_lowestSlot, Cond.code yX5_lowestSlot cX5_lowestSlot 2 (some .int), Cond.methodLink RL 33 yX5_pattern, Cond.instanceMethod yX5_pattern, Cond.selects RX5 yX5_pattern yX5_pattern, Cond.code yX5_pattern cX5_pattern 3 (some .int), Cond.classLink RX5 87 "java/lang/IndexOutOfBoundsException", Cond.initialized "java/lang/IndexOutOfBoundsException", Cond.methodLink RX5 83 yX5_isSlot, Cond.static yX5_isSlot, Cond.code yX5_isSlot cX5_isSlot 1 (some .boolean), Cond.methodLink RX5 166 yX5_patternProperty, Cond.instanceMethod yX5_patternProperty, Cond.selects RX5 yX5_patternProperty yX5_patternProperty, Cond.code yX5_patternProperty cX5_patternProperty 4 (some .int), Cond.fieldLink RX5 98 "FallingPatterns$Memory" "counted" "[I", Cond.fieldLink RX5 255 "FallingPatterns$Memory" "latest" "[I"]
def wsL_isFedSo_r6 : List Cond := [Cond.methodLink RX5 261 yX5_othersInside, Cond.instanceMethod yX5_othersInside, Cond.selects RX5 yX5_othersInside yX5_othersInside, Cond.code yX5_othersInside cX5_othersInside 4 (some .int), Cond.methodLink RX5 267 yX3_isPart, Cond.static yX3_isPart, Cond.code yX3_isPart cX3_isPart 4 (some .boolean), Cond.methodLink RX3 22 yX3_beginning, Cond.static yX3_beginning, Cond.code yX3_beginning cX3_beginning 2 (some .int), Cond.methodLink RX3 25 yX3_endsWith, Cond.static yX3_endsWith, Cond.code yX3_endsWith cX3_endsWith 3 (some .boolean), Cond.methodLink RX3 18 yX3_end, Cond.static yX3_end, Cond.code yX3_end cX3_end 3 (some .int), Cond.methodLink RX5 264 yX5_othersAround, Cond.instanceMethod yX5_othersAround, Cond.selects RX5 yX5_othersAround yX5_othersAround, Cond.code yX5_othersAround cX5_othersAround 4 (some .int), Cond.methodLink RL 48 yX5_state, Cond.instanceMethod yX5_state, Cond.selects RX5 yX5_state yX5_state, Cond.code yX5_state cX5_state 3 (some .int)]
def wsL_isFedSo_r7 : List Cond := [Cond.methodLink RX5 182 yX5_stateProperty, Cond.instanceMethod yX5_stateProperty, Cond.selects RX5 yX5_stateProperty yX5_stateProperty, Cond.code yX5_stateProperty cX5_stateProperty 3 (some .int), Cond.fieldLink RX5 321 "FallingPatterns$Machine" "rows" "[I", Cond.fieldLink RX5 327 "FallingPatterns$Machine" "shorter" "[I", Cond.methodLink RX5 324 yX3_lastLetter, Cond.methodLink RX5 277 yX5_patternsThatBeginWith, Cond.instanceMethod yX5_patternsThatBeginWith, Cond.selects RX5 yX5_patternsThatBeginWith yX5_patternsThatBeginWith, Cond.code yX5_patternsThatBeginWith cX5_patternsThatBeginWith 5 (some .int), Cond.methodLink RX5 271 yX3_beginsWith, Cond.static yX3_beginsWith, Cond.code yX3_beginsWith cX3_beginsWith 3 (some .boolean), Cond.methodLink RL 57 yX5_setting, Cond.instanceMethod yX5_setting, Cond.selects RX5 yX5_setting yX5_setting, Cond.code yX5_setting cX5_setting 1 (some .int), Cond.methodLink RL 45 yX5_feed, Cond.instanceMethod yX5_feed, Cond.selects RX5 yX5_feed yX5_feed, Cond.code yX5_feed cX5_feed 2 (some .int), Cond.classLink RX5 56 "java/lang/IllegalStateException", Cond.initialized "java/lang/IllegalStateException"]
def wsL_isFedSo_r8 : List Cond := [Cond.methodLink RX5 61 yX4_keep, Cond.instanceMethod yX4_keep, Cond.selects RX4 yX4_keep yX4_keep, Cond.initialized RX4, Cond.code yX4_keep cX4_keep 3 none, Cond.fieldLink RX4 18 "FallingPatterns$Saved" "size" "I", Cond.fieldLink RX4 22 "FallingPatterns$Saved" "oldest" "I", Cond.methodLink RX4 25 yX4_memoryAt, Cond.instanceMethod yX4_memoryAt, Cond.selects RX4 yX4_memoryAt yX4_memoryAt, Cond.code yX4_memoryAt cX4_memoryAt 3 (some (.object "FallingPatterns$Memory")), Cond.fieldLink RX4 11 "FallingPatterns$Saved" "memories" "[LFallingPatterns$Memory;", Cond.methodLink RX4 29 yX2_copy, Cond.instanceMethod yX2_copy, Cond.selects RX2 yX2_copy yX2_copy, Cond.initialized RX2, Cond.code yX2_copy cX2_copy 3 none, Cond.fieldLink RX2 9 "FallingPatterns$Memory" "patterns" "[I", Cond.fieldLink RX2 15 "FallingPatterns$Memory" "counted" "[I", Cond.fieldLink RX2 18 "FallingPatterns$Memory" "latest" "[I", Cond.fieldLink RX2 21 "FallingPatterns$Memory" "rule" "I", Cond.fieldLink RX2 25 "FallingPatterns$Memory" "recent" "I", Cond.fieldLink RX2 39 "FallingPatterns$Memory" "read" "I", Cond.fieldLink RX2 42 "FallingPatterns$Memory" "countedInAll" "I"]
def wsL_isFedSo_r9 : List Cond := [Cond.fieldLink RX2 28 "FallingPatterns$Memory" "last" "I", Cond.fieldLink RX2 45 "FallingPatterns$Memory" "falls" "I", Cond.fieldLink RX2 48 "FallingPatterns$Memory" "mostFalls" "I", Cond.static yX5_put, Cond.code yX5_put cX5_put 3 none, Cond.methodLink RX5 121 yX5_readLetter, Cond.instanceMethod yX5_readLetter, Cond.selects RX5 yX5_readLetter yX5_readLetter, Cond.code yX5_readLetter cX5_readLetter 4 (some .int), Cond.methodLink RX5 299 yX2_takeFalls, Cond.instanceMethod yX2_takeFalls, Cond.selects RX2 yX2_takeFalls yX2_takeFalls, Cond.code yX2_takeFalls cX2_takeFalls 2 none, Cond.methodLink RX2 55 Lib.Math.max.name, Cond.static Lib.Math.max.name, Cond.initialized "java/lang/Math", Cond.code Lib.Math.max.name Lib.Math.max.code 2 (some .int), Cond.methodLink RX5 302 yX2_takeMatches, Cond.instanceMethod yX2_takeMatches, Cond.selects RX2 yX2_takeMatches yX2_takeMatches, Cond.code yX2_takeMatches cX2_takeMatches 3 none, Cond.methodLink RX5 243 yX3_behind, Cond.methodLink RX5 305 yX3_latest, Cond.static yX3_latest]
def wsL_isFedSo_r10 : List Cond := [Cond.code yX3_latest cX3_latest 1 (some .int), Cond.methodLink RL 60 yX5_undo, Cond.instanceMethod yX5_undo, Cond.selects RX5 yX5_undo yX5_undo, Cond.code yX5_undo cX5_undo 1 (some .int), Cond.methodLink RX5 161 yX4_giveBack, Cond.instanceMethod yX4_giveBack, Cond.selects RX4 yX4_giveBack yX4_giveBack, Cond.code yX4_giveBack cX4_giveBack 3 none, Cond.methodLink RX5 79 yX1_rebuild, Cond.instanceMethod yX1_rebuild, Cond.selects RX1 yX1_rebuild yX1_rebuild, Cond.code yX1_rebuild cX1_rebuild 6 none, Cond.fieldLink RX1 28 "FallingPatterns$Machine" "size" "I", Cond.fieldLink RX1 18 "FallingPatterns$Machine" "ends" "[I", Cond.methodLink RX1 32 yX1_takeState, Cond.instanceMethod yX1_takeState, Cond.selects RX1 yX1_takeState yX1_takeState, Cond.code yX1_takeState cX1_takeState 4 none, Cond.methodLink RX1 46 yX3_beginning, Cond.methodLink RX1 50 yX1_leadToLongerStates, Cond.instanceMethod yX1_leadToLongerStates, Cond.selects RX1 yX1_leadToLongerStates yX1_leadToLongerStates, Cond.code yX1_leadToLongerStates cX1_leadToLongerStates 4 none]
def wsL_isFedSo_r11 : List Cond := [Cond.methodLink RX1 73 yX3_lastLetter, Cond.methodLink RX1 53 yX1_fallBack, Cond.instanceMethod yX1_fallBack, Cond.selects RX1 yX1_fallBack yX1_fallBack, Cond.code yX1_fallBack cX1_fallBack 5 none, Cond.methodLink RX1 56 yX1_endsOf, Cond.instanceMethod yX1_endsOf, Cond.selects RX1 yX1_endsOf yX1_endsOf, Cond.code yX1_endsOf cX1_endsOf 5 (some .int)]
def wsL_isFedSo : List Cond := .code yL_isFedSo cL_isFedSo 13 (some .boolean) :: ((wsL_isFedSo_r1 ++ (wsL_isFedSo_r2 ++ (wsL_isFedSo_r3 ++ (wsL_isFedSo_r4 ++ (wsL_isFedSo_r5 ++ (wsL_isFedSo_r6 ++ (wsL_isFedSo_r7 ++ (wsL_isFedSo_r8 ++ (wsL_isFedSo_r9 ++ (wsL_isFedSo_r10 ++ wsL_isFedSo_r11)))))))))) ++ wsX50 ++ wsX10 ++ wsX20 ++ wsX40 ++ (vx_atS RX5 49 "java/lang/IllegalArgumentException" ["java/lang/RuntimeException", "java/lang/Exception"]).filter goodWord ++ (vx_atS RX5 91 "java/lang/IndexOutOfBoundsException" ["java/lang/RuntimeException", "java/lang/Exception"]).filter goodWord ++ (vx_atS RX5 60 "java/lang/IllegalStateException" ["java/lang/RuntimeException", "java/lang/Exception"]).filter goodWord)
def wsL_bits : List Cond := .code yL_bits cL_bits 3 (some .int) :: ([])
def wsL_areWaysSo_r1 : List Cond := [Cond.arrayClass .int, Cond.methodLink RL 63 yX5_lettersTo, Cond.instanceMethod yX5_lettersTo, Cond.selects RX5 yX5_lettersTo yX5_lettersTo, Cond.initialized RX5, Cond.code yX5_lettersTo cX5_lettersTo 2 (some .int), Cond.classLink RX5 87 "java/lang/IndexOutOfBoundsException", Cond.initialized "java/lang/IndexOutOfBoundsException", Cond.methodLink RX5 83 yX5_isSlot, Cond.static yX5_isSlot, Cond.code yX5_isSlot cX5_isSlot 1 (some .boolean), Cond.methodLink RX5 92 yX5_patternIn, Cond.instanceMethod yX5_patternIn, Cond.selects RX5 yX5_patternIn yX5_patternIn, Cond.code yX5_patternIn cX5_patternIn 2 (some .int), Cond.fieldLink RX5 12 "FallingPatterns" "now" "LFallingPatterns$Memory;", Cond.fieldLink RX5 65 "FallingPatterns$Memory" "patterns" "[I", Cond.methodLink RX5 68 yX5_at, Cond.static yX5_at, Cond.code yX5_at cX5_at 2 (some .int), Cond.methodLink RX5 195 yX5_fewestLettersTo, Cond.instanceMethod yX5_fewestLettersTo, Cond.selects RX5 yX5_fewestLettersTo yX5_fewestLettersTo, Cond.code yX5_fewestLettersTo cX5_fewestLettersTo 5 (some .int)]
def wsL_areWaysSo_r2 : List Cond := [Cond.fieldLink RX5 26 "FallingPatterns" "machine" "LFallingPatterns$Machine;", Cond.fieldLink RX5 321 "FallingPatterns$Machine" "rows" "[I", Cond.methodLink RX5 283 yX5_currentState, Cond.instanceMethod yX5_currentState, Cond.selects RX5 yX5_currentState yX5_currentState, Cond.code yX5_currentState cX5_currentState 1 (some .int), Cond.fieldLink RX5 280 "FallingPatterns$Memory" "recent" "I", Cond.methodLink RX5 258 yX1_stateBehind, Cond.instanceMethod yX1_stateBehind, Cond.selects RX1 yX1_stateBehind yX1_stateBehind, Cond.initialized RX1, Cond.code yX1_stateBehind cX1_stateBehind 5 (some .int), Cond.methodLink RX1 40 yX3_lengthOf, Cond.static yX3_lengthOf, Cond.initialized RX3, Cond.code yX3_lengthOf cX3_lengthOf 2 (some .int), Cond.methodLink RX1 60 yX3_letterAt, Cond.static yX3_letterAt, Cond.code yX3_letterAt cX3_letterAt 3 (some .int), Cond.methodLink RX3 9 yX3_lengthOf, Cond.methodLink RX3 15 yX3_lastLetter, Cond.static yX3_lastLetter, Cond.code yX3_lastLetter cX3_lastLetter 1 (some .int), Cond.methodLink RX1 63 yX1_leadsTo]
def wsL_areWaysSo_r3 : List Cond := [Cond.instanceMethod yX1_leadsTo, Cond.selects RX1 yX1_leadsTo yX1_leadsTo, Cond.code yX1_leadsTo cX1_leadsTo 3 (some .int), Cond.fieldLink RX1 21 "FallingPatterns$Machine" "leads" "[I", Cond.methodLink RX5 252 yX3_lengthOf, Cond.methodLink RX5 274 yX3_beginning, Cond.static yX3_beginning, Cond.code yX3_beginning cX3_beginning 2 (some .int), Cond.methodLink RX5 345 yX3_endsWith, Cond.static yX3_endsWith, Cond.code yX3_endsWith cX3_endsWith 3 (some .boolean), Cond.methodLink RX3 18 yX3_end, Cond.static yX3_end, Cond.code yX3_end cX3_end 3 (some .int), Cond.methodLink RL 24 yX5_count, Cond.instanceMethod yX5_count, Cond.selects RX5 yX5_count yX5_count, Cond.code yX5_count cX5_count 2 (some .int), Cond.classLink RX5 45 "java/lang/IllegalArgumentException", Cond.initialized "java/lang/IllegalArgumentException", Cond.methodLink RX5 187 yX5_numberTold, Cond.instanceMethod yX5_numberTold, Cond.selects RX5 yX5_numberTold yX5_numberTold, Cond.code yX5_numberTold cX5_numberTold 2 (some .int)]
def wsL_areWaysSo_r4 : List Cond := [Cond.fieldLink RX5 177 "FallingPatterns$Machine" "size" "I", Cond.fieldLink RX5 116 "FallingPatterns$Memory" "read" "I", Cond.fieldLink RX5 333 "FallingPatterns$Memory" "countedInAll" "I", Cond.fieldLink RX5 289 "FallingPatterns$Memory" "last" "I", Cond.fieldLink RX5 336 "FallingPatterns$Memory" "falls" "I", Cond.fieldLink RX5 339 "FallingPatterns$Memory" "mostFalls" "I", Cond.fieldLink RX5 19 "FallingPatterns" "saved" "LFallingPatterns$Saved;", Cond.fieldLink RX5 156 "FallingPatterns$Saved" "size" "I", Cond.methodLink RX5 330 yX5_numberOfPatterns, Cond.instanceMethod yX5_numberOfPatterns, Cond.selects RX5 yX5_numberOfPatterns yX5_numberOfPatterns, Cond.code yX5_numberOfPatterns cX5_numberOfPatterns 3 (some .int), Cond.methodLink RX5 206 yX5_sumOfLengths, Cond.instanceMethod yX5_sumOfLengths, Cond.selects RX5 yX5_sumOfLengths yX5_sumOfLengths, Cond.code yX5_sumOfLengths cX5_sumOfLengths 3 (some .int), Cond.methodLink RL 33 yX5_pattern, Cond.instanceMethod yX5_pattern, Cond.selects RX5 yX5_pattern yX5_pattern, Cond.code yX5_pattern cX5_pattern 3 (some .int), Cond.methodLink RX5 166 yX5_patternProperty, Cond.instanceMethod yX5_patternProperty, Cond.selects RX5 yX5_patternProperty yX5_patternProperty, Cond.code yX5_patternProperty cX5_patternProperty 4 (some .int)]
def wsL_areWaysSo_r5 : List Cond := [Cond.fieldLink RX5 98 "FallingPatterns$Memory" "counted" "[I", Cond.fieldLink RX5 255 "FallingPatterns$Memory" "latest" "[I", Cond.methodLink RX5 261 yX5_othersInside, Cond.instanceMethod yX5_othersInside, Cond.selects RX5 yX5_othersInside yX5_othersInside, Cond.code yX5_othersInside cX5_othersInside 4 (some .int), Cond.methodLink RX5 267 yX3_isPart, Cond.static yX3_isPart, Cond.code yX3_isPart cX3_isPart 4 (some .boolean), Cond.methodLink RX3 22 yX3_beginning, Cond.methodLink RX3 25 yX3_endsWith, Cond.methodLink RX5 264 yX5_othersAround, Cond.instanceMethod yX5_othersAround, Cond.selects RX5 yX5_othersAround yX5_othersAround, Cond.code yX5_othersAround cX5_othersAround 4 (some .int), Cond.methodLink RL 48 yX5_state, Cond.instanceMethod yX5_state, Cond.selects RX5 yX5_state yX5_state, Cond.code yX5_state cX5_state 3 (some .int), Cond.methodLink RX5 182 yX5_stateProperty, Cond.instanceMethod yX5_stateProperty, Cond.selects RX5 yX5_stateProperty yX5_stateProperty, Cond.code yX5_stateProperty cX5_stateProperty 3 (some .int), Cond.fieldLink RX5 327 "FallingPatterns$Machine" "shorter" "[I"]
def wsL_areWaysSo_r6 : List Cond := [Cond.fieldLink RX5 318 "FallingPatterns$Machine" "ends" "[I", Cond.methodLink RX5 324 yX3_lastLetter, Cond.methodLink RX5 277 yX5_patternsThatBeginWith, Cond.instanceMethod yX5_patternsThatBeginWith, Cond.selects RX5 yX5_patternsThatBeginWith yX5_patternsThatBeginWith, Cond.code yX5_patternsThatBeginWith cX5_patternsThatBeginWith 5 (some .int), Cond.methodLink RX5 271 yX3_beginsWith, Cond.static yX3_beginsWith, Cond.code yX3_beginsWith cX3_beginsWith 3 (some .boolean), Cond.methodLink RX5 286 yX1_leadsTo]
def wsL_areWaysSo : List Cond := .code yL_areWaysSo cL_areWaysSo 11 (some .boolean) :: ((wsL_areWaysSo_r1 ++ (wsL_areWaysSo_r2 ++ (wsL_areWaysSo_r3 ++ (wsL_areWaysSo_r4 ++ (wsL_areWaysSo_r5 ++ wsL_areWaysSo_r6))))) ++ wsX50 ++ wsX20 ++ wsX10 ++ wsX40 ++ (vx_atS RX5 91 "java/lang/IndexOutOfBoundsException" ["java/lang/RuntimeException", "java/lang/Exception"]).filter goodWord ++ (vx_atS RX5 49 "java/lang/IllegalArgumentException" ["java/lang/RuntimeException", "java/lang/Exception"]).filter goodWord)
def wsL_law0_r1 : List Cond := [Cond.classLink RL 9 RX5, Cond.instantiable RX5 5, Cond.initialized RX5, Cond.methodLink RL 66 yX5_init, Cond.instanceMethod yX5_init, Cond.code yX5_init cX5_init 1 none, Cond.methodLink RX5 3 objectInit, Cond.instanceMethod objectInit, Cond.code objectInit ⟨#[0xb1]⟩ 1 none, Cond.classLink RX5 9 RX2, Cond.instantiable RX2 10, Cond.initialized RX2, Cond.fieldLink RX5 12 "FallingPatterns" "now" "LFallingPatterns$Memory;", Cond.classLink RX5 16 RX4, Cond.instantiable RX4 3, Cond.initialized RX4, Cond.fieldLink RX5 19 "FallingPatterns" "saved" "LFallingPatterns$Saved;", Cond.classLink RX5 23 RX1, Cond.instantiable RX1 5, Cond.initialized RX1, Cond.fieldLink RX5 26 "FallingPatterns" "machine" "LFallingPatterns$Machine;", Cond.classLink RX5 30 RX0, Cond.instantiable RX0 2, Cond.initialized RX0]
def wsL_law0_r2 : List Cond := [Cond.fieldLink RX5 33 "FallingPatterns" "buffer" "LFallingPatterns$Buffer;", Cond.arrayClass .int, Cond.fieldLink RX5 37 "FallingPatterns" "draft" "[I", Cond.methodLink RX5 11 yX2_init, Cond.instanceMethod yX2_init, Cond.code yX2_init cX2_init 2 none, Cond.methodLink RX2 3 objectInit, Cond.fieldLink RX2 9 "FallingPatterns$Memory" "patterns" "[I", Cond.fieldLink RX2 15 "FallingPatterns$Memory" "counted" "[I", Cond.fieldLink RX2 18 "FallingPatterns$Memory" "latest" "[I", Cond.fieldLink RX2 21 "FallingPatterns$Memory" "rule" "I", Cond.fieldLink RX2 25 "FallingPatterns$Memory" "recent" "I", Cond.fieldLink RX2 28 "FallingPatterns$Memory" "last" "I", Cond.methodLink RX5 18 yX4_init, Cond.instanceMethod yX4_init, Cond.code yX4_init cX4_init 2 none, Cond.methodLink RX4 3 objectInit, Cond.classLink RX4 9 RX2, Cond.fieldLink RX4 11 "FallingPatterns$Saved" "memories" "[LFallingPatterns$Memory;", Cond.methodLink RX4 17 yX2_init, Cond.methodLink RX5 25 yX1_init, Cond.instanceMethod yX1_init, Cond.code yX1_init cX1_init 1 none, Cond.methodLink RX1 3 objectInit]
def wsL_law0_r3 : List Cond := [Cond.fieldLink RX1 9 "FallingPatterns$Machine" "rows" "[I", Cond.fieldLink RX1 15 "FallingPatterns$Machine" "shorter" "[I", Cond.fieldLink RX1 18 "FallingPatterns$Machine" "ends" "[I", Cond.fieldLink RX1 21 "FallingPatterns$Machine" "leads" "[I", Cond.fieldLink RX1 28 "FallingPatterns$Machine" "size" "I", Cond.static yX5_put, Cond.code yX5_put cX5_put 3 none, Cond.methodLink RX5 32 yX0_init, Cond.instanceMethod yX0_init, Cond.code yX0_init cX0_init 1 none, Cond.methodLink RX0 3 objectInit, Cond.fieldLink RX0 9 "FallingPatterns$Buffer" "codes" "[I", Cond.methodLink RL 67 yL_cell, Cond.static yL_cell, Cond.initialized RL, Cond.code yL_cell cL_cell 2 (some .int), Cond.methodLink RL 30 yL_add, Cond.static yL_add, Cond.code yL_add cL_add 7 none, Cond.methodLink RL 8 yX5_clearBuffer, Cond.instanceMethod yX5_clearBuffer, Cond.selects RX5 yX5_clearBuffer yX5_clearBuffer, Cond.code yX5_clearBuffer cX5_clearBuffer 2 (some .int), Cond.fieldLink RX5 142 "FallingPatterns$Buffer" "length" "I"]
def wsL_law0_r4 : List Cond := [Cond.methodLink RX5 76 yX0_empty, Cond.instanceMethod yX0_empty, Cond.selects RX0 yX0_empty yX0_empty, Cond.code yX0_empty cX0_empty 1 none, Cond.fieldLink RX0 15 "FallingPatterns$Buffer" "length" "I", Cond.methodLink RL 14 yL_low, Cond.static yL_low, Cond.code yL_low cL_low 2 (some .int), Cond.constant RL 7 (2147483647), Cond.methodLink RL 20 yX5_append, Cond.instanceMethod yX5_append, Cond.selects RX5 yX5_append yX5_append, Cond.code yX5_append cX5_append 2 (some .int), Cond.classLink RX5 45 "java/lang/IllegalArgumentException", Cond.initialized "java/lang/IllegalArgumentException", Cond.classLink RX5 56 "java/lang/IllegalStateException", Cond.initialized "java/lang/IllegalStateException", Cond.methodLink RX5 147 yX0_take, Cond.instanceMethod yX0_take, Cond.selects RX0 yX0_take yX0_take, Cond.code yX0_take cX0_take 2 none, Cond.methodLink RL 24 yX5_count, Cond.instanceMethod yX5_count, Cond.selects RX5 yX5_count yX5_count]
def wsL_law0_r5 : List Cond := [Cond.code yX5_count cX5_count 2 (some .int), Cond.methodLink RX5 187 yX5_numberTold, Cond.instanceMethod yX5_numberTold, Cond.selects RX5 yX5_numberTold yX5_numberTold, Cond.code yX5_numberTold cX5_numberTold 2 (some .int), Cond.fieldLink RX5 177 "FallingPatterns$Machine" "size" "I", Cond.fieldLink RX5 116 "FallingPatterns$Memory" "read" "I", Cond.fieldLink RX5 333 "FallingPatterns$Memory" "countedInAll" "I", Cond.fieldLink RX5 289 "FallingPatterns$Memory" "last" "I", Cond.fieldLink RX5 336 "FallingPatterns$Memory" "falls" "I", Cond.fieldLink RX5 339 "FallingPatterns$Memory" "mostFalls" "I", Cond.fieldLink RX5 156 "FallingPatterns$Saved" "size" "I", Cond.methodLink RX5 330 yX5_numberOfPatterns, Cond.instanceMethod yX5_numberOfPatterns, Cond.selects RX5 yX5_numberOfPatterns yX5_numberOfPatterns, Cond.code yX5_numberOfPatterns cX5_numberOfPatterns 3 (some .int), Cond.methodLink RX5 92 yX5_patternIn, Cond.instanceMethod yX5_patternIn, Cond.selects RX5 yX5_patternIn yX5_patternIn, Cond.code yX5_patternIn cX5_patternIn 2 (some .int), Cond.fieldLink RX5 65 "FallingPatterns$Memory" "patterns" "[I", Cond.methodLink RX5 68 yX5_at, Cond.static yX5_at, Cond.code yX5_at cX5_at 2 (some .int)]
def wsL_law0_r6 : List Cond := [Cond.methodLink RX5 283 yX5_currentState, Cond.instanceMethod yX5_currentState, Cond.selects RX5 yX5_currentState yX5_currentState, Cond.code yX5_currentState cX5_currentState 1 (some .int), Cond.fieldLink RX5 280 "FallingPatterns$Memory" "recent" "I", Cond.methodLink RX5 258 yX1_stateBehind, Cond.instanceMethod yX1_stateBehind, Cond.selects RX1 yX1_stateBehind yX1_stateBehind, Cond.code yX1_stateBehind cX1_stateBehind 5 (some .int), Cond.methodLink RX1 40 yX3_lengthOf, Cond.static yX3_lengthOf, Cond.initialized RX3, Cond.code yX3_lengthOf cX3_lengthOf 2 (some .int), Cond.methodLink RX1 60 yX3_letterAt, Cond.static yX3_letterAt, Cond.code yX3_letterAt cX3_letterAt 3 (some .int), Cond.methodLink RX3 9 yX3_lengthOf, Cond.methodLink RX3 15 yX3_lastLetter, Cond.static yX3_lastLetter, Cond.code yX3_lastLetter cX3_lastLetter 1 (some .int), Cond.methodLink RX1 63 yX1_leadsTo, Cond.instanceMethod yX1_leadsTo, Cond.selects RX1 yX1_leadsTo yX1_leadsTo, Cond.code yX1_leadsTo cX1_leadsTo 3 (some .int)]
def wsL_law0_r7 : List Cond := [Cond.methodLink RX5 206 yX5_sumOfLengths, Cond.instanceMethod yX5_sumOfLengths, Cond.selects RX5 yX5_sumOfLengths yX5_sumOfLengths, Cond.code yX5_sumOfLengths cX5_sumOfLengths 3 (some .int), Cond.methodLink RX5 252 yX3_lengthOf, Cond.methodLink RL 27 yX5_add, Cond.instanceMethod yX5_add, Cond.selects RX5 yX5_add yX5_add, Cond.code yX5_add cX5_add 3 (some .int), Cond.methodLink RX5 41 yX0_holdsPatterns, Cond.instanceMethod yX0_holdsPatterns, Cond.selects RX0 yX0_holdsPatterns yX0_holdsPatterns, Cond.code yX0_holdsPatterns cX0_holdsPatterns 1 (some .boolean), Cond.methodLink RX0 34 yX0_firstErrorInPatterns, Cond.instanceMethod yX0_firstErrorInPatterns, Cond.selects RX0 yX0_firstErrorInPatterns yX0_firstErrorInPatterns, Cond.code yX0_firstErrorInPatterns cX0_firstErrorInPatterns 4 (some .int), Cond.methodLink RX0 31 yX0_isLetterCode, Cond.static yX0_isLetterCode, Cond.code yX0_isLetterCode cX0_isLetterCode 1 (some .boolean), Cond.methodLink RX0 38 yX0_endsPart, Cond.instanceMethod yX0_endsPart, Cond.selects RX0 yX0_endsPart yX0_endsPart, Cond.code yX0_endsPart cX0_endsPart 2 (some .boolean)]
def wsL_law0_r8 : List Cond := [Cond.methodLink RX5 52 yX5_draftPatterns, Cond.instanceMethod yX5_draftPatterns, Cond.selects RX5 yX5_draftPatterns yX5_draftPatterns, Cond.code yX5_draftPatterns cX5_draftPatterns 6 (some .int), Cond.fieldLink RX5 240 "FallingPatterns$Buffer" "codes" "[I", Cond.methodLink RX5 72 yX5_put, Cond.methodLink RX5 243 yX3_behind, Cond.static yX3_behind, Cond.code yX3_behind cX3_behind 2 (some .int), Cond.methodLink RX5 246 yX0_endsPart, Cond.methodLink RX5 249 yX5_draftSlotOf, Cond.instanceMethod yX5_draftSlotOf, Cond.selects RX5 yX5_draftSlotOf yX5_draftSlotOf, Cond.code yX5_draftSlotOf cX5_draftSlotOf 3 (some .int), Cond.methodLink RX5 61 yX4_keep, Cond.instanceMethod yX4_keep, Cond.selects RX4 yX4_keep yX4_keep, Cond.code yX4_keep cX4_keep 3 none, Cond.fieldLink RX4 18 "FallingPatterns$Saved" "size" "I", Cond.fieldLink RX4 22 "FallingPatterns$Saved" "oldest" "I", Cond.methodLink RX4 25 yX4_memoryAt, Cond.instanceMethod yX4_memoryAt, Cond.selects RX4 yX4_memoryAt yX4_memoryAt, Cond.code yX4_memoryAt cX4_memoryAt 3 (some (.object "FallingPatterns$Memory"))]
def wsL_law0_r9 : List Cond := [Cond.methodLink RX4 29 yX2_copy, Cond.instanceMethod yX2_copy, Cond.selects RX2 yX2_copy yX2_copy, Cond.code yX2_copy cX2_copy 3 none, Cond.fieldLink RX2 39 "FallingPatterns$Memory" "read" "I", Cond.fieldLink RX2 42 "FallingPatterns$Memory" "countedInAll" "I", Cond.fieldLink RX2 45 "FallingPatterns$Memory" "falls" "I", Cond.fieldLink RX2 48 "FallingPatterns$Memory" "mostFalls" "I", Cond.methodLink RX5 79 yX1_rebuild, Cond.instanceMethod yX1_rebuild, Cond.selects RX1 yX1_rebuild yX1_rebuild, Cond.code yX1_rebuild cX1_rebuild 6 none, Cond.methodLink RX1 32 yX1_takeState, Cond.instanceMethod yX1_takeState, Cond.selects RX1 yX1_takeState yX1_takeState, Cond.code yX1_takeState cX1_takeState 4 none, Cond.methodLink RX1 46 yX3_beginning, Cond.static yX3_beginning, Cond.code yX3_beginning cX3_beginning 2 (some .int), Cond.methodLink RX1 50 yX1_leadToLongerStates, Cond.instanceMethod yX1_leadToLongerStates, Cond.selects RX1 yX1_leadToLongerStates yX1_leadToLongerStates, Cond.code yX1_leadToLongerStates cX1_leadToLongerStates 4 none, Cond.methodLink RX1 73 yX3_lastLetter]
def wsL_law0_r10 : List Cond := [Cond.methodLink RX1 53 yX1_fallBack, Cond.instanceMethod yX1_fallBack, Cond.selects RX1 yX1_fallBack yX1_fallBack, Cond.code yX1_fallBack cX1_fallBack 5 none, Cond.methodLink RX1 56 yX1_endsOf, Cond.instanceMethod yX1_endsOf, Cond.selects RX1 yX1_endsOf yX1_endsOf, Cond.code yX1_endsOf cX1_endsOf 5 (some .int), Cond.methodLink RL 71 yL_does, Cond.static yL_does, Cond.code yL_does cL_does 4 none, Cond.methodLink RL 33 yX5_pattern, Cond.instanceMethod yX5_pattern, Cond.selects RX5 yX5_pattern yX5_pattern, Cond.code yX5_pattern cX5_pattern 3 (some .int), Cond.classLink RX5 87 "java/lang/IndexOutOfBoundsException", Cond.initialized "java/lang/IndexOutOfBoundsException", Cond.methodLink RX5 83 yX5_isSlot, Cond.static yX5_isSlot, Cond.code yX5_isSlot cX5_isSlot 1 (some .boolean), Cond.methodLink RX5 166 yX5_patternProperty, Cond.instanceMethod yX5_patternProperty, Cond.selects RX5 yX5_patternProperty yX5_patternProperty, Cond.code yX5_patternProperty cX5_patternProperty 4 (some .int)]
def wsL_law0_r11 : List Cond := [Cond.fieldLink RX5 98 "FallingPatterns$Memory" "counted" "[I", Cond.fieldLink RX5 255 "FallingPatterns$Memory" "latest" "[I", Cond.methodLink RX5 261 yX5_othersInside, Cond.instanceMethod yX5_othersInside, Cond.selects RX5 yX5_othersInside yX5_othersInside, Cond.code yX5_othersInside cX5_othersInside 4 (some .int), Cond.methodLink RX5 267 yX3_isPart, Cond.static yX3_isPart, Cond.code yX3_isPart cX3_isPart 4 (some .boolean), Cond.methodLink RX3 22 yX3_beginning, Cond.methodLink RX3 25 yX3_endsWith, Cond.static yX3_endsWith, Cond.code yX3_endsWith cX3_endsWith 3 (some .boolean), Cond.methodLink RX3 18 yX3_end, Cond.static yX3_end, Cond.code yX3_end cX3_end 3 (some .int), Cond.methodLink RX5 264 yX5_othersAround, Cond.instanceMethod yX5_othersAround, Cond.selects RX5 yX5_othersAround yX5_othersAround, Cond.code yX5_othersAround cX5_othersAround 4 (some .int), Cond.methodLink RL 36 yX5_remove, Cond.instanceMethod yX5_remove, Cond.selects RX5 yX5_remove yX5_remove, Cond.code yX5_remove cX5_remove 3 (some .int)]
def wsL_law0_r12 : List Cond := [Cond.methodLink RX5 101 yX2_forgetMatchesOf, Cond.instanceMethod yX2_forgetMatchesOf, Cond.selects RX2 yX2_forgetMatchesOf yX2_forgetMatchesOf, Cond.code yX2_forgetMatchesOf cX2_forgetMatchesOf 2 none, Cond.methodLink RL 39 yX5_rule, Cond.instanceMethod yX5_rule, Cond.selects RX5 yX5_rule yX5_rule, Cond.code yX5_rule cX5_rule 3 (some .int), Cond.fieldLink RX5 107 "FallingPatterns$Memory" "rule" "I", Cond.methodLink RL 42 yX5_begin, Cond.instanceMethod yX5_begin, Cond.selects RX5 yX5_begin yX5_begin, Cond.code yX5_begin cX5_begin 2 (some .int), Cond.methodLink RX5 137 yX2_forgetText, Cond.instanceMethod yX2_forgetText, Cond.selects RX2 yX2_forgetText yX2_forgetText, Cond.code yX2_forgetText cX2_forgetText 2 none, Cond.methodLink RX2 51 yX2_forgetMatchesOf, Cond.methodLink RL 45 yX5_feed, Cond.instanceMethod yX5_feed, Cond.selects RX5 yX5_feed yX5_feed, Cond.code yX5_feed cX5_feed 2 (some .int), Cond.methodLink RX5 111 yX5_isLetter, Cond.static yX5_isLetter]
def wsL_law0_r13 : List Cond := [Cond.code yX5_isLetter cX5_isLetter 1 (some .boolean), Cond.methodLink RX5 121 yX5_readLetter, Cond.instanceMethod yX5_readLetter, Cond.selects RX5 yX5_readLetter yX5_readLetter, Cond.code yX5_readLetter cX5_readLetter 4 (some .int), Cond.methodLink RX5 286 yX1_leadsTo, Cond.methodLink RX5 292 yX5_matchesThatCount, Cond.instanceMethod yX5_matchesThatCount, Cond.selects RX5 yX5_matchesThatCount yX5_matchesThatCount, Cond.code yX5_matchesThatCount cX5_matchesThatCount 10 (some .int), Cond.fieldLink RX5 318 "FallingPatterns$Machine" "ends" "[I", Cond.methodLink RX5 296 yX1_fallsBefore, Cond.instanceMethod yX1_fallsBefore, Cond.selects RX1 yX1_fallsBefore yX1_fallsBefore, Cond.code yX1_fallsBefore cX1_fallsBefore 5 (some .int), Cond.methodLink RX1 66 yX1_goesOn, Cond.instanceMethod yX1_goesOn, Cond.selects RX1 yX1_goesOn yX1_goesOn, Cond.code yX1_goesOn cX1_goesOn 3 (some .boolean), Cond.methodLink RX1 70 yX3_behind, Cond.methodLink RX5 299 yX2_takeFalls, Cond.instanceMethod yX2_takeFalls, Cond.selects RX2 yX2_takeFalls yX2_takeFalls, Cond.code yX2_takeFalls cX2_takeFalls 2 none]
def wsL_law0_r14 : List Cond := [Cond.methodLink RX2 55 Lib.Math.max.name, Cond.static Lib.Math.max.name, Cond.initialized "java/lang/Math", Cond.code Lib.Math.max.name Lib.Math.max.code 2 (some .int), Cond.methodLink RX5 302 yX2_takeMatches, Cond.instanceMethod yX2_takeMatches, Cond.selects RX2 yX2_takeMatches yX2_takeMatches, Cond.code yX2_takeMatches cX2_takeMatches 3 none, Cond.methodLink RX5 305 yX3_latest, Cond.static yX3_latest, Cond.code yX3_latest cX3_latest 1 (some .int), Cond.methodLink RX5 307 yJ6_bitCount_0f7a4, Cond.static yJ6_bitCount_0f7a4, Cond.initialized RJ6, Cond.code yJ6_bitCount_0f7a4 cJ6_bitCount_0f7a4 1 (some .int), Cond.constant RJ6 265 (1431655765), Cond.constant RJ6 266 (858993459), Cond.constant RJ6 267 (252645135), Cond.methodLink RL 74 yL_isFedSo, Cond.static yL_isFedSo, Cond.code yL_isFedSo cL_isFedSo 13 (some .boolean), Cond.methodLink RL 54 yX5_ifFed, Cond.instanceMethod yX5_ifFed, Cond.selects RX5 yX5_ifFed yX5_ifFed]
def wsL_law0_r15 : List Cond := [Cond.code yX5_ifFed cX5_ifFed 3 (some .int), Cond.methodLink RX5 192 yX5_fedNumber, Cond.instanceMethod yX5_fedNumber, Cond.selects RX5 yX5_fedNumber yX5_fedNumber, Cond.code yX5_fedNumber cX5_fedNumber 5 (some .int), Cond.methodLink RX5 342 yX5_lowestSlot, Cond.static yX5_lowestSlot, Cond.code yX5_lowestSlot cX5_lowestSlot 2 (some .int), Cond.methodLink RL 48 yX5_state, Cond.instanceMethod yX5_state, Cond.selects RX5 yX5_state yX5_state, Cond.code yX5_state cX5_state 3 (some .int), Cond.methodLink RX5 182 yX5_stateProperty, Cond.instanceMethod yX5_stateProperty, Cond.selects RX5 yX5_stateProperty yX5_stateProperty, Cond.code yX5_stateProperty cX5_stateProperty 3 (some .int), Cond.fieldLink RX5 321 "FallingPatterns$Machine" "rows" "[I", Cond.fieldLink RX5 327 "FallingPatterns$Machine" "shorter" "[I", Cond.methodLink RX5 324 yX3_lastLetter, Cond.methodLink RX5 277 yX5_patternsThatBeginWith, Cond.instanceMethod yX5_patternsThatBeginWith, Cond.selects RX5 yX5_patternsThatBeginWith yX5_patternsThatBeginWith, Cond.code yX5_patternsThatBeginWith cX5_patternsThatBeginWith 5 (some .int), Cond.methodLink RX5 271 yX3_beginsWith]
def wsL_law0_r16 : List Cond := [Cond.static yX3_beginsWith, Cond.code yX3_beginsWith cX3_beginsWith 3 (some .boolean), Cond.methodLink RL 57 yX5_setting, Cond.instanceMethod yX5_setting, Cond.selects RX5 yX5_setting yX5_setting, Cond.code yX5_setting cX5_setting 1 (some .int), Cond.methodLink RL 60 yX5_undo, Cond.instanceMethod yX5_undo, Cond.selects RX5 yX5_undo yX5_undo, Cond.code yX5_undo cX5_undo 1 (some .int), Cond.methodLink RX5 161 yX4_giveBack, Cond.instanceMethod yX4_giveBack, Cond.selects RX4 yX4_giveBack yX4_giveBack, Cond.code yX4_giveBack cX4_giveBack 3 none, Cond.methodLink RL 78 yL_areStatesSo, Cond.static yL_areStatesSo, Cond.code yL_areStatesSo cL_areStatesSo 9 (some .boolean), Cond.methodLink RL 51 yX5_letter, Cond.instanceMethod yX5_letter, Cond.selects RX5 yX5_letter yX5_letter, Cond.code yX5_letter cX5_letter 3 (some .int), Cond.methodLink RX5 172 yX3_letterAt, Cond.methodLink RL 82 yL_areWaysSo, Cond.static yL_areWaysSo]
def wsL_law0_r17 : List Cond := [Cond.code yL_areWaysSo cL_areWaysSo 11 (some .boolean), Cond.methodLink RL 63 yX5_lettersTo, Cond.instanceMethod yX5_lettersTo, Cond.selects RX5 yX5_lettersTo yX5_lettersTo, Cond.code yX5_lettersTo cX5_lettersTo 2 (some .int), Cond.methodLink RX5 195 yX5_fewestLettersTo, Cond.instanceMethod yX5_fewestLettersTo, Cond.selects RX5 yX5_fewestLettersTo yX5_fewestLettersTo, Cond.code yX5_fewestLettersTo cX5_fewestLettersTo 5 (some .int), Cond.methodLink RX5 274 yX3_beginning, Cond.methodLink RX5 345 yX3_endsWith, Cond.methodLink RL 85 yL_bits, Cond.static yL_bits, Cond.code yL_bits cL_bits 3 (some .int), Cond.methodLink RL 88 yX5_ifRepeated, Cond.instanceMethod yX5_ifRepeated, Cond.selects RX5 yX5_ifRepeated yX5_ifRepeated, Cond.code yX5_ifRepeated cX5_ifRepeated 3 (some .int), Cond.methodLink RX5 200 yX5_matchesIfRepeated, Cond.instanceMethod yX5_matchesIfRepeated, Cond.selects RX5 yX5_matchesIfRepeated yX5_matchesIfRepeated, Cond.code yX5_matchesIfRepeated cX5_matchesIfRepeated 8 (some .int)]
def wsL_law0 : List Cond := (wsL_law0_r1 ++ (wsL_law0_r2 ++ (wsL_law0_r3 ++ (wsL_law0_r4 ++ (wsL_law0_r5 ++ (wsL_law0_r6 ++ (wsL_law0_r7 ++ (wsL_law0_r8 ++ (wsL_law0_r9 ++ (wsL_law0_r10 ++ (wsL_law0_r11 ++ (wsL_law0_r12 ++ (wsL_law0_r13 ++ (wsL_law0_r14 ++ (wsL_law0_r15 ++ (wsL_law0_r16 ++ wsL_law0_r17)))))))))))))))) ++ wsX50 ++ wsX20 ++ wsX40 ++ wsX10 ++ wsX00 ++ ([] : List Cond)
def wsL_law : List Cond := wsL_law0 ++ (vx_atS RX5 49 "java/lang/IllegalArgumentException" ["java/lang/RuntimeException", "java/lang/Exception"]).filter goodWord ++ (vx_atS RX5 60 "java/lang/IllegalStateException" ["java/lang/RuntimeException", "java/lang/Exception"]).filter goodWord ++ (vx_atS RX5 91 "java/lang/IndexOutOfBoundsException" ["java/lang/RuntimeException", "java/lang/Exception"]).filter goodWord
end
section
set_option maxRecDepth 20000 in
theorem wsL_law0_r1_in : ∀ w ∈ wsL_law0_r1, w ∈ lw_tbl := fun w h => (goodIn_p wsL_law0_r1 [43, 46] (by decide +kernel) (by decide +kernel) w h).1
set_option maxRecDepth 20000 in
theorem wsL_law0_r2_in : ∀ w ∈ wsL_law0_r2, w ∈ lw_tbl := fun w h => (goodIn_p wsL_law0_r2 [51, 99, 119] (by decide +kernel) (by decide +kernel) w h).1
set_option maxRecDepth 20000 in
theorem wsL_law0_r3_in : ∀ w ∈ wsL_law0_r3, w ∈ lw_tbl := fun w h => (goodIn_p wsL_law0_r3 [123, 148, 376, 383, 387] (by decide +kernel) (by decide +kernel) w h).1
set_option maxRecDepth 20000 in
theorem wsL_law0_r4_in : ∀ w ∈ wsL_law0_r4, w ∈ lw_tbl := fun w h => (goodIn_p wsL_law0_r4 [391, 379, 395, 416] (by decide +kernel) (by decide +kernel) w h).1
set_option maxRecDepth 20000 in
theorem wsL_law0_r5_in : ∀ w ∈ wsL_law0_r5, w ∈ lw_tbl := fun w h => (goodIn_p wsL_law0_r5 [296, 301, 305, 283, 269] (by decide +kernel) (by decide +kernel) w h).1
set_option maxRecDepth 20000 in
theorem wsL_law0_r6_in : ∀ w ∈ wsL_law0_r6, w ∈ lw_tbl := fun w h => (goodIn_p wsL_law0_r6 [309, 313, 272, 317, 275, 291] (by decide +kernel) (by decide +kernel) w h).1
set_option maxRecDepth 20000 in
theorem wsL_law0_r7_in : ∀ w ∈ wsL_law0_r7, w ∈ lw_tbl := fun w h => (goodIn_p wsL_law0_r7 [323, 421, 425, 429, 433, 437] (by decide +kernel) (by decide +kernel) w h).1
set_option maxRecDepth 20000 in
theorem wsL_law0_r8_in : ∀ w ∈ wsL_law0_r8, w ∈ lw_tbl := fun w h => (goodIn_p wsL_law0_r8 [442, 351, 449, 454, 458] (by decide +kernel) (by decide +kernel) w h).1
set_option maxRecDepth 20000 in
theorem wsL_law0_r9_in : ∀ w ∈ wsL_law0_r9, w ∈ lw_tbl := fun w h => (goodIn_p wsL_law0_r9 [462, 468, 472, 475, 479] (by decide +kernel) (by decide +kernel) w h).1
set_option maxRecDepth 20000 in
theorem wsL_law0_r10_in : ∀ w ∈ wsL_law0_r10, w ∈ lw_tbl := fun w h => (goodIn_p wsL_law0_r10 [484, 488, 491, 495, 498, 504] (by decide +kernel) (by decide +kernel) w h).1
set_option maxRecDepth 20000 in
theorem wsL_law0_r11_in : ∀ w ∈ wsL_law0_r11, w ∈ lw_tbl := fun w h => (goodIn_p wsL_law0_r11 [508, 511, 515, 518, 522, 526] (by decide +kernel) (by decide +kernel) w h).1
end
section
set_option maxRecDepth 20000 in
theorem wsL_law0_r12_in : ∀ w ∈ wsL_law0_r12, w ∈ lw_tbl := fun w h => (goodIn_p wsL_law0_r12 [531, 535, 540, 544, 549] (by decide +kernel) (by decide +kernel) w h).1
set_option maxRecDepth 20000 in
theorem wsL_law0_r13_in : ∀ w ∈ wsL_law0_r13, w ∈ lw_tbl := fun w h => (goodIn_p wsL_law0_r13 [334, 554, 355, 344, 348, 558] (by decide +kernel) (by decide +kernel) w h).1
set_option maxRecDepth 20000 in
theorem wsL_law0_r14_in : ∀ w ∈ wsL_law0_r14, w ∈ lw_tbl := fun w h => (goodIn_p wsL_law0_r14 [561, 565, 568, 358, 580] (by decide +kernel) (by decide +kernel) w h).1
set_option maxRecDepth 20000 in
theorem wsL_law0_r15_in : ∀ w ∈ wsL_law0_r15, w ∈ lw_tbl := fun w h => (goodIn_p wsL_law0_r15 [331, 340, 364, 178, 266, 279] (by decide +kernel) (by decide +kernel) w h).1
set_option maxRecDepth 20000 in
theorem wsL_law0_r16_in : ∀ w ∈ wsL_law0_r16, w ∈ lw_tbl := fun w h => (goodIn_p wsL_law0_r16 [286, 327, 584, 589, 571, 575] (by decide +kernel) (by decide +kernel) w h).1
set_option maxRecDepth 20000 in
theorem wsL_law0_r17_in : ∀ w ∈ wsL_law0_r17, w ∈ lw_tbl := fun w h => (goodIn_p wsL_law0_r17 [595, 599, 603, 592, 368, 373] (by decide +kernel) (by decide +kernel) w h).1
set_option maxRecDepth 20000 in
theorem wsX50_in0 : ∀ w ∈ wsX50, w ∈ lw_tbl := by decide +kernel
set_option maxRecDepth 20000 in
theorem wsX20_in0 : ∀ w ∈ wsX20, w ∈ lw_tbl := by decide +kernel
set_option maxRecDepth 20000 in
theorem wsX40_in0 : ∀ w ∈ wsX40, w ∈ lw_tbl := by decide +kernel
set_option maxRecDepth 20000 in
theorem wsX10_in0 : ∀ w ∈ wsX10, w ∈ lw_tbl := by decide +kernel
set_option maxRecDepth 20000 in
theorem wsX00_in0 : ∀ w ∈ wsX00, w ∈ lw_tbl := by decide +kernel
theorem wsL_law_in0 : ∀ w ∈ wsL_law0, w ∈ lw_tbl := fun w => fun h => (List.mem_append.mp h).elim (fun h => (List.mem_append.mp h).elim (fun h => (List.mem_append.mp h).elim (fun h => (List.mem_append.mp h).elim (fun h => (List.mem_append.mp h).elim (fun h => (List.mem_append.mp h).elim (fun h => (List.mem_append.mp h).elim (fun h => wsL_law0_r1_in w h) (fun h => (List.mem_append.mp h).elim (fun h => wsL_law0_r2_in w h) (fun h => (List.mem_append.mp h).elim (fun h => wsL_law0_r3_in w h) (fun h => (List.mem_append.mp h).elim (fun h => wsL_law0_r4_in w h) (fun h => (List.mem_append.mp h).elim (fun h => wsL_law0_r5_in w h) (fun h => (List.mem_append.mp h).elim (fun h => wsL_law0_r6_in w h) (fun h => (List.mem_append.mp h).elim (fun h => wsL_law0_r7_in w h) (fun h => (List.mem_append.mp h).elim (fun h => wsL_law0_r8_in w h) (fun h => (List.mem_append.mp h).elim (fun h => wsL_law0_r9_in w h) (fun h => (List.mem_append.mp h).elim (fun h => wsL_law0_r10_in w h) (fun h => (List.mem_append.mp h).elim (fun h => wsL_law0_r11_in w h) (fun h => (List.mem_append.mp h).elim (fun h => wsL_law0_r12_in w h) (fun h => (List.mem_append.mp h).elim (fun h => wsL_law0_r13_in w h) (fun h => (List.mem_append.mp h).elim (fun h => wsL_law0_r14_in w h) (fun h => (List.mem_append.mp h).elim (fun h => wsL_law0_r15_in w h) (fun h => (List.mem_append.mp h).elim (fun h => wsL_law0_r16_in w h) (fun h => wsL_law0_r17_in w h))))))))))))))))) (fun h => wsX50_in0 w h)) (fun h => wsX20_in0 w h)) (fun h => wsX40_in0 w h)) (fun h => wsX10_in0 w h)) (fun h => wsX00_in0 w h)) (fun h => nomatch h)
end
section
theorem wsL_law_x0 : ∀ w ∈ (vx_atS RX5 49 "java/lang/IllegalArgumentException" ["java/lang/RuntimeException", "java/lang/Exception"]).filter goodWord, w ∈ lw_tbl := by decide +kernel
theorem wsL_law_x1 : ∀ w ∈ (vx_atS RX5 60 "java/lang/IllegalStateException" ["java/lang/RuntimeException", "java/lang/Exception"]).filter goodWord, w ∈ lw_tbl := by decide +kernel
theorem wsL_law_x2 : ∀ w ∈ (vx_atS RX5 91 "java/lang/IndexOutOfBoundsException" ["java/lang/RuntimeException", "java/lang/Exception"]).filter goodWord, w ∈ lw_tbl := by decide +kernel
theorem wsL_law_in : ∀ w ∈ wsL_law, w ∈ lw_tbl := fun w h => (List.mem_append.mp h).elim (fun h => (List.mem_append.mp h).elim (fun h => (List.mem_append.mp h).elim (fun h => wsL_law_in0 w h) (fun h => wsL_law_x0 w h)) (fun h => wsL_law_x1 w h)) (fun h => wsL_law_x2 w h)
theorem inlX0 : ∀ w ∈ wsX00, w ∈ wsL_law := fun _ h => List.mem_append_left _ (List.mem_append_left _ (List.mem_append_left _ (List.mem_append_left _ (List.mem_append_right _ h))))
theorem inX0 : ∀ w ∈ wsX00, w ∈ lw_tbl := fun w h => wsL_law_in w (inlX0 w h)
theorem inlX1 : ∀ w ∈ wsX10, w ∈ wsL_law := fun _ h => List.mem_append_left _ (List.mem_append_left _ (List.mem_append_left _ (List.mem_append_left _ (List.mem_append_left _ (List.mem_append_right _ h)))))
theorem inX1 : ∀ w ∈ wsX10, w ∈ lw_tbl := fun w h => wsL_law_in w (inlX1 w h)
theorem inlX2 : ∀ w ∈ wsX20, w ∈ wsL_law := fun _ h => List.mem_append_left _ (List.mem_append_left _ (List.mem_append_left _ (List.mem_append_left _ (List.mem_append_left _ (List.mem_append_left _ (List.mem_append_left _ (List.mem_append_right _ h)))))))
theorem inX2 : ∀ w ∈ wsX20, w ∈ lw_tbl := fun w h => wsL_law_in w (inlX2 w h)
theorem inX3 : ∀ w ∈ wsX30, w ∈ lw_tbl := by decide +kernel
theorem inlX4 : ∀ w ∈ wsX40, w ∈ wsL_law := fun _ h => List.mem_append_left _ (List.mem_append_left _ (List.mem_append_left _ (List.mem_append_left _ (List.mem_append_left _ (List.mem_append_left _ (List.mem_append_right _ h))))))
theorem inX4 : ∀ w ∈ wsX40, w ∈ lw_tbl := fun w h => wsL_law_in w (inlX4 w h)
theorem inlX5 : ∀ w ∈ wsX50, w ∈ wsL_law := fun _ h => List.mem_append_left _ (List.mem_append_left _ (List.mem_append_left _ (List.mem_append_left _ (List.mem_append_left _ (List.mem_append_left _ (List.mem_append_left _ (List.mem_append_left _ (List.mem_append_right _ h))))))))
theorem inX5 : ∀ w ∈ wsX50, w ∈ lw_tbl := fun w h => wsL_law_in w (inlX5 w h)
theorem inX6 : ∀ w ∈ wsX60, w ∈ lw_tbl := by decide +kernel
theorem inJ6 : ∀ w ∈ wsJ60, w ∈ lw_tbl := by decide +kernel
theorem inJ9 : ∀ w ∈ wsJ90, w ∈ lw_tbl := by decide +kernel
theorem inJ0 : ∀ w ∈ wsJ00, w ∈ lw_tbl := by decide +kernel
theorem dX0_init_0 : decode cX0_init 0 = .ok (.aload_n 0, 1) := by decide +kernel
theorem dX0_init_1 : decode cX0_init 1 = .ok (.invokespecial 3, 3) := by decide +kernel
theorem dX0_init_4 : decode cX0_init 4 = .ok (.aload_n 0, 1) := by decide +kernel
theorem dX0_init_5 : decode cX0_init 5 = .ok (.bipush 60, 2) := by decide +kernel
theorem dX0_init_7 : decode cX0_init 7 = .ok (.newarray .int, 2) := by decide +kernel
theorem dX0_init_9 : decode cX0_init 9 = .ok (.putfield 9, 3) := by decide +kernel
theorem dX0_init_12 : decode cX0_init 12 = .ok (.return_, 1) := by decide +kernel
set_option maxRecDepth 20000 in
theorem ggX0_take_X5_put : GoodIn wsX0_take wsX5_put := goodIn_r _ [5] (by decide +kernel) (by decide +kernel)
set_option maxRecDepth 20000 in
theorem gX0_take_X5_put_n19 : GoodIn wsX0_take (wsX5_put) := ggX0_take_X5_put
theorem dX0_take_0 : decode cX0_take 0 = .ok (.aload_n 0, 1) := by decide +kernel
theorem dX0_take_1 : decode cX0_take 1 = .ok (.getfield 9, 3) := by decide +kernel
theorem dX0_take_4 : decode cX0_take 4 = .ok (.aload_n 0, 1) := by decide +kernel
theorem dX0_take_5 : decode cX0_take 5 = .ok (.getfield 15, 3) := by decide +kernel
theorem dX0_take_8 : decode cX0_take 8 = .ok (.iload_n 1, 1) := by decide +kernel
theorem dX0_take_9 : decode cX0_take 9 = .ok (.invokestatic 19, 3) := by decide +kernel
theorem dX0_take_12 : decode cX0_take 12 = .ok (.aload_n 0, 1) := by decide +kernel
theorem dX0_take_13 : decode cX0_take 13 = .ok (.dup, 1) := by decide +kernel
theorem dX0_take_14 : decode cX0_take 14 = .ok (.getfield 15, 3) := by decide +kernel
theorem dX0_take_17 : decode cX0_take 17 = .ok (.iconst 1, 1) := by decide +kernel
theorem dX0_take_18 : decode cX0_take 18 = .ok (.iadd, 1) := by decide +kernel
theorem dX0_take_19 : decode cX0_take 19 = .ok (.putfield 15, 3) := by decide +kernel
theorem dX0_take_22 : decode cX0_take 22 = .ok (.return_, 1) := by decide +kernel
theorem dX0_empty_0 : decode cX0_empty 0 = .ok (.aload_n 0, 1) := by decide +kernel
theorem dX0_empty_1 : decode cX0_empty 1 = .ok (.iconst 0, 1) := by decide +kernel
theorem dX0_empty_2 : decode cX0_empty 2 = .ok (.putfield 15, 3) := by decide +kernel
theorem dX0_empty_5 : decode cX0_empty 5 = .ok (.return_, 1) := by decide +kernel
theorem dX0_isLetterCode_0 : decode cX0_isLetterCode 0 = .ok (.iload_n 0, 1) := by decide +kernel
theorem dX0_isLetterCode_1 : decode cX0_isLetterCode 1 = .ok (.bipush 97, 2) := by decide +kernel
theorem dX0_isLetterCode_3 : decode cX0_isLetterCode 3 = .ok (.if_icmp .lt 13, 3) := by decide +kernel
theorem dX0_isLetterCode_6 : decode cX0_isLetterCode 6 = .ok (.iload_n 0, 1) := by decide +kernel
theorem dX0_isLetterCode_7 : decode cX0_isLetterCode 7 = .ok (.bipush 100, 2) := by decide +kernel
theorem dX0_isLetterCode_9 : decode cX0_isLetterCode 9 = .ok (.if_icmp .gt 7, 3) := by decide +kernel
theorem dX0_isLetterCode_12 : decode cX0_isLetterCode 12 = .ok (.iconst 1, 1) := by decide +kernel
theorem dX0_isLetterCode_13 : decode cX0_isLetterCode 13 = .ok (.goto 4, 3) := by decide +kernel
theorem dX0_isLetterCode_16 : decode cX0_isLetterCode 16 = .ok (.iconst 0, 1) := by decide +kernel
theorem dX0_isLetterCode_17 : decode cX0_isLetterCode 17 = .ok (.ireturn, 1) := by decide +kernel
set_option maxRecDepth 20000 in
theorem ggX0_firstErrorInPatterns_X5_at : GoodIn wsX0_firstErrorInPatterns wsX5_at := goodIn_r _ [5] (by decide +kernel) (by decide +kernel)
set_option maxRecDepth 20000 in
theorem gX0_firstErrorInPatterns_X5_at_n27 : GoodIn wsX0_firstErrorInPatterns (wsX5_at) := ggX0_firstErrorInPatterns_X5_at
set_option maxRecDepth 20000 in
theorem ggX0_firstErrorInPatterns_X0_isLetterCode : GoodIn wsX0_firstErrorInPatterns wsX0_isLetterCode := goodIn_r _ [9] (by decide +kernel) (by decide +kernel)
set_option maxRecDepth 20000 in
theorem gX0_firstErrorInPatterns_X0_isLetterCode : GoodIn wsX0_firstErrorInPatterns (va_wsS RX0 31 yX0_isLetterCode wsX0_isLetterCode) := goodIn_app (goodIn_of _ (by decide +kernel)) ggX0_firstErrorInPatterns_X0_isLetterCode
theorem dX0_firstErrorInPatterns_0 : decode cX0_firstErrorInPatterns 0 = .ok (.iconst 0, 1) := by decide +kernel
theorem dX0_firstErrorInPatterns_1 : decode cX0_firstErrorInPatterns 1 = .ok (.istore_n 1, 1) := by decide +kernel
theorem dX0_firstErrorInPatterns_2 : decode cX0_firstErrorInPatterns 2 = .ok (.iconst 0, 1) := by decide +kernel
theorem dX0_firstErrorInPatterns_3 : decode cX0_firstErrorInPatterns 3 = .ok (.istore_n 2, 1) := by decide +kernel
theorem dX0_firstErrorInPatterns_4 : decode cX0_firstErrorInPatterns 4 = .ok (.iload_n 2, 1) := by decide +kernel
theorem dX0_firstErrorInPatterns_5 : decode cX0_firstErrorInPatterns 5 = .ok (.aload_n 0, 1) := by decide +kernel
theorem dX0_firstErrorInPatterns_6 : decode cX0_firstErrorInPatterns 6 = .ok (.getfield 15, 3) := by decide +kernel
theorem dX0_firstErrorInPatterns_9 : decode cX0_firstErrorInPatterns 9 = .ok (.if_icmp .ge 54, 3) := by decide +kernel
theorem dX0_firstErrorInPatterns_12 : decode cX0_firstErrorInPatterns 12 = .ok (.aload_n 0, 1) := by decide +kernel
theorem dX0_firstErrorInPatterns_13 : decode cX0_firstErrorInPatterns 13 = .ok (.getfield 9, 3) := by decide +kernel
theorem dX0_firstErrorInPatterns_16 : decode cX0_firstErrorInPatterns 16 = .ok (.iload_n 2, 1) := by decide +kernel
theorem dX0_firstErrorInPatterns_17 : decode cX0_firstErrorInPatterns 17 = .ok (.invokestatic 27, 3) := by decide +kernel
theorem dX0_firstErrorInPatterns_20 : decode cX0_firstErrorInPatterns 20 = .ok (.istore_n 3, 1) := by decide +kernel
theorem dX0_firstErrorInPatterns_21 : decode cX0_firstErrorInPatterns 21 = .ok (.iload_n 3, 1) := by decide +kernel
theorem dX0_firstErrorInPatterns_22 : decode cX0_firstErrorInPatterns 22 = .ok (.invokestatic 31, 3) := by decide +kernel
theorem dX0_firstErrorInPatterns_25 : decode cX0_firstErrorInPatterns 25 = .ok (.ifCond .eq 15, 3) := by decide +kernel
theorem dX0_firstErrorInPatterns_28 : decode cX0_firstErrorInPatterns 28 = .ok (.iload_n 1, 1) := by decide +kernel
theorem dX0_firstErrorInPatterns_29 : decode cX0_firstErrorInPatterns 29 = .ok (.bipush 8, 2) := by decide +kernel
theorem dX0_firstErrorInPatterns_31 : decode cX0_firstErrorInPatterns 31 = .ok (.if_icmp .ge 9, 3) := by decide +kernel
theorem dX0_firstErrorInPatterns_34 : decode cX0_firstErrorInPatterns 34 = .ok (.iinc 1 1, 3) := by decide +kernel
theorem dX0_firstErrorInPatterns_37 : decode cX0_firstErrorInPatterns 37 = .ok (.goto 20, 3) := by decide +kernel
theorem dX0_firstErrorInPatterns_40 : decode cX0_firstErrorInPatterns 40 = .ok (.iload_n 3, 1) := by decide +kernel
theorem dX0_firstErrorInPatterns_41 : decode cX0_firstErrorInPatterns 41 = .ok (.bipush 59, 2) := by decide +kernel
theorem dX0_firstErrorInPatterns_43 : decode cX0_firstErrorInPatterns 43 = .ok (.if_icmp .ne 12, 3) := by decide +kernel
theorem dX0_firstErrorInPatterns_46 : decode cX0_firstErrorInPatterns 46 = .ok (.iload_n 1, 1) := by decide +kernel
theorem dX0_firstErrorInPatterns_47 : decode cX0_firstErrorInPatterns 47 = .ok (.ifCond .le 8, 3) := by decide +kernel
theorem dX0_firstErrorInPatterns_50 : decode cX0_firstErrorInPatterns 50 = .ok (.iconst 0, 1) := by decide +kernel
theorem dX0_firstErrorInPatterns_51 : decode cX0_firstErrorInPatterns 51 = .ok (.istore_n 1, 1) := by decide +kernel
theorem dX0_firstErrorInPatterns_52 : decode cX0_firstErrorInPatterns 52 = .ok (.goto 5, 3) := by decide +kernel
theorem dX0_firstErrorInPatterns_55 : decode cX0_firstErrorInPatterns 55 = .ok (.iload_n 2, 1) := by decide +kernel
theorem dX0_firstErrorInPatterns_56 : decode cX0_firstErrorInPatterns 56 = .ok (.ireturn, 1) := by decide +kernel
theorem dX0_firstErrorInPatterns_57 : decode cX0_firstErrorInPatterns 57 = .ok (.iinc 2 1, 3) := by decide +kernel
theorem dX0_firstErrorInPatterns_60 : decode cX0_firstErrorInPatterns 60 = .ok (.goto (-56), 3) := by decide +kernel
theorem dX0_firstErrorInPatterns_63 : decode cX0_firstErrorInPatterns 63 = .ok (.aload_n 0, 1) := by decide +kernel
theorem dX0_firstErrorInPatterns_64 : decode cX0_firstErrorInPatterns 64 = .ok (.getfield 15, 3) := by decide +kernel
theorem dX0_firstErrorInPatterns_67 : decode cX0_firstErrorInPatterns 67 = .ok (.ireturn, 1) := by decide +kernel
set_option maxRecDepth 20000 in
theorem ggX0_holdsPatterns_X0_firstErrorInPatterns : GoodIn wsX0_holdsPatterns wsX0_firstErrorInPatterns := goodIn_r _ [6, 1, 7, 8, 9, 10, 11, 12, 5, 13, 18, 19] (by decide +kernel) (by decide +kernel)
set_option maxRecDepth 20000 in
theorem gX0_holdsPatterns_X0_firstErrorInPatterns : GoodIn wsX0_holdsPatterns (wsV RX0 34 RX0 yX0_firstErrorInPatterns wsX0_firstErrorInPatterns) := goodIn_app (goodIn_of _ (by decide +kernel)) ggX0_holdsPatterns_X0_firstErrorInPatterns
set_option maxRecDepth 20000 in
theorem ggX0_holdsPatterns_X0_endsPart : GoodIn wsX0_holdsPatterns wsX0_endsPart := goodIn_r _ [17, 7, 1, 8, 9, 10, 18, 19] (by decide +kernel) (by decide +kernel)
set_option maxRecDepth 20000 in
theorem gX0_holdsPatterns_X0_endsPart : GoodIn wsX0_holdsPatterns (wsV RX0 38 RX0 yX0_endsPart wsX0_endsPart) := goodIn_app (goodIn_of _ (by decide +kernel)) ggX0_holdsPatterns_X0_endsPart
theorem dX0_holdsPatterns_0 : decode cX0_holdsPatterns 0 = .ok (.aload_n 0, 1) := by decide +kernel
theorem dX0_holdsPatterns_1 : decode cX0_holdsPatterns 1 = .ok (.getfield 15, 3) := by decide +kernel
theorem dX0_holdsPatterns_4 : decode cX0_holdsPatterns 4 = .ok (.ifCond .le 31, 3) := by decide +kernel
theorem dX0_holdsPatterns_7 : decode cX0_holdsPatterns 7 = .ok (.aload_n 0, 1) := by decide +kernel
theorem dX0_holdsPatterns_8 : decode cX0_holdsPatterns 8 = .ok (.invokevirtual 34, 3) := by decide +kernel
theorem dX0_holdsPatterns_11 : decode cX0_holdsPatterns 11 = .ok (.aload_n 0, 1) := by decide +kernel
theorem dX0_holdsPatterns_12 : decode cX0_holdsPatterns 12 = .ok (.getfield 15, 3) := by decide +kernel
theorem dX0_holdsPatterns_15 : decode cX0_holdsPatterns 15 = .ok (.if_icmp .ne 20, 3) := by decide +kernel
theorem dX0_holdsPatterns_18 : decode cX0_holdsPatterns 18 = .ok (.aload_n 0, 1) := by decide +kernel
theorem dX0_holdsPatterns_19 : decode cX0_holdsPatterns 19 = .ok (.aload_n 0, 1) := by decide +kernel
theorem dX0_holdsPatterns_20 : decode cX0_holdsPatterns 20 = .ok (.getfield 15, 3) := by decide +kernel
theorem dX0_holdsPatterns_23 : decode cX0_holdsPatterns 23 = .ok (.iconst 1, 1) := by decide +kernel
theorem dX0_holdsPatterns_24 : decode cX0_holdsPatterns 24 = .ok (.isub, 1) := by decide +kernel
theorem dX0_holdsPatterns_25 : decode cX0_holdsPatterns 25 = .ok (.invokevirtual 38, 3) := by decide +kernel
theorem dX0_holdsPatterns_28 : decode cX0_holdsPatterns 28 = .ok (.ifCond .eq 7, 3) := by decide +kernel
theorem dX0_holdsPatterns_31 : decode cX0_holdsPatterns 31 = .ok (.iconst 1, 1) := by decide +kernel
theorem dX0_holdsPatterns_32 : decode cX0_holdsPatterns 32 = .ok (.goto 4, 3) := by decide +kernel
theorem dX0_holdsPatterns_35 : decode cX0_holdsPatterns 35 = .ok (.iconst 0, 1) := by decide +kernel
theorem dX0_holdsPatterns_36 : decode cX0_holdsPatterns 36 = .ok (.ireturn, 1) := by decide +kernel
set_option maxRecDepth 20000 in
theorem ggX0_endsPart_X5_at : GoodIn wsX0_endsPart wsX5_at := goodIn_r _ [5] (by decide +kernel) (by decide +kernel)
set_option maxRecDepth 20000 in
theorem gX0_endsPart_X5_at_n27 : GoodIn wsX0_endsPart (wsX5_at) := ggX0_endsPart_X5_at
theorem dX0_endsPart_0 : decode cX0_endsPart 0 = .ok (.aload_n 0, 1) := by decide +kernel
theorem dX0_endsPart_1 : decode cX0_endsPart 1 = .ok (.getfield 9, 3) := by decide +kernel
theorem dX0_endsPart_4 : decode cX0_endsPart 4 = .ok (.iload_n 1, 1) := by decide +kernel
theorem dX0_endsPart_5 : decode cX0_endsPart 5 = .ok (.invokestatic 27, 3) := by decide +kernel
theorem dX0_endsPart_8 : decode cX0_endsPart 8 = .ok (.bipush 59, 2) := by decide +kernel
theorem dX0_endsPart_10 : decode cX0_endsPart 10 = .ok (.if_icmp .eq 32, 3) := by decide +kernel
theorem dX0_endsPart_13 : decode cX0_endsPart 13 = .ok (.iload_n 1, 1) := by decide +kernel
theorem dX0_endsPart_14 : decode cX0_endsPart 14 = .ok (.iconst 1, 1) := by decide +kernel
theorem dX0_endsPart_15 : decode cX0_endsPart 15 = .ok (.iadd, 1) := by decide +kernel
theorem dX0_endsPart_16 : decode cX0_endsPart 16 = .ok (.aload_n 0, 1) := by decide +kernel
theorem dX0_endsPart_17 : decode cX0_endsPart 17 = .ok (.getfield 15, 3) := by decide +kernel
theorem dX0_endsPart_20 : decode cX0_endsPart 20 = .ok (.if_icmp .ge 18, 3) := by decide +kernel
theorem dX0_endsPart_23 : decode cX0_endsPart 23 = .ok (.aload_n 0, 1) := by decide +kernel
theorem dX0_endsPart_24 : decode cX0_endsPart 24 = .ok (.getfield 9, 3) := by decide +kernel
theorem dX0_endsPart_27 : decode cX0_endsPart 27 = .ok (.iload_n 1, 1) := by decide +kernel
theorem dX0_endsPart_28 : decode cX0_endsPart 28 = .ok (.iconst 1, 1) := by decide +kernel
theorem dX0_endsPart_29 : decode cX0_endsPart 29 = .ok (.iadd, 1) := by decide +kernel
theorem dX0_endsPart_30 : decode cX0_endsPart 30 = .ok (.invokestatic 27, 3) := by decide +kernel
theorem dX0_endsPart_33 : decode cX0_endsPart 33 = .ok (.bipush 59, 2) := by decide +kernel
theorem dX0_endsPart_35 : decode cX0_endsPart 35 = .ok (.if_icmp .ne 7, 3) := by decide +kernel
theorem dX0_endsPart_38 : decode cX0_endsPart 38 = .ok (.iconst 1, 1) := by decide +kernel
theorem dX0_endsPart_39 : decode cX0_endsPart 39 = .ok (.goto 4, 3) := by decide +kernel
theorem dX0_endsPart_42 : decode cX0_endsPart 42 = .ok (.iconst 0, 1) := by decide +kernel
theorem dX0_endsPart_43 : decode cX0_endsPart 43 = .ok (.ireturn, 1) := by decide +kernel
set_option maxRecDepth 20000 in
theorem ggX1_init_X5_put : GoodIn wsX1_init wsX5_put := goodIn_r _ [12] (by decide +kernel) (by decide +kernel)
set_option maxRecDepth 20000 in
theorem gX1_init_X5_put_n24 : GoodIn wsX1_init (wsX5_put) := ggX1_init_X5_put
theorem dX1_init_0 : decode cX1_init 0 = .ok (.aload_n 0, 1) := by decide +kernel
theorem dX1_init_1 : decode cX1_init 1 = .ok (.invokespecial 3, 3) := by decide +kernel
theorem dX1_init_4 : decode cX1_init 4 = .ok (.aload_n 0, 1) := by decide +kernel
theorem dX1_init_5 : decode cX1_init 5 = .ok (.bipush 65, 2) := by decide +kernel
theorem dX1_init_7 : decode cX1_init 7 = .ok (.newarray .int, 2) := by decide +kernel
theorem dX1_init_9 : decode cX1_init 9 = .ok (.putfield 9, 3) := by decide +kernel
theorem dX1_init_12 : decode cX1_init 12 = .ok (.aload_n 0, 1) := by decide +kernel
theorem dX1_init_13 : decode cX1_init 13 = .ok (.bipush 65, 2) := by decide +kernel
theorem dX1_init_15 : decode cX1_init 15 = .ok (.newarray .int, 2) := by decide +kernel
theorem dX1_init_17 : decode cX1_init 17 = .ok (.putfield 15, 3) := by decide +kernel
theorem dX1_init_20 : decode cX1_init 20 = .ok (.aload_n 0, 1) := by decide +kernel
theorem dX1_init_21 : decode cX1_init 21 = .ok (.bipush 65, 2) := by decide +kernel
theorem dX1_init_23 : decode cX1_init 23 = .ok (.newarray .int, 2) := by decide +kernel
theorem dX1_init_25 : decode cX1_init 25 = .ok (.putfield 18, 3) := by decide +kernel
theorem dX1_init_28 : decode cX1_init 28 = .ok (.aload_n 0, 1) := by decide +kernel
theorem dX1_init_29 : decode cX1_init 29 = .ok (.sipush 260, 3) := by decide +kernel
theorem dX1_init_32 : decode cX1_init 32 = .ok (.newarray .int, 2) := by decide +kernel
theorem dX1_init_34 : decode cX1_init 34 = .ok (.putfield 21, 3) := by decide +kernel
theorem dX1_init_37 : decode cX1_init 37 = .ok (.aload_n 0, 1) := by decide +kernel
theorem dX1_init_38 : decode cX1_init 38 = .ok (.getfield 9, 3) := by decide +kernel
theorem dX1_init_41 : decode cX1_init 41 = .ok (.iconst 0, 1) := by decide +kernel
theorem dX1_init_42 : decode cX1_init 42 = .ok (.iconst 1, 1) := by decide +kernel
theorem dX1_init_43 : decode cX1_init 43 = .ok (.invokestatic 24, 3) := by decide +kernel
theorem dX1_init_46 : decode cX1_init 46 = .ok (.aload_n 0, 1) := by decide +kernel
theorem dX1_init_47 : decode cX1_init 47 = .ok (.getfield 15, 3) := by decide +kernel
theorem dX1_init_50 : decode cX1_init 50 = .ok (.iconst 0, 1) := by decide +kernel
theorem dX1_init_51 : decode cX1_init 51 = .ok (.iconst (-1), 1) := by decide +kernel
theorem dX1_init_52 : decode cX1_init 52 = .ok (.invokestatic 24, 3) := by decide +kernel
theorem dX1_init_55 : decode cX1_init 55 = .ok (.aload_n 0, 1) := by decide +kernel
theorem dX1_init_56 : decode cX1_init 56 = .ok (.iconst 1, 1) := by decide +kernel
theorem dX1_init_57 : decode cX1_init 57 = .ok (.putfield 28, 3) := by decide +kernel
theorem dX1_init_60 : decode cX1_init 60 = .ok (.return_, 1) := by decide +kernel
set_option maxRecDepth 20000 in
theorem ggX1_rebuild_X1_takeState : GoodIn wsX1_rebuild wsX1_takeState := goodIn_r _ [7, 1, 8, 9, 10, 11, 12, 13, 43, 44, 45, 46, 47] (by decide +kernel) (by decide +kernel)
set_option maxRecDepth 20000 in
theorem gX1_rebuild_X1_takeState : GoodIn wsX1_rebuild (wsV RX1 32 RX1 yX1_takeState wsX1_takeState) := goodIn_app (goodIn_of _ (by decide +kernel)) ggX1_rebuild_X1_takeState
set_option maxRecDepth 20000 in
theorem ggX1_rebuild_X5_at : GoodIn wsX1_rebuild wsX5_at := goodIn_r _ [11] (by decide +kernel) (by decide +kernel)
set_option maxRecDepth 20000 in
theorem gX1_rebuild_X5_at_n36 : GoodIn wsX1_rebuild (wsX5_at) := ggX1_rebuild_X5_at
set_option maxRecDepth 20000 in
theorem ggX1_rebuild_X3_lengthOf : GoodIn wsX1_rebuild wsX3_lengthOf := goodIn_r _ [17] (by decide +kernel) (by decide +kernel)
set_option maxRecDepth 20000 in
theorem gX1_rebuild_X3_lengthOf : GoodIn wsX1_rebuild (va_wsS RX1 40 yX3_lengthOf wsX3_lengthOf) := goodIn_app (goodIn_of _ (by decide +kernel)) ggX1_rebuild_X3_lengthOf
set_option maxRecDepth 20000 in
theorem ggX1_rebuild_X3_beginning : GoodIn wsX1_rebuild wsX3_beginning := goodIn_r _ [20, 21, 15, 16, 17] (by decide +kernel) (by decide +kernel)
set_option maxRecDepth 20000 in
theorem gX1_rebuild_X3_beginning : GoodIn wsX1_rebuild (va_wsS RX1 46 yX3_beginning wsX3_beginning) := goodIn_app (goodIn_of _ (by decide +kernel)) ggX1_rebuild_X3_beginning
set_option maxRecDepth 20000 in
theorem ggX1_rebuild_X1_leadToLongerStates : GoodIn wsX1_rebuild wsX1_leadToLongerStates := goodIn_r _ [25, 26, 1, 8, 9, 10, 11, 27, 28, 16, 29, 12, 13, 43, 44, 45, 46, 47] (by decide +kernel) (by decide +kernel)
set_option maxRecDepth 20000 in
theorem gX1_rebuild_X1_leadToLongerStates : GoodIn wsX1_rebuild (wsV RX1 50 RX1 yX1_leadToLongerStates wsX1_leadToLongerStates) := goodIn_app (goodIn_of _ (by decide +kernel)) ggX1_rebuild_X1_leadToLongerStates
set_option maxRecDepth 20000 in
theorem ggX1_rebuild_X1_fallBack : GoodIn wsX1_rebuild wsX1_fallBack := goodIn_r _ [33, 34, 1, 26, 12, 10, 13, 35, 36, 37, 6, 38, 9, 11, 43, 44, 45, 46, 47] (by decide +kernel) (by decide +kernel)
set_option maxRecDepth 20000 in
theorem gX1_rebuild_X1_fallBack : GoodIn wsX1_rebuild (wsV RX1 53 RX1 yX1_fallBack wsX1_fallBack) := goodIn_app (goodIn_of _ (by decide +kernel)) ggX1_rebuild_X1_fallBack
set_option maxRecDepth 20000 in
theorem ggX1_rebuild_X1_endsOf : GoodIn wsX1_rebuild wsX1_endsOf := goodIn_r _ [42, 2, 34, 8, 9, 10, 11, 43, 44, 45, 46, 47] (by decide +kernel) (by decide +kernel)
set_option maxRecDepth 20000 in
theorem gX1_rebuild_X1_endsOf : GoodIn wsX1_rebuild (wsV RX1 56 RX1 yX1_endsOf wsX1_endsOf) := goodIn_app (goodIn_of _ (by decide +kernel)) ggX1_rebuild_X1_endsOf
set_option maxRecDepth 20000 in
theorem ggX1_rebuild_X5_put : GoodIn wsX1_rebuild wsX5_put := goodIn_r _ [13] (by decide +kernel) (by decide +kernel)
set_option maxRecDepth 20000 in
theorem gX1_rebuild_X5_put_n24 : GoodIn wsX1_rebuild (wsX5_put) := ggX1_rebuild_X5_put
theorem dX1_rebuild_0 : decode cX1_rebuild 0 = .ok (.aload_n 0, 1) := by decide +kernel
theorem dX1_rebuild_1 : decode cX1_rebuild 1 = .ok (.iconst 0, 1) := by decide +kernel
theorem dX1_rebuild_2 : decode cX1_rebuild 2 = .ok (.putfield 28, 3) := by decide +kernel
theorem dX1_rebuild_5 : decode cX1_rebuild 5 = .ok (.aload_n 0, 1) := by decide +kernel
theorem dX1_rebuild_6 : decode cX1_rebuild 6 = .ok (.iconst 1, 1) := by decide +kernel
theorem dX1_rebuild_7 : decode cX1_rebuild 7 = .ok (.invokevirtual 32, 3) := by decide +kernel
theorem dX1_rebuild_10 : decode cX1_rebuild 10 = .ok (.iconst 0, 1) := by decide +kernel
theorem dX1_rebuild_11 : decode cX1_rebuild 11 = .ok (.istore_n 2, 1) := by decide +kernel
theorem dX1_rebuild_12 : decode cX1_rebuild 12 = .ok (.iload_n 2, 1) := by decide +kernel
theorem dX1_rebuild_13 : decode cX1_rebuild 13 = .ok (.bipush 8, 2) := by decide +kernel
theorem dX1_rebuild_15 : decode cX1_rebuild 15 = .ok (.if_icmp .ge 47, 3) := by decide +kernel
theorem dX1_rebuild_18 : decode cX1_rebuild 18 = .ok (.aload_n 1, 1) := by decide +kernel
theorem dX1_rebuild_19 : decode cX1_rebuild 19 = .ok (.iload_n 2, 1) := by decide +kernel
theorem dX1_rebuild_20 : decode cX1_rebuild 20 = .ok (.invokestatic 36, 3) := by decide +kernel
theorem dX1_rebuild_23 : decode cX1_rebuild 23 = .ok (.istore_n 3, 1) := by decide +kernel
theorem dX1_rebuild_24 : decode cX1_rebuild 24 = .ok (.iload_n 3, 1) := by decide +kernel
theorem dX1_rebuild_25 : decode cX1_rebuild 25 = .ok (.invokestatic 40, 3) := by decide +kernel
theorem dX1_rebuild_28 : decode cX1_rebuild 28 = .ok (.istore 4, 2) := by decide +kernel
theorem dX1_rebuild_30 : decode cX1_rebuild 30 = .ok (.iconst 1, 1) := by decide +kernel
theorem dX1_rebuild_31 : decode cX1_rebuild 31 = .ok (.istore 5, 2) := by decide +kernel
theorem dX1_rebuild_33 : decode cX1_rebuild 33 = .ok (.iload 5, 2) := by decide +kernel
theorem dX1_rebuild_35 : decode cX1_rebuild 35 = .ok (.iload 4, 2) := by decide +kernel
theorem dX1_rebuild_37 : decode cX1_rebuild 37 = .ok (.if_icmp .gt 19, 3) := by decide +kernel
theorem dX1_rebuild_40 : decode cX1_rebuild 40 = .ok (.aload_n 0, 1) := by decide +kernel
theorem dX1_rebuild_41 : decode cX1_rebuild 41 = .ok (.iload_n 3, 1) := by decide +kernel
theorem dX1_rebuild_42 : decode cX1_rebuild 42 = .ok (.iload 5, 2) := by decide +kernel
theorem dX1_rebuild_44 : decode cX1_rebuild 44 = .ok (.invokestatic 46, 3) := by decide +kernel
theorem dX1_rebuild_47 : decode cX1_rebuild 47 = .ok (.invokevirtual 32, 3) := by decide +kernel
theorem dX1_rebuild_50 : decode cX1_rebuild 50 = .ok (.iinc 5 1, 3) := by decide +kernel
theorem dX1_rebuild_53 : decode cX1_rebuild 53 = .ok (.goto (-20), 3) := by decide +kernel
theorem dX1_rebuild_56 : decode cX1_rebuild 56 = .ok (.iinc 2 1, 3) := by decide +kernel
theorem dX1_rebuild_59 : decode cX1_rebuild 59 = .ok (.goto (-47), 3) := by decide +kernel
theorem dX1_rebuild_62 : decode cX1_rebuild 62 = .ok (.aload_n 0, 1) := by decide +kernel
theorem dX1_rebuild_63 : decode cX1_rebuild 63 = .ok (.invokevirtual 50, 3) := by decide +kernel
theorem dX1_rebuild_66 : decode cX1_rebuild 66 = .ok (.aload_n 0, 1) := by decide +kernel
theorem dX1_rebuild_67 : decode cX1_rebuild 67 = .ok (.invokevirtual 53, 3) := by decide +kernel
theorem dX1_rebuild_70 : decode cX1_rebuild 70 = .ok (.iconst 0, 1) := by decide +kernel
theorem dX1_rebuild_71 : decode cX1_rebuild 71 = .ok (.istore_n 2, 1) := by decide +kernel
theorem dX1_rebuild_72 : decode cX1_rebuild 72 = .ok (.iload_n 2, 1) := by decide +kernel
theorem dX1_rebuild_73 : decode cX1_rebuild 73 = .ok (.aload_n 0, 1) := by decide +kernel
theorem dX1_rebuild_74 : decode cX1_rebuild 74 = .ok (.getfield 28, 3) := by decide +kernel
theorem dX1_rebuild_77 : decode cX1_rebuild 77 = .ok (.if_icmp .ge 23, 3) := by decide +kernel
theorem dX1_rebuild_80 : decode cX1_rebuild 80 = .ok (.aload_n 0, 1) := by decide +kernel
theorem dX1_rebuild_81 : decode cX1_rebuild 81 = .ok (.getfield 18, 3) := by decide +kernel
theorem dX1_rebuild_84 : decode cX1_rebuild 84 = .ok (.iload_n 2, 1) := by decide +kernel
theorem dX1_rebuild_85 : decode cX1_rebuild 85 = .ok (.aload_n 0, 1) := by decide +kernel
theorem dX1_rebuild_86 : decode cX1_rebuild 86 = .ok (.iload_n 2, 1) := by decide +kernel
theorem dX1_rebuild_87 : decode cX1_rebuild 87 = .ok (.aload_n 1, 1) := by decide +kernel
theorem dX1_rebuild_88 : decode cX1_rebuild 88 = .ok (.invokevirtual 56, 3) := by decide +kernel
theorem dX1_rebuild_91 : decode cX1_rebuild 91 = .ok (.invokestatic 24, 3) := by decide +kernel
theorem dX1_rebuild_94 : decode cX1_rebuild 94 = .ok (.iinc 2 1, 3) := by decide +kernel
theorem dX1_rebuild_97 : decode cX1_rebuild 97 = .ok (.goto (-25), 3) := by decide +kernel
theorem dX1_rebuild_100 : decode cX1_rebuild 100 = .ok (.return_, 1) := by decide +kernel
set_option maxRecDepth 20000 in
theorem ggX1_leadsTo_X5_at : GoodIn wsX1_leadsTo wsX5_at := goodIn_r _ [4] (by decide +kernel) (by decide +kernel)
set_option maxRecDepth 20000 in
theorem gX1_leadsTo_X5_at_n36 : GoodIn wsX1_leadsTo (wsX5_at) := ggX1_leadsTo_X5_at
theorem dX1_leadsTo_0 : decode cX1_leadsTo 0 = .ok (.aload_n 0, 1) := by decide +kernel
theorem dX1_leadsTo_1 : decode cX1_leadsTo 1 = .ok (.getfield 21, 3) := by decide +kernel
theorem dX1_leadsTo_4 : decode cX1_leadsTo 4 = .ok (.iload_n 1, 1) := by decide +kernel
theorem dX1_leadsTo_5 : decode cX1_leadsTo 5 = .ok (.iconst 4, 1) := by decide +kernel
theorem dX1_leadsTo_6 : decode cX1_leadsTo 6 = .ok (.imul, 1) := by decide +kernel
theorem dX1_leadsTo_7 : decode cX1_leadsTo 7 = .ok (.iload_n 2, 1) := by decide +kernel
theorem dX1_leadsTo_8 : decode cX1_leadsTo 8 = .ok (.iadd, 1) := by decide +kernel
theorem dX1_leadsTo_9 : decode cX1_leadsTo 9 = .ok (.invokestatic 36, 3) := by decide +kernel
theorem dX1_leadsTo_12 : decode cX1_leadsTo 12 = .ok (.ireturn, 1) := by decide +kernel
set_option maxRecDepth 20000 in
theorem ggX1_stateBehind_X3_lengthOf : GoodIn wsX1_stateBehind wsX3_lengthOf := goodIn_r _ [4] (by decide +kernel) (by decide +kernel)
set_option maxRecDepth 20000 in
theorem gX1_stateBehind_X3_lengthOf : GoodIn wsX1_stateBehind (va_wsS RX1 40 yX3_lengthOf wsX3_lengthOf) := goodIn_app (goodIn_of _ (by decide +kernel)) ggX1_stateBehind_X3_lengthOf
set_option maxRecDepth 20000 in
theorem ggX1_stateBehind_X3_letterAt : GoodIn wsX1_stateBehind wsX3_letterAt := goodIn_r _ [7, 8, 2, 3, 4, 9, 10, 11] (by decide +kernel) (by decide +kernel)
set_option maxRecDepth 20000 in
theorem gX1_stateBehind_X3_letterAt : GoodIn wsX1_stateBehind (va_wsS RX1 60 yX3_letterAt wsX3_letterAt) := goodIn_app (goodIn_of _ (by decide +kernel)) ggX1_stateBehind_X3_letterAt
set_option maxRecDepth 20000 in
theorem ggX1_stateBehind_X1_leadsTo : GoodIn wsX1_stateBehind wsX1_leadsTo := goodIn_r _ [16, 17, 18, 19, 20, 21, 22, 23, 24, 25] (by decide +kernel) (by decide +kernel)
set_option maxRecDepth 20000 in
theorem gX1_stateBehind_X1_leadsTo : GoodIn wsX1_stateBehind (wsV RX1 63 RX1 yX1_leadsTo wsX1_leadsTo) := goodIn_app (goodIn_of _ (by decide +kernel)) ggX1_stateBehind_X1_leadsTo
theorem dX1_stateBehind_0 : decode cX1_stateBehind 0 = .ok (.iconst 0, 1) := by decide +kernel
theorem dX1_stateBehind_1 : decode cX1_stateBehind 1 = .ok (.istore_n 2, 1) := by decide +kernel
theorem dX1_stateBehind_2 : decode cX1_stateBehind 2 = .ok (.iload_n 1, 1) := by decide +kernel
theorem dX1_stateBehind_3 : decode cX1_stateBehind 3 = .ok (.invokestatic 40, 3) := by decide +kernel
theorem dX1_stateBehind_6 : decode cX1_stateBehind 6 = .ok (.istore_n 3, 1) := by decide +kernel
theorem dX1_stateBehind_7 : decode cX1_stateBehind 7 = .ok (.iconst 0, 1) := by decide +kernel
theorem dX1_stateBehind_8 : decode cX1_stateBehind 8 = .ok (.istore 4, 2) := by decide +kernel
theorem dX1_stateBehind_10 : decode cX1_stateBehind 10 = .ok (.iload 4, 2) := by decide +kernel
theorem dX1_stateBehind_12 : decode cX1_stateBehind 12 = .ok (.iload_n 3, 1) := by decide +kernel
theorem dX1_stateBehind_13 : decode cX1_stateBehind 13 = .ok (.if_icmp .ge 21, 3) := by decide +kernel
theorem dX1_stateBehind_16 : decode cX1_stateBehind 16 = .ok (.aload_n 0, 1) := by decide +kernel
theorem dX1_stateBehind_17 : decode cX1_stateBehind 17 = .ok (.iload_n 2, 1) := by decide +kernel
theorem dX1_stateBehind_18 : decode cX1_stateBehind 18 = .ok (.iload_n 1, 1) := by decide +kernel
theorem dX1_stateBehind_19 : decode cX1_stateBehind 19 = .ok (.iload 4, 2) := by decide +kernel
theorem dX1_stateBehind_21 : decode cX1_stateBehind 21 = .ok (.invokestatic 60, 3) := by decide +kernel
theorem dX1_stateBehind_24 : decode cX1_stateBehind 24 = .ok (.invokevirtual 63, 3) := by decide +kernel
theorem dX1_stateBehind_27 : decode cX1_stateBehind 27 = .ok (.istore_n 2, 1) := by decide +kernel
theorem dX1_stateBehind_28 : decode cX1_stateBehind 28 = .ok (.iinc 4 1, 3) := by decide +kernel
theorem dX1_stateBehind_31 : decode cX1_stateBehind 31 = .ok (.goto (-21), 3) := by decide +kernel
theorem dX1_stateBehind_34 : decode cX1_stateBehind 34 = .ok (.iload_n 2, 1) := by decide +kernel
theorem dX1_stateBehind_35 : decode cX1_stateBehind 35 = .ok (.ireturn, 1) := by decide +kernel
set_option maxRecDepth 20000 in
theorem ggX1_fallsBefore_X1_goesOn : GoodIn wsX1_fallsBefore wsX1_goesOn := goodIn_r _ [6, 7, 8, 9, 10, 5, 11, 12, 13, 14, 15, 16, 17, 18, 19, 20, 21, 22, 23, 24] (by decide +kernel) (by decide +kernel)
set_option maxRecDepth 20000 in
theorem gX1_fallsBefore_X1_goesOn : GoodIn wsX1_fallsBefore (wsV RX1 66 RX1 yX1_goesOn wsX1_goesOn) := goodIn_app (goodIn_of _ (by decide +kernel)) ggX1_fallsBefore_X1_goesOn
set_option maxRecDepth 20000 in
theorem ggX1_fallsBefore_X5_at : GoodIn wsX1_fallsBefore wsX5_at := goodIn_r _ [15] (by decide +kernel) (by decide +kernel)
set_option maxRecDepth 20000 in
theorem gX1_fallsBefore_X5_at_n36 : GoodIn wsX1_fallsBefore (wsX5_at) := ggX1_fallsBefore_X5_at
theorem dX1_fallsBefore_0 : decode cX1_fallsBefore 0 = .ok (.iload_n 1, 1) := by decide +kernel
theorem dX1_fallsBefore_1 : decode cX1_fallsBefore 1 = .ok (.istore_n 3, 1) := by decide +kernel
theorem dX1_fallsBefore_2 : decode cX1_fallsBefore 2 = .ok (.iconst 0, 1) := by decide +kernel
theorem dX1_fallsBefore_3 : decode cX1_fallsBefore 3 = .ok (.istore 4, 2) := by decide +kernel
theorem dX1_fallsBefore_5 : decode cX1_fallsBefore 5 = .ok (.iload 4, 2) := by decide +kernel
theorem dX1_fallsBefore_7 : decode cX1_fallsBefore 7 = .ok (.bipush 8, 2) := by decide +kernel
theorem dX1_fallsBefore_9 : decode cX1_fallsBefore 9 = .ok (.if_icmp .gt 39, 3) := by decide +kernel
theorem dX1_fallsBefore_12 : decode cX1_fallsBefore 12 = .ok (.aload_n 0, 1) := by decide +kernel
theorem dX1_fallsBefore_13 : decode cX1_fallsBefore 13 = .ok (.iload_n 3, 1) := by decide +kernel
theorem dX1_fallsBefore_14 : decode cX1_fallsBefore 14 = .ok (.iload_n 2, 1) := by decide +kernel
theorem dX1_fallsBefore_15 : decode cX1_fallsBefore 15 = .ok (.invokevirtual 66, 3) := by decide +kernel
theorem dX1_fallsBefore_18 : decode cX1_fallsBefore 18 = .ok (.ifCond .eq 6, 3) := by decide +kernel
theorem dX1_fallsBefore_21 : decode cX1_fallsBefore 21 = .ok (.iload 4, 2) := by decide +kernel
theorem dX1_fallsBefore_23 : decode cX1_fallsBefore 23 = .ok (.ireturn, 1) := by decide +kernel
theorem dX1_fallsBefore_24 : decode cX1_fallsBefore 24 = .ok (.iload_n 3, 1) := by decide +kernel
theorem dX1_fallsBefore_25 : decode cX1_fallsBefore 25 = .ok (.ifCond .ne 8, 3) := by decide +kernel
theorem dX1_fallsBefore_28 : decode cX1_fallsBefore 28 = .ok (.iload 4, 2) := by decide +kernel
theorem dX1_fallsBefore_30 : decode cX1_fallsBefore 30 = .ok (.iconst 1, 1) := by decide +kernel
theorem dX1_fallsBefore_31 : decode cX1_fallsBefore 31 = .ok (.iadd, 1) := by decide +kernel
theorem dX1_fallsBefore_32 : decode cX1_fallsBefore 32 = .ok (.ireturn, 1) := by decide +kernel
theorem dX1_fallsBefore_33 : decode cX1_fallsBefore 33 = .ok (.aload_n 0, 1) := by decide +kernel
theorem dX1_fallsBefore_34 : decode cX1_fallsBefore 34 = .ok (.getfield 15, 3) := by decide +kernel
theorem dX1_fallsBefore_37 : decode cX1_fallsBefore 37 = .ok (.iload_n 3, 1) := by decide +kernel
theorem dX1_fallsBefore_38 : decode cX1_fallsBefore 38 = .ok (.invokestatic 36, 3) := by decide +kernel
theorem dX1_fallsBefore_41 : decode cX1_fallsBefore 41 = .ok (.istore_n 3, 1) := by decide +kernel
theorem dX1_fallsBefore_42 : decode cX1_fallsBefore 42 = .ok (.iinc 4 1, 3) := by decide +kernel
theorem dX1_fallsBefore_45 : decode cX1_fallsBefore 45 = .ok (.goto (-40), 3) := by decide +kernel
theorem dX1_fallsBefore_48 : decode cX1_fallsBefore 48 = .ok (.bipush 9, 2) := by decide +kernel
theorem dX1_fallsBefore_50 : decode cX1_fallsBefore 50 = .ok (.ireturn, 1) := by decide +kernel
set_option maxRecDepth 20000 in
theorem ggX1_goesOn_X1_leadsTo : GoodIn wsX1_goesOn wsX1_leadsTo := goodIn_r _ [6, 7, 8, 9, 10, 15, 16, 17, 18, 19] (by decide +kernel) (by decide +kernel)
set_option maxRecDepth 20000 in
theorem gX1_goesOn_X1_leadsTo : GoodIn wsX1_goesOn (wsV RX1 63 RX1 yX1_leadsTo wsX1_leadsTo) := goodIn_app (goodIn_of _ (by decide +kernel)) ggX1_goesOn_X1_leadsTo
set_option maxRecDepth 20000 in
theorem ggX1_goesOn_X5_at : GoodIn wsX1_goesOn wsX5_at := goodIn_r _ [10] (by decide +kernel) (by decide +kernel)
set_option maxRecDepth 20000 in
theorem gX1_goesOn_X5_at_n36 : GoodIn wsX1_goesOn (wsX5_at) := ggX1_goesOn_X5_at
set_option maxRecDepth 20000 in
theorem ggX1_goesOn_X3_behind : GoodIn wsX1_goesOn wsX3_behind := goodIn_r _ [14] (by decide +kernel) (by decide +kernel)
set_option maxRecDepth 20000 in
theorem gX1_goesOn_X3_behind : GoodIn wsX1_goesOn (va_wsS RX1 70 yX3_behind wsX3_behind) := goodIn_app (goodIn_of _ (by decide +kernel)) ggX1_goesOn_X3_behind
theorem dX1_goesOn_0 : decode cX1_goesOn 0 = .ok (.aload_n 0, 1) := by decide +kernel
theorem dX1_goesOn_1 : decode cX1_goesOn 1 = .ok (.getfield 9, 3) := by decide +kernel
theorem dX1_goesOn_4 : decode cX1_goesOn 4 = .ok (.aload_n 0, 1) := by decide +kernel
theorem dX1_goesOn_5 : decode cX1_goesOn 5 = .ok (.iload_n 1, 1) := by decide +kernel
theorem dX1_goesOn_6 : decode cX1_goesOn 6 = .ok (.iload_n 2, 1) := by decide +kernel
theorem dX1_goesOn_7 : decode cX1_goesOn 7 = .ok (.invokevirtual 63, 3) := by decide +kernel
theorem dX1_goesOn_10 : decode cX1_goesOn 10 = .ok (.invokestatic 36, 3) := by decide +kernel
theorem dX1_goesOn_13 : decode cX1_goesOn 13 = .ok (.aload_n 0, 1) := by decide +kernel
theorem dX1_goesOn_14 : decode cX1_goesOn 14 = .ok (.getfield 9, 3) := by decide +kernel
theorem dX1_goesOn_17 : decode cX1_goesOn 17 = .ok (.iload_n 1, 1) := by decide +kernel
theorem dX1_goesOn_18 : decode cX1_goesOn 18 = .ok (.invokestatic 36, 3) := by decide +kernel
theorem dX1_goesOn_21 : decode cX1_goesOn 21 = .ok (.iload_n 2, 1) := by decide +kernel
theorem dX1_goesOn_22 : decode cX1_goesOn 22 = .ok (.invokestatic 70, 3) := by decide +kernel
theorem dX1_goesOn_25 : decode cX1_goesOn 25 = .ok (.if_icmp .ne 7, 3) := by decide +kernel
theorem dX1_goesOn_28 : decode cX1_goesOn 28 = .ok (.iconst 1, 1) := by decide +kernel
theorem dX1_goesOn_29 : decode cX1_goesOn 29 = .ok (.goto 4, 3) := by decide +kernel
theorem dX1_goesOn_32 : decode cX1_goesOn 32 = .ok (.iconst 0, 1) := by decide +kernel
theorem dX1_goesOn_33 : decode cX1_goesOn 33 = .ok (.ireturn, 1) := by decide +kernel
set_option maxRecDepth 20000 in
theorem ggX1_takeState_X5_at : GoodIn wsX1_takeState wsX5_at := goodIn_r _ [5] (by decide +kernel) (by decide +kernel)
set_option maxRecDepth 20000 in
theorem gX1_takeState_X5_at_n36 : GoodIn wsX1_takeState (wsX5_at) := ggX1_takeState_X5_at
set_option maxRecDepth 20000 in
theorem ggX1_takeState_X5_put : GoodIn wsX1_takeState wsX5_put := goodIn_r _ [7] (by decide +kernel) (by decide +kernel)
set_option maxRecDepth 20000 in
theorem gX1_takeState_X5_put_n24 : GoodIn wsX1_takeState (wsX5_put) := ggX1_takeState_X5_put
theorem dX1_takeState_0 : decode cX1_takeState 0 = .ok (.aload_n 0, 1) := by decide +kernel
theorem dX1_takeState_1 : decode cX1_takeState 1 = .ok (.getfield 28, 3) := by decide +kernel
theorem dX1_takeState_4 : decode cX1_takeState 4 = .ok (.istore_n 2, 1) := by decide +kernel
theorem dX1_takeState_5 : decode cX1_takeState 5 = .ok (.iload_n 2, 1) := by decide +kernel
theorem dX1_takeState_6 : decode cX1_takeState 6 = .ok (.ifCond .le 23, 3) := by decide +kernel
theorem dX1_takeState_9 : decode cX1_takeState 9 = .ok (.aload_n 0, 1) := by decide +kernel
theorem dX1_takeState_10 : decode cX1_takeState 10 = .ok (.getfield 9, 3) := by decide +kernel
theorem dX1_takeState_13 : decode cX1_takeState 13 = .ok (.iload_n 2, 1) := by decide +kernel
theorem dX1_takeState_14 : decode cX1_takeState 14 = .ok (.iconst 1, 1) := by decide +kernel
theorem dX1_takeState_15 : decode cX1_takeState 15 = .ok (.isub, 1) := by decide +kernel
theorem dX1_takeState_16 : decode cX1_takeState 16 = .ok (.invokestatic 36, 3) := by decide +kernel
theorem dX1_takeState_19 : decode cX1_takeState 19 = .ok (.iload_n 1, 1) := by decide +kernel
theorem dX1_takeState_20 : decode cX1_takeState 20 = .ok (.if_icmp .lt 9, 3) := by decide +kernel
theorem dX1_takeState_23 : decode cX1_takeState 23 = .ok (.iinc 2 (-1), 3) := by decide +kernel
theorem dX1_takeState_26 : decode cX1_takeState 26 = .ok (.goto (-21), 3) := by decide +kernel
theorem dX1_takeState_29 : decode cX1_takeState 29 = .ok (.iload_n 2, 1) := by decide +kernel
theorem dX1_takeState_30 : decode cX1_takeState 30 = .ok (.aload_n 0, 1) := by decide +kernel
theorem dX1_takeState_31 : decode cX1_takeState 31 = .ok (.getfield 28, 3) := by decide +kernel
theorem dX1_takeState_34 : decode cX1_takeState 34 = .ok (.if_icmp .ge 16, 3) := by decide +kernel
theorem dX1_takeState_37 : decode cX1_takeState 37 = .ok (.aload_n 0, 1) := by decide +kernel
theorem dX1_takeState_38 : decode cX1_takeState 38 = .ok (.getfield 9, 3) := by decide +kernel
theorem dX1_takeState_41 : decode cX1_takeState 41 = .ok (.iload_n 2, 1) := by decide +kernel
theorem dX1_takeState_42 : decode cX1_takeState 42 = .ok (.invokestatic 36, 3) := by decide +kernel
theorem dX1_takeState_45 : decode cX1_takeState 45 = .ok (.iload_n 1, 1) := by decide +kernel
theorem dX1_takeState_46 : decode cX1_takeState 46 = .ok (.if_icmp .ne 4, 3) := by decide +kernel
theorem dX1_takeState_49 : decode cX1_takeState 49 = .ok (.return_, 1) := by decide +kernel
theorem dX1_takeState_50 : decode cX1_takeState 50 = .ok (.aload_n 0, 1) := by decide +kernel
theorem dX1_takeState_51 : decode cX1_takeState 51 = .ok (.getfield 28, 3) := by decide +kernel
theorem dX1_takeState_54 : decode cX1_takeState 54 = .ok (.istore_n 3, 1) := by decide +kernel
theorem dX1_takeState_55 : decode cX1_takeState 55 = .ok (.iload_n 3, 1) := by decide +kernel
theorem dX1_takeState_56 : decode cX1_takeState 56 = .ok (.iload_n 2, 1) := by decide +kernel
theorem dX1_takeState_57 : decode cX1_takeState 57 = .ok (.if_icmp .le 27, 3) := by decide +kernel
theorem dX1_takeState_60 : decode cX1_takeState 60 = .ok (.aload_n 0, 1) := by decide +kernel
theorem dX1_takeState_61 : decode cX1_takeState 61 = .ok (.getfield 9, 3) := by decide +kernel
theorem dX1_takeState_64 : decode cX1_takeState 64 = .ok (.iload_n 3, 1) := by decide +kernel
theorem dX1_takeState_65 : decode cX1_takeState 65 = .ok (.aload_n 0, 1) := by decide +kernel
theorem dX1_takeState_66 : decode cX1_takeState 66 = .ok (.getfield 9, 3) := by decide +kernel
theorem dX1_takeState_69 : decode cX1_takeState 69 = .ok (.iload_n 3, 1) := by decide +kernel
theorem dX1_takeState_70 : decode cX1_takeState 70 = .ok (.iconst 1, 1) := by decide +kernel
theorem dX1_takeState_71 : decode cX1_takeState 71 = .ok (.isub, 1) := by decide +kernel
theorem dX1_takeState_72 : decode cX1_takeState 72 = .ok (.invokestatic 36, 3) := by decide +kernel
theorem dX1_takeState_75 : decode cX1_takeState 75 = .ok (.invokestatic 24, 3) := by decide +kernel
theorem dX1_takeState_78 : decode cX1_takeState 78 = .ok (.iinc 3 (-1), 3) := by decide +kernel
theorem dX1_takeState_81 : decode cX1_takeState 81 = .ok (.goto (-26), 3) := by decide +kernel
theorem dX1_takeState_84 : decode cX1_takeState 84 = .ok (.aload_n 0, 1) := by decide +kernel
theorem dX1_takeState_85 : decode cX1_takeState 85 = .ok (.getfield 9, 3) := by decide +kernel
theorem dX1_takeState_88 : decode cX1_takeState 88 = .ok (.iload_n 2, 1) := by decide +kernel
theorem dX1_takeState_89 : decode cX1_takeState 89 = .ok (.iload_n 1, 1) := by decide +kernel
theorem dX1_takeState_90 : decode cX1_takeState 90 = .ok (.invokestatic 24, 3) := by decide +kernel
theorem dX1_takeState_93 : decode cX1_takeState 93 = .ok (.aload_n 0, 1) := by decide +kernel
theorem dX1_takeState_94 : decode cX1_takeState 94 = .ok (.dup, 1) := by decide +kernel
theorem dX1_takeState_95 : decode cX1_takeState 95 = .ok (.getfield 28, 3) := by decide +kernel
theorem dX1_takeState_98 : decode cX1_takeState 98 = .ok (.iconst 1, 1) := by decide +kernel
theorem dX1_takeState_99 : decode cX1_takeState 99 = .ok (.iadd, 1) := by decide +kernel
theorem dX1_takeState_100 : decode cX1_takeState 100 = .ok (.putfield 28, 3) := by decide +kernel
theorem dX1_takeState_103 : decode cX1_takeState 103 = .ok (.return_, 1) := by decide +kernel
set_option maxRecDepth 20000 in
theorem ggX1_leadToLongerStates_X5_at : GoodIn wsX1_leadToLongerStates wsX5_at := goodIn_r _ [6] (by decide +kernel) (by decide +kernel)
set_option maxRecDepth 20000 in
theorem gX1_leadToLongerStates_X5_at_n36 : GoodIn wsX1_leadToLongerStates (wsX5_at) := ggX1_leadToLongerStates_X5_at
set_option maxRecDepth 20000 in
theorem ggX1_leadToLongerStates_X3_lastLetter : GoodIn wsX1_leadToLongerStates wsX3_lastLetter := goodIn_r _ [10] (by decide +kernel) (by decide +kernel)
set_option maxRecDepth 20000 in
theorem gX1_leadToLongerStates_X3_lastLetter : GoodIn wsX1_leadToLongerStates (va_wsS RX1 73 yX3_lastLetter wsX3_lastLetter) := goodIn_app (goodIn_of _ (by decide +kernel)) ggX1_leadToLongerStates_X3_lastLetter
set_option maxRecDepth 20000 in
theorem ggX1_leadToLongerStates_X5_put : GoodIn wsX1_leadToLongerStates wsX5_put := goodIn_r _ [12] (by decide +kernel) (by decide +kernel)
set_option maxRecDepth 20000 in
theorem gX1_leadToLongerStates_X5_put_n24 : GoodIn wsX1_leadToLongerStates (wsX5_put) := ggX1_leadToLongerStates_X5_put
theorem dX1_leadToLongerStates_0 : decode cX1_leadToLongerStates 0 = .ok (.iconst 0, 1) := by decide +kernel
theorem dX1_leadToLongerStates_1 : decode cX1_leadToLongerStates 1 = .ok (.istore_n 1, 1) := by decide +kernel
theorem dX1_leadToLongerStates_2 : decode cX1_leadToLongerStates 2 = .ok (.iload_n 1, 1) := by decide +kernel
theorem dX1_leadToLongerStates_3 : decode cX1_leadToLongerStates 3 = .ok (.aload_n 0, 1) := by decide +kernel
theorem dX1_leadToLongerStates_4 : decode cX1_leadToLongerStates 4 = .ok (.getfield 21, 3) := by decide +kernel
theorem dX1_leadToLongerStates_7 : decode cX1_leadToLongerStates 7 = .ok (.arraylength, 1) := by decide +kernel
theorem dX1_leadToLongerStates_8 : decode cX1_leadToLongerStates 8 = .ok (.if_icmp .ge 16, 3) := by decide +kernel
theorem dX1_leadToLongerStates_11 : decode cX1_leadToLongerStates 11 = .ok (.aload_n 0, 1) := by decide +kernel
theorem dX1_leadToLongerStates_12 : decode cX1_leadToLongerStates 12 = .ok (.getfield 21, 3) := by decide +kernel
theorem dX1_leadToLongerStates_15 : decode cX1_leadToLongerStates 15 = .ok (.iload_n 1, 1) := by decide +kernel
theorem dX1_leadToLongerStates_16 : decode cX1_leadToLongerStates 16 = .ok (.iconst 0, 1) := by decide +kernel
theorem dX1_leadToLongerStates_17 : decode cX1_leadToLongerStates 17 = .ok (.iastore, 1) := by decide +kernel
theorem dX1_leadToLongerStates_18 : decode cX1_leadToLongerStates 18 = .ok (.iinc 1 1, 3) := by decide +kernel
theorem dX1_leadToLongerStates_21 : decode cX1_leadToLongerStates 21 = .ok (.goto (-19), 3) := by decide +kernel
theorem dX1_leadToLongerStates_24 : decode cX1_leadToLongerStates 24 = .ok (.iconst 0, 1) := by decide +kernel
theorem dX1_leadToLongerStates_25 : decode cX1_leadToLongerStates 25 = .ok (.istore_n 1, 1) := by decide +kernel
theorem dX1_leadToLongerStates_26 : decode cX1_leadToLongerStates 26 = .ok (.iconst 1, 1) := by decide +kernel
theorem dX1_leadToLongerStates_27 : decode cX1_leadToLongerStates 27 = .ok (.istore_n 2, 1) := by decide +kernel
theorem dX1_leadToLongerStates_28 : decode cX1_leadToLongerStates 28 = .ok (.iload_n 2, 1) := by decide +kernel
theorem dX1_leadToLongerStates_29 : decode cX1_leadToLongerStates 29 = .ok (.aload_n 0, 1) := by decide +kernel
theorem dX1_leadToLongerStates_30 : decode cX1_leadToLongerStates 30 = .ok (.getfield 28, 3) := by decide +kernel
theorem dX1_leadToLongerStates_33 : decode cX1_leadToLongerStates 33 = .ok (.if_icmp .ge 59, 3) := by decide +kernel
theorem dX1_leadToLongerStates_36 : decode cX1_leadToLongerStates 36 = .ok (.aload_n 0, 1) := by decide +kernel
theorem dX1_leadToLongerStates_37 : decode cX1_leadToLongerStates 37 = .ok (.getfield 9, 3) := by decide +kernel
theorem dX1_leadToLongerStates_40 : decode cX1_leadToLongerStates 40 = .ok (.iload_n 2, 1) := by decide +kernel
theorem dX1_leadToLongerStates_41 : decode cX1_leadToLongerStates 41 = .ok (.invokestatic 36, 3) := by decide +kernel
theorem dX1_leadToLongerStates_44 : decode cX1_leadToLongerStates 44 = .ok (.istore_n 3, 1) := by decide +kernel
theorem dX1_leadToLongerStates_45 : decode cX1_leadToLongerStates 45 = .ok (.iload_n 1, 1) := by decide +kernel
theorem dX1_leadToLongerStates_46 : decode cX1_leadToLongerStates 46 = .ok (.iload_n 2, 1) := by decide +kernel
theorem dX1_leadToLongerStates_47 : decode cX1_leadToLongerStates 47 = .ok (.if_icmp .ge 23, 3) := by decide +kernel
theorem dX1_leadToLongerStates_50 : decode cX1_leadToLongerStates 50 = .ok (.aload_n 0, 1) := by decide +kernel
theorem dX1_leadToLongerStates_51 : decode cX1_leadToLongerStates 51 = .ok (.getfield 9, 3) := by decide +kernel
theorem dX1_leadToLongerStates_54 : decode cX1_leadToLongerStates 54 = .ok (.iload_n 1, 1) := by decide +kernel
theorem dX1_leadToLongerStates_55 : decode cX1_leadToLongerStates 55 = .ok (.invokestatic 36, 3) := by decide +kernel
theorem dX1_leadToLongerStates_58 : decode cX1_leadToLongerStates 58 = .ok (.iload_n 3, 1) := by decide +kernel
theorem dX1_leadToLongerStates_59 : decode cX1_leadToLongerStates 59 = .ok (.iconst 2, 1) := by decide +kernel
theorem dX1_leadToLongerStates_60 : decode cX1_leadToLongerStates 60 = .ok (.ishr, 1) := by decide +kernel
theorem dX1_leadToLongerStates_61 : decode cX1_leadToLongerStates 61 = .ok (.if_icmp .eq 9, 3) := by decide +kernel
theorem dX1_leadToLongerStates_64 : decode cX1_leadToLongerStates 64 = .ok (.iinc 1 1, 3) := by decide +kernel
theorem dX1_leadToLongerStates_67 : decode cX1_leadToLongerStates 67 = .ok (.goto (-22), 3) := by decide +kernel
theorem dX1_leadToLongerStates_70 : decode cX1_leadToLongerStates 70 = .ok (.aload_n 0, 1) := by decide +kernel
theorem dX1_leadToLongerStates_71 : decode cX1_leadToLongerStates 71 = .ok (.getfield 21, 3) := by decide +kernel
theorem dX1_leadToLongerStates_74 : decode cX1_leadToLongerStates 74 = .ok (.iload_n 1, 1) := by decide +kernel
theorem dX1_leadToLongerStates_75 : decode cX1_leadToLongerStates 75 = .ok (.iconst 4, 1) := by decide +kernel
theorem dX1_leadToLongerStates_76 : decode cX1_leadToLongerStates 76 = .ok (.imul, 1) := by decide +kernel
theorem dX1_leadToLongerStates_77 : decode cX1_leadToLongerStates 77 = .ok (.iload_n 3, 1) := by decide +kernel
theorem dX1_leadToLongerStates_78 : decode cX1_leadToLongerStates 78 = .ok (.invokestatic 73, 3) := by decide +kernel
theorem dX1_leadToLongerStates_81 : decode cX1_leadToLongerStates 81 = .ok (.iadd, 1) := by decide +kernel
theorem dX1_leadToLongerStates_82 : decode cX1_leadToLongerStates 82 = .ok (.iload_n 2, 1) := by decide +kernel
theorem dX1_leadToLongerStates_83 : decode cX1_leadToLongerStates 83 = .ok (.invokestatic 24, 3) := by decide +kernel
theorem dX1_leadToLongerStates_86 : decode cX1_leadToLongerStates 86 = .ok (.iinc 2 1, 3) := by decide +kernel
theorem dX1_leadToLongerStates_89 : decode cX1_leadToLongerStates 89 = .ok (.goto (-61), 3) := by decide +kernel
theorem dX1_leadToLongerStates_92 : decode cX1_leadToLongerStates 92 = .ok (.return_, 1) := by decide +kernel
set_option maxRecDepth 20000 in
theorem ggX1_fallBack_X5_put : GoodIn wsX1_fallBack wsX5_put := goodIn_r _ [6] (by decide +kernel) (by decide +kernel)
set_option maxRecDepth 20000 in
theorem gX1_fallBack_X5_put_n24 : GoodIn wsX1_fallBack (wsX5_put) := ggX1_fallBack_X5_put
set_option maxRecDepth 20000 in
theorem ggX1_fallBack_X1_leadsTo : GoodIn wsX1_fallBack wsX1_leadsTo := goodIn_r _ [11, 3, 12, 5, 13, 14, 15, 16, 17, 18] (by decide +kernel) (by decide +kernel)
set_option maxRecDepth 20000 in
theorem gX1_fallBack_X1_leadsTo : GoodIn wsX1_fallBack (wsV RX1 63 RX1 yX1_leadsTo wsX1_leadsTo) := goodIn_app (goodIn_of _ (by decide +kernel)) ggX1_fallBack_X1_leadsTo
set_option maxRecDepth 20000 in
theorem ggX1_fallBack_X5_at : GoodIn wsX1_fallBack wsX5_at := goodIn_r _ [13] (by decide +kernel) (by decide +kernel)
set_option maxRecDepth 20000 in
theorem gX1_fallBack_X5_at_n36 : GoodIn wsX1_fallBack (wsX5_at) := ggX1_fallBack_X5_at
theorem dX1_fallBack_0 : decode cX1_fallBack 0 = .ok (.aload_n 0, 1) := by decide +kernel
theorem dX1_fallBack_1 : decode cX1_fallBack 1 = .ok (.getfield 15, 3) := by decide +kernel
theorem dX1_fallBack_4 : decode cX1_fallBack 4 = .ok (.iconst 0, 1) := by decide +kernel
theorem dX1_fallBack_5 : decode cX1_fallBack 5 = .ok (.iconst (-1), 1) := by decide +kernel
theorem dX1_fallBack_6 : decode cX1_fallBack 6 = .ok (.invokestatic 24, 3) := by decide +kernel
theorem dX1_fallBack_9 : decode cX1_fallBack 9 = .ok (.iconst 0, 1) := by decide +kernel
theorem dX1_fallBack_10 : decode cX1_fallBack 10 = .ok (.istore_n 1, 1) := by decide +kernel
theorem dX1_fallBack_11 : decode cX1_fallBack 11 = .ok (.iload_n 1, 1) := by decide +kernel
theorem dX1_fallBack_12 : decode cX1_fallBack 12 = .ok (.aload_n 0, 1) := by decide +kernel
theorem dX1_fallBack_13 : decode cX1_fallBack 13 = .ok (.getfield 28, 3) := by decide +kernel
theorem dX1_fallBack_16 : decode cX1_fallBack 16 = .ok (.if_icmp .ge 83, 3) := by decide +kernel
theorem dX1_fallBack_19 : decode cX1_fallBack 19 = .ok (.iconst 0, 1) := by decide +kernel
theorem dX1_fallBack_20 : decode cX1_fallBack 20 = .ok (.istore_n 2, 1) := by decide +kernel
theorem dX1_fallBack_21 : decode cX1_fallBack 21 = .ok (.iload_n 2, 1) := by decide +kernel
theorem dX1_fallBack_22 : decode cX1_fallBack 22 = .ok (.iconst 4, 1) := by decide +kernel
theorem dX1_fallBack_23 : decode cX1_fallBack 23 = .ok (.if_icmp .ge 70, 3) := by decide +kernel
theorem dX1_fallBack_26 : decode cX1_fallBack 26 = .ok (.aload_n 0, 1) := by decide +kernel
theorem dX1_fallBack_27 : decode cX1_fallBack 27 = .ok (.iload_n 1, 1) := by decide +kernel
theorem dX1_fallBack_28 : decode cX1_fallBack 28 = .ok (.iload_n 2, 1) := by decide +kernel
theorem dX1_fallBack_29 : decode cX1_fallBack 29 = .ok (.invokevirtual 63, 3) := by decide +kernel
theorem dX1_fallBack_32 : decode cX1_fallBack 32 = .ok (.istore_n 3, 1) := by decide +kernel
theorem dX1_fallBack_33 : decode cX1_fallBack 33 = .ok (.iload_n 1, 1) := by decide +kernel
theorem dX1_fallBack_34 : decode cX1_fallBack 34 = .ok (.ifCond .ne 7, 3) := by decide +kernel
theorem dX1_fallBack_37 : decode cX1_fallBack 37 = .ok (.iconst 0, 1) := by decide +kernel
theorem dX1_fallBack_38 : decode cX1_fallBack 38 = .ok (.goto 16, 3) := by decide +kernel
theorem dX1_fallBack_41 : decode cX1_fallBack 41 = .ok (.aload_n 0, 1) := by decide +kernel
theorem dX1_fallBack_42 : decode cX1_fallBack 42 = .ok (.aload_n 0, 1) := by decide +kernel
theorem dX1_fallBack_43 : decode cX1_fallBack 43 = .ok (.getfield 15, 3) := by decide +kernel
theorem dX1_fallBack_46 : decode cX1_fallBack 46 = .ok (.iload_n 1, 1) := by decide +kernel
theorem dX1_fallBack_47 : decode cX1_fallBack 47 = .ok (.invokestatic 36, 3) := by decide +kernel
theorem dX1_fallBack_50 : decode cX1_fallBack 50 = .ok (.iload_n 2, 1) := by decide +kernel
theorem dX1_fallBack_51 : decode cX1_fallBack 51 = .ok (.invokevirtual 63, 3) := by decide +kernel
theorem dX1_fallBack_54 : decode cX1_fallBack 54 = .ok (.istore 4, 2) := by decide +kernel
theorem dX1_fallBack_56 : decode cX1_fallBack 56 = .ok (.iload_n 3, 1) := by decide +kernel
theorem dX1_fallBack_57 : decode cX1_fallBack 57 = .ok (.ifCond .eq 16, 3) := by decide +kernel
theorem dX1_fallBack_60 : decode cX1_fallBack 60 = .ok (.aload_n 0, 1) := by decide +kernel
theorem dX1_fallBack_61 : decode cX1_fallBack 61 = .ok (.getfield 15, 3) := by decide +kernel
theorem dX1_fallBack_64 : decode cX1_fallBack 64 = .ok (.iload_n 3, 1) := by decide +kernel
theorem dX1_fallBack_65 : decode cX1_fallBack 65 = .ok (.iload 4, 2) := by decide +kernel
theorem dX1_fallBack_67 : decode cX1_fallBack 67 = .ok (.invokestatic 24, 3) := by decide +kernel
theorem dX1_fallBack_70 : decode cX1_fallBack 70 = .ok (.goto 17, 3) := by decide +kernel
theorem dX1_fallBack_73 : decode cX1_fallBack 73 = .ok (.aload_n 0, 1) := by decide +kernel
theorem dX1_fallBack_74 : decode cX1_fallBack 74 = .ok (.getfield 21, 3) := by decide +kernel
theorem dX1_fallBack_77 : decode cX1_fallBack 77 = .ok (.iload_n 1, 1) := by decide +kernel
theorem dX1_fallBack_78 : decode cX1_fallBack 78 = .ok (.iconst 4, 1) := by decide +kernel
theorem dX1_fallBack_79 : decode cX1_fallBack 79 = .ok (.imul, 1) := by decide +kernel
theorem dX1_fallBack_80 : decode cX1_fallBack 80 = .ok (.iload_n 2, 1) := by decide +kernel
theorem dX1_fallBack_81 : decode cX1_fallBack 81 = .ok (.iadd, 1) := by decide +kernel
theorem dX1_fallBack_82 : decode cX1_fallBack 82 = .ok (.iload 4, 2) := by decide +kernel
theorem dX1_fallBack_84 : decode cX1_fallBack 84 = .ok (.invokestatic 24, 3) := by decide +kernel
theorem dX1_fallBack_87 : decode cX1_fallBack 87 = .ok (.iinc 2 1, 3) := by decide +kernel
theorem dX1_fallBack_90 : decode cX1_fallBack 90 = .ok (.goto (-69), 3) := by decide +kernel
theorem dX1_fallBack_93 : decode cX1_fallBack 93 = .ok (.iinc 1 1, 3) := by decide +kernel
theorem dX1_fallBack_96 : decode cX1_fallBack 96 = .ok (.goto (-85), 3) := by decide +kernel
theorem dX1_fallBack_99 : decode cX1_fallBack 99 = .ok (.return_, 1) := by decide +kernel
set_option maxRecDepth 20000 in
theorem ggX1_endsOf_X5_at : GoodIn wsX1_endsOf wsX5_at := goodIn_r _ [6] (by decide +kernel) (by decide +kernel)
set_option maxRecDepth 20000 in
theorem gX1_endsOf_X5_at_n36 : GoodIn wsX1_endsOf (wsX5_at) := ggX1_endsOf_X5_at
theorem dX1_endsOf_0 : decode cX1_endsOf 0 = .ok (.iload_n 1, 1) := by decide +kernel
theorem dX1_endsOf_1 : decode cX1_endsOf 1 = .ok (.ifCond .ne 7, 3) := by decide +kernel
theorem dX1_endsOf_4 : decode cX1_endsOf 4 = .ok (.iconst 0, 1) := by decide +kernel
theorem dX1_endsOf_5 : decode cX1_endsOf 5 = .ok (.goto 18, 3) := by decide +kernel
theorem dX1_endsOf_8 : decode cX1_endsOf 8 = .ok (.aload_n 0, 1) := by decide +kernel
theorem dX1_endsOf_9 : decode cX1_endsOf 9 = .ok (.getfield 18, 3) := by decide +kernel
theorem dX1_endsOf_12 : decode cX1_endsOf 12 = .ok (.aload_n 0, 1) := by decide +kernel
theorem dX1_endsOf_13 : decode cX1_endsOf 13 = .ok (.getfield 15, 3) := by decide +kernel
theorem dX1_endsOf_16 : decode cX1_endsOf 16 = .ok (.iload_n 1, 1) := by decide +kernel
theorem dX1_endsOf_17 : decode cX1_endsOf 17 = .ok (.invokestatic 36, 3) := by decide +kernel
theorem dX1_endsOf_20 : decode cX1_endsOf 20 = .ok (.invokestatic 36, 3) := by decide +kernel
theorem dX1_endsOf_23 : decode cX1_endsOf 23 = .ok (.istore_n 3, 1) := by decide +kernel
theorem dX1_endsOf_24 : decode cX1_endsOf 24 = .ok (.iconst 0, 1) := by decide +kernel
theorem dX1_endsOf_25 : decode cX1_endsOf 25 = .ok (.istore 4, 2) := by decide +kernel
theorem dX1_endsOf_27 : decode cX1_endsOf 27 = .ok (.iload 4, 2) := by decide +kernel
theorem dX1_endsOf_29 : decode cX1_endsOf 29 = .ok (.bipush 8, 2) := by decide +kernel
theorem dX1_endsOf_31 : decode cX1_endsOf 31 = .ok (.if_icmp .ge 33, 3) := by decide +kernel
theorem dX1_endsOf_34 : decode cX1_endsOf 34 = .ok (.aload_n 2, 1) := by decide +kernel
theorem dX1_endsOf_35 : decode cX1_endsOf 35 = .ok (.iload 4, 2) := by decide +kernel
theorem dX1_endsOf_37 : decode cX1_endsOf 37 = .ok (.invokestatic 36, 3) := by decide +kernel
theorem dX1_endsOf_40 : decode cX1_endsOf 40 = .ok (.aload_n 0, 1) := by decide +kernel
theorem dX1_endsOf_41 : decode cX1_endsOf 41 = .ok (.getfield 9, 3) := by decide +kernel
theorem dX1_endsOf_44 : decode cX1_endsOf 44 = .ok (.iload_n 1, 1) := by decide +kernel
theorem dX1_endsOf_45 : decode cX1_endsOf 45 = .ok (.invokestatic 36, 3) := by decide +kernel
theorem dX1_endsOf_48 : decode cX1_endsOf 48 = .ok (.if_icmp .ne 10, 3) := by decide +kernel
theorem dX1_endsOf_51 : decode cX1_endsOf 51 = .ok (.iload_n 3, 1) := by decide +kernel
theorem dX1_endsOf_52 : decode cX1_endsOf 52 = .ok (.iconst 1, 1) := by decide +kernel
theorem dX1_endsOf_53 : decode cX1_endsOf 53 = .ok (.iload 4, 2) := by decide +kernel
theorem dX1_endsOf_55 : decode cX1_endsOf 55 = .ok (.ishl, 1) := by decide +kernel
theorem dX1_endsOf_56 : decode cX1_endsOf 56 = .ok (.ior, 1) := by decide +kernel
theorem dX1_endsOf_57 : decode cX1_endsOf 57 = .ok (.istore_n 3, 1) := by decide +kernel
theorem dX1_endsOf_58 : decode cX1_endsOf 58 = .ok (.iinc 4 1, 3) := by decide +kernel
theorem dX1_endsOf_61 : decode cX1_endsOf 61 = .ok (.goto (-34), 3) := by decide +kernel
theorem dX1_endsOf_64 : decode cX1_endsOf 64 = .ok (.iload_n 3, 1) := by decide +kernel
theorem dX1_endsOf_65 : decode cX1_endsOf 65 = .ok (.ireturn, 1) := by decide +kernel
theorem dX2_init_0 : decode cX2_init 0 = .ok (.aload_n 0, 1) := by decide +kernel
theorem dX2_init_1 : decode cX2_init 1 = .ok (.invokespecial 3, 3) := by decide +kernel
theorem dX2_init_4 : decode cX2_init 4 = .ok (.aload_n 0, 1) := by decide +kernel
theorem dX2_init_5 : decode cX2_init 5 = .ok (.bipush 8, 2) := by decide +kernel
theorem dX2_init_7 : decode cX2_init 7 = .ok (.newarray .int, 2) := by decide +kernel
theorem dX2_init_9 : decode cX2_init 9 = .ok (.putfield 9, 3) := by decide +kernel
theorem dX2_init_12 : decode cX2_init 12 = .ok (.aload_n 0, 1) := by decide +kernel
theorem dX2_init_13 : decode cX2_init 13 = .ok (.bipush 8, 2) := by decide +kernel
theorem dX2_init_15 : decode cX2_init 15 = .ok (.newarray .int, 2) := by decide +kernel
theorem dX2_init_17 : decode cX2_init 17 = .ok (.putfield 15, 3) := by decide +kernel
theorem dX2_init_20 : decode cX2_init 20 = .ok (.aload_n 0, 1) := by decide +kernel
theorem dX2_init_21 : decode cX2_init 21 = .ok (.bipush 8, 2) := by decide +kernel
theorem dX2_init_23 : decode cX2_init 23 = .ok (.newarray .int, 2) := by decide +kernel
theorem dX2_init_25 : decode cX2_init 25 = .ok (.putfield 18, 3) := by decide +kernel
theorem dX2_init_28 : decode cX2_init 28 = .ok (.iconst 0, 1) := by decide +kernel
theorem dX2_init_29 : decode cX2_init 29 = .ok (.istore_n 1, 1) := by decide +kernel
theorem dX2_init_30 : decode cX2_init 30 = .ok (.iload_n 1, 1) := by decide +kernel
theorem dX2_init_31 : decode cX2_init 31 = .ok (.bipush 8, 2) := by decide +kernel
theorem dX2_init_33 : decode cX2_init 33 = .ok (.if_icmp .ge 16, 3) := by decide +kernel
theorem dX2_init_36 : decode cX2_init 36 = .ok (.aload_n 0, 1) := by decide +kernel
theorem dX2_init_37 : decode cX2_init 37 = .ok (.getfield 18, 3) := by decide +kernel
theorem dX2_init_40 : decode cX2_init 40 = .ok (.iload_n 1, 1) := by decide +kernel
theorem dX2_init_41 : decode cX2_init 41 = .ok (.iconst (-1), 1) := by decide +kernel
theorem dX2_init_42 : decode cX2_init 42 = .ok (.iastore, 1) := by decide +kernel
theorem dX2_init_43 : decode cX2_init 43 = .ok (.iinc 1 1, 3) := by decide +kernel
theorem dX2_init_46 : decode cX2_init 46 = .ok (.goto (-16), 3) := by decide +kernel
theorem dX2_init_49 : decode cX2_init 49 = .ok (.aload_n 0, 1) := by decide +kernel
theorem dX2_init_50 : decode cX2_init 50 = .ok (.iconst 0, 1) := by decide +kernel
theorem dX2_init_51 : decode cX2_init 51 = .ok (.putfield 21, 3) := by decide +kernel
theorem dX2_init_54 : decode cX2_init 54 = .ok (.aload_n 0, 1) := by decide +kernel
theorem dX2_init_55 : decode cX2_init 55 = .ok (.iconst 1, 1) := by decide +kernel
theorem dX2_init_56 : decode cX2_init 56 = .ok (.putfield 25, 3) := by decide +kernel
theorem dX2_init_59 : decode cX2_init 59 = .ok (.aload_n 0, 1) := by decide +kernel
theorem dX2_init_60 : decode cX2_init 60 = .ok (.iconst (-1), 1) := by decide +kernel
theorem dX2_init_61 : decode cX2_init 61 = .ok (.putfield 28, 3) := by decide +kernel
theorem dX2_init_64 : decode cX2_init 64 = .ok (.return_, 1) := by decide +kernel
set_option maxRecDepth 20000 in
theorem ggX2_copy_X5_at : GoodIn wsX2_copy wsX5_at := goodIn_r _ [13] (by decide +kernel) (by decide +kernel)
set_option maxRecDepth 20000 in
theorem gX2_copy_X5_at_n31 : GoodIn wsX2_copy (wsX5_at) := ggX2_copy_X5_at
set_option maxRecDepth 20000 in
theorem ggX2_copy_X5_put : GoodIn wsX2_copy wsX5_put := goodIn_r _ [15] (by decide +kernel) (by decide +kernel)
set_option maxRecDepth 20000 in
theorem gX2_copy_X5_put_n35 : GoodIn wsX2_copy (wsX5_put) := ggX2_copy_X5_put
theorem dX2_copy_0 : decode cX2_copy 0 = .ok (.iconst 0, 1) := by decide +kernel
theorem dX2_copy_1 : decode cX2_copy 1 = .ok (.istore_n 2, 1) := by decide +kernel
theorem dX2_copy_2 : decode cX2_copy 2 = .ok (.iload_n 2, 1) := by decide +kernel
theorem dX2_copy_3 : decode cX2_copy 3 = .ok (.bipush 8, 2) := by decide +kernel
theorem dX2_copy_5 : decode cX2_copy 5 = .ok (.if_icmp .ge 57, 3) := by decide +kernel
theorem dX2_copy_8 : decode cX2_copy 8 = .ok (.aload_n 0, 1) := by decide +kernel
theorem dX2_copy_9 : decode cX2_copy 9 = .ok (.getfield 9, 3) := by decide +kernel
theorem dX2_copy_12 : decode cX2_copy 12 = .ok (.iload_n 2, 1) := by decide +kernel
theorem dX2_copy_13 : decode cX2_copy 13 = .ok (.aload_n 1, 1) := by decide +kernel
theorem dX2_copy_14 : decode cX2_copy 14 = .ok (.getfield 9, 3) := by decide +kernel
theorem dX2_copy_17 : decode cX2_copy 17 = .ok (.iload_n 2, 1) := by decide +kernel
theorem dX2_copy_18 : decode cX2_copy 18 = .ok (.invokestatic 31, 3) := by decide +kernel
theorem dX2_copy_21 : decode cX2_copy 21 = .ok (.invokestatic 35, 3) := by decide +kernel
theorem dX2_copy_24 : decode cX2_copy 24 = .ok (.aload_n 0, 1) := by decide +kernel
theorem dX2_copy_25 : decode cX2_copy 25 = .ok (.getfield 15, 3) := by decide +kernel
theorem dX2_copy_28 : decode cX2_copy 28 = .ok (.iload_n 2, 1) := by decide +kernel
theorem dX2_copy_29 : decode cX2_copy 29 = .ok (.aload_n 1, 1) := by decide +kernel
theorem dX2_copy_30 : decode cX2_copy 30 = .ok (.getfield 15, 3) := by decide +kernel
theorem dX2_copy_33 : decode cX2_copy 33 = .ok (.iload_n 2, 1) := by decide +kernel
theorem dX2_copy_34 : decode cX2_copy 34 = .ok (.invokestatic 31, 3) := by decide +kernel
theorem dX2_copy_37 : decode cX2_copy 37 = .ok (.invokestatic 35, 3) := by decide +kernel
theorem dX2_copy_40 : decode cX2_copy 40 = .ok (.aload_n 0, 1) := by decide +kernel
theorem dX2_copy_41 : decode cX2_copy 41 = .ok (.getfield 18, 3) := by decide +kernel
theorem dX2_copy_44 : decode cX2_copy 44 = .ok (.iload_n 2, 1) := by decide +kernel
theorem dX2_copy_45 : decode cX2_copy 45 = .ok (.aload_n 1, 1) := by decide +kernel
theorem dX2_copy_46 : decode cX2_copy 46 = .ok (.getfield 18, 3) := by decide +kernel
theorem dX2_copy_49 : decode cX2_copy 49 = .ok (.iload_n 2, 1) := by decide +kernel
theorem dX2_copy_50 : decode cX2_copy 50 = .ok (.invokestatic 31, 3) := by decide +kernel
theorem dX2_copy_53 : decode cX2_copy 53 = .ok (.invokestatic 35, 3) := by decide +kernel
theorem dX2_copy_56 : decode cX2_copy 56 = .ok (.iinc 2 1, 3) := by decide +kernel
theorem dX2_copy_59 : decode cX2_copy 59 = .ok (.goto (-57), 3) := by decide +kernel
theorem dX2_copy_62 : decode cX2_copy 62 = .ok (.aload_n 0, 1) := by decide +kernel
theorem dX2_copy_63 : decode cX2_copy 63 = .ok (.aload_n 1, 1) := by decide +kernel
theorem dX2_copy_64 : decode cX2_copy 64 = .ok (.getfield 21, 3) := by decide +kernel
theorem dX2_copy_67 : decode cX2_copy 67 = .ok (.putfield 21, 3) := by decide +kernel
theorem dX2_copy_70 : decode cX2_copy 70 = .ok (.aload_n 0, 1) := by decide +kernel
theorem dX2_copy_71 : decode cX2_copy 71 = .ok (.aload_n 1, 1) := by decide +kernel
theorem dX2_copy_72 : decode cX2_copy 72 = .ok (.getfield 25, 3) := by decide +kernel
theorem dX2_copy_75 : decode cX2_copy 75 = .ok (.putfield 25, 3) := by decide +kernel
theorem dX2_copy_78 : decode cX2_copy 78 = .ok (.aload_n 0, 1) := by decide +kernel
theorem dX2_copy_79 : decode cX2_copy 79 = .ok (.aload_n 1, 1) := by decide +kernel
theorem dX2_copy_80 : decode cX2_copy 80 = .ok (.getfield 39, 3) := by decide +kernel
theorem dX2_copy_83 : decode cX2_copy 83 = .ok (.putfield 39, 3) := by decide +kernel
theorem dX2_copy_86 : decode cX2_copy 86 = .ok (.aload_n 0, 1) := by decide +kernel
theorem dX2_copy_87 : decode cX2_copy 87 = .ok (.aload_n 1, 1) := by decide +kernel
theorem dX2_copy_88 : decode cX2_copy 88 = .ok (.getfield 42, 3) := by decide +kernel
theorem dX2_copy_91 : decode cX2_copy 91 = .ok (.putfield 42, 3) := by decide +kernel
theorem dX2_copy_94 : decode cX2_copy 94 = .ok (.aload_n 0, 1) := by decide +kernel
theorem dX2_copy_95 : decode cX2_copy 95 = .ok (.aload_n 1, 1) := by decide +kernel
theorem dX2_copy_96 : decode cX2_copy 96 = .ok (.getfield 28, 3) := by decide +kernel
theorem dX2_copy_99 : decode cX2_copy 99 = .ok (.putfield 28, 3) := by decide +kernel
theorem dX2_copy_102 : decode cX2_copy 102 = .ok (.aload_n 0, 1) := by decide +kernel
theorem dX2_copy_103 : decode cX2_copy 103 = .ok (.aload_n 1, 1) := by decide +kernel
theorem dX2_copy_104 : decode cX2_copy 104 = .ok (.getfield 45, 3) := by decide +kernel
theorem dX2_copy_107 : decode cX2_copy 107 = .ok (.putfield 45, 3) := by decide +kernel
theorem dX2_copy_110 : decode cX2_copy 110 = .ok (.aload_n 0, 1) := by decide +kernel
theorem dX2_copy_111 : decode cX2_copy 111 = .ok (.aload_n 1, 1) := by decide +kernel
theorem dX2_copy_112 : decode cX2_copy 112 = .ok (.getfield 48, 3) := by decide +kernel
theorem dX2_copy_115 : decode cX2_copy 115 = .ok (.putfield 48, 3) := by decide +kernel
theorem dX2_copy_118 : decode cX2_copy 118 = .ok (.return_, 1) := by decide +kernel
set_option maxRecDepth 20000 in
theorem ggX2_forgetMatchesOf_X5_put : GoodIn wsX2_forgetMatchesOf wsX5_put := goodIn_r _ [5] (by decide +kernel) (by decide +kernel)
set_option maxRecDepth 20000 in
theorem gX2_forgetMatchesOf_X5_put_n35 : GoodIn wsX2_forgetMatchesOf (wsX5_put) := ggX2_forgetMatchesOf_X5_put
theorem dX2_forgetMatchesOf_0 : decode cX2_forgetMatchesOf 0 = .ok (.aload_n 0, 1) := by decide +kernel
theorem dX2_forgetMatchesOf_1 : decode cX2_forgetMatchesOf 1 = .ok (.getfield 15, 3) := by decide +kernel
theorem dX2_forgetMatchesOf_4 : decode cX2_forgetMatchesOf 4 = .ok (.iload_n 1, 1) := by decide +kernel
theorem dX2_forgetMatchesOf_5 : decode cX2_forgetMatchesOf 5 = .ok (.iconst 0, 1) := by decide +kernel
theorem dX2_forgetMatchesOf_6 : decode cX2_forgetMatchesOf 6 = .ok (.invokestatic 35, 3) := by decide +kernel
theorem dX2_forgetMatchesOf_9 : decode cX2_forgetMatchesOf 9 = .ok (.aload_n 0, 1) := by decide +kernel
theorem dX2_forgetMatchesOf_10 : decode cX2_forgetMatchesOf 10 = .ok (.getfield 18, 3) := by decide +kernel
theorem dX2_forgetMatchesOf_13 : decode cX2_forgetMatchesOf 13 = .ok (.iload_n 1, 1) := by decide +kernel
theorem dX2_forgetMatchesOf_14 : decode cX2_forgetMatchesOf 14 = .ok (.iconst (-1), 1) := by decide +kernel
theorem dX2_forgetMatchesOf_15 : decode cX2_forgetMatchesOf 15 = .ok (.invokestatic 35, 3) := by decide +kernel
theorem dX2_forgetMatchesOf_18 : decode cX2_forgetMatchesOf 18 = .ok (.return_, 1) := by decide +kernel
set_option maxRecDepth 20000 in
theorem ggX2_forgetText_X2_forgetMatchesOf : GoodIn wsX2_forgetText wsX2_forgetMatchesOf := goodIn_r _ [11, 12, 13, 14, 15, 16, 17, 18, 19, 20, 21, 22, 23, 24, 25, 26] (by decide +kernel) (by decide +kernel)
set_option maxRecDepth 20000 in
theorem gX2_forgetText_X2_forgetMatchesOf : GoodIn wsX2_forgetText (wsV RX2 51 RX2 yX2_forgetMatchesOf wsX2_forgetMatchesOf) := goodIn_app (goodIn_of _ (by decide +kernel)) ggX2_forgetText_X2_forgetMatchesOf
theorem dX2_forgetText_0 : decode cX2_forgetText 0 = .ok (.iconst 0, 1) := by decide +kernel
theorem dX2_forgetText_1 : decode cX2_forgetText 1 = .ok (.istore_n 1, 1) := by decide +kernel
theorem dX2_forgetText_2 : decode cX2_forgetText 2 = .ok (.iload_n 1, 1) := by decide +kernel
theorem dX2_forgetText_3 : decode cX2_forgetText 3 = .ok (.bipush 8, 2) := by decide +kernel
theorem dX2_forgetText_5 : decode cX2_forgetText 5 = .ok (.if_icmp .ge 14, 3) := by decide +kernel
theorem dX2_forgetText_8 : decode cX2_forgetText 8 = .ok (.aload_n 0, 1) := by decide +kernel
theorem dX2_forgetText_9 : decode cX2_forgetText 9 = .ok (.iload_n 1, 1) := by decide +kernel
theorem dX2_forgetText_10 : decode cX2_forgetText 10 = .ok (.invokevirtual 51, 3) := by decide +kernel
theorem dX2_forgetText_13 : decode cX2_forgetText 13 = .ok (.iinc 1 1, 3) := by decide +kernel
theorem dX2_forgetText_16 : decode cX2_forgetText 16 = .ok (.goto (-14), 3) := by decide +kernel
theorem dX2_forgetText_19 : decode cX2_forgetText 19 = .ok (.aload_n 0, 1) := by decide +kernel
theorem dX2_forgetText_20 : decode cX2_forgetText 20 = .ok (.iconst 1, 1) := by decide +kernel
theorem dX2_forgetText_21 : decode cX2_forgetText 21 = .ok (.putfield 25, 3) := by decide +kernel
theorem dX2_forgetText_24 : decode cX2_forgetText 24 = .ok (.aload_n 0, 1) := by decide +kernel
theorem dX2_forgetText_25 : decode cX2_forgetText 25 = .ok (.iconst 0, 1) := by decide +kernel
theorem dX2_forgetText_26 : decode cX2_forgetText 26 = .ok (.putfield 39, 3) := by decide +kernel
theorem dX2_forgetText_29 : decode cX2_forgetText 29 = .ok (.aload_n 0, 1) := by decide +kernel
theorem dX2_forgetText_30 : decode cX2_forgetText 30 = .ok (.iconst 0, 1) := by decide +kernel
theorem dX2_forgetText_31 : decode cX2_forgetText 31 = .ok (.putfield 42, 3) := by decide +kernel
theorem dX2_forgetText_34 : decode cX2_forgetText 34 = .ok (.aload_n 0, 1) := by decide +kernel
theorem dX2_forgetText_35 : decode cX2_forgetText 35 = .ok (.iconst (-1), 1) := by decide +kernel
theorem dX2_forgetText_36 : decode cX2_forgetText 36 = .ok (.putfield 28, 3) := by decide +kernel
theorem dX2_forgetText_39 : decode cX2_forgetText 39 = .ok (.aload_n 0, 1) := by decide +kernel
theorem dX2_forgetText_40 : decode cX2_forgetText 40 = .ok (.iconst 0, 1) := by decide +kernel
theorem dX2_forgetText_41 : decode cX2_forgetText 41 = .ok (.putfield 45, 3) := by decide +kernel
theorem dX2_forgetText_44 : decode cX2_forgetText 44 = .ok (.aload_n 0, 1) := by decide +kernel
theorem dX2_forgetText_45 : decode cX2_forgetText 45 = .ok (.iconst 0, 1) := by decide +kernel
theorem dX2_forgetText_46 : decode cX2_forgetText 46 = .ok (.putfield 48, 3) := by decide +kernel
theorem dX2_forgetText_49 : decode cX2_forgetText 49 = .ok (.return_, 1) := by decide +kernel
theorem dX2_takeFalls_0 : decode cX2_takeFalls 0 = .ok (.aload_n 0, 1) := by decide +kernel
theorem dX2_takeFalls_1 : decode cX2_takeFalls 1 = .ok (.dup, 1) := by decide +kernel
theorem dX2_takeFalls_2 : decode cX2_takeFalls 2 = .ok (.getfield 45, 3) := by decide +kernel
theorem dX2_takeFalls_5 : decode cX2_takeFalls 5 = .ok (.iload_n 1, 1) := by decide +kernel
theorem dX2_takeFalls_6 : decode cX2_takeFalls 6 = .ok (.iadd, 1) := by decide +kernel
theorem dX2_takeFalls_7 : decode cX2_takeFalls 7 = .ok (.putfield 45, 3) := by decide +kernel
theorem dX2_takeFalls_10 : decode cX2_takeFalls 10 = .ok (.aload_n 0, 1) := by decide +kernel
theorem dX2_takeFalls_11 : decode cX2_takeFalls 11 = .ok (.aload_n 0, 1) := by decide +kernel
theorem dX2_takeFalls_12 : decode cX2_takeFalls 12 = .ok (.getfield 48, 3) := by decide +kernel
theorem dX2_takeFalls_15 : decode cX2_takeFalls 15 = .ok (.iload_n 1, 1) := by decide +kernel
theorem dX2_takeFalls_16 : decode cX2_takeFalls 16 = .ok (.invokestatic 55, 3) := by decide +kernel
theorem dX2_takeFalls_19 : decode cX2_takeFalls 19 = .ok (.putfield 48, 3) := by decide +kernel
theorem dX2_takeFalls_22 : decode cX2_takeFalls 22 = .ok (.return_, 1) := by decide +kernel
set_option maxRecDepth 20000 in
theorem ggX2_takeMatches_X5_at : GoodIn wsX2_takeMatches wsX5_at := goodIn_r _ [8] (by decide +kernel) (by decide +kernel)
set_option maxRecDepth 20000 in
theorem gX2_takeMatches_X5_at_n31 : GoodIn wsX2_takeMatches (wsX5_at) := ggX2_takeMatches_X5_at
set_option maxRecDepth 20000 in
theorem ggX2_takeMatches_X5_put : GoodIn wsX2_takeMatches wsX5_put := goodIn_r _ [10] (by decide +kernel) (by decide +kernel)
set_option maxRecDepth 20000 in
theorem gX2_takeMatches_X5_put_n35 : GoodIn wsX2_takeMatches (wsX5_put) := ggX2_takeMatches_X5_put
theorem dX2_takeMatches_0 : decode cX2_takeMatches 0 = .ok (.iconst 0, 1) := by decide +kernel
theorem dX2_takeMatches_1 : decode cX2_takeMatches 1 = .ok (.istore_n 2, 1) := by decide +kernel
theorem dX2_takeMatches_2 : decode cX2_takeMatches 2 = .ok (.iload_n 2, 1) := by decide +kernel
theorem dX2_takeMatches_3 : decode cX2_takeMatches 3 = .ok (.bipush 8, 2) := by decide +kernel
theorem dX2_takeMatches_5 : decode cX2_takeMatches 5 = .ok (.if_icmp .ge 65, 3) := by decide +kernel
theorem dX2_takeMatches_8 : decode cX2_takeMatches 8 = .ok (.iload_n 1, 1) := by decide +kernel
theorem dX2_takeMatches_9 : decode cX2_takeMatches 9 = .ok (.iconst 1, 1) := by decide +kernel
theorem dX2_takeMatches_10 : decode cX2_takeMatches 10 = .ok (.iload_n 2, 1) := by decide +kernel
theorem dX2_takeMatches_11 : decode cX2_takeMatches 11 = .ok (.ishl, 1) := by decide +kernel
theorem dX2_takeMatches_12 : decode cX2_takeMatches 12 = .ok (.iand, 1) := by decide +kernel
theorem dX2_takeMatches_13 : decode cX2_takeMatches 13 = .ok (.ifCond .eq 51, 3) := by decide +kernel
theorem dX2_takeMatches_16 : decode cX2_takeMatches 16 = .ok (.aload_n 0, 1) := by decide +kernel
theorem dX2_takeMatches_17 : decode cX2_takeMatches 17 = .ok (.getfield 15, 3) := by decide +kernel
theorem dX2_takeMatches_20 : decode cX2_takeMatches 20 = .ok (.iload_n 2, 1) := by decide +kernel
theorem dX2_takeMatches_21 : decode cX2_takeMatches 21 = .ok (.aload_n 0, 1) := by decide +kernel
theorem dX2_takeMatches_22 : decode cX2_takeMatches 22 = .ok (.getfield 15, 3) := by decide +kernel
theorem dX2_takeMatches_25 : decode cX2_takeMatches 25 = .ok (.iload_n 2, 1) := by decide +kernel
theorem dX2_takeMatches_26 : decode cX2_takeMatches 26 = .ok (.invokestatic 31, 3) := by decide +kernel
theorem dX2_takeMatches_29 : decode cX2_takeMatches 29 = .ok (.iconst 1, 1) := by decide +kernel
theorem dX2_takeMatches_30 : decode cX2_takeMatches 30 = .ok (.iadd, 1) := by decide +kernel
theorem dX2_takeMatches_31 : decode cX2_takeMatches 31 = .ok (.invokestatic 35, 3) := by decide +kernel
theorem dX2_takeMatches_34 : decode cX2_takeMatches 34 = .ok (.aload_n 0, 1) := by decide +kernel
theorem dX2_takeMatches_35 : decode cX2_takeMatches 35 = .ok (.getfield 18, 3) := by decide +kernel
theorem dX2_takeMatches_38 : decode cX2_takeMatches 38 = .ok (.iload_n 2, 1) := by decide +kernel
theorem dX2_takeMatches_39 : decode cX2_takeMatches 39 = .ok (.aload_n 0, 1) := by decide +kernel
theorem dX2_takeMatches_40 : decode cX2_takeMatches 40 = .ok (.getfield 39, 3) := by decide +kernel
theorem dX2_takeMatches_43 : decode cX2_takeMatches 43 = .ok (.invokestatic 35, 3) := by decide +kernel
theorem dX2_takeMatches_46 : decode cX2_takeMatches 46 = .ok (.aload_n 0, 1) := by decide +kernel
theorem dX2_takeMatches_47 : decode cX2_takeMatches 47 = .ok (.dup, 1) := by decide +kernel
theorem dX2_takeMatches_48 : decode cX2_takeMatches 48 = .ok (.getfield 42, 3) := by decide +kernel
theorem dX2_takeMatches_51 : decode cX2_takeMatches 51 = .ok (.iconst 1, 1) := by decide +kernel
theorem dX2_takeMatches_52 : decode cX2_takeMatches 52 = .ok (.iadd, 1) := by decide +kernel
theorem dX2_takeMatches_53 : decode cX2_takeMatches 53 = .ok (.putfield 42, 3) := by decide +kernel
theorem dX2_takeMatches_56 : decode cX2_takeMatches 56 = .ok (.aload_n 0, 1) := by decide +kernel
theorem dX2_takeMatches_57 : decode cX2_takeMatches 57 = .ok (.aload_n 0, 1) := by decide +kernel
theorem dX2_takeMatches_58 : decode cX2_takeMatches 58 = .ok (.getfield 39, 3) := by decide +kernel
theorem dX2_takeMatches_61 : decode cX2_takeMatches 61 = .ok (.putfield 28, 3) := by decide +kernel
theorem dX2_takeMatches_64 : decode cX2_takeMatches 64 = .ok (.iinc 2 1, 3) := by decide +kernel
theorem dX2_takeMatches_67 : decode cX2_takeMatches 67 = .ok (.goto (-65), 3) := by decide +kernel
theorem dX2_takeMatches_70 : decode cX2_takeMatches 70 = .ok (.return_, 1) := by decide +kernel
theorem dX3_lengthOf_0 : decode cX3_lengthOf 0 = .ok (.iconst 0, 1) := by decide +kernel
theorem dX3_lengthOf_1 : decode cX3_lengthOf 1 = .ok (.istore_n 1, 1) := by decide +kernel
theorem dX3_lengthOf_2 : decode cX3_lengthOf 2 = .ok (.iload_n 1, 1) := by decide +kernel
theorem dX3_lengthOf_3 : decode cX3_lengthOf 3 = .ok (.bipush 8, 2) := by decide +kernel
theorem dX3_lengthOf_5 : decode cX3_lengthOf 5 = .ok (.if_icmp .gt 18, 3) := by decide +kernel
theorem dX3_lengthOf_8 : decode cX3_lengthOf 8 = .ok (.iload_n 0, 1) := by decide +kernel
theorem dX3_lengthOf_9 : decode cX3_lengthOf 9 = .ok (.iconst 2, 1) := by decide +kernel
theorem dX3_lengthOf_10 : decode cX3_lengthOf 10 = .ok (.iload_n 1, 1) := by decide +kernel
theorem dX3_lengthOf_11 : decode cX3_lengthOf 11 = .ok (.imul, 1) := by decide +kernel
theorem dX3_lengthOf_12 : decode cX3_lengthOf 12 = .ok (.ishr, 1) := by decide +kernel
theorem dX3_lengthOf_13 : decode cX3_lengthOf 13 = .ok (.iconst 1, 1) := by decide +kernel
theorem dX3_lengthOf_14 : decode cX3_lengthOf 14 = .ok (.if_icmp .le 9, 3) := by decide +kernel
theorem dX3_lengthOf_17 : decode cX3_lengthOf 17 = .ok (.iinc 1 1, 3) := by decide +kernel
theorem dX3_lengthOf_20 : decode cX3_lengthOf 20 = .ok (.goto (-18), 3) := by decide +kernel
theorem dX3_lengthOf_23 : decode cX3_lengthOf 23 = .ok (.iload_n 1, 1) := by decide +kernel
theorem dX3_lengthOf_24 : decode cX3_lengthOf 24 = .ok (.ireturn, 1) := by decide +kernel
theorem dX3_behind_0 : decode cX3_behind 0 = .ok (.iload_n 0, 1) := by decide +kernel
theorem dX3_behind_1 : decode cX3_behind 1 = .ok (.iconst 2, 1) := by decide +kernel
theorem dX3_behind_2 : decode cX3_behind 2 = .ok (.ishl, 1) := by decide +kernel
theorem dX3_behind_3 : decode cX3_behind 3 = .ok (.iload_n 1, 1) := by decide +kernel
theorem dX3_behind_4 : decode cX3_behind 4 = .ok (.iconst 3, 1) := by decide +kernel
theorem dX3_behind_5 : decode cX3_behind 5 = .ok (.iand, 1) := by decide +kernel
theorem dX3_behind_6 : decode cX3_behind 6 = .ok (.ior, 1) := by decide +kernel
theorem dX3_behind_7 : decode cX3_behind 7 = .ok (.ireturn, 1) := by decide +kernel
theorem dX3_lastLetter_0 : decode cX3_lastLetter 0 = .ok (.iload_n 0, 1) := by decide +kernel
theorem dX3_lastLetter_1 : decode cX3_lastLetter 1 = .ok (.iconst 3, 1) := by decide +kernel
theorem dX3_lastLetter_2 : decode cX3_lastLetter 2 = .ok (.iand, 1) := by decide +kernel
theorem dX3_lastLetter_3 : decode cX3_lastLetter 3 = .ok (.ireturn, 1) := by decide +kernel
set_option maxRecDepth 20000 in
theorem ggX3_letterAt_X3_lengthOf : GoodIn wsX3_letterAt wsX3_lengthOf := goodIn_r _ [4] (by decide +kernel) (by decide +kernel)
set_option maxRecDepth 20000 in
theorem gX3_letterAt_X3_lengthOf : GoodIn wsX3_letterAt (va_wsS RX3 9 yX3_lengthOf wsX3_lengthOf) := goodIn_app (goodIn_of _ (by decide +kernel)) ggX3_letterAt_X3_lengthOf
set_option maxRecDepth 20000 in
theorem ggX3_letterAt_X3_lastLetter : GoodIn wsX3_letterAt wsX3_lastLetter := goodIn_r _ [7] (by decide +kernel) (by decide +kernel)
set_option maxRecDepth 20000 in
theorem gX3_letterAt_X3_lastLetter : GoodIn wsX3_letterAt (va_wsS RX3 15 yX3_lastLetter wsX3_lastLetter) := goodIn_app (goodIn_of _ (by decide +kernel)) ggX3_letterAt_X3_lastLetter
theorem dX3_letterAt_0 : decode cX3_letterAt 0 = .ok (.iload_n 0, 1) := by decide +kernel
theorem dX3_letterAt_1 : decode cX3_letterAt 1 = .ok (.invokestatic 9, 3) := by decide +kernel
theorem dX3_letterAt_4 : decode cX3_letterAt 4 = .ok (.istore_n 2, 1) := by decide +kernel
theorem dX3_letterAt_5 : decode cX3_letterAt 5 = .ok (.iload_n 1, 1) := by decide +kernel
theorem dX3_letterAt_6 : decode cX3_letterAt 6 = .ok (.iload_n 2, 1) := by decide +kernel
theorem dX3_letterAt_7 : decode cX3_letterAt 7 = .ok (.if_icmp .ge 18, 3) := by decide +kernel
theorem dX3_letterAt_10 : decode cX3_letterAt 10 = .ok (.iload_n 0, 1) := by decide +kernel
theorem dX3_letterAt_11 : decode cX3_letterAt 11 = .ok (.iconst 2, 1) := by decide +kernel
theorem dX3_letterAt_12 : decode cX3_letterAt 12 = .ok (.iload_n 2, 1) := by decide +kernel
theorem dX3_letterAt_13 : decode cX3_letterAt 13 = .ok (.iconst 1, 1) := by decide +kernel
theorem dX3_letterAt_14 : decode cX3_letterAt 14 = .ok (.isub, 1) := by decide +kernel
theorem dX3_letterAt_15 : decode cX3_letterAt 15 = .ok (.iload_n 1, 1) := by decide +kernel
theorem dX3_letterAt_16 : decode cX3_letterAt 16 = .ok (.isub, 1) := by decide +kernel
theorem dX3_letterAt_17 : decode cX3_letterAt 17 = .ok (.imul, 1) := by decide +kernel
theorem dX3_letterAt_18 : decode cX3_letterAt 18 = .ok (.ishr, 1) := by decide +kernel
theorem dX3_letterAt_19 : decode cX3_letterAt 19 = .ok (.invokestatic 15, 3) := by decide +kernel
theorem dX3_letterAt_22 : decode cX3_letterAt 22 = .ok (.goto 4, 3) := by decide +kernel
theorem dX3_letterAt_25 : decode cX3_letterAt 25 = .ok (.iconst (-1), 1) := by decide +kernel
theorem dX3_letterAt_26 : decode cX3_letterAt 26 = .ok (.ireturn, 1) := by decide +kernel
set_option maxRecDepth 20000 in
theorem ggX3_beginning_X3_lengthOf : GoodIn wsX3_beginning wsX3_lengthOf := goodIn_r _ [4] (by decide +kernel) (by decide +kernel)
set_option maxRecDepth 20000 in
theorem gX3_beginning_X3_lengthOf : GoodIn wsX3_beginning (va_wsS RX3 9 yX3_lengthOf wsX3_lengthOf) := goodIn_app (goodIn_of _ (by decide +kernel)) ggX3_beginning_X3_lengthOf
theorem dX3_beginning_0 : decode cX3_beginning 0 = .ok (.iload_n 0, 1) := by decide +kernel
theorem dX3_beginning_1 : decode cX3_beginning 1 = .ok (.iconst 2, 1) := by decide +kernel
theorem dX3_beginning_2 : decode cX3_beginning 2 = .ok (.iload_n 0, 1) := by decide +kernel
theorem dX3_beginning_3 : decode cX3_beginning 3 = .ok (.invokestatic 9, 3) := by decide +kernel
theorem dX3_beginning_6 : decode cX3_beginning 6 = .ok (.iload_n 1, 1) := by decide +kernel
theorem dX3_beginning_7 : decode cX3_beginning 7 = .ok (.isub, 1) := by decide +kernel
theorem dX3_beginning_8 : decode cX3_beginning 8 = .ok (.imul, 1) := by decide +kernel
theorem dX3_beginning_9 : decode cX3_beginning 9 = .ok (.ishr, 1) := by decide +kernel
theorem dX3_beginning_10 : decode cX3_beginning 10 = .ok (.ireturn, 1) := by decide +kernel
set_option maxRecDepth 20000 in
theorem ggX3_beginsWith_X3_lengthOf : GoodIn wsX3_beginsWith wsX3_lengthOf := goodIn_r _ [4] (by decide +kernel) (by decide +kernel)
set_option maxRecDepth 20000 in
theorem gX3_beginsWith_X3_lengthOf : GoodIn wsX3_beginsWith (va_wsS RX3 9 yX3_lengthOf wsX3_lengthOf) := goodIn_app (goodIn_of _ (by decide +kernel)) ggX3_beginsWith_X3_lengthOf
theorem dX3_beginsWith_0 : decode cX3_beginsWith 0 = .ok (.iload_n 0, 1) := by decide +kernel
theorem dX3_beginsWith_1 : decode cX3_beginsWith 1 = .ok (.invokestatic 9, 3) := by decide +kernel
theorem dX3_beginsWith_4 : decode cX3_beginsWith 4 = .ok (.iload_n 1, 1) := by decide +kernel
theorem dX3_beginsWith_5 : decode cX3_beginsWith 5 = .ok (.invokestatic 9, 3) := by decide +kernel
theorem dX3_beginsWith_8 : decode cX3_beginsWith 8 = .ok (.isub, 1) := by decide +kernel
theorem dX3_beginsWith_9 : decode cX3_beginsWith 9 = .ok (.istore_n 2, 1) := by decide +kernel
theorem dX3_beginsWith_10 : decode cX3_beginsWith 10 = .ok (.iload_n 2, 1) := by decide +kernel
theorem dX3_beginsWith_11 : decode cX3_beginsWith 11 = .ok (.ifCond .lt 16, 3) := by decide +kernel
theorem dX3_beginsWith_14 : decode cX3_beginsWith 14 = .ok (.iload_n 0, 1) := by decide +kernel
theorem dX3_beginsWith_15 : decode cX3_beginsWith 15 = .ok (.iconst 2, 1) := by decide +kernel
theorem dX3_beginsWith_16 : decode cX3_beginsWith 16 = .ok (.iload_n 2, 1) := by decide +kernel
theorem dX3_beginsWith_17 : decode cX3_beginsWith 17 = .ok (.imul, 1) := by decide +kernel
theorem dX3_beginsWith_18 : decode cX3_beginsWith 18 = .ok (.ishr, 1) := by decide +kernel
theorem dX3_beginsWith_19 : decode cX3_beginsWith 19 = .ok (.iload_n 1, 1) := by decide +kernel
theorem dX3_beginsWith_20 : decode cX3_beginsWith 20 = .ok (.if_icmp .ne 7, 3) := by decide +kernel
theorem dX3_beginsWith_23 : decode cX3_beginsWith 23 = .ok (.iconst 1, 1) := by decide +kernel
theorem dX3_beginsWith_24 : decode cX3_beginsWith 24 = .ok (.goto 4, 3) := by decide +kernel
theorem dX3_beginsWith_27 : decode cX3_beginsWith 27 = .ok (.iconst 0, 1) := by decide +kernel
theorem dX3_beginsWith_28 : decode cX3_beginsWith 28 = .ok (.ireturn, 1) := by decide +kernel
set_option maxRecDepth 20000 in
theorem ggX3_endsWith_X3_lengthOf : GoodIn wsX3_endsWith wsX3_lengthOf := goodIn_r _ [4] (by decide +kernel) (by decide +kernel)
set_option maxRecDepth 20000 in
theorem gX3_endsWith_X3_lengthOf : GoodIn wsX3_endsWith (va_wsS RX3 9 yX3_lengthOf wsX3_lengthOf) := goodIn_app (goodIn_of _ (by decide +kernel)) ggX3_endsWith_X3_lengthOf
set_option maxRecDepth 20000 in
theorem ggX3_endsWith_X3_end : GoodIn wsX3_endsWith wsX3_end := goodIn_r _ [7] (by decide +kernel) (by decide +kernel)
set_option maxRecDepth 20000 in
theorem gX3_endsWith_X3_end : GoodIn wsX3_endsWith (va_wsS RX3 18 yX3_end wsX3_end) := goodIn_app (goodIn_of _ (by decide +kernel)) ggX3_endsWith_X3_end
theorem dX3_endsWith_0 : decode cX3_endsWith 0 = .ok (.iload_n 1, 1) := by decide +kernel
theorem dX3_endsWith_1 : decode cX3_endsWith 1 = .ok (.invokestatic 9, 3) := by decide +kernel
theorem dX3_endsWith_4 : decode cX3_endsWith 4 = .ok (.istore_n 2, 1) := by decide +kernel
theorem dX3_endsWith_5 : decode cX3_endsWith 5 = .ok (.iload_n 2, 1) := by decide +kernel
theorem dX3_endsWith_6 : decode cX3_endsWith 6 = .ok (.iload_n 0, 1) := by decide +kernel
theorem dX3_endsWith_7 : decode cX3_endsWith 7 = .ok (.invokestatic 9, 3) := by decide +kernel
theorem dX3_endsWith_10 : decode cX3_endsWith 10 = .ok (.if_icmp .gt 16, 3) := by decide +kernel
theorem dX3_endsWith_13 : decode cX3_endsWith 13 = .ok (.iload_n 0, 1) := by decide +kernel
theorem dX3_endsWith_14 : decode cX3_endsWith 14 = .ok (.iload_n 2, 1) := by decide +kernel
theorem dX3_endsWith_15 : decode cX3_endsWith 15 = .ok (.invokestatic 18, 3) := by decide +kernel
theorem dX3_endsWith_18 : decode cX3_endsWith 18 = .ok (.iload_n 1, 1) := by decide +kernel
theorem dX3_endsWith_19 : decode cX3_endsWith 19 = .ok (.if_icmp .ne 7, 3) := by decide +kernel
theorem dX3_endsWith_22 : decode cX3_endsWith 22 = .ok (.iconst 1, 1) := by decide +kernel
theorem dX3_endsWith_23 : decode cX3_endsWith 23 = .ok (.goto 4, 3) := by decide +kernel
theorem dX3_endsWith_26 : decode cX3_endsWith 26 = .ok (.iconst 0, 1) := by decide +kernel
theorem dX3_endsWith_27 : decode cX3_endsWith 27 = .ok (.ireturn, 1) := by decide +kernel
set_option maxRecDepth 20000 in
theorem ggX3_isPart_X3_lengthOf : GoodIn wsX3_isPart wsX3_lengthOf := goodIn_r _ [4] (by decide +kernel) (by decide +kernel)
set_option maxRecDepth 20000 in
theorem gX3_isPart_X3_lengthOf : GoodIn wsX3_isPart (va_wsS RX3 9 yX3_lengthOf wsX3_lengthOf) := goodIn_app (goodIn_of _ (by decide +kernel)) ggX3_isPart_X3_lengthOf
set_option maxRecDepth 20000 in
theorem ggX3_isPart_X3_beginning : GoodIn wsX3_isPart wsX3_beginning := goodIn_r _ [7, 1, 2, 3, 4] (by decide +kernel) (by decide +kernel)
set_option maxRecDepth 20000 in
theorem gX3_isPart_X3_beginning : GoodIn wsX3_isPart (va_wsS RX3 22 yX3_beginning wsX3_beginning) := goodIn_app (goodIn_of _ (by decide +kernel)) ggX3_isPart_X3_beginning
set_option maxRecDepth 20000 in
theorem ggX3_isPart_X3_endsWith : GoodIn wsX3_isPart wsX3_endsWith := goodIn_r _ [10, 1, 2, 3, 4, 11, 12, 13] (by decide +kernel) (by decide +kernel)
set_option maxRecDepth 20000 in
theorem gX3_isPart_X3_endsWith : GoodIn wsX3_isPart (va_wsS RX3 25 yX3_endsWith wsX3_endsWith) := goodIn_app (goodIn_of _ (by decide +kernel)) ggX3_isPart_X3_endsWith
theorem dX3_isPart_0 : decode cX3_isPart 0 = .ok (.iload_n 0, 1) := by decide +kernel
theorem dX3_isPart_1 : decode cX3_isPart 1 = .ok (.ifCond .ne 5, 3) := by decide +kernel
theorem dX3_isPart_4 : decode cX3_isPart 4 = .ok (.iconst 0, 1) := by decide +kernel
theorem dX3_isPart_5 : decode cX3_isPart 5 = .ok (.ireturn, 1) := by decide +kernel
theorem dX3_isPart_6 : decode cX3_isPart 6 = .ok (.iload_n 1, 1) := by decide +kernel
theorem dX3_isPart_7 : decode cX3_isPart 7 = .ok (.invokestatic 9, 3) := by decide +kernel
theorem dX3_isPart_10 : decode cX3_isPart 10 = .ok (.istore_n 2, 1) := by decide +kernel
theorem dX3_isPart_11 : decode cX3_isPart 11 = .ok (.iload_n 0, 1) := by decide +kernel
theorem dX3_isPart_12 : decode cX3_isPart 12 = .ok (.invokestatic 9, 3) := by decide +kernel
theorem dX3_isPart_15 : decode cX3_isPart 15 = .ok (.istore_n 3, 1) := by decide +kernel
theorem dX3_isPart_16 : decode cX3_isPart 16 = .ok (.iload_n 3, 1) := by decide +kernel
theorem dX3_isPart_17 : decode cX3_isPart 17 = .ok (.iload_n 2, 1) := by decide +kernel
theorem dX3_isPart_18 : decode cX3_isPart 18 = .ok (.if_icmp .gt 23, 3) := by decide +kernel
theorem dX3_isPart_21 : decode cX3_isPart 21 = .ok (.iload_n 1, 1) := by decide +kernel
theorem dX3_isPart_22 : decode cX3_isPart 22 = .ok (.iload_n 3, 1) := by decide +kernel
theorem dX3_isPart_23 : decode cX3_isPart 23 = .ok (.invokestatic 22, 3) := by decide +kernel
theorem dX3_isPart_26 : decode cX3_isPart 26 = .ok (.iload_n 0, 1) := by decide +kernel
theorem dX3_isPart_27 : decode cX3_isPart 27 = .ok (.invokestatic 25, 3) := by decide +kernel
theorem dX3_isPart_30 : decode cX3_isPart 30 = .ok (.ifCond .eq 5, 3) := by decide +kernel
theorem dX3_isPart_33 : decode cX3_isPart 33 = .ok (.iconst 1, 1) := by decide +kernel
theorem dX3_isPart_34 : decode cX3_isPart 34 = .ok (.ireturn, 1) := by decide +kernel
theorem dX3_isPart_35 : decode cX3_isPart 35 = .ok (.iinc 3 1, 3) := by decide +kernel
theorem dX3_isPart_38 : decode cX3_isPart 38 = .ok (.goto (-22), 3) := by decide +kernel
theorem dX3_isPart_41 : decode cX3_isPart 41 = .ok (.iconst 0, 1) := by decide +kernel
theorem dX3_isPart_42 : decode cX3_isPart 42 = .ok (.ireturn, 1) := by decide +kernel
set_option maxRecDepth 20000 in
theorem ggX3_latest_X3_lengthOf : GoodIn wsX3_latest wsX3_lengthOf := goodIn_r _ [4] (by decide +kernel) (by decide +kernel)
set_option maxRecDepth 20000 in
theorem gX3_latest_X3_lengthOf : GoodIn wsX3_latest (va_wsS RX3 9 yX3_lengthOf wsX3_lengthOf) := goodIn_app (goodIn_of _ (by decide +kernel)) ggX3_latest_X3_lengthOf
set_option maxRecDepth 20000 in
theorem ggX3_latest_X3_end : GoodIn wsX3_latest wsX3_end := goodIn_r _ [7] (by decide +kernel) (by decide +kernel)
set_option maxRecDepth 20000 in
theorem gX3_latest_X3_end : GoodIn wsX3_latest (va_wsS RX3 18 yX3_end wsX3_end) := goodIn_app (goodIn_of _ (by decide +kernel)) ggX3_latest_X3_end
theorem dX3_latest_0 : decode cX3_latest 0 = .ok (.iload_n 0, 1) := by decide +kernel
theorem dX3_latest_1 : decode cX3_latest 1 = .ok (.invokestatic 9, 3) := by decide +kernel
theorem dX3_latest_4 : decode cX3_latest 4 = .ok (.bipush 8, 2) := by decide +kernel
theorem dX3_latest_6 : decode cX3_latest 6 = .ok (.if_icmp .le 12, 3) := by decide +kernel
theorem dX3_latest_9 : decode cX3_latest 9 = .ok (.iload_n 0, 1) := by decide +kernel
theorem dX3_latest_10 : decode cX3_latest 10 = .ok (.bipush 8, 2) := by decide +kernel
theorem dX3_latest_12 : decode cX3_latest 12 = .ok (.invokestatic 18, 3) := by decide +kernel
theorem dX3_latest_15 : decode cX3_latest 15 = .ok (.goto 4, 3) := by decide +kernel
theorem dX3_latest_18 : decode cX3_latest 18 = .ok (.iload_n 0, 1) := by decide +kernel
theorem dX3_latest_19 : decode cX3_latest 19 = .ok (.ireturn, 1) := by decide +kernel
theorem dX3_end_0 : decode cX3_end 0 = .ok (.iconst 1, 1) := by decide +kernel
theorem dX3_end_1 : decode cX3_end 1 = .ok (.iconst 2, 1) := by decide +kernel
theorem dX3_end_2 : decode cX3_end 2 = .ok (.iload_n 1, 1) := by decide +kernel
theorem dX3_end_3 : decode cX3_end 3 = .ok (.imul, 1) := by decide +kernel
theorem dX3_end_4 : decode cX3_end 4 = .ok (.ishl, 1) := by decide +kernel
theorem dX3_end_5 : decode cX3_end 5 = .ok (.istore_n 2, 1) := by decide +kernel
theorem dX3_end_6 : decode cX3_end 6 = .ok (.iload_n 2, 1) := by decide +kernel
theorem dX3_end_7 : decode cX3_end 7 = .ok (.iload_n 0, 1) := by decide +kernel
theorem dX3_end_8 : decode cX3_end 8 = .ok (.iload_n 2, 1) := by decide +kernel
theorem dX3_end_9 : decode cX3_end 9 = .ok (.iconst 1, 1) := by decide +kernel
theorem dX3_end_10 : decode cX3_end 10 = .ok (.isub, 1) := by decide +kernel
theorem dX3_end_11 : decode cX3_end 11 = .ok (.iand, 1) := by decide +kernel
theorem dX3_end_12 : decode cX3_end 12 = .ok (.ior, 1) := by decide +kernel
theorem dX3_end_13 : decode cX3_end 13 = .ok (.ireturn, 1) := by decide +kernel
set_option maxRecDepth 20000 in
theorem ggX4_init_X2_init : GoodIn wsX4_init wsX2_init := goodIn_r _ [10, 11, 2, 3, 12, 13, 14, 15, 16, 17, 18, 22, 23, 24, 25, 26, 27, 28, 29, 30, 31] (by decide +kernel) (by decide +kernel)
set_option maxRecDepth 20000 in
theorem gX4_init_X2_init : GoodIn wsX4_init (wsX2_init) := ggX4_init_X2_init
theorem dX4_init_0 : decode cX4_init 0 = .ok (.aload_n 0, 1) := by decide +kernel
theorem dX4_init_1 : decode cX4_init 1 = .ok (.invokespecial 3, 3) := by decide +kernel
theorem dX4_init_4 : decode cX4_init 4 = .ok (.aload_n 0, 1) := by decide +kernel
theorem dX4_init_5 : decode cX4_init 5 = .ok (.bipush 6, 2) := by decide +kernel
theorem dX4_init_7 : decode cX4_init 7 = .ok (.anewarray 9, 3) := by decide +kernel
theorem dX4_init_10 : decode cX4_init 10 = .ok (.putfield 11, 3) := by decide +kernel
theorem dX4_init_13 : decode cX4_init 13 = .ok (.iconst 0, 1) := by decide +kernel
theorem dX4_init_14 : decode cX4_init 14 = .ok (.istore_n 1, 1) := by decide +kernel
theorem dX4_init_15 : decode cX4_init 15 = .ok (.iload_n 1, 1) := by decide +kernel
theorem dX4_init_16 : decode cX4_init 16 = .ok (.bipush 6, 2) := by decide +kernel
theorem dX4_init_18 : decode cX4_init 18 = .ok (.if_icmp .ge 22, 3) := by decide +kernel
theorem dX4_init_21 : decode cX4_init 21 = .ok (.aload_n 0, 1) := by decide +kernel
theorem dX4_init_22 : decode cX4_init 22 = .ok (.getfield 11, 3) := by decide +kernel
theorem dX4_init_25 : decode cX4_init 25 = .ok (.iload_n 1, 1) := by decide +kernel
theorem dX4_init_26 : decode cX4_init 26 = .ok (.new 9, 3) := by decide +kernel
theorem dX4_init_29 : decode cX4_init 29 = .ok (.dup, 1) := by decide +kernel
theorem dX4_init_30 : decode cX4_init 30 = .ok (.invokespecial 17, 3) := by decide +kernel
theorem dX4_init_33 : decode cX4_init 33 = .ok (.aastore, 1) := by decide +kernel
theorem dX4_init_34 : decode cX4_init 34 = .ok (.iinc 1 1, 3) := by decide +kernel
theorem dX4_init_37 : decode cX4_init 37 = .ok (.goto (-22), 3) := by decide +kernel
theorem dX4_init_40 : decode cX4_init 40 = .ok (.return_, 1) := by decide +kernel
set_option maxRecDepth 20000 in
theorem ggX4_keep_X4_memoryAt : GoodIn wsX4_keep wsX4_memoryAt := goodIn_r _ [7, 2, 8, 29, 30, 31] (by decide +kernel) (by decide +kernel)
set_option maxRecDepth 20000 in
theorem gX4_keep_X4_memoryAt : GoodIn wsX4_keep (wsV RX4 25 RX4 yX4_memoryAt wsX4_memoryAt) := goodIn_app (goodIn_of _ (by decide +kernel)) ggX4_keep_X4_memoryAt
set_option maxRecDepth 20000 in
theorem ggX4_keep_X2_copy : GoodIn wsX4_keep wsX2_copy := goodIn_r _ [13, 14, 15, 16, 17, 18, 19, 20, 21, 22, 23, 24, 25, 26, 27, 28, 32, 33, 34, 35, 36, 37, 38, 39, 40, 41] (by decide +kernel) (by decide +kernel)
set_option maxRecDepth 20000 in
theorem gX4_keep_X2_copy : GoodIn wsX4_keep (wsV RX4 29 RX2 yX2_copy wsX2_copy) := goodIn_app (goodIn_of _ (by decide +kernel)) ggX4_keep_X2_copy
theorem dX4_keep_0 : decode cX4_keep 0 = .ok (.aload_n 0, 1) := by decide +kernel
theorem dX4_keep_1 : decode cX4_keep 1 = .ok (.getfield 18, 3) := by decide +kernel
theorem dX4_keep_4 : decode cX4_keep 4 = .ok (.bipush 6, 2) := by decide +kernel
theorem dX4_keep_6 : decode cX4_keep 6 = .ok (.if_icmp .ne 26, 3) := by decide +kernel
theorem dX4_keep_9 : decode cX4_keep 9 = .ok (.aload_n 0, 1) := by decide +kernel
theorem dX4_keep_10 : decode cX4_keep 10 = .ok (.aload_n 0, 1) := by decide +kernel
theorem dX4_keep_11 : decode cX4_keep 11 = .ok (.getfield 22, 3) := by decide +kernel
theorem dX4_keep_14 : decode cX4_keep 14 = .ok (.iconst 1, 1) := by decide +kernel
theorem dX4_keep_15 : decode cX4_keep 15 = .ok (.iadd, 1) := by decide +kernel
theorem dX4_keep_16 : decode cX4_keep 16 = .ok (.bipush 6, 2) := by decide +kernel
theorem dX4_keep_18 : decode cX4_keep 18 = .ok (.irem, 1) := by decide +kernel
theorem dX4_keep_19 : decode cX4_keep 19 = .ok (.putfield 22, 3) := by decide +kernel
theorem dX4_keep_22 : decode cX4_keep 22 = .ok (.aload_n 0, 1) := by decide +kernel
theorem dX4_keep_23 : decode cX4_keep 23 = .ok (.dup, 1) := by decide +kernel
theorem dX4_keep_24 : decode cX4_keep 24 = .ok (.getfield 18, 3) := by decide +kernel
theorem dX4_keep_27 : decode cX4_keep 27 = .ok (.iconst 1, 1) := by decide +kernel
theorem dX4_keep_28 : decode cX4_keep 28 = .ok (.isub, 1) := by decide +kernel
theorem dX4_keep_29 : decode cX4_keep 29 = .ok (.putfield 18, 3) := by decide +kernel
theorem dX4_keep_32 : decode cX4_keep 32 = .ok (.aload_n 0, 1) := by decide +kernel
theorem dX4_keep_33 : decode cX4_keep 33 = .ok (.aload_n 0, 1) := by decide +kernel
theorem dX4_keep_34 : decode cX4_keep 34 = .ok (.getfield 18, 3) := by decide +kernel
theorem dX4_keep_37 : decode cX4_keep 37 = .ok (.invokevirtual 25, 3) := by decide +kernel
theorem dX4_keep_40 : decode cX4_keep 40 = .ok (.astore_n 2, 1) := by decide +kernel
theorem dX4_keep_41 : decode cX4_keep 41 = .ok (.aload_n 2, 1) := by decide +kernel
theorem dX4_keep_42 : decode cX4_keep 42 = .ok (.ifnull 18, 3) := by decide +kernel
theorem dX4_keep_45 : decode cX4_keep 45 = .ok (.aload_n 2, 1) := by decide +kernel
theorem dX4_keep_46 : decode cX4_keep 46 = .ok (.aload_n 1, 1) := by decide +kernel
theorem dX4_keep_47 : decode cX4_keep 47 = .ok (.invokevirtual 29, 3) := by decide +kernel
theorem dX4_keep_50 : decode cX4_keep 50 = .ok (.aload_n 0, 1) := by decide +kernel
theorem dX4_keep_51 : decode cX4_keep 51 = .ok (.dup, 1) := by decide +kernel
theorem dX4_keep_52 : decode cX4_keep 52 = .ok (.getfield 18, 3) := by decide +kernel
theorem dX4_keep_55 : decode cX4_keep 55 = .ok (.iconst 1, 1) := by decide +kernel
theorem dX4_keep_56 : decode cX4_keep 56 = .ok (.iadd, 1) := by decide +kernel
theorem dX4_keep_57 : decode cX4_keep 57 = .ok (.putfield 18, 3) := by decide +kernel
theorem dX4_keep_60 : decode cX4_keep 60 = .ok (.return_, 1) := by decide +kernel
set_option maxRecDepth 20000 in
theorem ggX4_giveBack_X4_memoryAt : GoodIn wsX4_giveBack wsX4_memoryAt := goodIn_r _ [6, 7, 8, 29, 30, 31] (by decide +kernel) (by decide +kernel)
set_option maxRecDepth 20000 in
theorem gX4_giveBack_X4_memoryAt : GoodIn wsX4_giveBack (wsV RX4 25 RX4 yX4_memoryAt wsX4_memoryAt) := goodIn_app (goodIn_of _ (by decide +kernel)) ggX4_giveBack_X4_memoryAt
set_option maxRecDepth 20000 in
theorem ggX4_giveBack_X2_copy : GoodIn wsX4_giveBack wsX2_copy := goodIn_r _ [13, 14, 15, 16, 17, 18, 19, 20, 21, 22, 23, 24, 25, 26, 27, 28, 32, 33, 34, 35, 36, 37, 38, 39, 40, 41] (by decide +kernel) (by decide +kernel)
set_option maxRecDepth 20000 in
theorem gX4_giveBack_X2_copy : GoodIn wsX4_giveBack (wsV RX4 29 RX2 yX2_copy wsX2_copy) := goodIn_app (goodIn_of _ (by decide +kernel)) ggX4_giveBack_X2_copy
theorem dX4_giveBack_0 : decode cX4_giveBack 0 = .ok (.aload_n 0, 1) := by decide +kernel
theorem dX4_giveBack_1 : decode cX4_giveBack 1 = .ok (.aload_n 0, 1) := by decide +kernel
theorem dX4_giveBack_2 : decode cX4_giveBack 2 = .ok (.getfield 18, 3) := by decide +kernel
theorem dX4_giveBack_5 : decode cX4_giveBack 5 = .ok (.iconst 1, 1) := by decide +kernel
theorem dX4_giveBack_6 : decode cX4_giveBack 6 = .ok (.isub, 1) := by decide +kernel
theorem dX4_giveBack_7 : decode cX4_giveBack 7 = .ok (.invokevirtual 25, 3) := by decide +kernel
theorem dX4_giveBack_10 : decode cX4_giveBack 10 = .ok (.astore_n 2, 1) := by decide +kernel
theorem dX4_giveBack_11 : decode cX4_giveBack 11 = .ok (.aload_n 2, 1) := by decide +kernel
theorem dX4_giveBack_12 : decode cX4_giveBack 12 = .ok (.ifnull 18, 3) := by decide +kernel
theorem dX4_giveBack_15 : decode cX4_giveBack 15 = .ok (.aload_n 1, 1) := by decide +kernel
theorem dX4_giveBack_16 : decode cX4_giveBack 16 = .ok (.aload_n 2, 1) := by decide +kernel
theorem dX4_giveBack_17 : decode cX4_giveBack 17 = .ok (.invokevirtual 29, 3) := by decide +kernel
theorem dX4_giveBack_20 : decode cX4_giveBack 20 = .ok (.aload_n 0, 1) := by decide +kernel
theorem dX4_giveBack_21 : decode cX4_giveBack 21 = .ok (.dup, 1) := by decide +kernel
theorem dX4_giveBack_22 : decode cX4_giveBack 22 = .ok (.getfield 18, 3) := by decide +kernel
theorem dX4_giveBack_25 : decode cX4_giveBack 25 = .ok (.iconst 1, 1) := by decide +kernel
theorem dX4_giveBack_26 : decode cX4_giveBack 26 = .ok (.isub, 1) := by decide +kernel
theorem dX4_giveBack_27 : decode cX4_giveBack 27 = .ok (.putfield 18, 3) := by decide +kernel
theorem dX4_giveBack_30 : decode cX4_giveBack 30 = .ok (.return_, 1) := by decide +kernel
theorem dX4_memoryAt_0 : decode cX4_memoryAt 0 = .ok (.aload_n 0, 1) := by decide +kernel
theorem dX4_memoryAt_1 : decode cX4_memoryAt 1 = .ok (.getfield 22, 3) := by decide +kernel
theorem dX4_memoryAt_4 : decode cX4_memoryAt 4 = .ok (.iload_n 1, 1) := by decide +kernel
theorem dX4_memoryAt_5 : decode cX4_memoryAt 5 = .ok (.iadd, 1) := by decide +kernel
theorem dX4_memoryAt_6 : decode cX4_memoryAt 6 = .ok (.bipush 6, 2) := by decide +kernel
theorem dX4_memoryAt_8 : decode cX4_memoryAt 8 = .ok (.irem, 1) := by decide +kernel
theorem dX4_memoryAt_9 : decode cX4_memoryAt 9 = .ok (.istore_n 2, 1) := by decide +kernel
theorem dX4_memoryAt_10 : decode cX4_memoryAt 10 = .ok (.iload_n 2, 1) := by decide +kernel
theorem dX4_memoryAt_11 : decode cX4_memoryAt 11 = .ok (.ifCond .lt 21, 3) := by decide +kernel
theorem dX4_memoryAt_14 : decode cX4_memoryAt 14 = .ok (.iload_n 2, 1) := by decide +kernel
theorem dX4_memoryAt_15 : decode cX4_memoryAt 15 = .ok (.aload_n 0, 1) := by decide +kernel
theorem dX4_memoryAt_16 : decode cX4_memoryAt 16 = .ok (.getfield 11, 3) := by decide +kernel
theorem dX4_memoryAt_19 : decode cX4_memoryAt 19 = .ok (.arraylength, 1) := by decide +kernel
theorem dX4_memoryAt_20 : decode cX4_memoryAt 20 = .ok (.if_icmp .ge 12, 3) := by decide +kernel
theorem dX4_memoryAt_23 : decode cX4_memoryAt 23 = .ok (.aload_n 0, 1) := by decide +kernel
theorem dX4_memoryAt_24 : decode cX4_memoryAt 24 = .ok (.getfield 11, 3) := by decide +kernel
theorem dX4_memoryAt_27 : decode cX4_memoryAt 27 = .ok (.iload_n 2, 1) := by decide +kernel
theorem dX4_memoryAt_28 : decode cX4_memoryAt 28 = .ok (.aaload, 1) := by decide +kernel
theorem dX4_memoryAt_29 : decode cX4_memoryAt 29 = .ok (.goto 4, 3) := by decide +kernel
theorem dX4_memoryAt_32 : decode cX4_memoryAt 32 = .ok (.aconst_null, 1) := by decide +kernel
theorem dX4_memoryAt_33 : decode cX4_memoryAt 33 = .ok (.areturn, 1) := by decide +kernel
set_option maxRecDepth 20000 in
theorem ggX5_init_X2_init : GoodIn wsX5_init wsX2_init := goodIn_r _ [24, 25, 2, 3, 20, 26, 27, 28, 29, 30, 31, 56, 57, 58, 59, 60, 61, 62, 63, 64, 65] (by decide +kernel) (by decide +kernel)
set_option maxRecDepth 20000 in
theorem gX5_init_X2_init : GoodIn wsX5_init (wsX2_init) := ggX5_init_X2_init
set_option maxRecDepth 20000 in
theorem ggX5_init_X4_init : GoodIn wsX5_init wsX4_init := goodIn_r _ [34, 35, 2, 3, 36, 37, 5, 6, 38, 23, 24, 25, 20, 26, 27, 28, 29, 30, 31, 71, 72, 73, 56, 57, 58, 59, 60, 61, 62, 63, 64, 65] (by decide +kernel) (by decide +kernel)
set_option maxRecDepth 20000 in
theorem gX5_init_X4_init : GoodIn wsX5_init (wsX4_init) := ggX5_init_X4_init
set_option maxRecDepth 20000 in
theorem ggX5_init_X1_init : GoodIn wsX5_init wsX1_init := goodIn_r _ [41, 42, 2, 3, 20, 43, 44, 45, 46, 47, 48, 49, 50, 74, 75, 76, 77, 78] (by decide +kernel) (by decide +kernel)
set_option maxRecDepth 20000 in
theorem gX5_init_X1_init : GoodIn wsX5_init (wsX1_init) := ggX5_init_X1_init
set_option maxRecDepth 20000 in
theorem ggX5_init_X0_init : GoodIn wsX5_init wsX0_init := goodIn_r _ [53, 54, 2, 3, 20, 55, 79, 80] (by decide +kernel) (by decide +kernel)
set_option maxRecDepth 20000 in
theorem gX5_init_X0_init : GoodIn wsX5_init (wsX0_init) := ggX5_init_X0_init
theorem dX5_init_0 : decode cX5_init 0 = .ok (.aload_n 0, 1) := by decide +kernel
theorem dX5_init_1 : decode cX5_init 1 = .ok (.invokespecial 3, 3) := by decide +kernel
theorem dX5_init_4 : decode cX5_init 4 = .ok (.aload_n 0, 1) := by decide +kernel
theorem dX5_init_5 : decode cX5_init 5 = .ok (.new 9, 3) := by decide +kernel
theorem dX5_init_8 : decode cX5_init 8 = .ok (.dup, 1) := by decide +kernel
theorem dX5_init_9 : decode cX5_init 9 = .ok (.invokespecial 11, 3) := by decide +kernel
theorem dX5_init_12 : decode cX5_init 12 = .ok (.putfield 12, 3) := by decide +kernel
theorem dX5_init_15 : decode cX5_init 15 = .ok (.aload_n 0, 1) := by decide +kernel
theorem dX5_init_16 : decode cX5_init 16 = .ok (.new 16, 3) := by decide +kernel
theorem dX5_init_19 : decode cX5_init 19 = .ok (.dup, 1) := by decide +kernel
theorem dX5_init_20 : decode cX5_init 20 = .ok (.invokespecial 18, 3) := by decide +kernel
theorem dX5_init_23 : decode cX5_init 23 = .ok (.putfield 19, 3) := by decide +kernel
theorem dX5_init_26 : decode cX5_init 26 = .ok (.aload_n 0, 1) := by decide +kernel
theorem dX5_init_27 : decode cX5_init 27 = .ok (.new 23, 3) := by decide +kernel
theorem dX5_init_30 : decode cX5_init 30 = .ok (.dup, 1) := by decide +kernel
theorem dX5_init_31 : decode cX5_init 31 = .ok (.invokespecial 25, 3) := by decide +kernel
theorem dX5_init_34 : decode cX5_init 34 = .ok (.putfield 26, 3) := by decide +kernel
theorem dX5_init_37 : decode cX5_init 37 = .ok (.aload_n 0, 1) := by decide +kernel
theorem dX5_init_38 : decode cX5_init 38 = .ok (.new 30, 3) := by decide +kernel
theorem dX5_init_41 : decode cX5_init 41 = .ok (.dup, 1) := by decide +kernel
theorem dX5_init_42 : decode cX5_init 42 = .ok (.invokespecial 32, 3) := by decide +kernel
theorem dX5_init_45 : decode cX5_init 45 = .ok (.putfield 33, 3) := by decide +kernel
theorem dX5_init_48 : decode cX5_init 48 = .ok (.aload_n 0, 1) := by decide +kernel
theorem dX5_init_49 : decode cX5_init 49 = .ok (.bipush 8, 2) := by decide +kernel
theorem dX5_init_51 : decode cX5_init 51 = .ok (.newarray .int, 2) := by decide +kernel
theorem dX5_init_53 : decode cX5_init 53 = .ok (.putfield 37, 3) := by decide +kernel
theorem dX5_init_56 : decode cX5_init 56 = .ok (.return_, 1) := by decide +kernel
set_option maxRecDepth 20000 in
theorem ggX5_add_X0_holdsPatterns : GoodIn wsX5_add wsX0_holdsPatterns := goodIn_r _ [15, 16, 17, 18, 19, 14, 20, 21, 22, 23, 24, 25, 26, 27, 28, 29, 30, 31, 141, 142] (by decide +kernel) (by decide +kernel)
set_option maxRecDepth 20000 in
theorem gX5_add_X0_holdsPatterns : GoodIn wsX5_add (wsV RX5 41 RX0 yX0_holdsPatterns wsX0_holdsPatterns) := goodIn_app (goodIn_of _ (by decide +kernel)) ggX5_add_X0_holdsPatterns
set_option maxRecDepth 20000 in
theorem ggX5_add_X5_draftPatterns : GoodIn wsX5_add wsX5_draftPatterns := goodIn_r _ [35, 9, 5, 36, 37, 38, 39, 40, 23, 41, 7, 8, 42, 22, 24, 43, 44, 45, 46, 47, 48, 49, 50, 29, 30, 14, 31, 21, 16, 51, 52, 53, 54, 126, 127, 128, 129, 130, 141, 142, 131, 132, 133, 134, 135, 136, 137, 138, 139, 140] (by decide +kernel) (by decide +kernel)
set_option maxRecDepth 20000 in
theorem gX5_add_X5_draftPatterns : GoodIn wsX5_add (wsV RX5 52 RX5 yX5_draftPatterns wsX5_draftPatterns) := goodIn_app (goodIn_of _ (by decide +kernel)) ggX5_add_X5_draftPatterns
set_option maxRecDepth 20000 in
theorem ggX5_add_X4_keep : GoodIn wsX5_add wsX4_keep := goodIn_r _ [59, 60, 61, 62, 63, 64, 58, 65, 66, 67, 68, 69, 70, 71, 72, 73, 74, 75, 76, 77, 78, 79, 80, 81, 22, 23, 24, 44, 45, 143, 144, 145, 131, 132, 133, 134, 135, 136, 137, 138, 139, 140] (by decide +kernel) (by decide +kernel)
set_option maxRecDepth 20000 in
theorem gX5_add_X4_keep : GoodIn wsX5_add (wsV RX5 61 RX4 yX4_keep wsX4_keep) := goodIn_app (goodIn_of _ (by decide +kernel)) ggX5_add_X4_keep
set_option maxRecDepth 20000 in
theorem ggX5_add_X5_at : GoodIn wsX5_add wsX5_at := goodIn_r _ [24] (by decide +kernel) (by decide +kernel)
set_option maxRecDepth 20000 in
theorem gX5_add_X5_at : GoodIn wsX5_add (va_wsS RX5 68 yX5_at wsX5_at) := goodIn_app (goodIn_of _ (by decide +kernel)) ggX5_add_X5_at
set_option maxRecDepth 20000 in
theorem ggX5_add_X5_put : GoodIn wsX5_add wsX5_put := goodIn_r _ [45] (by decide +kernel) (by decide +kernel)
set_option maxRecDepth 20000 in
theorem gX5_add_X5_put : GoodIn wsX5_add (va_wsS RX5 72 yX5_put wsX5_put) := goodIn_app (goodIn_of _ (by decide +kernel)) ggX5_add_X5_put
set_option maxRecDepth 20000 in
theorem ggX5_add_X0_empty : GoodIn wsX5_add wsX0_empty := goodIn_r _ [85, 16, 141, 142] (by decide +kernel) (by decide +kernel)
set_option maxRecDepth 20000 in
theorem gX5_add_X0_empty : GoodIn wsX5_add (wsV RX5 76 RX0 yX0_empty wsX0_empty) := goodIn_app (goodIn_of _ (by decide +kernel)) ggX5_add_X0_empty
set_option maxRecDepth 20000 in
theorem ggX5_add_X1_rebuild : GoodIn wsX5_add wsX1_rebuild := goodIn_r _ [90, 91, 92, 93, 94, 95, 89, 96, 97, 22, 23, 24, 44, 45, 98, 99, 48, 100, 101, 102, 103, 104, 105, 106, 107, 108, 109, 110, 111, 112, 113, 114, 115, 116, 117, 118, 119, 120, 121, 122, 123, 124, 125, 146, 147, 148, 149, 150] (by decide +kernel) (by decide +kernel)
set_option maxRecDepth 20000 in
theorem gX5_add_X1_rebuild : GoodIn wsX5_add (wsV RX5 79 RX1 yX1_rebuild wsX1_rebuild) := goodIn_app (goodIn_of _ (by decide +kernel)) ggX5_add_X1_rebuild
theorem dX5_add_0 : decode cX5_add 0 = .ok (.aload_n 0, 1) := by decide +kernel
theorem dX5_add_1 : decode cX5_add 1 = .ok (.getfield 33, 3) := by decide +kernel
theorem dX5_add_4 : decode cX5_add 4 = .ok (.invokevirtual 41, 3) := by decide +kernel
theorem dX5_add_7 : decode cX5_add 7 = .ok (.ifCond .ne 13, 3) := by decide +kernel
theorem dX5_add_10 : decode cX5_add 10 = .ok (.new 45, 3) := by decide +kernel
theorem dX5_add_13 : decode cX5_add 13 = .ok (.dup, 1) := by decide +kernel
theorem dX5_add_14 : decode cX5_add 14 = .ok (.ldc 47, 2) := by decide +kernel
theorem dX5_add_16 : decode cX5_add 16 = .ok (.invokespecial 49, 3) := by decide +kernel
theorem dX5_add_19 : decode cX5_add 19 = .ok (.athrow, 1) := by decide +kernel
theorem dX5_add_20 : decode cX5_add 20 = .ok (.aload_n 0, 1) := by decide +kernel
theorem dX5_add_21 : decode cX5_add 21 = .ok (.invokevirtual 52, 3) := by decide +kernel
theorem dX5_add_24 : decode cX5_add 24 = .ok (.istore_n 1, 1) := by decide +kernel
theorem dX5_add_25 : decode cX5_add 25 = .ok (.iload_n 1, 1) := by decide +kernel
theorem dX5_add_26 : decode cX5_add 26 = .ok (.iconst (-1), 1) := by decide +kernel
theorem dX5_add_27 : decode cX5_add 27 = .ok (.if_icmp .ne 13, 3) := by decide +kernel
theorem dX5_add_30 : decode cX5_add 30 = .ok (.new 56, 3) := by decide +kernel
theorem dX5_add_33 : decode cX5_add 33 = .ok (.dup, 1) := by decide +kernel
theorem dX5_add_34 : decode cX5_add 34 = .ok (.ldc 58, 2) := by decide +kernel
theorem dX5_add_36 : decode cX5_add 36 = .ok (.invokespecial 60, 3) := by decide +kernel
theorem dX5_add_39 : decode cX5_add 39 = .ok (.athrow, 1) := by decide +kernel
theorem dX5_add_40 : decode cX5_add 40 = .ok (.aload_n 0, 1) := by decide +kernel
theorem dX5_add_41 : decode cX5_add 41 = .ok (.getfield 19, 3) := by decide +kernel
theorem dX5_add_44 : decode cX5_add 44 = .ok (.aload_n 0, 1) := by decide +kernel
theorem dX5_add_45 : decode cX5_add 45 = .ok (.getfield 12, 3) := by decide +kernel
theorem dX5_add_48 : decode cX5_add 48 = .ok (.invokevirtual 61, 3) := by decide +kernel
theorem dX5_add_51 : decode cX5_add 51 = .ok (.iconst 0, 1) := by decide +kernel
theorem dX5_add_52 : decode cX5_add 52 = .ok (.istore_n 2, 1) := by decide +kernel
theorem dX5_add_53 : decode cX5_add 53 = .ok (.iload_n 2, 1) := by decide +kernel
theorem dX5_add_54 : decode cX5_add 54 = .ok (.bipush 8, 2) := by decide +kernel
theorem dX5_add_56 : decode cX5_add 56 = .ok (.if_icmp .ge 28, 3) := by decide +kernel
theorem dX5_add_59 : decode cX5_add 59 = .ok (.aload_n 0, 1) := by decide +kernel
theorem dX5_add_60 : decode cX5_add 60 = .ok (.getfield 12, 3) := by decide +kernel
theorem dX5_add_63 : decode cX5_add 63 = .ok (.getfield 65, 3) := by decide +kernel
theorem dX5_add_66 : decode cX5_add 66 = .ok (.iload_n 2, 1) := by decide +kernel
theorem dX5_add_67 : decode cX5_add 67 = .ok (.aload_n 0, 1) := by decide +kernel
theorem dX5_add_68 : decode cX5_add 68 = .ok (.getfield 37, 3) := by decide +kernel
theorem dX5_add_71 : decode cX5_add 71 = .ok (.iload_n 2, 1) := by decide +kernel
theorem dX5_add_72 : decode cX5_add 72 = .ok (.invokestatic 68, 3) := by decide +kernel
theorem dX5_add_75 : decode cX5_add 75 = .ok (.invokestatic 72, 3) := by decide +kernel
theorem dX5_add_78 : decode cX5_add 78 = .ok (.iinc 2 1, 3) := by decide +kernel
theorem dX5_add_81 : decode cX5_add 81 = .ok (.goto (-28), 3) := by decide +kernel
theorem dX5_add_84 : decode cX5_add 84 = .ok (.aload_n 0, 1) := by decide +kernel
theorem dX5_add_85 : decode cX5_add 85 = .ok (.getfield 33, 3) := by decide +kernel
theorem dX5_add_88 : decode cX5_add 88 = .ok (.invokevirtual 76, 3) := by decide +kernel
theorem dX5_add_91 : decode cX5_add 91 = .ok (.aload_n 0, 1) := by decide +kernel
theorem dX5_add_92 : decode cX5_add 92 = .ok (.getfield 26, 3) := by decide +kernel
theorem dX5_add_95 : decode cX5_add 95 = .ok (.aload_n 0, 1) := by decide +kernel
theorem dX5_add_96 : decode cX5_add 96 = .ok (.getfield 12, 3) := by decide +kernel
theorem dX5_add_99 : decode cX5_add 99 = .ok (.getfield 65, 3) := by decide +kernel
theorem dX5_add_102 : decode cX5_add 102 = .ok (.invokevirtual 79, 3) := by decide +kernel
theorem dX5_add_105 : decode cX5_add 105 = .ok (.iload_n 1, 1) := by decide +kernel
theorem dX5_add_106 : decode cX5_add 106 = .ok (.ireturn, 1) := by decide +kernel
set_option maxRecDepth 20000 in
theorem ggX5_remove_X5_isSlot : GoodIn wsX5_remove wsX5_isSlot := goodIn_r _ [13] (by decide +kernel) (by decide +kernel)
set_option maxRecDepth 20000 in
theorem gX5_remove_X5_isSlot : GoodIn wsX5_remove (va_wsS RX5 83 yX5_isSlot wsX5_isSlot) := goodIn_app (goodIn_of _ (by decide +kernel)) ggX5_remove_X5_isSlot
set_option maxRecDepth 20000 in
theorem ggX5_remove_X5_patternIn : GoodIn wsX5_remove wsX5_patternIn := goodIn_r _ [17, 6, 8, 18, 19, 12, 20, 96, 97, 98, 99, 100, 101, 102, 103, 104, 105, 106, 107, 108, 109, 110] (by decide +kernel) (by decide +kernel)
set_option maxRecDepth 20000 in
theorem gX5_remove_X5_patternIn : GoodIn wsX5_remove (wsV RX5 92 RX5 yX5_patternIn wsX5_patternIn) := goodIn_app (goodIn_of _ (by decide +kernel)) ggX5_remove_X5_patternIn
set_option maxRecDepth 20000 in
theorem ggX5_remove_X4_keep : GoodIn wsX5_remove wsX4_keep := goodIn_r _ [25, 26, 27, 28, 29, 30, 24, 31, 32, 33, 34, 35, 36, 37, 38, 39, 40, 41, 42, 43, 44, 45, 46, 47, 19, 12, 20, 48, 49, 111, 112, 113, 101, 102, 103, 104, 105, 106, 107, 108, 109, 110] (by decide +kernel) (by decide +kernel)
set_option maxRecDepth 20000 in
theorem gX5_remove_X4_keep : GoodIn wsX5_remove (wsV RX5 61 RX4 yX4_keep wsX4_keep) := goodIn_app (goodIn_of _ (by decide +kernel)) ggX5_remove_X4_keep
set_option maxRecDepth 20000 in
theorem ggX5_remove_X5_at : GoodIn wsX5_remove wsX5_at := goodIn_r _ [20] (by decide +kernel) (by decide +kernel)
set_option maxRecDepth 20000 in
theorem gX5_remove_X5_at : GoodIn wsX5_remove (va_wsS RX5 68 yX5_at wsX5_at) := goodIn_app (goodIn_of _ (by decide +kernel)) ggX5_remove_X5_at
set_option maxRecDepth 20000 in
theorem ggX5_remove_X5_put : GoodIn wsX5_remove wsX5_put := goodIn_r _ [49] (by decide +kernel) (by decide +kernel)
set_option maxRecDepth 20000 in
theorem gX5_remove_X5_put : GoodIn wsX5_remove (va_wsS RX5 72 yX5_put wsX5_put) := goodIn_app (goodIn_of _ (by decide +kernel)) ggX5_remove_X5_put
set_option maxRecDepth 20000 in
theorem ggX5_remove_X2_forgetMatchesOf : GoodIn wsX5_remove wsX2_forgetMatchesOf := goodIn_r _ [54, 39, 40, 48, 12, 49, 101, 102, 103, 104, 105, 106, 107, 108, 109, 110] (by decide +kernel) (by decide +kernel)
set_option maxRecDepth 20000 in
theorem gX5_remove_X2_forgetMatchesOf : GoodIn wsX5_remove (wsV RX5 101 RX2 yX2_forgetMatchesOf wsX2_forgetMatchesOf) := goodIn_app (goodIn_of _ (by decide +kernel)) ggX5_remove_X2_forgetMatchesOf
set_option maxRecDepth 20000 in
theorem ggX5_remove_X1_rebuild : GoodIn wsX5_remove wsX1_rebuild := goodIn_r _ [59, 60, 61, 62, 63, 64, 58, 65, 66, 19, 12, 20, 48, 49, 67, 68, 69, 70, 71, 72, 73, 74, 75, 76, 77, 78, 79, 80, 81, 82, 83, 84, 85, 86, 87, 88, 89, 90, 91, 92, 93, 94, 95, 114, 115, 116, 117, 118] (by decide +kernel) (by decide +kernel)
set_option maxRecDepth 20000 in
theorem gX5_remove_X1_rebuild : GoodIn wsX5_remove (wsV RX5 79 RX1 yX1_rebuild wsX1_rebuild) := goodIn_app (goodIn_of _ (by decide +kernel)) ggX5_remove_X1_rebuild
theorem dX5_remove_0 : decode cX5_remove 0 = .ok (.iload_n 1, 1) := by decide +kernel
theorem dX5_remove_1 : decode cX5_remove 1 = .ok (.invokestatic 83, 3) := by decide +kernel
theorem dX5_remove_4 : decode cX5_remove 4 = .ok (.ifCond .ne 13, 3) := by decide +kernel
theorem dX5_remove_7 : decode cX5_remove 7 = .ok (.new 87, 3) := by decide +kernel
theorem dX5_remove_10 : decode cX5_remove 10 = .ok (.dup, 1) := by decide +kernel
theorem dX5_remove_11 : decode cX5_remove 11 = .ok (.ldc 89, 2) := by decide +kernel
theorem dX5_remove_13 : decode cX5_remove 13 = .ok (.invokespecial 91, 3) := by decide +kernel
theorem dX5_remove_16 : decode cX5_remove 16 = .ok (.athrow, 1) := by decide +kernel
theorem dX5_remove_17 : decode cX5_remove 17 = .ok (.aload_n 0, 1) := by decide +kernel
theorem dX5_remove_18 : decode cX5_remove 18 = .ok (.iload_n 1, 1) := by decide +kernel
theorem dX5_remove_19 : decode cX5_remove 19 = .ok (.invokevirtual 92, 3) := by decide +kernel
theorem dX5_remove_22 : decode cX5_remove 22 = .ok (.ifCond .ne 13, 3) := by decide +kernel
theorem dX5_remove_25 : decode cX5_remove 25 = .ok (.new 56, 3) := by decide +kernel
theorem dX5_remove_28 : decode cX5_remove 28 = .ok (.dup, 1) := by decide +kernel
theorem dX5_remove_29 : decode cX5_remove 29 = .ok (.ldc 96, 2) := by decide +kernel
theorem dX5_remove_31 : decode cX5_remove 31 = .ok (.invokespecial 60, 3) := by decide +kernel
theorem dX5_remove_34 : decode cX5_remove 34 = .ok (.athrow, 1) := by decide +kernel
theorem dX5_remove_35 : decode cX5_remove 35 = .ok (.aload_n 0, 1) := by decide +kernel
theorem dX5_remove_36 : decode cX5_remove 36 = .ok (.getfield 19, 3) := by decide +kernel
theorem dX5_remove_39 : decode cX5_remove 39 = .ok (.aload_n 0, 1) := by decide +kernel
theorem dX5_remove_40 : decode cX5_remove 40 = .ok (.getfield 12, 3) := by decide +kernel
theorem dX5_remove_43 : decode cX5_remove 43 = .ok (.invokevirtual 61, 3) := by decide +kernel
theorem dX5_remove_46 : decode cX5_remove 46 = .ok (.aload_n 0, 1) := by decide +kernel
theorem dX5_remove_47 : decode cX5_remove 47 = .ok (.getfield 12, 3) := by decide +kernel
theorem dX5_remove_50 : decode cX5_remove 50 = .ok (.getfield 98, 3) := by decide +kernel
theorem dX5_remove_53 : decode cX5_remove 53 = .ok (.iload_n 1, 1) := by decide +kernel
theorem dX5_remove_54 : decode cX5_remove 54 = .ok (.invokestatic 68, 3) := by decide +kernel
theorem dX5_remove_57 : decode cX5_remove 57 = .ok (.istore_n 2, 1) := by decide +kernel
theorem dX5_remove_58 : decode cX5_remove 58 = .ok (.aload_n 0, 1) := by decide +kernel
theorem dX5_remove_59 : decode cX5_remove 59 = .ok (.getfield 12, 3) := by decide +kernel
theorem dX5_remove_62 : decode cX5_remove 62 = .ok (.getfield 65, 3) := by decide +kernel
theorem dX5_remove_65 : decode cX5_remove 65 = .ok (.iload_n 1, 1) := by decide +kernel
theorem dX5_remove_66 : decode cX5_remove 66 = .ok (.iconst 0, 1) := by decide +kernel
theorem dX5_remove_67 : decode cX5_remove 67 = .ok (.invokestatic 72, 3) := by decide +kernel
theorem dX5_remove_70 : decode cX5_remove 70 = .ok (.aload_n 0, 1) := by decide +kernel
theorem dX5_remove_71 : decode cX5_remove 71 = .ok (.getfield 12, 3) := by decide +kernel
theorem dX5_remove_74 : decode cX5_remove 74 = .ok (.iload_n 1, 1) := by decide +kernel
theorem dX5_remove_75 : decode cX5_remove 75 = .ok (.invokevirtual 101, 3) := by decide +kernel
theorem dX5_remove_78 : decode cX5_remove 78 = .ok (.aload_n 0, 1) := by decide +kernel
theorem dX5_remove_79 : decode cX5_remove 79 = .ok (.getfield 26, 3) := by decide +kernel
theorem dX5_remove_82 : decode cX5_remove 82 = .ok (.aload_n 0, 1) := by decide +kernel
theorem dX5_remove_83 : decode cX5_remove 83 = .ok (.getfield 12, 3) := by decide +kernel
theorem dX5_remove_86 : decode cX5_remove 86 = .ok (.getfield 65, 3) := by decide +kernel
theorem dX5_remove_89 : decode cX5_remove 89 = .ok (.invokevirtual 79, 3) := by decide +kernel
theorem dX5_remove_92 : decode cX5_remove 92 = .ok (.iload_n 2, 1) := by decide +kernel
theorem dX5_remove_93 : decode cX5_remove 93 = .ok (.ireturn, 1) := by decide +kernel
set_option maxRecDepth 20000 in
theorem ggX5_rule_X4_keep : GoodIn wsX5_rule wsX4_keep := goodIn_r _ [10, 11, 12, 13, 14, 15, 9, 16, 17, 18, 19, 20, 21, 22, 23, 24, 25, 26, 27, 28, 29, 30, 31, 32, 33, 34, 35, 36, 37, 53, 54, 55, 43, 44, 45, 46, 47, 48, 49, 50, 51, 52] (by decide +kernel) (by decide +kernel)
set_option maxRecDepth 20000 in
theorem gX5_rule_X4_keep : GoodIn wsX5_rule (wsV RX5 61 RX4 yX4_keep wsX4_keep) := goodIn_app (goodIn_of _ (by decide +kernel)) ggX5_rule_X4_keep
theorem dX5_rule_0 : decode cX5_rule 0 = .ok (.iload_n 1, 1) := by decide +kernel
theorem dX5_rule_1 : decode cX5_rule 1 = .ok (.ifCond .lt 8, 3) := by decide +kernel
theorem dX5_rule_4 : decode cX5_rule 4 = .ok (.iload_n 1, 1) := by decide +kernel
theorem dX5_rule_5 : decode cX5_rule 5 = .ok (.iconst 2, 1) := by decide +kernel
theorem dX5_rule_6 : decode cX5_rule 6 = .ok (.if_icmp .le 13, 3) := by decide +kernel
theorem dX5_rule_9 : decode cX5_rule 9 = .ok (.new 45, 3) := by decide +kernel
theorem dX5_rule_12 : decode cX5_rule 12 = .ok (.dup, 1) := by decide +kernel
theorem dX5_rule_13 : decode cX5_rule 13 = .ok (.ldc 105, 2) := by decide +kernel
theorem dX5_rule_15 : decode cX5_rule 15 = .ok (.invokespecial 49, 3) := by decide +kernel
theorem dX5_rule_18 : decode cX5_rule 18 = .ok (.athrow, 1) := by decide +kernel
theorem dX5_rule_19 : decode cX5_rule 19 = .ok (.aload_n 0, 1) := by decide +kernel
end
section
theorem dX5_rule_20 : decode cX5_rule 20 = .ok (.getfield 19, 3) := by decide +kernel
theorem dX5_rule_23 : decode cX5_rule 23 = .ok (.aload_n 0, 1) := by decide +kernel
theorem dX5_rule_24 : decode cX5_rule 24 = .ok (.getfield 12, 3) := by decide +kernel
theorem dX5_rule_27 : decode cX5_rule 27 = .ok (.invokevirtual 61, 3) := by decide +kernel
theorem dX5_rule_30 : decode cX5_rule 30 = .ok (.aload_n 0, 1) := by decide +kernel
theorem dX5_rule_31 : decode cX5_rule 31 = .ok (.getfield 12, 3) := by decide +kernel
theorem dX5_rule_34 : decode cX5_rule 34 = .ok (.getfield 107, 3) := by decide +kernel
theorem dX5_rule_37 : decode cX5_rule 37 = .ok (.istore_n 2, 1) := by decide +kernel
theorem dX5_rule_38 : decode cX5_rule 38 = .ok (.aload_n 0, 1) := by decide +kernel
theorem dX5_rule_39 : decode cX5_rule 39 = .ok (.getfield 12, 3) := by decide +kernel
theorem dX5_rule_42 : decode cX5_rule 42 = .ok (.iload_n 1, 1) := by decide +kernel
theorem dX5_rule_43 : decode cX5_rule 43 = .ok (.putfield 107, 3) := by decide +kernel
theorem dX5_rule_46 : decode cX5_rule 46 = .ok (.iload_n 2, 1) := by decide +kernel
theorem dX5_rule_47 : decode cX5_rule 47 = .ok (.ireturn, 1) := by decide +kernel
set_option maxRecDepth 20000 in
theorem ggX5_feed_X5_isLetter : GoodIn wsX5_feed wsX5_isLetter := goodIn_r _ [11] (by decide +kernel) (by decide +kernel)
set_option maxRecDepth 20000 in
theorem gX5_feed_X5_isLetter : GoodIn wsX5_feed (va_wsS RX5 111 yX5_isLetter wsX5_isLetter) := goodIn_app (goodIn_of _ (by decide +kernel)) ggX5_feed_X5_isLetter
set_option maxRecDepth 20000 in
theorem ggX5_feed_X4_keep : GoodIn wsX5_feed wsX4_keep := goodIn_r _ [16, 17, 18, 19, 20, 21, 15, 22, 23, 24, 25, 26, 27, 28, 29, 30, 31, 32, 33, 34, 35, 36, 37, 38, 39, 10, 40, 41, 42, 143, 144, 145, 133, 134, 135, 136, 137, 138, 139, 140, 141, 142] (by decide +kernel) (by decide +kernel)
set_option maxRecDepth 20000 in
theorem gX5_feed_X4_keep : GoodIn wsX5_feed (wsV RX5 61 RX4 yX4_keep wsX4_keep) := goodIn_app (goodIn_of _ (by decide +kernel)) ggX5_feed_X4_keep
set_option maxRecDepth 20000 in
theorem ggX5_feed_X5_readLetter : GoodIn wsX5_feed wsX5_readLetter := goodIn_r _ [46, 47, 5, 6, 48, 49, 50, 51, 52, 10, 53, 54, 55, 56, 57, 58, 59, 60, 61, 62, 63, 64, 65, 66, 67, 68, 69, 70, 71, 72, 73, 74, 39, 40, 75, 76, 77, 78, 79, 80, 81, 82, 83, 84, 85, 86, 87, 88, 89, 90, 91, 92, 93, 94, 95, 96, 97, 98, 99, 100, 101, 102, 103, 104, 27, 105, 37, 38, 106, 107, 108, 109, 110, 111, 112, 113, 30, 31, 34, 35, 36, 41, 42, 114, 115, 116, 117, 118, 119, 120, 121, 122, 123, 124, 125, 126, 127, 128, 129, 130, 131, 132, 133, 134, 135, 136, 137, 138, 139, 140, 141, 142, 146, 147, 148, 149, 150] (by decide +kernel) (by decide +kernel)
set_option maxRecDepth 20000 in
theorem gX5_feed_X5_readLetter : GoodIn wsX5_feed (wsV RX5 121 RX5 yX5_readLetter wsX5_readLetter) := goodIn_app (goodIn_of _ (by decide +kernel)) ggX5_feed_X5_readLetter
theorem dX5_feed_0 : decode cX5_feed 0 = .ok (.iload_n 1, 1) := by decide +kernel
theorem dX5_feed_1 : decode cX5_feed 1 = .ok (.invokestatic 111, 3) := by decide +kernel
theorem dX5_feed_4 : decode cX5_feed 4 = .ok (.ifCond .ne 13, 3) := by decide +kernel
theorem dX5_feed_7 : decode cX5_feed 7 = .ok (.new 45, 3) := by decide +kernel
theorem dX5_feed_10 : decode cX5_feed 10 = .ok (.dup, 1) := by decide +kernel
theorem dX5_feed_11 : decode cX5_feed 11 = .ok (.ldc 114, 2) := by decide +kernel
theorem dX5_feed_13 : decode cX5_feed 13 = .ok (.invokespecial 49, 3) := by decide +kernel
theorem dX5_feed_16 : decode cX5_feed 16 = .ok (.athrow, 1) := by decide +kernel
theorem dX5_feed_17 : decode cX5_feed 17 = .ok (.aload_n 0, 1) := by decide +kernel
theorem dX5_feed_18 : decode cX5_feed 18 = .ok (.getfield 12, 3) := by decide +kernel
theorem dX5_feed_21 : decode cX5_feed 21 = .ok (.getfield 116, 3) := by decide +kernel
theorem dX5_feed_24 : decode cX5_feed 24 = .ok (.sipush 9999, 3) := by decide +kernel
theorem dX5_feed_27 : decode cX5_feed 27 = .ok (.if_icmp .lt 13, 3) := by decide +kernel
theorem dX5_feed_30 : decode cX5_feed 30 = .ok (.new 56, 3) := by decide +kernel
theorem dX5_feed_33 : decode cX5_feed 33 = .ok (.dup, 1) := by decide +kernel
theorem dX5_feed_34 : decode cX5_feed 34 = .ok (.ldc 119, 2) := by decide +kernel
theorem dX5_feed_36 : decode cX5_feed 36 = .ok (.invokespecial 60, 3) := by decide +kernel
theorem dX5_feed_39 : decode cX5_feed 39 = .ok (.athrow, 1) := by decide +kernel
theorem dX5_feed_40 : decode cX5_feed 40 = .ok (.aload_n 0, 1) := by decide +kernel
theorem dX5_feed_41 : decode cX5_feed 41 = .ok (.getfield 19, 3) := by decide +kernel
theorem dX5_feed_44 : decode cX5_feed 44 = .ok (.aload_n 0, 1) := by decide +kernel
theorem dX5_feed_45 : decode cX5_feed 45 = .ok (.getfield 12, 3) := by decide +kernel
theorem dX5_feed_48 : decode cX5_feed 48 = .ok (.invokevirtual 61, 3) := by decide +kernel
theorem dX5_feed_51 : decode cX5_feed 51 = .ok (.aload_n 0, 1) := by decide +kernel
theorem dX5_feed_52 : decode cX5_feed 52 = .ok (.iload_n 1, 1) := by decide +kernel
theorem dX5_feed_53 : decode cX5_feed 53 = .ok (.invokevirtual 121, 3) := by decide +kernel
theorem dX5_feed_56 : decode cX5_feed 56 = .ok (.ireturn, 1) := by decide +kernel
set_option maxRecDepth 20000 in
theorem ggX5_begin_X4_keep : GoodIn wsX5_begin wsX4_keep := goodIn_r _ [8, 9, 10, 11, 12, 13, 7, 14, 15, 16, 17, 18, 19, 20, 21, 22, 23, 24, 25, 26, 27, 28, 29, 30, 31, 32, 33, 34, 35, 59, 60, 61, 49, 50, 51, 52, 53, 54, 55, 56, 57, 58] (by decide +kernel) (by decide +kernel)
set_option maxRecDepth 20000 in
theorem gX5_begin_X4_keep : GoodIn wsX5_begin (wsV RX5 61 RX4 yX4_keep wsX4_keep) := goodIn_app (goodIn_of _ (by decide +kernel)) ggX5_begin_X4_keep
set_option maxRecDepth 20000 in
theorem ggX5_begin_X2_forgetText : GoodIn wsX5_begin wsX2_forgetText := goodIn_r _ [39, 25, 26, 27, 28, 29, 30, 40, 41, 42, 19, 43, 22, 23, 34, 32, 35, 49, 50, 51, 52, 53, 54, 55, 56, 57, 58] (by decide +kernel) (by decide +kernel)
set_option maxRecDepth 20000 in
theorem gX5_begin_X2_forgetText : GoodIn wsX5_begin (wsV RX5 137 RX2 yX2_forgetText wsX2_forgetText) := goodIn_app (goodIn_of _ (by decide +kernel)) ggX5_begin_X2_forgetText
theorem dX5_begin_0 : decode cX5_begin 0 = .ok (.aload_n 0, 1) := by decide +kernel
theorem dX5_begin_1 : decode cX5_begin 1 = .ok (.getfield 19, 3) := by decide +kernel
theorem dX5_begin_4 : decode cX5_begin 4 = .ok (.aload_n 0, 1) := by decide +kernel
theorem dX5_begin_5 : decode cX5_begin 5 = .ok (.getfield 12, 3) := by decide +kernel
theorem dX5_begin_8 : decode cX5_begin 8 = .ok (.invokevirtual 61, 3) := by decide +kernel
theorem dX5_begin_11 : decode cX5_begin 11 = .ok (.aload_n 0, 1) := by decide +kernel
theorem dX5_begin_12 : decode cX5_begin 12 = .ok (.getfield 12, 3) := by decide +kernel
theorem dX5_begin_15 : decode cX5_begin 15 = .ok (.getfield 116, 3) := by decide +kernel
theorem dX5_begin_18 : decode cX5_begin 18 = .ok (.istore_n 1, 1) := by decide +kernel
theorem dX5_begin_19 : decode cX5_begin 19 = .ok (.aload_n 0, 1) := by decide +kernel
theorem dX5_begin_20 : decode cX5_begin 20 = .ok (.getfield 12, 3) := by decide +kernel
theorem dX5_begin_23 : decode cX5_begin 23 = .ok (.invokevirtual 137, 3) := by decide +kernel
theorem dX5_begin_26 : decode cX5_begin 26 = .ok (.iload_n 1, 1) := by decide +kernel
theorem dX5_begin_27 : decode cX5_begin 27 = .ok (.ireturn, 1) := by decide +kernel
set_option maxRecDepth 20000 in
theorem ggX5_append_X0_take : GoodIn wsX5_append wsX0_take := goodIn_r _ [11, 12, 13, 14, 15, 16, 22, 23] (by decide +kernel) (by decide +kernel)
set_option maxRecDepth 20000 in
theorem gX5_append_X0_take : GoodIn wsX5_append (wsV RX5 147 RX0 yX0_take wsX0_take) := goodIn_app (goodIn_of _ (by decide +kernel)) ggX5_append_X0_take
theorem dX5_append_0 : decode cX5_append 0 = .ok (.iload_n 1, 1) := by decide +kernel
theorem dX5_append_1 : decode cX5_append 1 = .ok (.bipush 33, 2) := by decide +kernel
theorem dX5_append_3 : decode cX5_append 3 = .ok (.if_icmp .lt 9, 3) := by decide +kernel
theorem dX5_append_6 : decode cX5_append 6 = .ok (.iload_n 1, 1) := by decide +kernel
theorem dX5_append_7 : decode cX5_append 7 = .ok (.bipush 126, 2) := by decide +kernel
theorem dX5_append_9 : decode cX5_append 9 = .ok (.if_icmp .le 13, 3) := by decide +kernel
theorem dX5_append_12 : decode cX5_append 12 = .ok (.new 45, 3) := by decide +kernel
theorem dX5_append_15 : decode cX5_append 15 = .ok (.dup, 1) := by decide +kernel
theorem dX5_append_16 : decode cX5_append 16 = .ok (.ldc 140, 2) := by decide +kernel
theorem dX5_append_18 : decode cX5_append 18 = .ok (.invokespecial 49, 3) := by decide +kernel
theorem dX5_append_21 : decode cX5_append 21 = .ok (.athrow, 1) := by decide +kernel
theorem dX5_append_22 : decode cX5_append 22 = .ok (.aload_n 0, 1) := by decide +kernel
theorem dX5_append_23 : decode cX5_append 23 = .ok (.getfield 33, 3) := by decide +kernel
theorem dX5_append_26 : decode cX5_append 26 = .ok (.getfield 142, 3) := by decide +kernel
theorem dX5_append_29 : decode cX5_append 29 = .ok (.bipush 60, 2) := by decide +kernel
theorem dX5_append_31 : decode cX5_append 31 = .ok (.if_icmp .lt 13, 3) := by decide +kernel
theorem dX5_append_34 : decode cX5_append 34 = .ok (.new 56, 3) := by decide +kernel
theorem dX5_append_37 : decode cX5_append 37 = .ok (.dup, 1) := by decide +kernel
theorem dX5_append_38 : decode cX5_append 38 = .ok (.ldc 145, 2) := by decide +kernel
theorem dX5_append_40 : decode cX5_append 40 = .ok (.invokespecial 60, 3) := by decide +kernel
theorem dX5_append_43 : decode cX5_append 43 = .ok (.athrow, 1) := by decide +kernel
theorem dX5_append_44 : decode cX5_append 44 = .ok (.aload_n 0, 1) := by decide +kernel
theorem dX5_append_45 : decode cX5_append 45 = .ok (.getfield 33, 3) := by decide +kernel
theorem dX5_append_48 : decode cX5_append 48 = .ok (.iload_n 1, 1) := by decide +kernel
theorem dX5_append_49 : decode cX5_append 49 = .ok (.invokevirtual 147, 3) := by decide +kernel
theorem dX5_append_52 : decode cX5_append 52 = .ok (.aload_n 0, 1) := by decide +kernel
theorem dX5_append_53 : decode cX5_append 53 = .ok (.getfield 33, 3) := by decide +kernel
theorem dX5_append_56 : decode cX5_append 56 = .ok (.getfield 142, 3) := by decide +kernel
theorem dX5_append_59 : decode cX5_append 59 = .ok (.ireturn, 1) := by decide +kernel
set_option maxRecDepth 20000 in
theorem ggX5_clearBuffer_X0_empty : GoodIn wsX5_clearBuffer wsX0_empty := goodIn_r _ [7, 8, 14, 15] (by decide +kernel) (by decide +kernel)
set_option maxRecDepth 20000 in
theorem gX5_clearBuffer_X0_empty : GoodIn wsX5_clearBuffer (wsV RX5 76 RX0 yX0_empty wsX0_empty) := goodIn_app (goodIn_of _ (by decide +kernel)) ggX5_clearBuffer_X0_empty
theorem dX5_clearBuffer_0 : decode cX5_clearBuffer 0 = .ok (.aload_n 0, 1) := by decide +kernel
theorem dX5_clearBuffer_1 : decode cX5_clearBuffer 1 = .ok (.getfield 33, 3) := by decide +kernel
theorem dX5_clearBuffer_4 : decode cX5_clearBuffer 4 = .ok (.getfield 142, 3) := by decide +kernel
theorem dX5_clearBuffer_7 : decode cX5_clearBuffer 7 = .ok (.istore_n 1, 1) := by decide +kernel
theorem dX5_clearBuffer_8 : decode cX5_clearBuffer 8 = .ok (.aload_n 0, 1) := by decide +kernel
theorem dX5_clearBuffer_9 : decode cX5_clearBuffer 9 = .ok (.getfield 33, 3) := by decide +kernel
theorem dX5_clearBuffer_12 : decode cX5_clearBuffer 12 = .ok (.invokevirtual 76, 3) := by decide +kernel
theorem dX5_clearBuffer_15 : decode cX5_clearBuffer 15 = .ok (.iload_n 1, 1) := by decide +kernel
theorem dX5_clearBuffer_16 : decode cX5_clearBuffer 16 = .ok (.ireturn, 1) := by decide +kernel
set_option maxRecDepth 20000 in
theorem ggX5_undo_X4_giveBack : GoodIn wsX5_undo wsX4_giveBack := goodIn_r _ [12, 13, 14, 15, 16, 11, 17, 18, 19, 20, 21, 22, 23, 24, 25, 26, 27, 28, 29, 30, 31, 32, 33, 34, 35, 36, 37, 38, 39, 86, 87, 88, 89, 90, 91, 92, 93, 94, 95, 96, 97, 98] (by decide +kernel) (by decide +kernel)
set_option maxRecDepth 20000 in
theorem gX5_undo_X4_giveBack : GoodIn wsX5_undo (wsV RX5 161 RX4 yX4_giveBack wsX4_giveBack) := goodIn_app (goodIn_of _ (by decide +kernel)) ggX5_undo_X4_giveBack
set_option maxRecDepth 20000 in
theorem ggX5_undo_X1_rebuild : GoodIn wsX5_undo wsX1_rebuild := goodIn_r _ [44, 45, 46, 47, 48, 49, 43, 50, 51, 35, 36, 37, 38, 39, 52, 53, 54, 55, 56, 57, 58, 59, 60, 61, 62, 63, 64, 65, 66, 67, 68, 69, 70, 71, 72, 73, 74, 75, 76, 77, 78, 79, 80, 99, 100, 101, 102, 103] (by decide +kernel) (by decide +kernel)
set_option maxRecDepth 20000 in
theorem gX5_undo_X1_rebuild : GoodIn wsX5_undo (wsV RX5 79 RX1 yX1_rebuild wsX1_rebuild) := goodIn_app (goodIn_of _ (by decide +kernel)) ggX5_undo_X1_rebuild
theorem dX5_undo_0 : decode cX5_undo 0 = .ok (.aload_n 0, 1) := by decide +kernel
theorem dX5_undo_1 : decode cX5_undo 1 = .ok (.getfield 19, 3) := by decide +kernel
theorem dX5_undo_4 : decode cX5_undo 4 = .ok (.getfield 156, 3) := by decide +kernel
theorem dX5_undo_7 : decode cX5_undo 7 = .ok (.ifCond .ne 13, 3) := by decide +kernel
theorem dX5_undo_10 : decode cX5_undo 10 = .ok (.new 56, 3) := by decide +kernel
theorem dX5_undo_13 : decode cX5_undo 13 = .ok (.dup, 1) := by decide +kernel
theorem dX5_undo_14 : decode cX5_undo 14 = .ok (.ldc 159, 2) := by decide +kernel
theorem dX5_undo_16 : decode cX5_undo 16 = .ok (.invokespecial 60, 3) := by decide +kernel
theorem dX5_undo_19 : decode cX5_undo 19 = .ok (.athrow, 1) := by decide +kernel
theorem dX5_undo_20 : decode cX5_undo 20 = .ok (.aload_n 0, 1) := by decide +kernel
theorem dX5_undo_21 : decode cX5_undo 21 = .ok (.getfield 19, 3) := by decide +kernel
theorem dX5_undo_24 : decode cX5_undo 24 = .ok (.aload_n 0, 1) := by decide +kernel
theorem dX5_undo_25 : decode cX5_undo 25 = .ok (.getfield 12, 3) := by decide +kernel
theorem dX5_undo_28 : decode cX5_undo 28 = .ok (.invokevirtual 161, 3) := by decide +kernel
theorem dX5_undo_31 : decode cX5_undo 31 = .ok (.aload_n 0, 1) := by decide +kernel
theorem dX5_undo_32 : decode cX5_undo 32 = .ok (.getfield 26, 3) := by decide +kernel
theorem dX5_undo_35 : decode cX5_undo 35 = .ok (.aload_n 0, 1) := by decide +kernel
theorem dX5_undo_36 : decode cX5_undo 36 = .ok (.getfield 12, 3) := by decide +kernel
theorem dX5_undo_39 : decode cX5_undo 39 = .ok (.getfield 65, 3) := by decide +kernel
theorem dX5_undo_42 : decode cX5_undo 42 = .ok (.invokevirtual 79, 3) := by decide +kernel
theorem dX5_undo_45 : decode cX5_undo 45 = .ok (.aload_n 0, 1) := by decide +kernel
theorem dX5_undo_46 : decode cX5_undo 46 = .ok (.getfield 19, 3) := by decide +kernel
theorem dX5_undo_49 : decode cX5_undo 49 = .ok (.getfield 156, 3) := by decide +kernel
theorem dX5_undo_52 : decode cX5_undo 52 = .ok (.ireturn, 1) := by decide +kernel
set_option maxRecDepth 20000 in
theorem ggX5_pattern_X5_isSlot : GoodIn wsX5_pattern wsX5_isSlot := goodIn_r _ [8] (by decide +kernel) (by decide +kernel)
set_option maxRecDepth 20000 in
theorem gX5_pattern_X5_isSlot : GoodIn wsX5_pattern (va_wsS RX5 83 yX5_isSlot wsX5_isSlot) := goodIn_app (goodIn_of _ (by decide +kernel)) ggX5_pattern_X5_isSlot
set_option maxRecDepth 20000 in
theorem ggX5_pattern_X5_patternProperty : GoodIn wsX5_pattern wsX5_patternProperty := goodIn_r _ [12, 13, 14, 15, 16, 17, 18, 19, 7, 20, 21, 22, 23, 24, 25, 26, 27, 28, 29, 30, 31, 32, 33, 34, 35, 36, 37, 38, 39, 40, 41, 42, 43, 44, 45, 46, 47, 48, 49, 50, 51, 52, 53, 54, 55, 56, 57, 58, 59, 60, 61, 62, 63, 64, 65, 66, 67, 68, 69, 70, 71, 72, 73, 74, 75, 76, 77, 78, 79, 80, 81, 82, 83, 84, 85, 86] (by decide +kernel) (by decide +kernel)
set_option maxRecDepth 20000 in
theorem gX5_pattern_X5_patternProperty : GoodIn wsX5_pattern (wsV RX5 166 RX5 yX5_patternProperty wsX5_patternProperty) := goodIn_app (goodIn_of _ (by decide +kernel)) ggX5_pattern_X5_patternProperty
theorem dX5_pattern_0 : decode cX5_pattern 0 = .ok (.iload_n 1, 1) := by decide +kernel
theorem dX5_pattern_1 : decode cX5_pattern 1 = .ok (.invokestatic 83, 3) := by decide +kernel
theorem dX5_pattern_4 : decode cX5_pattern 4 = .ok (.ifCond .ne 13, 3) := by decide +kernel
theorem dX5_pattern_7 : decode cX5_pattern 7 = .ok (.new 87, 3) := by decide +kernel
theorem dX5_pattern_10 : decode cX5_pattern 10 = .ok (.dup, 1) := by decide +kernel
theorem dX5_pattern_11 : decode cX5_pattern 11 = .ok (.ldc 89, 2) := by decide +kernel
theorem dX5_pattern_13 : decode cX5_pattern 13 = .ok (.invokespecial 91, 3) := by decide +kernel
theorem dX5_pattern_16 : decode cX5_pattern 16 = .ok (.athrow, 1) := by decide +kernel
theorem dX5_pattern_17 : decode cX5_pattern 17 = .ok (.iload_n 2, 1) := by decide +kernel
theorem dX5_pattern_18 : decode cX5_pattern 18 = .ok (.ifCond .lt 9, 3) := by decide +kernel
theorem dX5_pattern_21 : decode cX5_pattern 21 = .ok (.iload_n 2, 1) := by decide +kernel
theorem dX5_pattern_22 : decode cX5_pattern 22 = .ok (.bipush 6, 2) := by decide +kernel
theorem dX5_pattern_24 : decode cX5_pattern 24 = .ok (.if_icmp .lt 13, 3) := by decide +kernel
theorem dX5_pattern_27 : decode cX5_pattern 27 = .ok (.new 45, 3) := by decide +kernel
theorem dX5_pattern_30 : decode cX5_pattern 30 = .ok (.dup, 1) := by decide +kernel
theorem dX5_pattern_31 : decode cX5_pattern 31 = .ok (.ldc 164, 2) := by decide +kernel
theorem dX5_pattern_33 : decode cX5_pattern 33 = .ok (.invokespecial 49, 3) := by decide +kernel
theorem dX5_pattern_36 : decode cX5_pattern 36 = .ok (.athrow, 1) := by decide +kernel
theorem dX5_pattern_37 : decode cX5_pattern 37 = .ok (.aload_n 0, 1) := by decide +kernel
theorem dX5_pattern_38 : decode cX5_pattern 38 = .ok (.iload_n 1, 1) := by decide +kernel
theorem dX5_pattern_39 : decode cX5_pattern 39 = .ok (.iload_n 2, 1) := by decide +kernel
theorem dX5_pattern_40 : decode cX5_pattern 40 = .ok (.invokevirtual 166, 3) := by decide +kernel
theorem dX5_pattern_43 : decode cX5_pattern 43 = .ok (.ireturn, 1) := by decide +kernel
set_option maxRecDepth 20000 in
theorem ggX5_letter_X5_isSlot : GoodIn wsX5_letter wsX5_isSlot := goodIn_r _ [8] (by decide +kernel) (by decide +kernel)
set_option maxRecDepth 20000 in
theorem gX5_letter_X5_isSlot : GoodIn wsX5_letter (va_wsS RX5 83 yX5_isSlot wsX5_isSlot) := goodIn_app (goodIn_of _ (by decide +kernel)) ggX5_letter_X5_isSlot
set_option maxRecDepth 20000 in
theorem ggX5_letter_X5_patternIn : GoodIn wsX5_letter wsX5_patternIn := goodIn_r _ [12, 13, 14, 15, 16, 7, 17, 28, 29, 30, 31, 32, 33, 34, 35, 36, 37, 38, 39, 40, 41, 42] (by decide +kernel) (by decide +kernel)
set_option maxRecDepth 20000 in
theorem gX5_letter_X5_patternIn : GoodIn wsX5_letter (wsV RX5 92 RX5 yX5_patternIn wsX5_patternIn) := goodIn_app (goodIn_of _ (by decide +kernel)) ggX5_letter_X5_patternIn
set_option maxRecDepth 20000 in
theorem ggX5_letter_X3_letterAt : GoodIn wsX5_letter wsX3_letterAt := goodIn_r _ [21, 22, 23, 20, 24, 25, 26, 27] (by decide +kernel) (by decide +kernel)
set_option maxRecDepth 20000 in
theorem gX5_letter_X3_letterAt : GoodIn wsX5_letter (va_wsS RX5 172 yX3_letterAt wsX3_letterAt) := goodIn_app (goodIn_of _ (by decide +kernel)) ggX5_letter_X3_letterAt
theorem dX5_letter_0 : decode cX5_letter 0 = .ok (.iload_n 1, 1) := by decide +kernel
theorem dX5_letter_1 : decode cX5_letter 1 = .ok (.invokestatic 83, 3) := by decide +kernel
theorem dX5_letter_4 : decode cX5_letter 4 = .ok (.ifCond .ne 13, 3) := by decide +kernel
theorem dX5_letter_7 : decode cX5_letter 7 = .ok (.new 87, 3) := by decide +kernel
theorem dX5_letter_10 : decode cX5_letter 10 = .ok (.dup, 1) := by decide +kernel
theorem dX5_letter_11 : decode cX5_letter 11 = .ok (.ldc 89, 2) := by decide +kernel
theorem dX5_letter_13 : decode cX5_letter 13 = .ok (.invokespecial 91, 3) := by decide +kernel
theorem dX5_letter_16 : decode cX5_letter 16 = .ok (.athrow, 1) := by decide +kernel
theorem dX5_letter_17 : decode cX5_letter 17 = .ok (.iload_n 2, 1) := by decide +kernel
theorem dX5_letter_18 : decode cX5_letter 18 = .ok (.ifCond .lt 9, 3) := by decide +kernel
theorem dX5_letter_21 : decode cX5_letter 21 = .ok (.iload_n 2, 1) := by decide +kernel
theorem dX5_letter_22 : decode cX5_letter 22 = .ok (.bipush 8, 2) := by decide +kernel
theorem dX5_letter_24 : decode cX5_letter 24 = .ok (.if_icmp .lt 13, 3) := by decide +kernel
theorem dX5_letter_27 : decode cX5_letter 27 = .ok (.new 45, 3) := by decide +kernel
theorem dX5_letter_30 : decode cX5_letter 30 = .ok (.dup, 1) := by decide +kernel
theorem dX5_letter_31 : decode cX5_letter 31 = .ok (.ldc 170, 2) := by decide +kernel
theorem dX5_letter_33 : decode cX5_letter 33 = .ok (.invokespecial 49, 3) := by decide +kernel
theorem dX5_letter_36 : decode cX5_letter 36 = .ok (.athrow, 1) := by decide +kernel
theorem dX5_letter_37 : decode cX5_letter 37 = .ok (.aload_n 0, 1) := by decide +kernel
theorem dX5_letter_38 : decode cX5_letter 38 = .ok (.iload_n 1, 1) := by decide +kernel
theorem dX5_letter_39 : decode cX5_letter 39 = .ok (.invokevirtual 92, 3) := by decide +kernel
theorem dX5_letter_42 : decode cX5_letter 42 = .ok (.iload_n 2, 1) := by decide +kernel
theorem dX5_letter_43 : decode cX5_letter 43 = .ok (.invokestatic 172, 3) := by decide +kernel
theorem dX5_letter_46 : decode cX5_letter 46 = .ok (.ireturn, 1) := by decide +kernel
set_option maxRecDepth 20000 in
theorem ggX5_state_X5_stateProperty : GoodIn wsX5_state wsX5_stateProperty := goodIn_r _ [11, 5, 12, 13, 14, 15, 16, 10, 17, 18, 19, 20, 21, 22, 23, 24, 25, 26, 27, 28, 29, 30, 31, 32, 33, 34, 35, 36, 37, 38, 39, 40, 41, 42, 43, 44, 45, 46, 47, 48, 49, 50, 51, 52, 53, 54, 55, 56, 57, 58, 59, 60, 61, 62, 63, 64] (by decide +kernel) (by decide +kernel)
set_option maxRecDepth 20000 in
theorem gX5_state_X5_stateProperty : GoodIn wsX5_state (wsV RX5 182 RX5 yX5_stateProperty wsX5_stateProperty) := goodIn_app (goodIn_of _ (by decide +kernel)) ggX5_state_X5_stateProperty
theorem dX5_state_0 : decode cX5_state 0 = .ok (.iload_n 1, 1) := by decide +kernel
theorem dX5_state_1 : decode cX5_state 1 = .ok (.ifCond .lt 14, 3) := by decide +kernel
theorem dX5_state_4 : decode cX5_state 4 = .ok (.iload_n 1, 1) := by decide +kernel
theorem dX5_state_5 : decode cX5_state 5 = .ok (.aload_n 0, 1) := by decide +kernel
theorem dX5_state_6 : decode cX5_state 6 = .ok (.getfield 26, 3) := by decide +kernel
theorem dX5_state_9 : decode cX5_state 9 = .ok (.getfield 177, 3) := by decide +kernel
theorem dX5_state_12 : decode cX5_state 12 = .ok (.if_icmp .lt 13, 3) := by decide +kernel
theorem dX5_state_15 : decode cX5_state 15 = .ok (.new 87, 3) := by decide +kernel
theorem dX5_state_18 : decode cX5_state 18 = .ok (.dup, 1) := by decide +kernel
theorem dX5_state_19 : decode cX5_state 19 = .ok (.ldc 178, 2) := by decide +kernel
theorem dX5_state_21 : decode cX5_state 21 = .ok (.invokespecial 91, 3) := by decide +kernel
theorem dX5_state_24 : decode cX5_state 24 = .ok (.athrow, 1) := by decide +kernel
theorem dX5_state_25 : decode cX5_state 25 = .ok (.iload_n 2, 1) := by decide +kernel
theorem dX5_state_26 : decode cX5_state 26 = .ok (.ifCond .lt 9, 3) := by decide +kernel
theorem dX5_state_29 : decode cX5_state 29 = .ok (.iload_n 2, 1) := by decide +kernel
theorem dX5_state_30 : decode cX5_state 30 = .ok (.bipush 9, 2) := by decide +kernel
theorem dX5_state_32 : decode cX5_state 32 = .ok (.if_icmp .lt 13, 3) := by decide +kernel
theorem dX5_state_35 : decode cX5_state 35 = .ok (.new 45, 3) := by decide +kernel
theorem dX5_state_38 : decode cX5_state 38 = .ok (.dup, 1) := by decide +kernel
theorem dX5_state_39 : decode cX5_state 39 = .ok (.ldc 180, 2) := by decide +kernel
theorem dX5_state_41 : decode cX5_state 41 = .ok (.invokespecial 49, 3) := by decide +kernel
theorem dX5_state_44 : decode cX5_state 44 = .ok (.athrow, 1) := by decide +kernel
theorem dX5_state_45 : decode cX5_state 45 = .ok (.aload_n 0, 1) := by decide +kernel
theorem dX5_state_46 : decode cX5_state 46 = .ok (.iload_n 1, 1) := by decide +kernel
theorem dX5_state_47 : decode cX5_state 47 = .ok (.iload_n 2, 1) := by decide +kernel
theorem dX5_state_48 : decode cX5_state 48 = .ok (.invokevirtual 182, 3) := by decide +kernel
theorem dX5_state_51 : decode cX5_state 51 = .ok (.ireturn, 1) := by decide +kernel
set_option maxRecDepth 20000 in
theorem ggX5_count_X5_numberTold : GoodIn wsX5_count wsX5_numberTold := goodIn_r _ [7, 8, 9, 10, 11, 12, 13, 14, 15, 16, 17, 18, 19, 20, 6, 21, 22, 23, 24, 25, 26, 27, 28, 29, 30, 31, 32, 33, 34, 35, 36, 37, 38, 39, 40, 41, 42, 43, 44, 45, 46, 47, 48, 49, 50, 51, 52, 53, 54, 55, 56, 57, 58, 59, 60, 61, 62, 63, 64, 65, 66, 67, 68, 69, 70, 71, 72, 73, 74, 75, 76, 77, 78, 79, 80, 81, 82, 83] (by decide +kernel) (by decide +kernel)
set_option maxRecDepth 20000 in
theorem gX5_count_X5_numberTold : GoodIn wsX5_count (wsV RX5 187 RX5 yX5_numberTold wsX5_numberTold) := goodIn_app (goodIn_of _ (by decide +kernel)) ggX5_count_X5_numberTold
theorem dX5_count_0 : decode cX5_count 0 = .ok (.iload_n 1, 1) := by decide +kernel
theorem dX5_count_1 : decode cX5_count 1 = .ok (.ifCond .lt 9, 3) := by decide +kernel
theorem dX5_count_4 : decode cX5_count 4 = .ok (.iload_n 1, 1) := by decide +kernel
theorem dX5_count_5 : decode cX5_count 5 = .ok (.bipush 10, 2) := by decide +kernel
theorem dX5_count_7 : decode cX5_count 7 = .ok (.if_icmp .lt 13, 3) := by decide +kernel
theorem dX5_count_10 : decode cX5_count 10 = .ok (.new 45, 3) := by decide +kernel
theorem dX5_count_13 : decode cX5_count 13 = .ok (.dup, 1) := by decide +kernel
theorem dX5_count_14 : decode cX5_count 14 = .ok (.ldc 185, 2) := by decide +kernel
theorem dX5_count_16 : decode cX5_count 16 = .ok (.invokespecial 49, 3) := by decide +kernel
theorem dX5_count_19 : decode cX5_count 19 = .ok (.athrow, 1) := by decide +kernel
theorem dX5_count_20 : decode cX5_count 20 = .ok (.aload_n 0, 1) := by decide +kernel
theorem dX5_count_21 : decode cX5_count 21 = .ok (.iload_n 1, 1) := by decide +kernel
theorem dX5_count_22 : decode cX5_count 22 = .ok (.invokevirtual 187, 3) := by decide +kernel
theorem dX5_count_25 : decode cX5_count 25 = .ok (.ireturn, 1) := by decide +kernel
theorem dX5_setting_0 : decode cX5_setting 0 = .ok (.aload_n 0, 1) := by decide +kernel
theorem dX5_setting_1 : decode cX5_setting 1 = .ok (.getfield 12, 3) := by decide +kernel
theorem dX5_setting_4 : decode cX5_setting 4 = .ok (.getfield 107, 3) := by decide +kernel
theorem dX5_setting_7 : decode cX5_setting 7 = .ok (.ireturn, 1) := by decide +kernel
set_option maxRecDepth 20000 in
theorem ggX5_ifFed_X5_isLetter : GoodIn wsX5_ifFed wsX5_isLetter := goodIn_r _ [6] (by decide +kernel) (by decide +kernel)
set_option maxRecDepth 20000 in
theorem gX5_ifFed_X5_isLetter : GoodIn wsX5_ifFed (va_wsS RX5 111 yX5_isLetter wsX5_isLetter) := goodIn_app (goodIn_of _ (by decide +kernel)) ggX5_ifFed_X5_isLetter
set_option maxRecDepth 20000 in
theorem ggX5_ifFed_X5_fedNumber : GoodIn wsX5_ifFed wsX5_fedNumber := goodIn_r _ [10, 11, 12, 13, 14, 15, 16, 17, 5, 18, 19, 20, 21, 22, 23, 24, 25, 26, 27, 28, 29, 30, 31, 32, 33, 34, 35, 36, 37, 38, 39, 40, 41, 42, 43, 44, 45, 46, 47, 48, 49, 50, 51, 52, 53, 54, 55, 56, 57, 58, 59, 60, 61, 62, 63, 64, 65, 66, 67, 68, 69, 70, 71, 72, 73, 74, 75, 76, 77, 78, 79, 80, 81, 82, 83, 84, 85, 86, 87, 88, 89, 90, 91, 92, 93, 94, 95, 96, 97, 98, 99] (by decide +kernel) (by decide +kernel)
set_option maxRecDepth 20000 in
theorem gX5_ifFed_X5_fedNumber : GoodIn wsX5_ifFed (wsV RX5 192 RX5 yX5_fedNumber wsX5_fedNumber) := goodIn_app (goodIn_of _ (by decide +kernel)) ggX5_ifFed_X5_fedNumber
theorem dX5_ifFed_0 : decode cX5_ifFed 0 = .ok (.iload_n 1, 1) := by decide +kernel
theorem dX5_ifFed_1 : decode cX5_ifFed 1 = .ok (.invokestatic 111, 3) := by decide +kernel
theorem dX5_ifFed_4 : decode cX5_ifFed 4 = .ok (.ifCond .ne 13, 3) := by decide +kernel
theorem dX5_ifFed_7 : decode cX5_ifFed 7 = .ok (.new 45, 3) := by decide +kernel
theorem dX5_ifFed_10 : decode cX5_ifFed 10 = .ok (.dup, 1) := by decide +kernel
theorem dX5_ifFed_11 : decode cX5_ifFed 11 = .ok (.ldc 114, 2) := by decide +kernel
theorem dX5_ifFed_13 : decode cX5_ifFed 13 = .ok (.invokespecial 49, 3) := by decide +kernel
theorem dX5_ifFed_16 : decode cX5_ifFed 16 = .ok (.athrow, 1) := by decide +kernel
theorem dX5_ifFed_17 : decode cX5_ifFed 17 = .ok (.iload_n 2, 1) := by decide +kernel
theorem dX5_ifFed_18 : decode cX5_ifFed 18 = .ok (.ifCond .lt 8, 3) := by decide +kernel
theorem dX5_ifFed_21 : decode cX5_ifFed 21 = .ok (.iload_n 2, 1) := by decide +kernel
theorem dX5_ifFed_22 : decode cX5_ifFed 22 = .ok (.iconst 4, 1) := by decide +kernel
theorem dX5_ifFed_23 : decode cX5_ifFed 23 = .ok (.if_icmp .lt 13, 3) := by decide +kernel
theorem dX5_ifFed_26 : decode cX5_ifFed 26 = .ok (.new 45, 3) := by decide +kernel
theorem dX5_ifFed_29 : decode cX5_ifFed 29 = .ok (.dup, 1) := by decide +kernel
theorem dX5_ifFed_30 : decode cX5_ifFed 30 = .ok (.ldc 190, 2) := by decide +kernel
theorem dX5_ifFed_32 : decode cX5_ifFed 32 = .ok (.invokespecial 49, 3) := by decide +kernel
theorem dX5_ifFed_35 : decode cX5_ifFed 35 = .ok (.athrow, 1) := by decide +kernel
theorem dX5_ifFed_36 : decode cX5_ifFed 36 = .ok (.aload_n 0, 1) := by decide +kernel
theorem dX5_ifFed_37 : decode cX5_ifFed 37 = .ok (.iload_n 1, 1) := by decide +kernel
theorem dX5_ifFed_38 : decode cX5_ifFed 38 = .ok (.iload_n 2, 1) := by decide +kernel
theorem dX5_ifFed_39 : decode cX5_ifFed 39 = .ok (.invokevirtual 192, 3) := by decide +kernel
theorem dX5_ifFed_42 : decode cX5_ifFed 42 = .ok (.ireturn, 1) := by decide +kernel
set_option maxRecDepth 20000 in
theorem ggX5_lettersTo_X5_isSlot : GoodIn wsX5_lettersTo wsX5_isSlot := goodIn_r _ [6] (by decide +kernel) (by decide +kernel)
set_option maxRecDepth 20000 in
theorem gX5_lettersTo_X5_isSlot : GoodIn wsX5_lettersTo (va_wsS RX5 83 yX5_isSlot wsX5_isSlot) := goodIn_app (goodIn_of _ (by decide +kernel)) ggX5_lettersTo_X5_isSlot
set_option maxRecDepth 20000 in
theorem ggX5_lettersTo_X5_patternIn : GoodIn wsX5_lettersTo wsX5_patternIn := goodIn_r _ [10, 11, 12, 13, 14, 5, 15, 58, 59, 60, 61, 62, 63, 64, 65, 66, 67, 68, 69, 70, 71, 72] (by decide +kernel) (by decide +kernel)
set_option maxRecDepth 20000 in
theorem gX5_lettersTo_X5_patternIn : GoodIn wsX5_lettersTo (wsV RX5 92 RX5 yX5_patternIn wsX5_patternIn) := goodIn_app (goodIn_of _ (by decide +kernel)) ggX5_lettersTo_X5_patternIn
set_option maxRecDepth 20000 in
theorem ggX5_lettersTo_X5_fewestLettersTo : GoodIn wsX5_lettersTo wsX5_fewestLettersTo := goodIn_r _ [19, 20, 21, 22, 23, 24, 5, 25, 11, 26, 27, 28, 29, 30, 31, 32, 33, 34, 35, 36, 37, 38, 39, 40, 41, 42, 43, 44, 45, 46, 47, 14, 15, 13, 48, 49, 50, 51, 52, 53, 54, 55, 56, 57, 58, 59, 60, 61, 62, 73, 74, 75, 76, 77, 63, 64, 65, 66, 67, 68, 69, 70, 71, 72] (by decide +kernel) (by decide +kernel)
set_option maxRecDepth 20000 in
theorem gX5_lettersTo_X5_fewestLettersTo : GoodIn wsX5_lettersTo (wsV RX5 195 RX5 yX5_fewestLettersTo wsX5_fewestLettersTo) := goodIn_app (goodIn_of _ (by decide +kernel)) ggX5_lettersTo_X5_fewestLettersTo
theorem dX5_lettersTo_0 : decode cX5_lettersTo 0 = .ok (.iload_n 1, 1) := by decide +kernel
theorem dX5_lettersTo_1 : decode cX5_lettersTo 1 = .ok (.invokestatic 83, 3) := by decide +kernel
theorem dX5_lettersTo_4 : decode cX5_lettersTo 4 = .ok (.ifCond .ne 13, 3) := by decide +kernel
theorem dX5_lettersTo_7 : decode cX5_lettersTo 7 = .ok (.new 87, 3) := by decide +kernel
theorem dX5_lettersTo_10 : decode cX5_lettersTo 10 = .ok (.dup, 1) := by decide +kernel
theorem dX5_lettersTo_11 : decode cX5_lettersTo 11 = .ok (.ldc 89, 2) := by decide +kernel
theorem dX5_lettersTo_13 : decode cX5_lettersTo 13 = .ok (.invokespecial 91, 3) := by decide +kernel
theorem dX5_lettersTo_16 : decode cX5_lettersTo 16 = .ok (.athrow, 1) := by decide +kernel
theorem dX5_lettersTo_17 : decode cX5_lettersTo 17 = .ok (.aload_n 0, 1) := by decide +kernel
theorem dX5_lettersTo_18 : decode cX5_lettersTo 18 = .ok (.aload_n 0, 1) := by decide +kernel
theorem dX5_lettersTo_19 : decode cX5_lettersTo 19 = .ok (.iload_n 1, 1) := by decide +kernel
theorem dX5_lettersTo_20 : decode cX5_lettersTo 20 = .ok (.invokevirtual 92, 3) := by decide +kernel
theorem dX5_lettersTo_23 : decode cX5_lettersTo 23 = .ok (.invokevirtual 195, 3) := by decide +kernel
theorem dX5_lettersTo_26 : decode cX5_lettersTo 26 = .ok (.ireturn, 1) := by decide +kernel
set_option maxRecDepth 20000 in
theorem ggX5_ifRepeated_X5_isLetter : GoodIn wsX5_ifRepeated wsX5_isLetter := goodIn_r _ [6] (by decide +kernel) (by decide +kernel)
set_option maxRecDepth 20000 in
theorem gX5_ifRepeated_X5_isLetter : GoodIn wsX5_ifRepeated (va_wsS RX5 111 yX5_isLetter wsX5_isLetter) := goodIn_app (goodIn_of _ (by decide +kernel)) ggX5_ifRepeated_X5_isLetter
set_option maxRecDepth 20000 in
theorem ggX5_ifRepeated_X5_matchesIfRepeated : GoodIn wsX5_ifRepeated wsX5_matchesIfRepeated := goodIn_r _ [10, 11, 12, 13, 14, 15, 16, 17, 5, 18, 19, 20, 21, 22, 23, 24, 25, 26, 27, 28, 29, 30, 31, 32, 33, 34, 35, 36, 37, 38, 39, 40, 41, 42, 43, 44, 45, 46, 47, 48, 49, 50, 51, 52, 53, 54, 55, 56, 57, 58, 59, 60, 61, 62, 63, 64, 65, 66, 67, 68, 69, 70, 71, 72, 73, 74, 75, 76, 77, 78, 79, 80, 81, 82, 83] (by decide +kernel) (by decide +kernel)
set_option maxRecDepth 20000 in
theorem gX5_ifRepeated_X5_matchesIfRepeated : GoodIn wsX5_ifRepeated (wsV RX5 200 RX5 yX5_matchesIfRepeated wsX5_matchesIfRepeated) := goodIn_app (goodIn_of _ (by decide +kernel)) ggX5_ifRepeated_X5_matchesIfRepeated
theorem dX5_ifRepeated_0 : decode cX5_ifRepeated 0 = .ok (.iload_n 1, 1) := by decide +kernel
theorem dX5_ifRepeated_1 : decode cX5_ifRepeated 1 = .ok (.invokestatic 111, 3) := by decide +kernel
theorem dX5_ifRepeated_4 : decode cX5_ifRepeated 4 = .ok (.ifCond .ne 13, 3) := by decide +kernel
theorem dX5_ifRepeated_7 : decode cX5_ifRepeated 7 = .ok (.new 45, 3) := by decide +kernel
theorem dX5_ifRepeated_10 : decode cX5_ifRepeated 10 = .ok (.dup, 1) := by decide +kernel
theorem dX5_ifRepeated_11 : decode cX5_ifRepeated 11 = .ok (.ldc 114, 2) := by decide +kernel
theorem dX5_ifRepeated_13 : decode cX5_ifRepeated 13 = .ok (.invokespecial 49, 3) := by decide +kernel
theorem dX5_ifRepeated_16 : decode cX5_ifRepeated 16 = .ok (.athrow, 1) := by decide +kernel
theorem dX5_ifRepeated_17 : decode cX5_ifRepeated 17 = .ok (.iload_n 2, 1) := by decide +kernel
theorem dX5_ifRepeated_18 : decode cX5_ifRepeated 18 = .ok (.iconst 1, 1) := by decide +kernel
theorem dX5_ifRepeated_19 : decode cX5_ifRepeated 19 = .ok (.if_icmp .lt 10, 3) := by decide +kernel
theorem dX5_ifRepeated_22 : decode cX5_ifRepeated 22 = .ok (.iload_n 2, 1) := by decide +kernel
theorem dX5_ifRepeated_23 : decode cX5_ifRepeated 23 = .ok (.sipush 200, 3) := by decide +kernel
theorem dX5_ifRepeated_26 : decode cX5_ifRepeated 26 = .ok (.if_icmp .le 13, 3) := by decide +kernel
theorem dX5_ifRepeated_29 : decode cX5_ifRepeated 29 = .ok (.new 45, 3) := by decide +kernel
theorem dX5_ifRepeated_32 : decode cX5_ifRepeated 32 = .ok (.dup, 1) := by decide +kernel
theorem dX5_ifRepeated_33 : decode cX5_ifRepeated 33 = .ok (.ldc 198, 2) := by decide +kernel
theorem dX5_ifRepeated_35 : decode cX5_ifRepeated 35 = .ok (.invokespecial 49, 3) := by decide +kernel
theorem dX5_ifRepeated_38 : decode cX5_ifRepeated 38 = .ok (.athrow, 1) := by decide +kernel
theorem dX5_ifRepeated_39 : decode cX5_ifRepeated 39 = .ok (.aload_n 0, 1) := by decide +kernel
theorem dX5_ifRepeated_40 : decode cX5_ifRepeated 40 = .ok (.iload_n 1, 1) := by decide +kernel
theorem dX5_ifRepeated_41 : decode cX5_ifRepeated 41 = .ok (.iload_n 2, 1) := by decide +kernel
theorem dX5_ifRepeated_42 : decode cX5_ifRepeated 42 = .ok (.invokevirtual 200, 3) := by decide +kernel
theorem dX5_ifRepeated_45 : decode cX5_ifRepeated 45 = .ok (.ireturn, 1) := by decide +kernel
theorem dX5_at_0 : decode cX5_at 0 = .ok (.aload_n 0, 1) := by decide +kernel
theorem dX5_at_1 : decode cX5_at 1 = .ok (.ifnull 19, 3) := by decide +kernel
theorem dX5_at_4 : decode cX5_at 4 = .ok (.iload_n 1, 1) := by decide +kernel
theorem dX5_at_5 : decode cX5_at 5 = .ok (.ifCond .lt 15, 3) := by decide +kernel
theorem dX5_at_8 : decode cX5_at 8 = .ok (.iload_n 1, 1) := by decide +kernel
theorem dX5_at_9 : decode cX5_at 9 = .ok (.aload_n 0, 1) := by decide +kernel
theorem dX5_at_10 : decode cX5_at 10 = .ok (.arraylength, 1) := by decide +kernel
theorem dX5_at_11 : decode cX5_at 11 = .ok (.if_icmp .ge 9, 3) := by decide +kernel
theorem dX5_at_14 : decode cX5_at 14 = .ok (.aload_n 0, 1) := by decide +kernel
theorem dX5_at_15 : decode cX5_at 15 = .ok (.iload_n 1, 1) := by decide +kernel
theorem dX5_at_16 : decode cX5_at 16 = .ok (.iaload, 1) := by decide +kernel
theorem dX5_at_17 : decode cX5_at 17 = .ok (.goto 4, 3) := by decide +kernel
theorem dX5_at_20 : decode cX5_at 20 = .ok (.iconst 0, 1) := by decide +kernel
theorem dX5_at_21 : decode cX5_at 21 = .ok (.ireturn, 1) := by decide +kernel
theorem dX5_put_0 : decode cX5_put 0 = .ok (.aload_n 0, 1) := by decide +kernel
theorem dX5_put_1 : decode cX5_put 1 = .ok (.ifnull 17, 3) := by decide +kernel
theorem dX5_put_4 : decode cX5_put 4 = .ok (.iload_n 1, 1) := by decide +kernel
theorem dX5_put_5 : decode cX5_put 5 = .ok (.ifCond .lt 13, 3) := by decide +kernel
theorem dX5_put_8 : decode cX5_put 8 = .ok (.iload_n 1, 1) := by decide +kernel
theorem dX5_put_9 : decode cX5_put 9 = .ok (.aload_n 0, 1) := by decide +kernel
theorem dX5_put_10 : decode cX5_put 10 = .ok (.arraylength, 1) := by decide +kernel
theorem dX5_put_11 : decode cX5_put 11 = .ok (.if_icmp .ge 7, 3) := by decide +kernel
theorem dX5_put_14 : decode cX5_put 14 = .ok (.aload_n 0, 1) := by decide +kernel
theorem dX5_put_15 : decode cX5_put 15 = .ok (.iload_n 1, 1) := by decide +kernel
theorem dX5_put_16 : decode cX5_put 16 = .ok (.iload_n 2, 1) := by decide +kernel
theorem dX5_put_17 : decode cX5_put 17 = .ok (.iastore, 1) := by decide +kernel
theorem dX5_put_18 : decode cX5_put 18 = .ok (.return_, 1) := by decide +kernel
theorem dX5_isSlot_0 : decode cX5_isSlot 0 = .ok (.iload_n 0, 1) := by decide +kernel
theorem dX5_isSlot_1 : decode cX5_isSlot 1 = .ok (.ifCond .lt 13, 3) := by decide +kernel
theorem dX5_isSlot_4 : decode cX5_isSlot 4 = .ok (.iload_n 0, 1) := by decide +kernel
theorem dX5_isSlot_5 : decode cX5_isSlot 5 = .ok (.bipush 8, 2) := by decide +kernel
theorem dX5_isSlot_7 : decode cX5_isSlot 7 = .ok (.if_icmp .ge 7, 3) := by decide +kernel
theorem dX5_isSlot_10 : decode cX5_isSlot 10 = .ok (.iconst 1, 1) := by decide +kernel
theorem dX5_isSlot_11 : decode cX5_isSlot 11 = .ok (.goto 4, 3) := by decide +kernel
theorem dX5_isSlot_14 : decode cX5_isSlot 14 = .ok (.iconst 0, 1) := by decide +kernel
theorem dX5_isSlot_15 : decode cX5_isSlot 15 = .ok (.ireturn, 1) := by decide +kernel
theorem dX5_isLetter_0 : decode cX5_isLetter 0 = .ok (.iload_n 0, 1) := by decide +kernel
theorem dX5_isLetter_1 : decode cX5_isLetter 1 = .ok (.ifCond .lt 12, 3) := by decide +kernel
theorem dX5_isLetter_4 : decode cX5_isLetter 4 = .ok (.iload_n 0, 1) := by decide +kernel
theorem dX5_isLetter_5 : decode cX5_isLetter 5 = .ok (.iconst 4, 1) := by decide +kernel
theorem dX5_isLetter_6 : decode cX5_isLetter 6 = .ok (.if_icmp .ge 7, 3) := by decide +kernel
theorem dX5_isLetter_9 : decode cX5_isLetter 9 = .ok (.iconst 1, 1) := by decide +kernel
theorem dX5_isLetter_10 : decode cX5_isLetter 10 = .ok (.goto 4, 3) := by decide +kernel
theorem dX5_isLetter_13 : decode cX5_isLetter 13 = .ok (.iconst 0, 1) := by decide +kernel
theorem dX5_isLetter_14 : decode cX5_isLetter 14 = .ok (.ireturn, 1) := by decide +kernel
set_option maxRecDepth 20000 in
theorem ggX5_patternIn_X5_at : GoodIn wsX5_patternIn wsX5_at := goodIn_r _ [6] (by decide +kernel) (by decide +kernel)
set_option maxRecDepth 20000 in
theorem gX5_patternIn_X5_at : GoodIn wsX5_patternIn (va_wsS RX5 68 yX5_at wsX5_at) := goodIn_app (goodIn_of _ (by decide +kernel)) ggX5_patternIn_X5_at
theorem dX5_patternIn_0 : decode cX5_patternIn 0 = .ok (.aload_n 0, 1) := by decide +kernel
theorem dX5_patternIn_1 : decode cX5_patternIn 1 = .ok (.getfield 12, 3) := by decide +kernel
theorem dX5_patternIn_4 : decode cX5_patternIn 4 = .ok (.getfield 65, 3) := by decide +kernel
theorem dX5_patternIn_7 : decode cX5_patternIn 7 = .ok (.iload_n 1, 1) := by decide +kernel
theorem dX5_patternIn_8 : decode cX5_patternIn 8 = .ok (.invokestatic 68, 3) := by decide +kernel
theorem dX5_patternIn_11 : decode cX5_patternIn 11 = .ok (.ireturn, 1) := by decide +kernel
set_option maxRecDepth 20000 in
theorem ggX5_draftPatterns_X5_patternIn : GoodIn wsX5_draftPatterns wsX5_patternIn := goodIn_r _ [9, 10, 11, 12, 13, 8, 14, 33, 34, 35, 36, 37, 40, 41, 42, 43, 44, 45, 46, 47, 48, 49] (by decide +kernel) (by decide +kernel)
set_option maxRecDepth 20000 in
theorem gX5_draftPatterns_X5_patternIn : GoodIn wsX5_draftPatterns (wsV RX5 92 RX5 yX5_patternIn wsX5_patternIn) := goodIn_app (goodIn_of _ (by decide +kernel)) ggX5_draftPatterns_X5_patternIn
set_option maxRecDepth 20000 in
theorem ggX5_draftPatterns_X5_put : GoodIn wsX5_draftPatterns wsX5_put := goodIn_r _ [17] (by decide +kernel) (by decide +kernel)
set_option maxRecDepth 20000 in
theorem gX5_draftPatterns_X5_put : GoodIn wsX5_draftPatterns (va_wsS RX5 72 yX5_put wsX5_put) := goodIn_app (goodIn_of _ (by decide +kernel)) ggX5_draftPatterns_X5_put
set_option maxRecDepth 20000 in
theorem ggX5_draftPatterns_X5_at : GoodIn wsX5_draftPatterns wsX5_at := goodIn_r _ [14] (by decide +kernel) (by decide +kernel)
set_option maxRecDepth 20000 in
theorem gX5_draftPatterns_X5_at : GoodIn wsX5_draftPatterns (va_wsS RX5 68 yX5_at wsX5_at) := goodIn_app (goodIn_of _ (by decide +kernel)) ggX5_draftPatterns_X5_at
set_option maxRecDepth 20000 in
theorem ggX5_draftPatterns_X3_behind : GoodIn wsX5_draftPatterns wsX3_behind := goodIn_r _ [21] (by decide +kernel) (by decide +kernel)
set_option maxRecDepth 20000 in
theorem gX5_draftPatterns_X3_behind : GoodIn wsX5_draftPatterns (va_wsS RX5 243 yX3_behind wsX3_behind) := goodIn_app (goodIn_of _ (by decide +kernel)) ggX5_draftPatterns_X3_behind
set_option maxRecDepth 20000 in
theorem ggX5_draftPatterns_X0_endsPart : GoodIn wsX5_draftPatterns wsX0_endsPart := goodIn_r _ [26, 27, 28, 13, 8, 14, 38, 39] (by decide +kernel) (by decide +kernel)
set_option maxRecDepth 20000 in
theorem gX5_draftPatterns_X0_endsPart : GoodIn wsX5_draftPatterns (wsV RX5 246 RX0 yX0_endsPart wsX0_endsPart) := goodIn_app (goodIn_of _ (by decide +kernel)) ggX5_draftPatterns_X0_endsPart
set_option maxRecDepth 20000 in
theorem ggX5_draftPatterns_X5_draftSlotOf : GoodIn wsX5_draftPatterns wsX5_draftSlotOf := goodIn_r _ [32, 1, 12, 13, 8, 14, 33, 34, 35, 36, 37] (by decide +kernel) (by decide +kernel)
set_option maxRecDepth 20000 in
theorem gX5_draftPatterns_X5_draftSlotOf : GoodIn wsX5_draftPatterns (wsV RX5 249 RX5 yX5_draftSlotOf wsX5_draftSlotOf) := goodIn_app (goodIn_of _ (by decide +kernel)) ggX5_draftPatterns_X5_draftSlotOf
theorem dX5_draftPatterns_0 : decode cX5_draftPatterns 0 = .ok (.iconst 0, 1) := by decide +kernel
theorem dX5_draftPatterns_1 : decode cX5_draftPatterns 1 = .ok (.istore_n 1, 1) := by decide +kernel
theorem dX5_draftPatterns_2 : decode cX5_draftPatterns 2 = .ok (.iload_n 1, 1) := by decide +kernel
theorem dX5_draftPatterns_3 : decode cX5_draftPatterns 3 = .ok (.bipush 8, 2) := by decide +kernel
theorem dX5_draftPatterns_5 : decode cX5_draftPatterns 5 = .ok (.if_icmp .ge 22, 3) := by decide +kernel
theorem dX5_draftPatterns_8 : decode cX5_draftPatterns 8 = .ok (.aload_n 0, 1) := by decide +kernel
theorem dX5_draftPatterns_9 : decode cX5_draftPatterns 9 = .ok (.getfield 37, 3) := by decide +kernel
theorem dX5_draftPatterns_12 : decode cX5_draftPatterns 12 = .ok (.iload_n 1, 1) := by decide +kernel
theorem dX5_draftPatterns_13 : decode cX5_draftPatterns 13 = .ok (.aload_n 0, 1) := by decide +kernel
theorem dX5_draftPatterns_14 : decode cX5_draftPatterns 14 = .ok (.iload_n 1, 1) := by decide +kernel
theorem dX5_draftPatterns_15 : decode cX5_draftPatterns 15 = .ok (.invokevirtual 92, 3) := by decide +kernel
theorem dX5_draftPatterns_18 : decode cX5_draftPatterns 18 = .ok (.invokestatic 72, 3) := by decide +kernel
theorem dX5_draftPatterns_21 : decode cX5_draftPatterns 21 = .ok (.iinc 1 1, 3) := by decide +kernel
theorem dX5_draftPatterns_24 : decode cX5_draftPatterns 24 = .ok (.goto (-22), 3) := by decide +kernel
theorem dX5_draftPatterns_27 : decode cX5_draftPatterns 27 = .ok (.iconst 0, 1) := by decide +kernel
theorem dX5_draftPatterns_28 : decode cX5_draftPatterns 28 = .ok (.istore_n 1, 1) := by decide +kernel
theorem dX5_draftPatterns_29 : decode cX5_draftPatterns 29 = .ok (.iconst 1, 1) := by decide +kernel
theorem dX5_draftPatterns_30 : decode cX5_draftPatterns 30 = .ok (.istore_n 2, 1) := by decide +kernel
theorem dX5_draftPatterns_31 : decode cX5_draftPatterns 31 = .ok (.iconst 0, 1) := by decide +kernel
theorem dX5_draftPatterns_32 : decode cX5_draftPatterns 32 = .ok (.istore_n 3, 1) := by decide +kernel
theorem dX5_draftPatterns_33 : decode cX5_draftPatterns 33 = .ok (.iload_n 3, 1) := by decide +kernel
theorem dX5_draftPatterns_34 : decode cX5_draftPatterns 34 = .ok (.aload_n 0, 1) := by decide +kernel
theorem dX5_draftPatterns_35 : decode cX5_draftPatterns 35 = .ok (.getfield 33, 3) := by decide +kernel
theorem dX5_draftPatterns_38 : decode cX5_draftPatterns 38 = .ok (.getfield 142, 3) := by decide +kernel
theorem dX5_draftPatterns_41 : decode cX5_draftPatterns 41 = .ok (.if_icmp .ge 91, 3) := by decide +kernel
theorem dX5_draftPatterns_44 : decode cX5_draftPatterns 44 = .ok (.aload_n 0, 1) := by decide +kernel
theorem dX5_draftPatterns_45 : decode cX5_draftPatterns 45 = .ok (.getfield 33, 3) := by decide +kernel
theorem dX5_draftPatterns_48 : decode cX5_draftPatterns 48 = .ok (.getfield 240, 3) := by decide +kernel
theorem dX5_draftPatterns_51 : decode cX5_draftPatterns 51 = .ok (.iload_n 3, 1) := by decide +kernel
theorem dX5_draftPatterns_52 : decode cX5_draftPatterns 52 = .ok (.invokestatic 68, 3) := by decide +kernel
theorem dX5_draftPatterns_55 : decode cX5_draftPatterns 55 = .ok (.istore 4, 2) := by decide +kernel
theorem dX5_draftPatterns_57 : decode cX5_draftPatterns 57 = .ok (.iload 4, 2) := by decide +kernel
theorem dX5_draftPatterns_59 : decode cX5_draftPatterns 59 = .ok (.bipush 59, 2) := by decide +kernel
theorem dX5_draftPatterns_61 : decode cX5_draftPatterns 61 = .ok (.if_icmp .ne 7, 3) := by decide +kernel
theorem dX5_draftPatterns_64 : decode cX5_draftPatterns 64 = .ok (.iconst 1, 1) := by decide +kernel
theorem dX5_draftPatterns_65 : decode cX5_draftPatterns 65 = .ok (.goto 12, 3) := by decide +kernel
theorem dX5_draftPatterns_68 : decode cX5_draftPatterns 68 = .ok (.iload_n 2, 1) := by decide +kernel
theorem dX5_draftPatterns_69 : decode cX5_draftPatterns 69 = .ok (.iload 4, 2) := by decide +kernel
theorem dX5_draftPatterns_71 : decode cX5_draftPatterns 71 = .ok (.bipush 97, 2) := by decide +kernel
theorem dX5_draftPatterns_73 : decode cX5_draftPatterns 73 = .ok (.isub, 1) := by decide +kernel
theorem dX5_draftPatterns_74 : decode cX5_draftPatterns 74 = .ok (.invokestatic 243, 3) := by decide +kernel
theorem dX5_draftPatterns_77 : decode cX5_draftPatterns 77 = .ok (.istore_n 2, 1) := by decide +kernel
theorem dX5_draftPatterns_78 : decode cX5_draftPatterns 78 = .ok (.aload_n 0, 1) := by decide +kernel
theorem dX5_draftPatterns_79 : decode cX5_draftPatterns 79 = .ok (.getfield 33, 3) := by decide +kernel
theorem dX5_draftPatterns_82 : decode cX5_draftPatterns 82 = .ok (.iload_n 3, 1) := by decide +kernel
theorem dX5_draftPatterns_83 : decode cX5_draftPatterns 83 = .ok (.invokevirtual 246, 3) := by decide +kernel
theorem dX5_draftPatterns_86 : decode cX5_draftPatterns 86 = .ok (.ifCond .eq 40, 3) := by decide +kernel
theorem dX5_draftPatterns_89 : decode cX5_draftPatterns 89 = .ok (.aload_n 0, 1) := by decide +kernel
theorem dX5_draftPatterns_90 : decode cX5_draftPatterns 90 = .ok (.iload_n 2, 1) := by decide +kernel
theorem dX5_draftPatterns_91 : decode cX5_draftPatterns 91 = .ok (.invokevirtual 249, 3) := by decide +kernel
theorem dX5_draftPatterns_94 : decode cX5_draftPatterns 94 = .ok (.iconst (-1), 1) := by decide +kernel
theorem dX5_draftPatterns_95 : decode cX5_draftPatterns 95 = .ok (.if_icmp .ne 31, 3) := by decide +kernel
theorem dX5_draftPatterns_98 : decode cX5_draftPatterns 98 = .ok (.aload_n 0, 1) := by decide +kernel
theorem dX5_draftPatterns_99 : decode cX5_draftPatterns 99 = .ok (.iconst 0, 1) := by decide +kernel
theorem dX5_draftPatterns_100 : decode cX5_draftPatterns 100 = .ok (.invokevirtual 249, 3) := by decide +kernel
theorem dX5_draftPatterns_103 : decode cX5_draftPatterns 103 = .ok (.istore 5, 2) := by decide +kernel
theorem dX5_draftPatterns_105 : decode cX5_draftPatterns 105 = .ok (.iload 5, 2) := by decide +kernel
theorem dX5_draftPatterns_107 : decode cX5_draftPatterns 107 = .ok (.iconst (-1), 1) := by decide +kernel
theorem dX5_draftPatterns_108 : decode cX5_draftPatterns 108 = .ok (.if_icmp .ne 5, 3) := by decide +kernel
theorem dX5_draftPatterns_111 : decode cX5_draftPatterns 111 = .ok (.iconst (-1), 1) := by decide +kernel
theorem dX5_draftPatterns_112 : decode cX5_draftPatterns 112 = .ok (.ireturn, 1) := by decide +kernel
theorem dX5_draftPatterns_113 : decode cX5_draftPatterns 113 = .ok (.aload_n 0, 1) := by decide +kernel
theorem dX5_draftPatterns_114 : decode cX5_draftPatterns 114 = .ok (.getfield 37, 3) := by decide +kernel
theorem dX5_draftPatterns_117 : decode cX5_draftPatterns 117 = .ok (.iload 5, 2) := by decide +kernel
theorem dX5_draftPatterns_119 : decode cX5_draftPatterns 119 = .ok (.iload_n 2, 1) := by decide +kernel
theorem dX5_draftPatterns_120 : decode cX5_draftPatterns 120 = .ok (.invokestatic 72, 3) := by decide +kernel
theorem dX5_draftPatterns_123 : decode cX5_draftPatterns 123 = .ok (.iinc 1 1, 3) := by decide +kernel
theorem dX5_draftPatterns_126 : decode cX5_draftPatterns 126 = .ok (.iinc 3 1, 3) := by decide +kernel
theorem dX5_draftPatterns_129 : decode cX5_draftPatterns 129 = .ok (.goto (-96), 3) := by decide +kernel
theorem dX5_draftPatterns_132 : decode cX5_draftPatterns 132 = .ok (.iload_n 1, 1) := by decide +kernel
theorem dX5_draftPatterns_133 : decode cX5_draftPatterns 133 = .ok (.ireturn, 1) := by decide +kernel
set_option maxRecDepth 20000 in
theorem ggX5_draftSlotOf_X5_at : GoodIn wsX5_draftSlotOf wsX5_at := goodIn_r _ [5] (by decide +kernel) (by decide +kernel)
set_option maxRecDepth 20000 in
theorem gX5_draftSlotOf_X5_at : GoodIn wsX5_draftSlotOf (va_wsS RX5 68 yX5_at wsX5_at) := goodIn_app (goodIn_of _ (by decide +kernel)) ggX5_draftSlotOf_X5_at
theorem dX5_draftSlotOf_0 : decode cX5_draftSlotOf 0 = .ok (.iconst 0, 1) := by decide +kernel
theorem dX5_draftSlotOf_1 : decode cX5_draftSlotOf 1 = .ok (.istore_n 2, 1) := by decide +kernel
theorem dX5_draftSlotOf_2 : decode cX5_draftSlotOf 2 = .ok (.iload_n 2, 1) := by decide +kernel
theorem dX5_draftSlotOf_3 : decode cX5_draftSlotOf 3 = .ok (.bipush 8, 2) := by decide +kernel
theorem dX5_draftSlotOf_5 : decode cX5_draftSlotOf 5 = .ok (.if_icmp .ge 23, 3) := by decide +kernel
theorem dX5_draftSlotOf_8 : decode cX5_draftSlotOf 8 = .ok (.aload_n 0, 1) := by decide +kernel
theorem dX5_draftSlotOf_9 : decode cX5_draftSlotOf 9 = .ok (.getfield 37, 3) := by decide +kernel
theorem dX5_draftSlotOf_12 : decode cX5_draftSlotOf 12 = .ok (.iload_n 2, 1) := by decide +kernel
theorem dX5_draftSlotOf_13 : decode cX5_draftSlotOf 13 = .ok (.invokestatic 68, 3) := by decide +kernel
theorem dX5_draftSlotOf_16 : decode cX5_draftSlotOf 16 = .ok (.iload_n 1, 1) := by decide +kernel
theorem dX5_draftSlotOf_17 : decode cX5_draftSlotOf 17 = .ok (.if_icmp .ne 5, 3) := by decide +kernel
theorem dX5_draftSlotOf_20 : decode cX5_draftSlotOf 20 = .ok (.iload_n 2, 1) := by decide +kernel
theorem dX5_draftSlotOf_21 : decode cX5_draftSlotOf 21 = .ok (.ireturn, 1) := by decide +kernel
theorem dX5_draftSlotOf_22 : decode cX5_draftSlotOf 22 = .ok (.iinc 2 1, 3) := by decide +kernel
theorem dX5_draftSlotOf_25 : decode cX5_draftSlotOf 25 = .ok (.goto (-23), 3) := by decide +kernel
theorem dX5_draftSlotOf_28 : decode cX5_draftSlotOf 28 = .ok (.iconst (-1), 1) := by decide +kernel
theorem dX5_draftSlotOf_29 : decode cX5_draftSlotOf 29 = .ok (.ireturn, 1) := by decide +kernel
set_option maxRecDepth 20000 in
theorem ggX5_patternProperty_X5_patternIn : GoodIn wsX5_patternProperty wsX5_patternIn := goodIn_r _ [9, 1, 10, 11, 12, 8, 13, 56, 57, 58, 59, 60, 61, 62, 63, 64, 65, 66, 67, 68, 69, 70] (by decide +kernel) (by decide +kernel)
set_option maxRecDepth 20000 in
theorem gX5_patternProperty_X5_patternIn : GoodIn wsX5_patternProperty (wsV RX5 92 RX5 yX5_patternIn wsX5_patternIn) := goodIn_app (goodIn_of _ (by decide +kernel)) ggX5_patternProperty_X5_patternIn
set_option maxRecDepth 20000 in
theorem ggX5_patternProperty_X3_lengthOf : GoodIn wsX5_patternProperty wsX3_lengthOf := goodIn_r _ [17] (by decide +kernel) (by decide +kernel)
set_option maxRecDepth 20000 in
theorem gX5_patternProperty_X3_lengthOf : GoodIn wsX5_patternProperty (va_wsS RX5 252 yX3_lengthOf wsX3_lengthOf) := goodIn_app (goodIn_of _ (by decide +kernel)) ggX5_patternProperty_X3_lengthOf
set_option maxRecDepth 20000 in
theorem ggX5_patternProperty_X5_at : GoodIn wsX5_patternProperty wsX5_at := goodIn_r _ [13] (by decide +kernel) (by decide +kernel)
set_option maxRecDepth 20000 in
theorem gX5_patternProperty_X5_at : GoodIn wsX5_patternProperty (va_wsS RX5 68 yX5_at wsX5_at) := goodIn_app (goodIn_of _ (by decide +kernel)) ggX5_patternProperty_X5_at
set_option maxRecDepth 20000 in
theorem ggX5_patternProperty_X1_stateBehind : GoodIn wsX5_patternProperty wsX1_stateBehind := goodIn_r _ [22, 23, 15, 16, 17, 24, 25, 26, 27, 28, 29, 30, 31, 32, 33, 21, 34, 35, 12, 8, 13, 71, 72, 73, 74, 75] (by decide +kernel) (by decide +kernel)
set_option maxRecDepth 20000 in
theorem gX5_patternProperty_X1_stateBehind : GoodIn wsX5_patternProperty (wsV RX5 258 RX1 yX1_stateBehind wsX1_stateBehind) := goodIn_app (goodIn_of _ (by decide +kernel)) ggX5_patternProperty_X1_stateBehind
set_option maxRecDepth 20000 in
theorem ggX5_patternProperty_X5_othersInside : GoodIn wsX5_patternProperty wsX5_othersInside := goodIn_r _ [39, 5, 6, 7, 8, 9, 1, 10, 11, 12, 13, 40, 41, 16, 42, 27, 15, 17, 43, 44, 45, 46, 47, 48, 49, 50, 51, 56, 57, 58, 59, 60, 61, 62, 63, 64, 65, 66, 67, 68, 69, 70] (by decide +kernel) (by decide +kernel)
set_option maxRecDepth 20000 in
theorem gX5_patternProperty_X5_othersInside : GoodIn wsX5_patternProperty (wsV RX5 261 RX5 yX5_othersInside wsX5_othersInside) := goodIn_app (goodIn_of _ (by decide +kernel)) ggX5_patternProperty_X5_othersInside
set_option maxRecDepth 20000 in
theorem ggX5_patternProperty_X5_othersAround : GoodIn wsX5_patternProperty wsX5_othersAround := goodIn_r _ [55, 5, 6, 7, 8, 9, 1, 10, 11, 12, 13, 40, 41, 16, 42, 27, 15, 17, 43, 44, 45, 46, 47, 48, 49, 50, 51, 56, 57, 58, 59, 60, 61, 62, 63, 64, 65, 66, 67, 68, 69, 70] (by decide +kernel) (by decide +kernel)
set_option maxRecDepth 20000 in
theorem gX5_patternProperty_X5_othersAround : GoodIn wsX5_patternProperty (wsV RX5 264 RX5 yX5_othersAround wsX5_othersAround) := goodIn_app (goodIn_of _ (by decide +kernel)) ggX5_patternProperty_X5_othersAround
theorem dX5_patternProperty_0 : decode cX5_patternProperty 0 = .ok (.aload_n 0, 1) := by decide +kernel
theorem dX5_patternProperty_1 : decode cX5_patternProperty 1 = .ok (.iload_n 1, 1) := by decide +kernel
theorem dX5_patternProperty_2 : decode cX5_patternProperty 2 = .ok (.invokevirtual 92, 3) := by decide +kernel
theorem dX5_patternProperty_5 : decode cX5_patternProperty 5 = .ok (.istore_n 3, 1) := by decide +kernel
theorem dX5_patternProperty_6 : decode cX5_patternProperty 6 = .ok (.iload_n 2, 1) := by decide +kernel
theorem dX5_patternProperty_7 : decode cX5_patternProperty 7 = .ok (.tableswitch 85 0 4 #[33, 38, 50, 62, 79], 33) := by decide +kernel
theorem dX5_patternProperty_40 : decode cX5_patternProperty 40 = .ok (.iload_n 3, 1) := by decide +kernel
theorem dX5_patternProperty_41 : decode cX5_patternProperty 41 = .ok (.invokestatic 252, 3) := by decide +kernel
theorem dX5_patternProperty_44 : decode cX5_patternProperty 44 = .ok (.ireturn, 1) := by decide +kernel
theorem dX5_patternProperty_45 : decode cX5_patternProperty 45 = .ok (.aload_n 0, 1) := by decide +kernel
theorem dX5_patternProperty_46 : decode cX5_patternProperty 46 = .ok (.getfield 12, 3) := by decide +kernel
theorem dX5_patternProperty_49 : decode cX5_patternProperty 49 = .ok (.getfield 98, 3) := by decide +kernel
theorem dX5_patternProperty_52 : decode cX5_patternProperty 52 = .ok (.iload_n 1, 1) := by decide +kernel
theorem dX5_patternProperty_53 : decode cX5_patternProperty 53 = .ok (.invokestatic 68, 3) := by decide +kernel
theorem dX5_patternProperty_56 : decode cX5_patternProperty 56 = .ok (.ireturn, 1) := by decide +kernel
theorem dX5_patternProperty_57 : decode cX5_patternProperty 57 = .ok (.aload_n 0, 1) := by decide +kernel
theorem dX5_patternProperty_58 : decode cX5_patternProperty 58 = .ok (.getfield 12, 3) := by decide +kernel
theorem dX5_patternProperty_61 : decode cX5_patternProperty 61 = .ok (.getfield 255, 3) := by decide +kernel
theorem dX5_patternProperty_64 : decode cX5_patternProperty 64 = .ok (.iload_n 1, 1) := by decide +kernel
theorem dX5_patternProperty_65 : decode cX5_patternProperty 65 = .ok (.invokestatic 68, 3) := by decide +kernel
theorem dX5_patternProperty_68 : decode cX5_patternProperty 68 = .ok (.ireturn, 1) := by decide +kernel
theorem dX5_patternProperty_69 : decode cX5_patternProperty 69 = .ok (.iload_n 3, 1) := by decide +kernel
theorem dX5_patternProperty_70 : decode cX5_patternProperty 70 = .ok (.ifCond .ne 7, 3) := by decide +kernel
theorem dX5_patternProperty_73 : decode cX5_patternProperty 73 = .ok (.iconst (-1), 1) := by decide +kernel
theorem dX5_patternProperty_74 : decode cX5_patternProperty 74 = .ok (.goto 11, 3) := by decide +kernel
theorem dX5_patternProperty_77 : decode cX5_patternProperty 77 = .ok (.aload_n 0, 1) := by decide +kernel
theorem dX5_patternProperty_78 : decode cX5_patternProperty 78 = .ok (.getfield 26, 3) := by decide +kernel
theorem dX5_patternProperty_81 : decode cX5_patternProperty 81 = .ok (.iload_n 3, 1) := by decide +kernel
theorem dX5_patternProperty_82 : decode cX5_patternProperty 82 = .ok (.invokevirtual 258, 3) := by decide +kernel
theorem dX5_patternProperty_85 : decode cX5_patternProperty 85 = .ok (.ireturn, 1) := by decide +kernel
theorem dX5_patternProperty_86 : decode cX5_patternProperty 86 = .ok (.aload_n 0, 1) := by decide +kernel
theorem dX5_patternProperty_87 : decode cX5_patternProperty 87 = .ok (.iload_n 1, 1) := by decide +kernel
theorem dX5_patternProperty_88 : decode cX5_patternProperty 88 = .ok (.invokevirtual 261, 3) := by decide +kernel
theorem dX5_patternProperty_91 : decode cX5_patternProperty 91 = .ok (.ireturn, 1) := by decide +kernel
theorem dX5_patternProperty_92 : decode cX5_patternProperty 92 = .ok (.aload_n 0, 1) := by decide +kernel
theorem dX5_patternProperty_93 : decode cX5_patternProperty 93 = .ok (.iload_n 1, 1) := by decide +kernel
theorem dX5_patternProperty_94 : decode cX5_patternProperty 94 = .ok (.invokevirtual 264, 3) := by decide +kernel
theorem dX5_patternProperty_97 : decode cX5_patternProperty 97 = .ok (.ireturn, 1) := by decide +kernel
set_option maxRecDepth 20000 in
theorem ggX5_othersInside_X5_patternIn : GoodIn wsX5_othersInside wsX5_patternIn := goodIn_r _ [5, 6, 7, 8, 9, 4, 10, 27, 28, 29, 30, 31, 32, 33, 34, 35, 36, 37, 38, 39, 40, 41] (by decide +kernel) (by decide +kernel)
set_option maxRecDepth 20000 in
theorem gX5_othersInside_X5_patternIn : GoodIn wsX5_othersInside (wsV RX5 92 RX5 yX5_patternIn wsX5_patternIn) := goodIn_app (goodIn_of _ (by decide +kernel)) ggX5_othersInside_X5_patternIn
set_option maxRecDepth 20000 in
theorem ggX5_othersInside_X3_isPart : GoodIn wsX5_othersInside wsX3_isPart := goodIn_r _ [14, 15, 16, 13, 17, 18, 19, 20, 21, 22, 23, 24, 25, 26] (by decide +kernel) (by decide +kernel)
set_option maxRecDepth 20000 in
theorem gX5_othersInside_X3_isPart : GoodIn wsX5_othersInside (va_wsS RX5 267 yX3_isPart wsX3_isPart) := goodIn_app (goodIn_of _ (by decide +kernel)) ggX5_othersInside_X3_isPart
theorem dX5_othersInside_0 : decode cX5_othersInside 0 = .ok (.iconst 0, 1) := by decide +kernel
theorem dX5_othersInside_1 : decode cX5_othersInside 1 = .ok (.istore_n 2, 1) := by decide +kernel
theorem dX5_othersInside_2 : decode cX5_othersInside 2 = .ok (.iconst 0, 1) := by decide +kernel
theorem dX5_othersInside_3 : decode cX5_othersInside 3 = .ok (.istore_n 3, 1) := by decide +kernel
theorem dX5_othersInside_4 : decode cX5_othersInside 4 = .ok (.iload_n 3, 1) := by decide +kernel
theorem dX5_othersInside_5 : decode cX5_othersInside 5 = .ok (.bipush 8, 2) := by decide +kernel
theorem dX5_othersInside_7 : decode cX5_othersInside 7 = .ok (.if_icmp .ge 33, 3) := by decide +kernel
theorem dX5_othersInside_10 : decode cX5_othersInside 10 = .ok (.iload_n 3, 1) := by decide +kernel
theorem dX5_othersInside_11 : decode cX5_othersInside 11 = .ok (.iload_n 1, 1) := by decide +kernel
theorem dX5_othersInside_12 : decode cX5_othersInside 12 = .ok (.if_icmp .eq 22, 3) := by decide +kernel
theorem dX5_othersInside_15 : decode cX5_othersInside 15 = .ok (.aload_n 0, 1) := by decide +kernel
theorem dX5_othersInside_16 : decode cX5_othersInside 16 = .ok (.iload_n 3, 1) := by decide +kernel
theorem dX5_othersInside_17 : decode cX5_othersInside 17 = .ok (.invokevirtual 92, 3) := by decide +kernel
theorem dX5_othersInside_20 : decode cX5_othersInside 20 = .ok (.aload_n 0, 1) := by decide +kernel
theorem dX5_othersInside_21 : decode cX5_othersInside 21 = .ok (.iload_n 1, 1) := by decide +kernel
theorem dX5_othersInside_22 : decode cX5_othersInside 22 = .ok (.invokevirtual 92, 3) := by decide +kernel
theorem dX5_othersInside_25 : decode cX5_othersInside 25 = .ok (.invokestatic 267, 3) := by decide +kernel
theorem dX5_othersInside_28 : decode cX5_othersInside 28 = .ok (.ifCond .eq 6, 3) := by decide +kernel
theorem dX5_othersInside_31 : decode cX5_othersInside 31 = .ok (.iinc 2 1, 3) := by decide +kernel
theorem dX5_othersInside_34 : decode cX5_othersInside 34 = .ok (.iinc 3 1, 3) := by decide +kernel
theorem dX5_othersInside_37 : decode cX5_othersInside 37 = .ok (.goto (-33), 3) := by decide +kernel
theorem dX5_othersInside_40 : decode cX5_othersInside 40 = .ok (.iload_n 2, 1) := by decide +kernel
theorem dX5_othersInside_41 : decode cX5_othersInside 41 = .ok (.ireturn, 1) := by decide +kernel
set_option maxRecDepth 20000 in
theorem ggX5_othersAround_X5_patternIn : GoodIn wsX5_othersAround wsX5_patternIn := goodIn_r _ [5, 6, 7, 8, 9, 4, 10, 27, 28, 29, 30, 31, 32, 33, 34, 35, 36, 37, 38, 39, 40, 41] (by decide +kernel) (by decide +kernel)
set_option maxRecDepth 20000 in
theorem gX5_othersAround_X5_patternIn : GoodIn wsX5_othersAround (wsV RX5 92 RX5 yX5_patternIn wsX5_patternIn) := goodIn_app (goodIn_of _ (by decide +kernel)) ggX5_othersAround_X5_patternIn
set_option maxRecDepth 20000 in
theorem ggX5_othersAround_X3_isPart : GoodIn wsX5_othersAround wsX3_isPart := goodIn_r _ [14, 15, 16, 13, 17, 18, 19, 20, 21, 22, 23, 24, 25, 26] (by decide +kernel) (by decide +kernel)
set_option maxRecDepth 20000 in
theorem gX5_othersAround_X3_isPart : GoodIn wsX5_othersAround (va_wsS RX5 267 yX3_isPart wsX3_isPart) := goodIn_app (goodIn_of _ (by decide +kernel)) ggX5_othersAround_X3_isPart
theorem dX5_othersAround_0 : decode cX5_othersAround 0 = .ok (.iconst 0, 1) := by decide +kernel
theorem dX5_othersAround_1 : decode cX5_othersAround 1 = .ok (.istore_n 2, 1) := by decide +kernel
theorem dX5_othersAround_2 : decode cX5_othersAround 2 = .ok (.iconst 0, 1) := by decide +kernel
theorem dX5_othersAround_3 : decode cX5_othersAround 3 = .ok (.istore_n 3, 1) := by decide +kernel
theorem dX5_othersAround_4 : decode cX5_othersAround 4 = .ok (.iload_n 3, 1) := by decide +kernel
theorem dX5_othersAround_5 : decode cX5_othersAround 5 = .ok (.bipush 8, 2) := by decide +kernel
theorem dX5_othersAround_7 : decode cX5_othersAround 7 = .ok (.if_icmp .ge 33, 3) := by decide +kernel
theorem dX5_othersAround_10 : decode cX5_othersAround 10 = .ok (.iload_n 3, 1) := by decide +kernel
theorem dX5_othersAround_11 : decode cX5_othersAround 11 = .ok (.iload_n 1, 1) := by decide +kernel
theorem dX5_othersAround_12 : decode cX5_othersAround 12 = .ok (.if_icmp .eq 22, 3) := by decide +kernel
theorem dX5_othersAround_15 : decode cX5_othersAround 15 = .ok (.aload_n 0, 1) := by decide +kernel
theorem dX5_othersAround_16 : decode cX5_othersAround 16 = .ok (.iload_n 1, 1) := by decide +kernel
theorem dX5_othersAround_17 : decode cX5_othersAround 17 = .ok (.invokevirtual 92, 3) := by decide +kernel
theorem dX5_othersAround_20 : decode cX5_othersAround 20 = .ok (.aload_n 0, 1) := by decide +kernel
theorem dX5_othersAround_21 : decode cX5_othersAround 21 = .ok (.iload_n 3, 1) := by decide +kernel
theorem dX5_othersAround_22 : decode cX5_othersAround 22 = .ok (.invokevirtual 92, 3) := by decide +kernel
theorem dX5_othersAround_25 : decode cX5_othersAround 25 = .ok (.invokestatic 267, 3) := by decide +kernel
theorem dX5_othersAround_28 : decode cX5_othersAround 28 = .ok (.ifCond .eq 6, 3) := by decide +kernel
theorem dX5_othersAround_31 : decode cX5_othersAround 31 = .ok (.iinc 2 1, 3) := by decide +kernel
theorem dX5_othersAround_34 : decode cX5_othersAround 34 = .ok (.iinc 3 1, 3) := by decide +kernel
theorem dX5_othersAround_37 : decode cX5_othersAround 37 = .ok (.goto (-33), 3) := by decide +kernel
theorem dX5_othersAround_40 : decode cX5_othersAround 40 = .ok (.iload_n 2, 1) := by decide +kernel
theorem dX5_othersAround_41 : decode cX5_othersAround 41 = .ok (.ireturn, 1) := by decide +kernel
set_option maxRecDepth 20000 in
theorem ggX5_patternsThatBeginWith_X5_patternIn : GoodIn wsX5_patternsThatBeginWith wsX5_patternIn := goodIn_r _ [5, 6, 7, 8, 9, 4, 10, 18, 19, 20, 21, 22, 23, 24, 25, 26, 27, 28, 29, 30, 31, 32] (by decide +kernel) (by decide +kernel)
set_option maxRecDepth 20000 in
theorem gX5_patternsThatBeginWith_X5_patternIn : GoodIn wsX5_patternsThatBeginWith (wsV RX5 92 RX5 yX5_patternIn wsX5_patternIn) := goodIn_app (goodIn_of _ (by decide +kernel)) ggX5_patternsThatBeginWith_X5_patternIn
set_option maxRecDepth 20000 in
theorem ggX5_patternsThatBeginWith_X3_beginsWith : GoodIn wsX5_patternsThatBeginWith wsX3_beginsWith := goodIn_r _ [14, 15, 16, 13, 17] (by decide +kernel) (by decide +kernel)
set_option maxRecDepth 20000 in
theorem gX5_patternsThatBeginWith_X3_beginsWith : GoodIn wsX5_patternsThatBeginWith (va_wsS RX5 271 yX3_beginsWith wsX3_beginsWith) := goodIn_app (goodIn_of _ (by decide +kernel)) ggX5_patternsThatBeginWith_X3_beginsWith
theorem dX5_patternsThatBeginWith_0 : decode cX5_patternsThatBeginWith 0 = .ok (.iconst 0, 1) := by decide +kernel
theorem dX5_patternsThatBeginWith_1 : decode cX5_patternsThatBeginWith 1 = .ok (.istore_n 2, 1) := by decide +kernel
theorem dX5_patternsThatBeginWith_2 : decode cX5_patternsThatBeginWith 2 = .ok (.iconst 0, 1) := by decide +kernel
theorem dX5_patternsThatBeginWith_3 : decode cX5_patternsThatBeginWith 3 = .ok (.istore_n 3, 1) := by decide +kernel
theorem dX5_patternsThatBeginWith_4 : decode cX5_patternsThatBeginWith 4 = .ok (.iload_n 3, 1) := by decide +kernel
theorem dX5_patternsThatBeginWith_5 : decode cX5_patternsThatBeginWith 5 = .ok (.bipush 8, 2) := by decide +kernel
theorem dX5_patternsThatBeginWith_7 : decode cX5_patternsThatBeginWith 7 = .ok (.if_icmp .ge 33, 3) := by decide +kernel
theorem dX5_patternsThatBeginWith_10 : decode cX5_patternsThatBeginWith 10 = .ok (.aload_n 0, 1) := by decide +kernel
theorem dX5_patternsThatBeginWith_11 : decode cX5_patternsThatBeginWith 11 = .ok (.iload_n 3, 1) := by decide +kernel
theorem dX5_patternsThatBeginWith_12 : decode cX5_patternsThatBeginWith 12 = .ok (.invokevirtual 92, 3) := by decide +kernel
theorem dX5_patternsThatBeginWith_15 : decode cX5_patternsThatBeginWith 15 = .ok (.istore 4, 2) := by decide +kernel
theorem dX5_patternsThatBeginWith_17 : decode cX5_patternsThatBeginWith 17 = .ok (.iload 4, 2) := by decide +kernel
theorem dX5_patternsThatBeginWith_19 : decode cX5_patternsThatBeginWith 19 = .ok (.ifCond .eq 15, 3) := by decide +kernel
theorem dX5_patternsThatBeginWith_22 : decode cX5_patternsThatBeginWith 22 = .ok (.iload 4, 2) := by decide +kernel
theorem dX5_patternsThatBeginWith_24 : decode cX5_patternsThatBeginWith 24 = .ok (.iload_n 1, 1) := by decide +kernel
theorem dX5_patternsThatBeginWith_25 : decode cX5_patternsThatBeginWith 25 = .ok (.invokestatic 271, 3) := by decide +kernel
theorem dX5_patternsThatBeginWith_28 : decode cX5_patternsThatBeginWith 28 = .ok (.ifCond .eq 6, 3) := by decide +kernel
theorem dX5_patternsThatBeginWith_31 : decode cX5_patternsThatBeginWith 31 = .ok (.iinc 2 1, 3) := by decide +kernel
theorem dX5_patternsThatBeginWith_34 : decode cX5_patternsThatBeginWith 34 = .ok (.iinc 3 1, 3) := by decide +kernel
theorem dX5_patternsThatBeginWith_37 : decode cX5_patternsThatBeginWith 37 = .ok (.goto (-33), 3) := by decide +kernel
theorem dX5_patternsThatBeginWith_40 : decode cX5_patternsThatBeginWith 40 = .ok (.iload_n 2, 1) := by decide +kernel
theorem dX5_patternsThatBeginWith_41 : decode cX5_patternsThatBeginWith 41 = .ok (.ireturn, 1) := by decide +kernel
set_option maxRecDepth 20000 in
theorem ggX5_numberOfPatterns_X5_patternIn : GoodIn wsX5_numberOfPatterns wsX5_patternIn := goodIn_r _ [5, 6, 7, 8, 9, 4, 10, 11, 12, 13, 14, 15, 16, 17, 18, 19, 20, 21, 22, 23, 24, 25] (by decide +kernel) (by decide +kernel)
set_option maxRecDepth 20000 in
theorem gX5_numberOfPatterns_X5_patternIn : GoodIn wsX5_numberOfPatterns (wsV RX5 92 RX5 yX5_patternIn wsX5_patternIn) := goodIn_app (goodIn_of _ (by decide +kernel)) ggX5_numberOfPatterns_X5_patternIn
theorem dX5_numberOfPatterns_0 : decode cX5_numberOfPatterns 0 = .ok (.iconst 0, 1) := by decide +kernel
theorem dX5_numberOfPatterns_1 : decode cX5_numberOfPatterns 1 = .ok (.istore_n 1, 1) := by decide +kernel
theorem dX5_numberOfPatterns_2 : decode cX5_numberOfPatterns 2 = .ok (.iconst 0, 1) := by decide +kernel
theorem dX5_numberOfPatterns_3 : decode cX5_numberOfPatterns 3 = .ok (.istore_n 2, 1) := by decide +kernel
theorem dX5_numberOfPatterns_4 : decode cX5_numberOfPatterns 4 = .ok (.iload_n 2, 1) := by decide +kernel
theorem dX5_numberOfPatterns_5 : decode cX5_numberOfPatterns 5 = .ok (.bipush 8, 2) := by decide +kernel
theorem dX5_numberOfPatterns_7 : decode cX5_numberOfPatterns 7 = .ok (.if_icmp .ge 20, 3) := by decide +kernel
theorem dX5_numberOfPatterns_10 : decode cX5_numberOfPatterns 10 = .ok (.aload_n 0, 1) := by decide +kernel
theorem dX5_numberOfPatterns_11 : decode cX5_numberOfPatterns 11 = .ok (.iload_n 2, 1) := by decide +kernel
theorem dX5_numberOfPatterns_12 : decode cX5_numberOfPatterns 12 = .ok (.invokevirtual 92, 3) := by decide +kernel
theorem dX5_numberOfPatterns_15 : decode cX5_numberOfPatterns 15 = .ok (.ifCond .eq 6, 3) := by decide +kernel
theorem dX5_numberOfPatterns_18 : decode cX5_numberOfPatterns 18 = .ok (.iinc 1 1, 3) := by decide +kernel
theorem dX5_numberOfPatterns_21 : decode cX5_numberOfPatterns 21 = .ok (.iinc 2 1, 3) := by decide +kernel
theorem dX5_numberOfPatterns_24 : decode cX5_numberOfPatterns 24 = .ok (.goto (-20), 3) := by decide +kernel
theorem dX5_numberOfPatterns_27 : decode cX5_numberOfPatterns 27 = .ok (.iload_n 1, 1) := by decide +kernel
theorem dX5_numberOfPatterns_28 : decode cX5_numberOfPatterns 28 = .ok (.ireturn, 1) := by decide +kernel
set_option maxRecDepth 20000 in
theorem ggX5_sumOfLengths_X5_patternIn : GoodIn wsX5_sumOfLengths wsX5_patternIn := goodIn_r _ [5, 6, 7, 8, 9, 4, 10, 15, 16, 17, 18, 19, 20, 21, 22, 23, 24, 25, 26, 27, 28, 29] (by decide +kernel) (by decide +kernel)
set_option maxRecDepth 20000 in
theorem gX5_sumOfLengths_X5_patternIn : GoodIn wsX5_sumOfLengths (wsV RX5 92 RX5 yX5_patternIn wsX5_patternIn) := goodIn_app (goodIn_of _ (by decide +kernel)) ggX5_sumOfLengths_X5_patternIn
set_option maxRecDepth 20000 in
theorem ggX5_sumOfLengths_X3_lengthOf : GoodIn wsX5_sumOfLengths wsX3_lengthOf := goodIn_r _ [14] (by decide +kernel) (by decide +kernel)
set_option maxRecDepth 20000 in
theorem gX5_sumOfLengths_X3_lengthOf : GoodIn wsX5_sumOfLengths (va_wsS RX5 252 yX3_lengthOf wsX3_lengthOf) := goodIn_app (goodIn_of _ (by decide +kernel)) ggX5_sumOfLengths_X3_lengthOf
theorem dX5_sumOfLengths_0 : decode cX5_sumOfLengths 0 = .ok (.iconst 0, 1) := by decide +kernel
theorem dX5_sumOfLengths_1 : decode cX5_sumOfLengths 1 = .ok (.istore_n 1, 1) := by decide +kernel
theorem dX5_sumOfLengths_2 : decode cX5_sumOfLengths 2 = .ok (.iconst 0, 1) := by decide +kernel
theorem dX5_sumOfLengths_3 : decode cX5_sumOfLengths 3 = .ok (.istore_n 2, 1) := by decide +kernel
theorem dX5_sumOfLengths_4 : decode cX5_sumOfLengths 4 = .ok (.iload_n 2, 1) := by decide +kernel
theorem dX5_sumOfLengths_5 : decode cX5_sumOfLengths 5 = .ok (.bipush 8, 2) := by decide +kernel
theorem dX5_sumOfLengths_7 : decode cX5_sumOfLengths 7 = .ok (.if_icmp .ge 20, 3) := by decide +kernel
theorem dX5_sumOfLengths_10 : decode cX5_sumOfLengths 10 = .ok (.iload_n 1, 1) := by decide +kernel
theorem dX5_sumOfLengths_11 : decode cX5_sumOfLengths 11 = .ok (.aload_n 0, 1) := by decide +kernel
theorem dX5_sumOfLengths_12 : decode cX5_sumOfLengths 12 = .ok (.iload_n 2, 1) := by decide +kernel
theorem dX5_sumOfLengths_13 : decode cX5_sumOfLengths 13 = .ok (.invokevirtual 92, 3) := by decide +kernel
theorem dX5_sumOfLengths_16 : decode cX5_sumOfLengths 16 = .ok (.invokestatic 252, 3) := by decide +kernel
theorem dX5_sumOfLengths_19 : decode cX5_sumOfLengths 19 = .ok (.iadd, 1) := by decide +kernel
theorem dX5_sumOfLengths_20 : decode cX5_sumOfLengths 20 = .ok (.istore_n 1, 1) := by decide +kernel
theorem dX5_sumOfLengths_21 : decode cX5_sumOfLengths 21 = .ok (.iinc 2 1, 3) := by decide +kernel
theorem dX5_sumOfLengths_24 : decode cX5_sumOfLengths 24 = .ok (.goto (-20), 3) := by decide +kernel
theorem dX5_sumOfLengths_27 : decode cX5_sumOfLengths 27 = .ok (.iload_n 1, 1) := by decide +kernel
theorem dX5_sumOfLengths_28 : decode cX5_sumOfLengths 28 = .ok (.ireturn, 1) := by decide +kernel
set_option maxRecDepth 20000 in
theorem ggX5_currentState_X1_stateBehind : GoodIn wsX5_currentState wsX1_stateBehind := goodIn_r _ [8, 9, 10, 11, 12, 13, 14, 15, 16, 17, 18, 19, 20, 21, 22, 7, 23, 24, 25, 26, 27, 43, 44, 45, 46, 47] (by decide +kernel) (by decide +kernel)
set_option maxRecDepth 20000 in
theorem gX5_currentState_X1_stateBehind : GoodIn wsX5_currentState (wsV RX5 258 RX1 yX1_stateBehind wsX1_stateBehind) := goodIn_app (goodIn_of _ (by decide +kernel)) ggX5_currentState_X1_stateBehind
theorem dX5_currentState_0 : decode cX5_currentState 0 = .ok (.aload_n 0, 1) := by decide +kernel
theorem dX5_currentState_1 : decode cX5_currentState 1 = .ok (.getfield 26, 3) := by decide +kernel
theorem dX5_currentState_4 : decode cX5_currentState 4 = .ok (.aload_n 0, 1) := by decide +kernel
theorem dX5_currentState_5 : decode cX5_currentState 5 = .ok (.getfield 12, 3) := by decide +kernel
theorem dX5_currentState_8 : decode cX5_currentState 8 = .ok (.getfield 280, 3) := by decide +kernel
theorem dX5_currentState_11 : decode cX5_currentState 11 = .ok (.invokevirtual 258, 3) := by decide +kernel
theorem dX5_currentState_14 : decode cX5_currentState 14 = .ok (.ireturn, 1) := by decide +kernel
set_option maxRecDepth 20000 in
theorem ggX5_readLetter_X5_currentState : GoodIn wsX5_readLetter wsX5_currentState := goodIn_r _ [10, 1, 2, 5, 11, 12, 13, 14, 15, 16, 17, 18, 19, 20, 21, 22, 23, 24, 25, 26, 27, 28, 29, 30, 31, 32, 9, 33, 97, 98, 99, 100, 101, 102, 103, 104, 105, 106, 107, 108, 109, 110, 111, 112, 113, 114, 115, 116] (by decide +kernel) (by decide +kernel)
set_option maxRecDepth 20000 in
theorem gX5_readLetter_X5_currentState : GoodIn wsX5_readLetter (wsV RX5 283 RX5 yX5_currentState wsX5_currentState) := goodIn_app (goodIn_of _ (by decide +kernel)) ggX5_readLetter_X5_currentState
set_option maxRecDepth 20000 in
theorem ggX5_readLetter_X1_leadsTo : GoodIn wsX5_readLetter wsX1_leadsTo := goodIn_r _ [30, 31, 32, 9, 33, 112, 113, 114, 115, 116] (by decide +kernel) (by decide +kernel)
set_option maxRecDepth 20000 in
theorem gX5_readLetter_X1_leadsTo : GoodIn wsX5_readLetter (wsV RX5 286 RX1 yX1_leadsTo wsX1_leadsTo) := goodIn_app (goodIn_of _ (by decide +kernel)) ggX5_readLetter_X1_leadsTo
set_option maxRecDepth 20000 in
theorem ggX5_readLetter_X5_matchesThatCount : GoodIn wsX5_readLetter wsX5_matchesThatCount := goodIn_r _ [38, 1, 39, 2, 40, 41, 32, 9, 33, 42, 43, 44, 45, 46, 47, 17, 18, 19, 97, 98, 99, 100, 101, 112, 113, 114, 115, 116, 102, 103, 104, 105, 106, 107, 108, 109, 110, 111] (by decide +kernel) (by decide +kernel)
set_option maxRecDepth 20000 in
theorem gX5_readLetter_X5_matchesThatCount : GoodIn wsX5_readLetter (wsV RX5 292 RX5 yX5_matchesThatCount wsX5_matchesThatCount) := goodIn_app (goodIn_of _ (by decide +kernel)) ggX5_readLetter_X5_matchesThatCount
set_option maxRecDepth 20000 in
theorem ggX5_readLetter_X1_fallsBefore : GoodIn wsX5_readLetter wsX1_fallsBefore := goodIn_r _ [51, 52, 53, 54, 55, 14, 56, 57, 27, 28, 29, 30, 31, 32, 9, 33, 58, 59, 18, 60, 112, 113, 114, 115, 116] (by decide +kernel) (by decide +kernel)
set_option maxRecDepth 20000 in
theorem gX5_readLetter_X1_fallsBefore : GoodIn wsX5_readLetter (wsV RX5 296 RX1 yX1_fallsBefore wsX1_fallsBefore) := goodIn_app (goodIn_of _ (by decide +kernel)) ggX5_readLetter_X1_fallsBefore
set_option maxRecDepth 20000 in
theorem ggX5_readLetter_X2_takeFalls : GoodIn wsX5_readLetter wsX2_takeFalls := goodIn_r _ [65, 66, 67, 68, 69, 70, 71, 102, 103, 104, 105, 106, 107, 108, 109, 110, 111] (by decide +kernel) (by decide +kernel)
set_option maxRecDepth 20000 in
theorem gX5_readLetter_X2_takeFalls : GoodIn wsX5_readLetter (wsV RX5 299 RX2 yX2_takeFalls wsX2_takeFalls) := goodIn_app (goodIn_of _ (by decide +kernel)) ggX5_readLetter_X2_takeFalls
set_option maxRecDepth 20000 in
theorem ggX5_readLetter_X2_takeMatches : GoodIn wsX5_readLetter wsX2_takeMatches := goodIn_r _ [75, 76, 77, 78, 79, 80, 32, 9, 33, 81, 82, 102, 103, 104, 105, 106, 107, 108, 109, 110, 111] (by decide +kernel) (by decide +kernel)
set_option maxRecDepth 20000 in
theorem gX5_readLetter_X2_takeMatches : GoodIn wsX5_readLetter (wsV RX5 302 RX2 yX2_takeMatches wsX2_takeMatches) := goodIn_app (goodIn_of _ (by decide +kernel)) ggX5_readLetter_X2_takeMatches
set_option maxRecDepth 20000 in
theorem ggX5_readLetter_X3_behind : GoodIn wsX5_readLetter wsX3_behind := goodIn_r _ [60] (by decide +kernel) (by decide +kernel)
set_option maxRecDepth 20000 in
theorem gX5_readLetter_X3_behind : GoodIn wsX5_readLetter (va_wsS RX5 243 yX3_behind wsX3_behind) := goodIn_app (goodIn_of _ (by decide +kernel)) ggX5_readLetter_X3_behind
set_option maxRecDepth 20000 in
theorem ggX5_readLetter_X3_latest : GoodIn wsX5_readLetter wsX3_latest := goodIn_r _ [86, 23, 17, 18, 19, 87, 88, 89] (by decide +kernel) (by decide +kernel)
set_option maxRecDepth 20000 in
theorem gX5_readLetter_X3_latest : GoodIn wsX5_readLetter (va_wsS RX5 305 yX3_latest wsX3_latest) := goodIn_app (goodIn_of _ (by decide +kernel)) ggX5_readLetter_X3_latest
set_option maxRecDepth 20000 in
theorem ggX5_readLetter_J6_bitCount_0f7a4 : GoodIn wsX5_readLetter wsJ6_bitCount_0f7a4 := goodIn_r _ [93, 94, 95, 96] (by decide +kernel) (by decide +kernel)
set_option maxRecDepth 20000 in
theorem gX5_readLetter_J6_bitCount_0f7a4 : GoodIn wsX5_readLetter (va_wsS RX5 307 yJ6_bitCount_0f7a4 wsJ6_bitCount_0f7a4) := goodIn_app (goodIn_of _ (by decide +kernel)) ggX5_readLetter_J6_bitCount_0f7a4
theorem dX5_readLetter_0 : decode cX5_readLetter 0 = .ok (.aload_n 0, 1) := by decide +kernel
theorem dX5_readLetter_1 : decode cX5_readLetter 1 = .ok (.invokevirtual 283, 3) := by decide +kernel
theorem dX5_readLetter_4 : decode cX5_readLetter 4 = .ok (.istore_n 2, 1) := by decide +kernel
theorem dX5_readLetter_5 : decode cX5_readLetter 5 = .ok (.aload_n 0, 1) := by decide +kernel
theorem dX5_readLetter_6 : decode cX5_readLetter 6 = .ok (.aload_n 0, 1) := by decide +kernel
theorem dX5_readLetter_7 : decode cX5_readLetter 7 = .ok (.getfield 26, 3) := by decide +kernel
theorem dX5_readLetter_10 : decode cX5_readLetter 10 = .ok (.iload_n 2, 1) := by decide +kernel
theorem dX5_readLetter_11 : decode cX5_readLetter 11 = .ok (.iload_n 1, 1) := by decide +kernel
theorem dX5_readLetter_12 : decode cX5_readLetter 12 = .ok (.invokevirtual 286, 3) := by decide +kernel
theorem dX5_readLetter_15 : decode cX5_readLetter 15 = .ok (.aload_n 0, 1) := by decide +kernel
theorem dX5_readLetter_16 : decode cX5_readLetter 16 = .ok (.getfield 12, 3) := by decide +kernel
theorem dX5_readLetter_19 : decode cX5_readLetter 19 = .ok (.getfield 116, 3) := by decide +kernel
theorem dX5_readLetter_22 : decode cX5_readLetter 22 = .ok (.aload_n 0, 1) := by decide +kernel
theorem dX5_readLetter_23 : decode cX5_readLetter 23 = .ok (.getfield 12, 3) := by decide +kernel
theorem dX5_readLetter_26 : decode cX5_readLetter 26 = .ok (.getfield 289, 3) := by decide +kernel
theorem dX5_readLetter_29 : decode cX5_readLetter 29 = .ok (.invokevirtual 292, 3) := by decide +kernel
theorem dX5_readLetter_32 : decode cX5_readLetter 32 = .ok (.istore_n 3, 1) := by decide +kernel
theorem dX5_readLetter_33 : decode cX5_readLetter 33 = .ok (.aload_n 0, 1) := by decide +kernel
theorem dX5_readLetter_34 : decode cX5_readLetter 34 = .ok (.getfield 12, 3) := by decide +kernel
theorem dX5_readLetter_37 : decode cX5_readLetter 37 = .ok (.aload_n 0, 1) := by decide +kernel
theorem dX5_readLetter_38 : decode cX5_readLetter 38 = .ok (.getfield 26, 3) := by decide +kernel
theorem dX5_readLetter_41 : decode cX5_readLetter 41 = .ok (.iload_n 2, 1) := by decide +kernel
theorem dX5_readLetter_42 : decode cX5_readLetter 42 = .ok (.iload_n 1, 1) := by decide +kernel
theorem dX5_readLetter_43 : decode cX5_readLetter 43 = .ok (.invokevirtual 296, 3) := by decide +kernel
theorem dX5_readLetter_46 : decode cX5_readLetter 46 = .ok (.invokevirtual 299, 3) := by decide +kernel
theorem dX5_readLetter_49 : decode cX5_readLetter 49 = .ok (.aload_n 0, 1) := by decide +kernel
theorem dX5_readLetter_50 : decode cX5_readLetter 50 = .ok (.getfield 12, 3) := by decide +kernel
theorem dX5_readLetter_53 : decode cX5_readLetter 53 = .ok (.iload_n 3, 1) := by decide +kernel
theorem dX5_readLetter_54 : decode cX5_readLetter 54 = .ok (.invokevirtual 302, 3) := by decide +kernel
theorem dX5_readLetter_57 : decode cX5_readLetter 57 = .ok (.aload_n 0, 1) := by decide +kernel
theorem dX5_readLetter_58 : decode cX5_readLetter 58 = .ok (.getfield 12, 3) := by decide +kernel
theorem dX5_readLetter_61 : decode cX5_readLetter 61 = .ok (.aload_n 0, 1) := by decide +kernel
theorem dX5_readLetter_62 : decode cX5_readLetter 62 = .ok (.getfield 12, 3) := by decide +kernel
theorem dX5_readLetter_65 : decode cX5_readLetter 65 = .ok (.getfield 280, 3) := by decide +kernel
theorem dX5_readLetter_68 : decode cX5_readLetter 68 = .ok (.iload_n 1, 1) := by decide +kernel
theorem dX5_readLetter_69 : decode cX5_readLetter 69 = .ok (.invokestatic 243, 3) := by decide +kernel
theorem dX5_readLetter_72 : decode cX5_readLetter 72 = .ok (.invokestatic 305, 3) := by decide +kernel
theorem dX5_readLetter_75 : decode cX5_readLetter 75 = .ok (.putfield 280, 3) := by decide +kernel
theorem dX5_readLetter_78 : decode cX5_readLetter 78 = .ok (.aload_n 0, 1) := by decide +kernel
theorem dX5_readLetter_79 : decode cX5_readLetter 79 = .ok (.getfield 12, 3) := by decide +kernel
theorem dX5_readLetter_82 : decode cX5_readLetter 82 = .ok (.dup, 1) := by decide +kernel
theorem dX5_readLetter_83 : decode cX5_readLetter 83 = .ok (.getfield 116, 3) := by decide +kernel
theorem dX5_readLetter_86 : decode cX5_readLetter 86 = .ok (.iconst 1, 1) := by decide +kernel
theorem dX5_readLetter_87 : decode cX5_readLetter 87 = .ok (.iadd, 1) := by decide +kernel
theorem dX5_readLetter_88 : decode cX5_readLetter 88 = .ok (.putfield 116, 3) := by decide +kernel
theorem dX5_readLetter_91 : decode cX5_readLetter 91 = .ok (.iload_n 3, 1) := by decide +kernel
theorem dX5_readLetter_92 : decode cX5_readLetter 92 = .ok (.invokestatic 307, 3) := by decide +kernel
theorem dX5_readLetter_95 : decode cX5_readLetter 95 = .ok (.ireturn, 1) := by decide +kernel
set_option maxRecDepth 20000 in
theorem ggX5_matchesThatCount_X5_at : GoodIn wsX5_matchesThatCount wsX5_at := goodIn_r _ [8] (by decide +kernel) (by decide +kernel)
set_option maxRecDepth 20000 in
theorem gX5_matchesThatCount_X5_at : GoodIn wsX5_matchesThatCount (va_wsS RX5 68 yX5_at wsX5_at) := goodIn_app (goodIn_of _ (by decide +kernel)) ggX5_matchesThatCount_X5_at
set_option maxRecDepth 20000 in
theorem ggX5_matchesThatCount_X5_patternIn : GoodIn wsX5_matchesThatCount wsX5_patternIn := goodIn_r _ [12, 3, 13, 5, 6, 7, 8, 18, 19, 20, 21, 22, 28, 29, 30, 31, 32, 33, 34, 35, 36, 37] (by decide +kernel) (by decide +kernel)
set_option maxRecDepth 20000 in
theorem gX5_matchesThatCount_X5_patternIn : GoodIn wsX5_matchesThatCount (wsV RX5 92 RX5 yX5_patternIn wsX5_patternIn) := goodIn_app (goodIn_of _ (by decide +kernel)) ggX5_matchesThatCount_X5_patternIn
set_option maxRecDepth 20000 in
theorem ggX5_matchesThatCount_X3_lengthOf : GoodIn wsX5_matchesThatCount wsX3_lengthOf := goodIn_r _ [17] (by decide +kernel) (by decide +kernel)
set_option maxRecDepth 20000 in
theorem gX5_matchesThatCount_X3_lengthOf : GoodIn wsX5_matchesThatCount (va_wsS RX5 252 yX3_lengthOf wsX3_lengthOf) := goodIn_app (goodIn_of _ (by decide +kernel)) ggX5_matchesThatCount_X3_lengthOf
theorem dX5_matchesThatCount_0 : decode cX5_matchesThatCount 0 = .ok (.aload_n 0, 1) := by decide +kernel
theorem dX5_matchesThatCount_1 : decode cX5_matchesThatCount 1 = .ok (.getfield 26, 3) := by decide +kernel
theorem dX5_matchesThatCount_4 : decode cX5_matchesThatCount 4 = .ok (.getfield 318, 3) := by decide +kernel
theorem dX5_matchesThatCount_7 : decode cX5_matchesThatCount 7 = .ok (.iload_n 1, 1) := by decide +kernel
theorem dX5_matchesThatCount_8 : decode cX5_matchesThatCount 8 = .ok (.invokestatic 68, 3) := by decide +kernel
theorem dX5_matchesThatCount_11 : decode cX5_matchesThatCount 11 = .ok (.istore 4, 2) := by decide +kernel
theorem dX5_matchesThatCount_13 : decode cX5_matchesThatCount 13 = .ok (.aload_n 0, 1) := by decide +kernel
theorem dX5_matchesThatCount_14 : decode cX5_matchesThatCount 14 = .ok (.getfield 12, 3) := by decide +kernel
theorem dX5_matchesThatCount_17 : decode cX5_matchesThatCount 17 = .ok (.getfield 107, 3) := by decide +kernel
theorem dX5_matchesThatCount_20 : decode cX5_matchesThatCount 20 = .ok (.ifCond .ne 6, 3) := by decide +kernel
theorem dX5_matchesThatCount_23 : decode cX5_matchesThatCount 23 = .ok (.iload 4, 2) := by decide +kernel
theorem dX5_matchesThatCount_25 : decode cX5_matchesThatCount 25 = .ok (.ireturn, 1) := by decide +kernel
theorem dX5_matchesThatCount_26 : decode cX5_matchesThatCount 26 = .ok (.iconst 0, 1) := by decide +kernel
theorem dX5_matchesThatCount_27 : decode cX5_matchesThatCount 27 = .ok (.istore 5, 2) := by decide +kernel
theorem dX5_matchesThatCount_29 : decode cX5_matchesThatCount 29 = .ok (.iconst 0, 1) := by decide +kernel
theorem dX5_matchesThatCount_30 : decode cX5_matchesThatCount 30 = .ok (.istore 6, 2) := by decide +kernel
theorem dX5_matchesThatCount_32 : decode cX5_matchesThatCount 32 = .ok (.iconst 0, 1) := by decide +kernel
theorem dX5_matchesThatCount_33 : decode cX5_matchesThatCount 33 = .ok (.istore 7, 2) := by decide +kernel
theorem dX5_matchesThatCount_35 : decode cX5_matchesThatCount 35 = .ok (.iload 7, 2) := by decide +kernel
theorem dX5_matchesThatCount_37 : decode cX5_matchesThatCount 37 = .ok (.bipush 8, 2) := by decide +kernel
theorem dX5_matchesThatCount_39 : decode cX5_matchesThatCount 39 = .ok (.if_icmp .ge 80, 3) := by decide +kernel
theorem dX5_matchesThatCount_42 : decode cX5_matchesThatCount 42 = .ok (.aload_n 0, 1) := by decide +kernel
theorem dX5_matchesThatCount_43 : decode cX5_matchesThatCount 43 = .ok (.iload 7, 2) := by decide +kernel
theorem dX5_matchesThatCount_45 : decode cX5_matchesThatCount 45 = .ok (.invokevirtual 92, 3) := by decide +kernel
theorem dX5_matchesThatCount_48 : decode cX5_matchesThatCount 48 = .ok (.invokestatic 252, 3) := by decide +kernel
theorem dX5_matchesThatCount_51 : decode cX5_matchesThatCount 51 = .ok (.istore 8, 2) := by decide +kernel
theorem dX5_matchesThatCount_53 : decode cX5_matchesThatCount 53 = .ok (.aload_n 0, 1) := by decide +kernel
theorem dX5_matchesThatCount_54 : decode cX5_matchesThatCount 54 = .ok (.getfield 12, 3) := by decide +kernel
theorem dX5_matchesThatCount_57 : decode cX5_matchesThatCount 57 = .ok (.getfield 107, 3) := by decide +kernel
theorem dX5_matchesThatCount_60 : decode cX5_matchesThatCount 60 = .ok (.iconst 2, 1) := by decide +kernel
theorem dX5_matchesThatCount_61 : decode cX5_matchesThatCount 61 = .ok (.if_icmp .ne 13, 3) := by decide +kernel
theorem dX5_matchesThatCount_64 : decode cX5_matchesThatCount 64 = .ok (.iload_n 2, 1) := by decide +kernel
theorem dX5_matchesThatCount_65 : decode cX5_matchesThatCount 65 = .ok (.iload 8, 2) := by decide +kernel
theorem dX5_matchesThatCount_67 : decode cX5_matchesThatCount 67 = .ok (.isub, 1) := by decide +kernel
theorem dX5_matchesThatCount_68 : decode cX5_matchesThatCount 68 = .ok (.iconst 1, 1) := by decide +kernel
theorem dX5_matchesThatCount_69 : decode cX5_matchesThatCount 69 = .ok (.iadd, 1) := by decide +kernel
theorem dX5_matchesThatCount_70 : decode cX5_matchesThatCount 70 = .ok (.iload_n 3, 1) := by decide +kernel
theorem dX5_matchesThatCount_71 : decode cX5_matchesThatCount 71 = .ok (.if_icmp .le 7, 3) := by decide +kernel
theorem dX5_matchesThatCount_74 : decode cX5_matchesThatCount 74 = .ok (.iconst 1, 1) := by decide +kernel
theorem dX5_matchesThatCount_75 : decode cX5_matchesThatCount 75 = .ok (.goto 4, 3) := by decide +kernel
theorem dX5_matchesThatCount_78 : decode cX5_matchesThatCount 78 = .ok (.iconst 0, 1) := by decide +kernel
theorem dX5_matchesThatCount_79 : decode cX5_matchesThatCount 79 = .ok (.istore 9, 2) := by decide +kernel
theorem dX5_matchesThatCount_81 : decode cX5_matchesThatCount 81 = .ok (.iload 4, 2) := by decide +kernel
theorem dX5_matchesThatCount_83 : decode cX5_matchesThatCount 83 = .ok (.iconst 1, 1) := by decide +kernel
theorem dX5_matchesThatCount_84 : decode cX5_matchesThatCount 84 = .ok (.iload 7, 2) := by decide +kernel
theorem dX5_matchesThatCount_86 : decode cX5_matchesThatCount 86 = .ok (.ishl, 1) := by decide +kernel
theorem dX5_matchesThatCount_87 : decode cX5_matchesThatCount 87 = .ok (.iand, 1) := by decide +kernel
theorem dX5_matchesThatCount_88 : decode cX5_matchesThatCount 88 = .ok (.ifCond .eq 25, 3) := by decide +kernel
theorem dX5_matchesThatCount_91 : decode cX5_matchesThatCount 91 = .ok (.iload 9, 2) := by decide +kernel
theorem dX5_matchesThatCount_93 : decode cX5_matchesThatCount 93 = .ok (.ifCond .eq 20, 3) := by decide +kernel
theorem dX5_matchesThatCount_96 : decode cX5_matchesThatCount 96 = .ok (.iload 8, 2) := by decide +kernel
theorem dX5_matchesThatCount_98 : decode cX5_matchesThatCount 98 = .ok (.iload 5, 2) := by decide +kernel
theorem dX5_matchesThatCount_100 : decode cX5_matchesThatCount 100 = .ok (.if_icmp .le 13, 3) := by decide +kernel
theorem dX5_matchesThatCount_103 : decode cX5_matchesThatCount 103 = .ok (.iload 8, 2) := by decide +kernel
theorem dX5_matchesThatCount_105 : decode cX5_matchesThatCount 105 = .ok (.istore 5, 2) := by decide +kernel
theorem dX5_matchesThatCount_107 : decode cX5_matchesThatCount 107 = .ok (.iconst 1, 1) := by decide +kernel
theorem dX5_matchesThatCount_108 : decode cX5_matchesThatCount 108 = .ok (.iload 7, 2) := by decide +kernel
theorem dX5_matchesThatCount_110 : decode cX5_matchesThatCount 110 = .ok (.ishl, 1) := by decide +kernel
theorem dX5_matchesThatCount_111 : decode cX5_matchesThatCount 111 = .ok (.istore 6, 2) := by decide +kernel
theorem dX5_matchesThatCount_113 : decode cX5_matchesThatCount 113 = .ok (.iinc 7 1, 3) := by decide +kernel
theorem dX5_matchesThatCount_116 : decode cX5_matchesThatCount 116 = .ok (.goto (-81), 3) := by decide +kernel
theorem dX5_matchesThatCount_119 : decode cX5_matchesThatCount 119 = .ok (.iload 6, 2) := by decide +kernel
theorem dX5_matchesThatCount_121 : decode cX5_matchesThatCount 121 = .ok (.ireturn, 1) := by decide +kernel
set_option maxRecDepth 20000 in
theorem ggX5_stateProperty_X5_at : GoodIn wsX5_stateProperty wsX5_at := goodIn_r _ [8] (by decide +kernel) (by decide +kernel)
set_option maxRecDepth 20000 in
theorem gX5_stateProperty_X5_at : GoodIn wsX5_stateProperty (va_wsS RX5 68 yX5_at wsX5_at) := goodIn_app (goodIn_of _ (by decide +kernel)) ggX5_stateProperty_X5_at
set_option maxRecDepth 20000 in
theorem ggX5_stateProperty_X3_lengthOf : GoodIn wsX5_stateProperty wsX3_lengthOf := goodIn_r _ [12] (by decide +kernel) (by decide +kernel)
set_option maxRecDepth 20000 in
theorem gX5_stateProperty_X3_lengthOf : GoodIn wsX5_stateProperty (va_wsS RX5 252 yX3_lengthOf wsX3_lengthOf) := goodIn_app (goodIn_of _ (by decide +kernel)) ggX5_stateProperty_X3_lengthOf
set_option maxRecDepth 20000 in
theorem ggX5_stateProperty_X3_lastLetter : GoodIn wsX5_stateProperty wsX3_lastLetter := goodIn_r _ [15] (by decide +kernel) (by decide +kernel)
set_option maxRecDepth 20000 in
theorem gX5_stateProperty_X3_lastLetter : GoodIn wsX5_stateProperty (va_wsS RX5 324 yX3_lastLetter wsX3_lastLetter) := goodIn_app (goodIn_of _ (by decide +kernel)) ggX5_stateProperty_X3_lastLetter
set_option maxRecDepth 20000 in
theorem ggX5_stateProperty_X5_patternsThatBeginWith : GoodIn wsX5_stateProperty wsX5_patternsThatBeginWith := goodIn_r _ [19, 20, 21, 22, 7, 23, 24, 25, 5, 6, 8, 26, 27, 11, 28, 29, 10, 12, 36, 37, 38, 39, 40, 46, 47, 48, 49, 50, 51, 52, 53, 54, 55] (by decide +kernel) (by decide +kernel)
set_option maxRecDepth 20000 in
theorem gX5_stateProperty_X5_patternsThatBeginWith : GoodIn wsX5_stateProperty (wsV RX5 277 RX5 yX5_patternsThatBeginWith wsX5_patternsThatBeginWith) := goodIn_app (goodIn_of _ (by decide +kernel)) ggX5_stateProperty_X5_patternsThatBeginWith
set_option maxRecDepth 20000 in
theorem ggX5_stateProperty_X1_leadsTo : GoodIn wsX5_stateProperty wsX1_leadsTo := goodIn_r _ [34, 35, 6, 7, 8, 41, 42, 43, 44, 45] (by decide +kernel) (by decide +kernel)
set_option maxRecDepth 20000 in
theorem gX5_stateProperty_X1_leadsTo : GoodIn wsX5_stateProperty (wsV RX5 286 RX1 yX1_leadsTo wsX1_leadsTo) := goodIn_app (goodIn_of _ (by decide +kernel)) ggX5_stateProperty_X1_leadsTo
theorem dX5_stateProperty_0 : decode cX5_stateProperty 0 = .ok (.iload_n 2, 1) := by decide +kernel
theorem dX5_stateProperty_1 : decode cX5_stateProperty 1 = .ok (.tableswitch 113 0 4 #[35, 50, 73, 85, 97], 35) := by decide +kernel
theorem dX5_stateProperty_36 : decode cX5_stateProperty 36 = .ok (.aload_n 0, 1) := by decide +kernel
theorem dX5_stateProperty_37 : decode cX5_stateProperty 37 = .ok (.getfield 26, 3) := by decide +kernel
theorem dX5_stateProperty_40 : decode cX5_stateProperty 40 = .ok (.getfield 321, 3) := by decide +kernel
theorem dX5_stateProperty_43 : decode cX5_stateProperty 43 = .ok (.iload_n 1, 1) := by decide +kernel
theorem dX5_stateProperty_44 : decode cX5_stateProperty 44 = .ok (.invokestatic 68, 3) := by decide +kernel
theorem dX5_stateProperty_47 : decode cX5_stateProperty 47 = .ok (.invokestatic 252, 3) := by decide +kernel
theorem dX5_stateProperty_50 : decode cX5_stateProperty 50 = .ok (.ireturn, 1) := by decide +kernel
theorem dX5_stateProperty_51 : decode cX5_stateProperty 51 = .ok (.iload_n 1, 1) := by decide +kernel
theorem dX5_stateProperty_52 : decode cX5_stateProperty 52 = .ok (.ifCond .ne 7, 3) := by decide +kernel
theorem dX5_stateProperty_55 : decode cX5_stateProperty 55 = .ok (.iconst (-1), 1) := by decide +kernel
theorem dX5_stateProperty_56 : decode cX5_stateProperty 56 = .ok (.goto 17, 3) := by decide +kernel
theorem dX5_stateProperty_59 : decode cX5_stateProperty 59 = .ok (.aload_n 0, 1) := by decide +kernel
theorem dX5_stateProperty_60 : decode cX5_stateProperty 60 = .ok (.getfield 26, 3) := by decide +kernel
theorem dX5_stateProperty_63 : decode cX5_stateProperty 63 = .ok (.getfield 321, 3) := by decide +kernel
theorem dX5_stateProperty_66 : decode cX5_stateProperty 66 = .ok (.iload_n 1, 1) := by decide +kernel
theorem dX5_stateProperty_67 : decode cX5_stateProperty 67 = .ok (.invokestatic 68, 3) := by decide +kernel
theorem dX5_stateProperty_70 : decode cX5_stateProperty 70 = .ok (.invokestatic 324, 3) := by decide +kernel
theorem dX5_stateProperty_73 : decode cX5_stateProperty 73 = .ok (.ireturn, 1) := by decide +kernel
theorem dX5_stateProperty_74 : decode cX5_stateProperty 74 = .ok (.aload_n 0, 1) := by decide +kernel
theorem dX5_stateProperty_75 : decode cX5_stateProperty 75 = .ok (.getfield 26, 3) := by decide +kernel
theorem dX5_stateProperty_78 : decode cX5_stateProperty 78 = .ok (.getfield 327, 3) := by decide +kernel
theorem dX5_stateProperty_81 : decode cX5_stateProperty 81 = .ok (.iload_n 1, 1) := by decide +kernel
theorem dX5_stateProperty_82 : decode cX5_stateProperty 82 = .ok (.invokestatic 68, 3) := by decide +kernel
theorem dX5_stateProperty_85 : decode cX5_stateProperty 85 = .ok (.ireturn, 1) := by decide +kernel
theorem dX5_stateProperty_86 : decode cX5_stateProperty 86 = .ok (.aload_n 0, 1) := by decide +kernel
theorem dX5_stateProperty_87 : decode cX5_stateProperty 87 = .ok (.getfield 26, 3) := by decide +kernel
theorem dX5_stateProperty_90 : decode cX5_stateProperty 90 = .ok (.getfield 318, 3) := by decide +kernel
theorem dX5_stateProperty_93 : decode cX5_stateProperty 93 = .ok (.iload_n 1, 1) := by decide +kernel
theorem dX5_stateProperty_94 : decode cX5_stateProperty 94 = .ok (.invokestatic 68, 3) := by decide +kernel
theorem dX5_stateProperty_97 : decode cX5_stateProperty 97 = .ok (.ireturn, 1) := by decide +kernel
theorem dX5_stateProperty_98 : decode cX5_stateProperty 98 = .ok (.aload_n 0, 1) := by decide +kernel
theorem dX5_stateProperty_99 : decode cX5_stateProperty 99 = .ok (.aload_n 0, 1) := by decide +kernel
theorem dX5_stateProperty_100 : decode cX5_stateProperty 100 = .ok (.getfield 26, 3) := by decide +kernel
theorem dX5_stateProperty_103 : decode cX5_stateProperty 103 = .ok (.getfield 321, 3) := by decide +kernel
theorem dX5_stateProperty_106 : decode cX5_stateProperty 106 = .ok (.iload_n 1, 1) := by decide +kernel
theorem dX5_stateProperty_107 : decode cX5_stateProperty 107 = .ok (.invokestatic 68, 3) := by decide +kernel
theorem dX5_stateProperty_110 : decode cX5_stateProperty 110 = .ok (.invokevirtual 277, 3) := by decide +kernel
theorem dX5_stateProperty_113 : decode cX5_stateProperty 113 = .ok (.ireturn, 1) := by decide +kernel
theorem dX5_stateProperty_114 : decode cX5_stateProperty 114 = .ok (.aload_n 0, 1) := by decide +kernel
theorem dX5_stateProperty_115 : decode cX5_stateProperty 115 = .ok (.getfield 26, 3) := by decide +kernel
theorem dX5_stateProperty_118 : decode cX5_stateProperty 118 = .ok (.iload_n 1, 1) := by decide +kernel
theorem dX5_stateProperty_119 : decode cX5_stateProperty 119 = .ok (.iload_n 2, 1) := by decide +kernel
theorem dX5_stateProperty_120 : decode cX5_stateProperty 120 = .ok (.iconst 5, 1) := by decide +kernel
theorem dX5_stateProperty_121 : decode cX5_stateProperty 121 = .ok (.isub, 1) := by decide +kernel
theorem dX5_stateProperty_122 : decode cX5_stateProperty 122 = .ok (.invokevirtual 286, 3) := by decide +kernel
theorem dX5_stateProperty_125 : decode cX5_stateProperty 125 = .ok (.ireturn, 1) := by decide +kernel
set_option maxRecDepth 20000 in
theorem ggX5_numberTold_X5_numberOfPatterns : GoodIn wsX5_numberTold wsX5_numberOfPatterns := goodIn_r _ [15, 16, 17, 18, 14, 19, 3, 20, 21, 22, 23, 55, 56, 57, 58, 59, 65, 66, 67, 68, 69, 70, 71, 72, 73, 74] (by decide +kernel) (by decide +kernel)
set_option maxRecDepth 20000 in
theorem gX5_numberTold_X5_numberOfPatterns : GoodIn wsX5_numberTold (wsV RX5 330 RX5 yX5_numberOfPatterns wsX5_numberOfPatterns) := goodIn_app (goodIn_of _ (by decide +kernel)) ggX5_numberTold_X5_numberOfPatterns
set_option maxRecDepth 20000 in
theorem ggX5_numberTold_X5_currentState : GoodIn wsX5_numberTold wsX5_currentState := goodIn_r _ [27, 1, 3, 28, 29, 30, 31, 32, 33, 34, 35, 36, 37, 38, 39, 40, 41, 42, 43, 44, 45, 46, 47, 48, 49, 22, 14, 23, 55, 56, 57, 58, 59, 65, 66, 67, 68, 69, 70, 71, 72, 73, 74, 60, 61, 62, 63, 64] (by decide +kernel) (by decide +kernel)
set_option maxRecDepth 20000 in
theorem gX5_numberTold_X5_currentState : GoodIn wsX5_numberTold (wsV RX5 283 RX5 yX5_currentState wsX5_currentState) := goodIn_app (goodIn_of _ (by decide +kernel)) ggX5_numberTold_X5_currentState
set_option maxRecDepth 20000 in
theorem ggX5_numberTold_X5_sumOfLengths : GoodIn wsX5_numberTold wsX5_sumOfLengths := goodIn_r _ [53, 16, 17, 18, 14, 19, 3, 20, 21, 22, 23, 54, 35, 36, 37, 55, 56, 57, 58, 59, 65, 66, 67, 68, 69, 70, 71, 72, 73, 74] (by decide +kernel) (by decide +kernel)
set_option maxRecDepth 20000 in
theorem gX5_numberTold_X5_sumOfLengths : GoodIn wsX5_numberTold (wsV RX5 206 RX5 yX5_sumOfLengths wsX5_sumOfLengths) := goodIn_app (goodIn_of _ (by decide +kernel)) ggX5_numberTold_X5_sumOfLengths
theorem dX5_numberTold_0 : decode cX5_numberTold 0 = .ok (.iload_n 1, 1) := by decide +kernel
theorem dX5_numberTold_1 : decode cX5_numberTold 1 = .ok (.tableswitch 114 0 8 #[51, 56, 64, 69, 77, 85, 93, 101, 109], 51) := by decide +kernel
theorem dX5_numberTold_52 : decode cX5_numberTold 52 = .ok (.aload_n 0, 1) := by decide +kernel
theorem dX5_numberTold_53 : decode cX5_numberTold 53 = .ok (.invokevirtual 330, 3) := by decide +kernel
theorem dX5_numberTold_56 : decode cX5_numberTold 56 = .ok (.ireturn, 1) := by decide +kernel
theorem dX5_numberTold_57 : decode cX5_numberTold 57 = .ok (.aload_n 0, 1) := by decide +kernel
theorem dX5_numberTold_58 : decode cX5_numberTold 58 = .ok (.getfield 26, 3) := by decide +kernel
theorem dX5_numberTold_61 : decode cX5_numberTold 61 = .ok (.getfield 177, 3) := by decide +kernel
theorem dX5_numberTold_64 : decode cX5_numberTold 64 = .ok (.ireturn, 1) := by decide +kernel
theorem dX5_numberTold_65 : decode cX5_numberTold 65 = .ok (.aload_n 0, 1) := by decide +kernel
theorem dX5_numberTold_66 : decode cX5_numberTold 66 = .ok (.invokevirtual 283, 3) := by decide +kernel
theorem dX5_numberTold_69 : decode cX5_numberTold 69 = .ok (.ireturn, 1) := by decide +kernel
theorem dX5_numberTold_70 : decode cX5_numberTold 70 = .ok (.aload_n 0, 1) := by decide +kernel
theorem dX5_numberTold_71 : decode cX5_numberTold 71 = .ok (.getfield 12, 3) := by decide +kernel
theorem dX5_numberTold_74 : decode cX5_numberTold 74 = .ok (.getfield 116, 3) := by decide +kernel
theorem dX5_numberTold_77 : decode cX5_numberTold 77 = .ok (.ireturn, 1) := by decide +kernel
theorem dX5_numberTold_78 : decode cX5_numberTold 78 = .ok (.aload_n 0, 1) := by decide +kernel
theorem dX5_numberTold_79 : decode cX5_numberTold 79 = .ok (.getfield 12, 3) := by decide +kernel
theorem dX5_numberTold_82 : decode cX5_numberTold 82 = .ok (.getfield 333, 3) := by decide +kernel
theorem dX5_numberTold_85 : decode cX5_numberTold 85 = .ok (.ireturn, 1) := by decide +kernel
theorem dX5_numberTold_86 : decode cX5_numberTold 86 = .ok (.aload_n 0, 1) := by decide +kernel
theorem dX5_numberTold_87 : decode cX5_numberTold 87 = .ok (.getfield 12, 3) := by decide +kernel
theorem dX5_numberTold_90 : decode cX5_numberTold 90 = .ok (.getfield 289, 3) := by decide +kernel
theorem dX5_numberTold_93 : decode cX5_numberTold 93 = .ok (.ireturn, 1) := by decide +kernel
theorem dX5_numberTold_94 : decode cX5_numberTold 94 = .ok (.aload_n 0, 1) := by decide +kernel
theorem dX5_numberTold_95 : decode cX5_numberTold 95 = .ok (.getfield 12, 3) := by decide +kernel
theorem dX5_numberTold_98 : decode cX5_numberTold 98 = .ok (.getfield 336, 3) := by decide +kernel
theorem dX5_numberTold_101 : decode cX5_numberTold 101 = .ok (.ireturn, 1) := by decide +kernel
theorem dX5_numberTold_102 : decode cX5_numberTold 102 = .ok (.aload_n 0, 1) := by decide +kernel
theorem dX5_numberTold_103 : decode cX5_numberTold 103 = .ok (.getfield 12, 3) := by decide +kernel
theorem dX5_numberTold_106 : decode cX5_numberTold 106 = .ok (.getfield 339, 3) := by decide +kernel
theorem dX5_numberTold_109 : decode cX5_numberTold 109 = .ok (.ireturn, 1) := by decide +kernel
theorem dX5_numberTold_110 : decode cX5_numberTold 110 = .ok (.aload_n 0, 1) := by decide +kernel
theorem dX5_numberTold_111 : decode cX5_numberTold 111 = .ok (.invokevirtual 206, 3) := by decide +kernel
theorem dX5_numberTold_114 : decode cX5_numberTold 114 = .ok (.ireturn, 1) := by decide +kernel
theorem dX5_numberTold_115 : decode cX5_numberTold 115 = .ok (.aload_n 0, 1) := by decide +kernel
theorem dX5_numberTold_116 : decode cX5_numberTold 116 = .ok (.getfield 19, 3) := by decide +kernel
theorem dX5_numberTold_119 : decode cX5_numberTold 119 = .ok (.getfield 156, 3) := by decide +kernel
theorem dX5_numberTold_122 : decode cX5_numberTold 122 = .ok (.ireturn, 1) := by decide +kernel
set_option maxRecDepth 20000 in
theorem ggX5_fedNumber_X5_currentState : GoodIn wsX5_fedNumber wsX5_currentState := goodIn_r _ [9, 1, 2, 10, 11, 12, 13, 14, 15, 16, 17, 18, 19, 20, 21, 22, 23, 24, 25, 26, 27, 28, 29, 30, 31, 32, 8, 33, 71, 72, 73, 74, 75, 76, 77, 78, 79, 80, 81, 82, 83, 84, 85, 86, 87, 88, 89, 90] (by decide +kernel) (by decide +kernel)
set_option maxRecDepth 20000 in
theorem gX5_fedNumber_X5_currentState : GoodIn wsX5_fedNumber (wsV RX5 283 RX5 yX5_currentState wsX5_currentState) := goodIn_app (goodIn_of _ (by decide +kernel)) ggX5_fedNumber_X5_currentState
set_option maxRecDepth 20000 in
theorem ggX5_fedNumber_X1_leadsTo : GoodIn wsX5_fedNumber wsX1_leadsTo := goodIn_r _ [30, 31, 32, 8, 33, 86, 87, 88, 89, 90] (by decide +kernel) (by decide +kernel)
set_option maxRecDepth 20000 in
theorem gX5_fedNumber_X1_leadsTo : GoodIn wsX5_fedNumber (wsV RX5 286 RX1 yX1_leadsTo wsX1_leadsTo) := goodIn_app (goodIn_of _ (by decide +kernel)) ggX5_fedNumber_X1_leadsTo
set_option maxRecDepth 20000 in
theorem ggX5_fedNumber_X1_fallsBefore : GoodIn wsX5_fedNumber wsX1_fallsBefore := goodIn_r _ [38, 39, 40, 41, 42, 14, 43, 44, 27, 28, 29, 30, 31, 32, 8, 33, 45, 46, 18, 47, 86, 87, 88, 89, 90] (by decide +kernel) (by decide +kernel)
set_option maxRecDepth 20000 in
theorem gX5_fedNumber_X1_fallsBefore : GoodIn wsX5_fedNumber (wsV RX5 296 RX1 yX1_fallsBefore wsX1_fallsBefore) := goodIn_app (goodIn_of _ (by decide +kernel)) ggX5_fedNumber_X1_fallsBefore
set_option maxRecDepth 20000 in
theorem ggX5_fedNumber_X5_matchesThatCount : GoodIn wsX5_fedNumber wsX5_matchesThatCount := goodIn_r _ [51, 1, 52, 2, 53, 54, 32, 8, 33, 55, 56, 57, 58, 59, 60, 17, 18, 19, 71, 72, 73, 74, 75, 86, 87, 88, 89, 90, 76, 77, 78, 79, 80, 81, 82, 83, 84, 85] (by decide +kernel) (by decide +kernel)
set_option maxRecDepth 20000 in
theorem gX5_fedNumber_X5_matchesThatCount : GoodIn wsX5_fedNumber (wsV RX5 292 RX5 yX5_matchesThatCount wsX5_matchesThatCount) := goodIn_app (goodIn_of _ (by decide +kernel)) ggX5_fedNumber_X5_matchesThatCount
set_option maxRecDepth 20000 in
theorem ggX5_fedNumber_J6_bitCount_0f7a4 : GoodIn wsX5_fedNumber wsJ6_bitCount_0f7a4 := goodIn_r _ [64, 65, 66, 67] (by decide +kernel) (by decide +kernel)
set_option maxRecDepth 20000 in
theorem gX5_fedNumber_J6_bitCount_0f7a4 : GoodIn wsX5_fedNumber (va_wsS RX5 307 yJ6_bitCount_0f7a4 wsJ6_bitCount_0f7a4) := goodIn_app (goodIn_of _ (by decide +kernel)) ggX5_fedNumber_J6_bitCount_0f7a4
set_option maxRecDepth 20000 in
theorem ggX5_fedNumber_X5_lowestSlot : GoodIn wsX5_fedNumber wsX5_lowestSlot := goodIn_r _ [70] (by decide +kernel) (by decide +kernel)
set_option maxRecDepth 20000 in
theorem gX5_fedNumber_X5_lowestSlot : GoodIn wsX5_fedNumber (va_wsS RX5 342 yX5_lowestSlot wsX5_lowestSlot) := goodIn_app (goodIn_of _ (by decide +kernel)) ggX5_fedNumber_X5_lowestSlot
theorem dX5_fedNumber_0 : decode cX5_fedNumber 0 = .ok (.aload_n 0, 1) := by decide +kernel
theorem dX5_fedNumber_1 : decode cX5_fedNumber 1 = .ok (.invokevirtual 283, 3) := by decide +kernel
theorem dX5_fedNumber_4 : decode cX5_fedNumber 4 = .ok (.istore_n 3, 1) := by decide +kernel
theorem dX5_fedNumber_5 : decode cX5_fedNumber 5 = .ok (.aload_n 0, 1) := by decide +kernel
theorem dX5_fedNumber_6 : decode cX5_fedNumber 6 = .ok (.getfield 26, 3) := by decide +kernel
theorem dX5_fedNumber_9 : decode cX5_fedNumber 9 = .ok (.iload_n 3, 1) := by decide +kernel
theorem dX5_fedNumber_10 : decode cX5_fedNumber 10 = .ok (.iload_n 1, 1) := by decide +kernel
theorem dX5_fedNumber_11 : decode cX5_fedNumber 11 = .ok (.invokevirtual 286, 3) := by decide +kernel
theorem dX5_fedNumber_14 : decode cX5_fedNumber 14 = .ok (.istore 4, 2) := by decide +kernel
theorem dX5_fedNumber_16 : decode cX5_fedNumber 16 = .ok (.iload_n 2, 1) := by decide +kernel
theorem dX5_fedNumber_17 : decode cX5_fedNumber 17 = .ok (.tableswitch 64 0 2 #[27, 30, 40], 27) := by decide +kernel
theorem dX5_fedNumber_44 : decode cX5_fedNumber 44 = .ok (.iload 4, 2) := by decide +kernel
theorem dX5_fedNumber_46 : decode cX5_fedNumber 46 = .ok (.ireturn, 1) := by decide +kernel
theorem dX5_fedNumber_47 : decode cX5_fedNumber 47 = .ok (.aload_n 0, 1) := by decide +kernel
theorem dX5_fedNumber_48 : decode cX5_fedNumber 48 = .ok (.getfield 26, 3) := by decide +kernel
theorem dX5_fedNumber_51 : decode cX5_fedNumber 51 = .ok (.iload_n 3, 1) := by decide +kernel
theorem dX5_fedNumber_52 : decode cX5_fedNumber 52 = .ok (.iload_n 1, 1) := by decide +kernel
theorem dX5_fedNumber_53 : decode cX5_fedNumber 53 = .ok (.invokevirtual 296, 3) := by decide +kernel
theorem dX5_fedNumber_56 : decode cX5_fedNumber 56 = .ok (.ireturn, 1) := by decide +kernel
theorem dX5_fedNumber_57 : decode cX5_fedNumber 57 = .ok (.aload_n 0, 1) := by decide +kernel
theorem dX5_fedNumber_58 : decode cX5_fedNumber 58 = .ok (.iload 4, 2) := by decide +kernel
theorem dX5_fedNumber_60 : decode cX5_fedNumber 60 = .ok (.aload_n 0, 1) := by decide +kernel
theorem dX5_fedNumber_61 : decode cX5_fedNumber 61 = .ok (.getfield 12, 3) := by decide +kernel
theorem dX5_fedNumber_64 : decode cX5_fedNumber 64 = .ok (.getfield 116, 3) := by decide +kernel
theorem dX5_fedNumber_67 : decode cX5_fedNumber 67 = .ok (.aload_n 0, 1) := by decide +kernel
theorem dX5_fedNumber_68 : decode cX5_fedNumber 68 = .ok (.getfield 12, 3) := by decide +kernel
theorem dX5_fedNumber_71 : decode cX5_fedNumber 71 = .ok (.getfield 289, 3) := by decide +kernel
theorem dX5_fedNumber_74 : decode cX5_fedNumber 74 = .ok (.invokevirtual 292, 3) := by decide +kernel
theorem dX5_fedNumber_77 : decode cX5_fedNumber 77 = .ok (.invokestatic 307, 3) := by decide +kernel
theorem dX5_fedNumber_80 : decode cX5_fedNumber 80 = .ok (.ireturn, 1) := by decide +kernel
theorem dX5_fedNumber_81 : decode cX5_fedNumber 81 = .ok (.aload_n 0, 1) := by decide +kernel
theorem dX5_fedNumber_82 : decode cX5_fedNumber 82 = .ok (.iload 4, 2) := by decide +kernel
theorem dX5_fedNumber_84 : decode cX5_fedNumber 84 = .ok (.aload_n 0, 1) := by decide +kernel
theorem dX5_fedNumber_85 : decode cX5_fedNumber 85 = .ok (.getfield 12, 3) := by decide +kernel
theorem dX5_fedNumber_88 : decode cX5_fedNumber 88 = .ok (.getfield 116, 3) := by decide +kernel
theorem dX5_fedNumber_91 : decode cX5_fedNumber 91 = .ok (.aload_n 0, 1) := by decide +kernel
theorem dX5_fedNumber_92 : decode cX5_fedNumber 92 = .ok (.getfield 12, 3) := by decide +kernel
theorem dX5_fedNumber_95 : decode cX5_fedNumber 95 = .ok (.getfield 289, 3) := by decide +kernel
theorem dX5_fedNumber_98 : decode cX5_fedNumber 98 = .ok (.invokevirtual 292, 3) := by decide +kernel
theorem dX5_fedNumber_101 : decode cX5_fedNumber 101 = .ok (.invokestatic 342, 3) := by decide +kernel
theorem dX5_fedNumber_104 : decode cX5_fedNumber 104 = .ok (.ireturn, 1) := by decide +kernel
theorem dX5_lowestSlot_0 : decode cX5_lowestSlot 0 = .ok (.iconst 0, 1) := by decide +kernel
theorem dX5_lowestSlot_1 : decode cX5_lowestSlot 1 = .ok (.istore_n 1, 1) := by decide +kernel
theorem dX5_lowestSlot_2 : decode cX5_lowestSlot 2 = .ok (.iload_n 1, 1) := by decide +kernel
theorem dX5_lowestSlot_3 : decode cX5_lowestSlot 3 = .ok (.bipush 8, 2) := by decide +kernel
theorem dX5_lowestSlot_5 : decode cX5_lowestSlot 5 = .ok (.if_icmp .ge 19, 3) := by decide +kernel
theorem dX5_lowestSlot_8 : decode cX5_lowestSlot 8 = .ok (.iload_n 0, 1) := by decide +kernel
theorem dX5_lowestSlot_9 : decode cX5_lowestSlot 9 = .ok (.iconst 1, 1) := by decide +kernel
theorem dX5_lowestSlot_10 : decode cX5_lowestSlot 10 = .ok (.iload_n 1, 1) := by decide +kernel
theorem dX5_lowestSlot_11 : decode cX5_lowestSlot 11 = .ok (.ishl, 1) := by decide +kernel
theorem dX5_lowestSlot_12 : decode cX5_lowestSlot 12 = .ok (.iand, 1) := by decide +kernel
theorem dX5_lowestSlot_13 : decode cX5_lowestSlot 13 = .ok (.ifCond .eq 5, 3) := by decide +kernel
theorem dX5_lowestSlot_16 : decode cX5_lowestSlot 16 = .ok (.iload_n 1, 1) := by decide +kernel
theorem dX5_lowestSlot_17 : decode cX5_lowestSlot 17 = .ok (.ireturn, 1) := by decide +kernel
theorem dX5_lowestSlot_18 : decode cX5_lowestSlot 18 = .ok (.iinc 1 1, 3) := by decide +kernel
theorem dX5_lowestSlot_21 : decode cX5_lowestSlot 21 = .ok (.goto (-19), 3) := by decide +kernel
theorem dX5_lowestSlot_24 : decode cX5_lowestSlot 24 = .ok (.iconst (-1), 1) := by decide +kernel
theorem dX5_lowestSlot_25 : decode cX5_lowestSlot 25 = .ok (.ireturn, 1) := by decide +kernel
set_option maxRecDepth 20000 in
theorem ggX5_fewestLettersTo_X5_currentState : GoodIn wsX5_fewestLettersTo wsX5_currentState := goodIn_r _ [7, 1, 8, 9, 10, 11, 12, 13, 14, 15, 16, 17, 18, 19, 20, 21, 22, 23, 24, 25, 26, 27, 28, 29, 30, 31, 6, 32, 44, 45, 46, 47, 48, 54, 55, 56, 57, 58, 59, 60, 61, 62, 63, 49, 50, 51, 52, 53] (by decide +kernel) (by decide +kernel)
set_option maxRecDepth 20000 in
theorem gX5_fewestLettersTo_X5_currentState : GoodIn wsX5_fewestLettersTo (wsV RX5 283 RX5 yX5_currentState wsX5_currentState) := goodIn_app (goodIn_of _ (by decide +kernel)) ggX5_fewestLettersTo_X5_currentState
set_option maxRecDepth 20000 in
theorem ggX5_fewestLettersTo_X5_at : GoodIn wsX5_fewestLettersTo wsX5_at := goodIn_r _ [32] (by decide +kernel) (by decide +kernel)
set_option maxRecDepth 20000 in
theorem gX5_fewestLettersTo_X5_at : GoodIn wsX5_fewestLettersTo (va_wsS RX5 68 yX5_at wsX5_at) := goodIn_app (goodIn_of _ (by decide +kernel)) ggX5_fewestLettersTo_X5_at
set_option maxRecDepth 20000 in
theorem ggX5_fewestLettersTo_X3_lengthOf : GoodIn wsX5_fewestLettersTo wsX3_lengthOf := goodIn_r _ [18] (by decide +kernel) (by decide +kernel)
set_option maxRecDepth 20000 in
theorem gX5_fewestLettersTo_X3_lengthOf : GoodIn wsX5_fewestLettersTo (va_wsS RX5 252 yX3_lengthOf wsX3_lengthOf) := goodIn_app (goodIn_of _ (by decide +kernel)) ggX5_fewestLettersTo_X3_lengthOf
set_option maxRecDepth 20000 in
theorem ggX5_fewestLettersTo_X3_beginning : GoodIn wsX5_fewestLettersTo wsX3_beginning := goodIn_r _ [37, 22, 16, 17, 18] (by decide +kernel) (by decide +kernel)
set_option maxRecDepth 20000 in
theorem gX5_fewestLettersTo_X3_beginning : GoodIn wsX5_fewestLettersTo (va_wsS RX5 274 yX3_beginning wsX3_beginning) := goodIn_app (goodIn_of _ (by decide +kernel)) ggX5_fewestLettersTo_X3_beginning
set_option maxRecDepth 20000 in
theorem ggX5_fewestLettersTo_X3_endsWith : GoodIn wsX5_fewestLettersTo wsX3_endsWith := goodIn_r _ [40, 22, 16, 17, 18, 41, 42, 43] (by decide +kernel) (by decide +kernel)
set_option maxRecDepth 20000 in
theorem gX5_fewestLettersTo_X3_endsWith : GoodIn wsX5_fewestLettersTo (va_wsS RX5 345 yX3_endsWith wsX3_endsWith) := goodIn_app (goodIn_of _ (by decide +kernel)) ggX5_fewestLettersTo_X3_endsWith
theorem dX5_fewestLettersTo_0 : decode cX5_fewestLettersTo 0 = .ok (.iload_n 1, 1) := by decide +kernel
theorem dX5_fewestLettersTo_1 : decode cX5_fewestLettersTo 1 = .ok (.ifCond .ne 5, 3) := by decide +kernel
theorem dX5_fewestLettersTo_4 : decode cX5_fewestLettersTo 4 = .ok (.iconst (-1), 1) := by decide +kernel
theorem dX5_fewestLettersTo_5 : decode cX5_fewestLettersTo 5 = .ok (.ireturn, 1) := by decide +kernel
theorem dX5_fewestLettersTo_6 : decode cX5_fewestLettersTo 6 = .ok (.aload_n 0, 1) := by decide +kernel
theorem dX5_fewestLettersTo_7 : decode cX5_fewestLettersTo 7 = .ok (.getfield 26, 3) := by decide +kernel
theorem dX5_fewestLettersTo_10 : decode cX5_fewestLettersTo 10 = .ok (.getfield 321, 3) := by decide +kernel
theorem dX5_fewestLettersTo_13 : decode cX5_fewestLettersTo 13 = .ok (.aload_n 0, 1) := by decide +kernel
theorem dX5_fewestLettersTo_14 : decode cX5_fewestLettersTo 14 = .ok (.invokevirtual 283, 3) := by decide +kernel
theorem dX5_fewestLettersTo_17 : decode cX5_fewestLettersTo 17 = .ok (.invokestatic 68, 3) := by decide +kernel
theorem dX5_fewestLettersTo_20 : decode cX5_fewestLettersTo 20 = .ok (.istore_n 2, 1) := by decide +kernel
theorem dX5_fewestLettersTo_21 : decode cX5_fewestLettersTo 21 = .ok (.iload_n 1, 1) := by decide +kernel
theorem dX5_fewestLettersTo_22 : decode cX5_fewestLettersTo 22 = .ok (.invokestatic 252, 3) := by decide +kernel
theorem dX5_fewestLettersTo_25 : decode cX5_fewestLettersTo 25 = .ok (.istore_n 3, 1) := by decide +kernel
theorem dX5_fewestLettersTo_26 : decode cX5_fewestLettersTo 26 = .ok (.iconst 1, 1) := by decide +kernel
theorem dX5_fewestLettersTo_27 : decode cX5_fewestLettersTo 27 = .ok (.istore 4, 2) := by decide +kernel
theorem dX5_fewestLettersTo_29 : decode cX5_fewestLettersTo 29 = .ok (.iload 4, 2) := by decide +kernel
theorem dX5_fewestLettersTo_31 : decode cX5_fewestLettersTo 31 = .ok (.iload_n 3, 1) := by decide +kernel
theorem dX5_fewestLettersTo_32 : decode cX5_fewestLettersTo 32 = .ok (.if_icmp .ge 27, 3) := by decide +kernel
theorem dX5_fewestLettersTo_35 : decode cX5_fewestLettersTo 35 = .ok (.iload_n 2, 1) := by decide +kernel
theorem dX5_fewestLettersTo_36 : decode cX5_fewestLettersTo 36 = .ok (.iload_n 1, 1) := by decide +kernel
theorem dX5_fewestLettersTo_37 : decode cX5_fewestLettersTo 37 = .ok (.iload_n 3, 1) := by decide +kernel
theorem dX5_fewestLettersTo_38 : decode cX5_fewestLettersTo 38 = .ok (.iload 4, 2) := by decide +kernel
theorem dX5_fewestLettersTo_40 : decode cX5_fewestLettersTo 40 = .ok (.isub, 1) := by decide +kernel
theorem dX5_fewestLettersTo_41 : decode cX5_fewestLettersTo 41 = .ok (.invokestatic 274, 3) := by decide +kernel
theorem dX5_fewestLettersTo_44 : decode cX5_fewestLettersTo 44 = .ok (.invokestatic 345, 3) := by decide +kernel
theorem dX5_fewestLettersTo_47 : decode cX5_fewestLettersTo 47 = .ok (.ifCond .eq 6, 3) := by decide +kernel
theorem dX5_fewestLettersTo_50 : decode cX5_fewestLettersTo 50 = .ok (.iload 4, 2) := by decide +kernel
theorem dX5_fewestLettersTo_52 : decode cX5_fewestLettersTo 52 = .ok (.ireturn, 1) := by decide +kernel
theorem dX5_fewestLettersTo_53 : decode cX5_fewestLettersTo 53 = .ok (.iinc 4 1, 3) := by decide +kernel
theorem dX5_fewestLettersTo_56 : decode cX5_fewestLettersTo 56 = .ok (.goto (-27), 3) := by decide +kernel
theorem dX5_fewestLettersTo_59 : decode cX5_fewestLettersTo 59 = .ok (.iload_n 3, 1) := by decide +kernel
theorem dX5_fewestLettersTo_60 : decode cX5_fewestLettersTo 60 = .ok (.ireturn, 1) := by decide +kernel
set_option maxRecDepth 20000 in
theorem ggX5_matchesIfRepeated_X5_currentState : GoodIn wsX5_matchesIfRepeated wsX5_currentState := goodIn_r _ [9, 3, 1, 10, 11, 12, 13, 14, 15, 16, 17, 18, 19, 20, 21, 22, 23, 24, 25, 26, 27, 28, 29, 30, 31, 32, 8, 33, 55, 56, 57, 58, 59, 60, 61, 62, 63, 64, 65, 66, 67, 68, 69, 70, 71, 72, 73, 74] (by decide +kernel) (by decide +kernel)
set_option maxRecDepth 20000 in
theorem gX5_matchesIfRepeated_X5_currentState : GoodIn wsX5_matchesIfRepeated (wsV RX5 283 RX5 yX5_currentState wsX5_currentState) := goodIn_app (goodIn_of _ (by decide +kernel)) ggX5_matchesIfRepeated_X5_currentState
set_option maxRecDepth 20000 in
theorem ggX5_matchesIfRepeated_X1_leadsTo : GoodIn wsX5_matchesIfRepeated wsX1_leadsTo := goodIn_r _ [30, 31, 32, 8, 33, 70, 71, 72, 73, 74] (by decide +kernel) (by decide +kernel)
set_option maxRecDepth 20000 in
theorem gX5_matchesIfRepeated_X1_leadsTo : GoodIn wsX5_matchesIfRepeated (wsV RX5 286 RX1 yX1_leadsTo wsX1_leadsTo) := goodIn_app (goodIn_of _ (by decide +kernel)) ggX5_matchesIfRepeated_X1_leadsTo
set_option maxRecDepth 20000 in
theorem ggX5_matchesIfRepeated_X5_matchesThatCount : GoodIn wsX5_matchesIfRepeated wsX5_matchesThatCount := goodIn_r _ [38, 3, 39, 1, 40, 41, 32, 8, 33, 42, 43, 44, 45, 46, 47, 17, 18, 19, 55, 56, 57, 58, 59, 70, 71, 72, 73, 74, 60, 61, 62, 63, 64, 65, 66, 67, 68, 69] (by decide +kernel) (by decide +kernel)
set_option maxRecDepth 20000 in
theorem gX5_matchesIfRepeated_X5_matchesThatCount : GoodIn wsX5_matchesIfRepeated (wsV RX5 292 RX5 yX5_matchesThatCount wsX5_matchesThatCount) := goodIn_app (goodIn_of _ (by decide +kernel)) ggX5_matchesIfRepeated_X5_matchesThatCount
set_option maxRecDepth 20000 in
theorem ggX5_matchesIfRepeated_J6_bitCount_0f7a4 : GoodIn wsX5_matchesIfRepeated wsJ6_bitCount_0f7a4 := goodIn_r _ [51, 52, 53, 54] (by decide +kernel) (by decide +kernel)
set_option maxRecDepth 20000 in
theorem gX5_matchesIfRepeated_J6_bitCount_0f7a4 : GoodIn wsX5_matchesIfRepeated (va_wsS RX5 307 yJ6_bitCount_0f7a4 wsJ6_bitCount_0f7a4) := goodIn_app (goodIn_of _ (by decide +kernel)) ggX5_matchesIfRepeated_J6_bitCount_0f7a4
theorem dX5_matchesIfRepeated_0 : decode cX5_matchesIfRepeated 0 = .ok (.iconst 0, 1) := by decide +kernel
theorem dX5_matchesIfRepeated_1 : decode cX5_matchesIfRepeated 1 = .ok (.istore_n 3, 1) := by decide +kernel
theorem dX5_matchesIfRepeated_2 : decode cX5_matchesIfRepeated 2 = .ok (.aload_n 0, 1) := by decide +kernel
theorem dX5_matchesIfRepeated_3 : decode cX5_matchesIfRepeated 3 = .ok (.invokevirtual 283, 3) := by decide +kernel
theorem dX5_matchesIfRepeated_6 : decode cX5_matchesIfRepeated 6 = .ok (.istore 4, 2) := by decide +kernel
theorem dX5_matchesIfRepeated_8 : decode cX5_matchesIfRepeated 8 = .ok (.aload_n 0, 1) := by decide +kernel
theorem dX5_matchesIfRepeated_9 : decode cX5_matchesIfRepeated 9 = .ok (.getfield 12, 3) := by decide +kernel
theorem dX5_matchesIfRepeated_12 : decode cX5_matchesIfRepeated 12 = .ok (.getfield 289, 3) := by decide +kernel
theorem dX5_matchesIfRepeated_15 : decode cX5_matchesIfRepeated 15 = .ok (.istore 5, 2) := by decide +kernel
theorem dX5_matchesIfRepeated_17 : decode cX5_matchesIfRepeated 17 = .ok (.iconst 0, 1) := by decide +kernel
theorem dX5_matchesIfRepeated_18 : decode cX5_matchesIfRepeated 18 = .ok (.istore 6, 2) := by decide +kernel
theorem dX5_matchesIfRepeated_20 : decode cX5_matchesIfRepeated 20 = .ok (.iload 6, 2) := by decide +kernel
theorem dX5_matchesIfRepeated_22 : decode cX5_matchesIfRepeated 22 = .ok (.iload_n 2, 1) := by decide +kernel
theorem dX5_matchesIfRepeated_23 : decode cX5_matchesIfRepeated 23 = .ok (.if_icmp .ge 66, 3) := by decide +kernel
theorem dX5_matchesIfRepeated_26 : decode cX5_matchesIfRepeated 26 = .ok (.aload_n 0, 1) := by decide +kernel
theorem dX5_matchesIfRepeated_27 : decode cX5_matchesIfRepeated 27 = .ok (.getfield 26, 3) := by decide +kernel
theorem dX5_matchesIfRepeated_30 : decode cX5_matchesIfRepeated 30 = .ok (.iload 4, 2) := by decide +kernel
theorem dX5_matchesIfRepeated_32 : decode cX5_matchesIfRepeated 32 = .ok (.iload_n 1, 1) := by decide +kernel
theorem dX5_matchesIfRepeated_33 : decode cX5_matchesIfRepeated 33 = .ok (.invokevirtual 286, 3) := by decide +kernel
theorem dX5_matchesIfRepeated_36 : decode cX5_matchesIfRepeated 36 = .ok (.istore 4, 2) := by decide +kernel
theorem dX5_matchesIfRepeated_38 : decode cX5_matchesIfRepeated 38 = .ok (.aload_n 0, 1) := by decide +kernel
theorem dX5_matchesIfRepeated_39 : decode cX5_matchesIfRepeated 39 = .ok (.iload 4, 2) := by decide +kernel
theorem dX5_matchesIfRepeated_41 : decode cX5_matchesIfRepeated 41 = .ok (.aload_n 0, 1) := by decide +kernel
theorem dX5_matchesIfRepeated_42 : decode cX5_matchesIfRepeated 42 = .ok (.getfield 12, 3) := by decide +kernel
theorem dX5_matchesIfRepeated_45 : decode cX5_matchesIfRepeated 45 = .ok (.getfield 116, 3) := by decide +kernel
theorem dX5_matchesIfRepeated_48 : decode cX5_matchesIfRepeated 48 = .ok (.iload 6, 2) := by decide +kernel
theorem dX5_matchesIfRepeated_50 : decode cX5_matchesIfRepeated 50 = .ok (.iadd, 1) := by decide +kernel
theorem dX5_matchesIfRepeated_51 : decode cX5_matchesIfRepeated 51 = .ok (.iload 5, 2) := by decide +kernel
theorem dX5_matchesIfRepeated_53 : decode cX5_matchesIfRepeated 53 = .ok (.invokevirtual 292, 3) := by decide +kernel
theorem dX5_matchesIfRepeated_56 : decode cX5_matchesIfRepeated 56 = .ok (.istore 7, 2) := by decide +kernel
theorem dX5_matchesIfRepeated_58 : decode cX5_matchesIfRepeated 58 = .ok (.iload 7, 2) := by decide +kernel
theorem dX5_matchesIfRepeated_60 : decode cX5_matchesIfRepeated 60 = .ok (.ifCond .eq 15, 3) := by decide +kernel
theorem dX5_matchesIfRepeated_63 : decode cX5_matchesIfRepeated 63 = .ok (.aload_n 0, 1) := by decide +kernel
theorem dX5_matchesIfRepeated_64 : decode cX5_matchesIfRepeated 64 = .ok (.getfield 12, 3) := by decide +kernel
theorem dX5_matchesIfRepeated_67 : decode cX5_matchesIfRepeated 67 = .ok (.getfield 116, 3) := by decide +kernel
theorem dX5_matchesIfRepeated_70 : decode cX5_matchesIfRepeated 70 = .ok (.iload 6, 2) := by decide +kernel
theorem dX5_matchesIfRepeated_72 : decode cX5_matchesIfRepeated 72 = .ok (.iadd, 1) := by decide +kernel
theorem dX5_matchesIfRepeated_73 : decode cX5_matchesIfRepeated 73 = .ok (.istore 5, 2) := by decide +kernel
theorem dX5_matchesIfRepeated_75 : decode cX5_matchesIfRepeated 75 = .ok (.iload_n 3, 1) := by decide +kernel
theorem dX5_matchesIfRepeated_76 : decode cX5_matchesIfRepeated 76 = .ok (.iload 7, 2) := by decide +kernel
theorem dX5_matchesIfRepeated_78 : decode cX5_matchesIfRepeated 78 = .ok (.invokestatic 307, 3) := by decide +kernel
theorem dX5_matchesIfRepeated_81 : decode cX5_matchesIfRepeated 81 = .ok (.iadd, 1) := by decide +kernel
theorem dX5_matchesIfRepeated_82 : decode cX5_matchesIfRepeated 82 = .ok (.istore_n 3, 1) := by decide +kernel
theorem dX5_matchesIfRepeated_83 : decode cX5_matchesIfRepeated 83 = .ok (.iinc 6 1, 3) := by decide +kernel
theorem dX5_matchesIfRepeated_86 : decode cX5_matchesIfRepeated 86 = .ok (.goto (-66), 3) := by decide +kernel
theorem dX5_matchesIfRepeated_89 : decode cX5_matchesIfRepeated 89 = .ok (.iload_n 3, 1) := by decide +kernel
theorem dX5_matchesIfRepeated_90 : decode cX5_matchesIfRepeated 90 = .ok (.ireturn, 1) := by decide +kernel
theorem dJ6_bitCount_0f7a4_0 : decode cJ6_bitCount_0f7a4 0 = .ok (.iload_n 0, 1) := by decide +kernel
theorem dJ6_bitCount_0f7a4_1 : decode cJ6_bitCount_0f7a4 1 = .ok (.iload_n 0, 1) := by decide +kernel
theorem dJ6_bitCount_0f7a4_2 : decode cJ6_bitCount_0f7a4 2 = .ok (.iconst 1, 1) := by decide +kernel
theorem dJ6_bitCount_0f7a4_3 : decode cJ6_bitCount_0f7a4 3 = .ok (.iushr, 1) := by decide +kernel
theorem dJ6_bitCount_0f7a4_4 : decode cJ6_bitCount_0f7a4 4 = .ok (.ldc_w 265, 3) := by decide +kernel
theorem dJ6_bitCount_0f7a4_7 : decode cJ6_bitCount_0f7a4 7 = .ok (.iand, 1) := by decide +kernel
theorem dJ6_bitCount_0f7a4_8 : decode cJ6_bitCount_0f7a4 8 = .ok (.isub, 1) := by decide +kernel
theorem dJ6_bitCount_0f7a4_9 : decode cJ6_bitCount_0f7a4 9 = .ok (.istore_n 0, 1) := by decide +kernel
theorem dJ6_bitCount_0f7a4_10 : decode cJ6_bitCount_0f7a4 10 = .ok (.iload_n 0, 1) := by decide +kernel
theorem dJ6_bitCount_0f7a4_11 : decode cJ6_bitCount_0f7a4 11 = .ok (.ldc_w 266, 3) := by decide +kernel
theorem dJ6_bitCount_0f7a4_14 : decode cJ6_bitCount_0f7a4 14 = .ok (.iand, 1) := by decide +kernel
theorem dJ6_bitCount_0f7a4_15 : decode cJ6_bitCount_0f7a4 15 = .ok (.iload_n 0, 1) := by decide +kernel
theorem dJ6_bitCount_0f7a4_16 : decode cJ6_bitCount_0f7a4 16 = .ok (.iconst 2, 1) := by decide +kernel
theorem dJ6_bitCount_0f7a4_17 : decode cJ6_bitCount_0f7a4 17 = .ok (.iushr, 1) := by decide +kernel
theorem dJ6_bitCount_0f7a4_18 : decode cJ6_bitCount_0f7a4 18 = .ok (.ldc_w 266, 3) := by decide +kernel
theorem dJ6_bitCount_0f7a4_21 : decode cJ6_bitCount_0f7a4 21 = .ok (.iand, 1) := by decide +kernel
theorem dJ6_bitCount_0f7a4_22 : decode cJ6_bitCount_0f7a4 22 = .ok (.iadd, 1) := by decide +kernel
theorem dJ6_bitCount_0f7a4_23 : decode cJ6_bitCount_0f7a4 23 = .ok (.istore_n 0, 1) := by decide +kernel
theorem dJ6_bitCount_0f7a4_24 : decode cJ6_bitCount_0f7a4 24 = .ok (.iload_n 0, 1) := by decide +kernel
theorem dJ6_bitCount_0f7a4_25 : decode cJ6_bitCount_0f7a4 25 = .ok (.iload_n 0, 1) := by decide +kernel
theorem dJ6_bitCount_0f7a4_26 : decode cJ6_bitCount_0f7a4 26 = .ok (.iconst 4, 1) := by decide +kernel
theorem dJ6_bitCount_0f7a4_27 : decode cJ6_bitCount_0f7a4 27 = .ok (.iushr, 1) := by decide +kernel
theorem dJ6_bitCount_0f7a4_28 : decode cJ6_bitCount_0f7a4 28 = .ok (.iadd, 1) := by decide +kernel
theorem dJ6_bitCount_0f7a4_29 : decode cJ6_bitCount_0f7a4 29 = .ok (.ldc_w 267, 3) := by decide +kernel
theorem dJ6_bitCount_0f7a4_32 : decode cJ6_bitCount_0f7a4 32 = .ok (.iand, 1) := by decide +kernel
theorem dJ6_bitCount_0f7a4_33 : decode cJ6_bitCount_0f7a4 33 = .ok (.istore_n 0, 1) := by decide +kernel
theorem dJ6_bitCount_0f7a4_34 : decode cJ6_bitCount_0f7a4 34 = .ok (.iload_n 0, 1) := by decide +kernel
theorem dJ6_bitCount_0f7a4_35 : decode cJ6_bitCount_0f7a4 35 = .ok (.iload_n 0, 1) := by decide +kernel
theorem dJ6_bitCount_0f7a4_36 : decode cJ6_bitCount_0f7a4 36 = .ok (.bipush 8, 2) := by decide +kernel
theorem dJ6_bitCount_0f7a4_38 : decode cJ6_bitCount_0f7a4 38 = .ok (.iushr, 1) := by decide +kernel
theorem dJ6_bitCount_0f7a4_39 : decode cJ6_bitCount_0f7a4 39 = .ok (.iadd, 1) := by decide +kernel
theorem dJ6_bitCount_0f7a4_40 : decode cJ6_bitCount_0f7a4 40 = .ok (.istore_n 0, 1) := by decide +kernel
theorem dJ6_bitCount_0f7a4_41 : decode cJ6_bitCount_0f7a4 41 = .ok (.iload_n 0, 1) := by decide +kernel
theorem dJ6_bitCount_0f7a4_42 : decode cJ6_bitCount_0f7a4 42 = .ok (.iload_n 0, 1) := by decide +kernel
theorem dJ6_bitCount_0f7a4_43 : decode cJ6_bitCount_0f7a4 43 = .ok (.bipush 16, 2) := by decide +kernel
theorem dJ6_bitCount_0f7a4_45 : decode cJ6_bitCount_0f7a4 45 = .ok (.iushr, 1) := by decide +kernel
theorem dJ6_bitCount_0f7a4_46 : decode cJ6_bitCount_0f7a4 46 = .ok (.iadd, 1) := by decide +kernel
theorem dJ6_bitCount_0f7a4_47 : decode cJ6_bitCount_0f7a4 47 = .ok (.istore_n 0, 1) := by decide +kernel
theorem dJ6_bitCount_0f7a4_48 : decode cJ6_bitCount_0f7a4 48 = .ok (.iload_n 0, 1) := by decide +kernel
theorem dJ6_bitCount_0f7a4_49 : decode cJ6_bitCount_0f7a4 49 = .ok (.bipush 63, 2) := by decide +kernel
theorem dJ6_bitCount_0f7a4_51 : decode cJ6_bitCount_0f7a4 51 = .ok (.iand, 1) := by decide +kernel
theorem dJ6_bitCount_0f7a4_52 : decode cJ6_bitCount_0f7a4 52 = .ok (.ireturn, 1) := by decide +kernel
theorem dJ9_max_7cf53_0 : decode cJ9_max_7cf53 0 = .ok (.iload_n 0, 1) := by decide +kernel
theorem dJ9_max_7cf53_1 : decode cJ9_max_7cf53 1 = .ok (.iload_n 1, 1) := by decide +kernel
theorem dJ9_max_7cf53_2 : decode cJ9_max_7cf53 2 = .ok (.if_icmp .lt 7, 3) := by decide +kernel
theorem dJ9_max_7cf53_5 : decode cJ9_max_7cf53 5 = .ok (.iload_n 0, 1) := by decide +kernel
theorem dJ9_max_7cf53_6 : decode cJ9_max_7cf53 6 = .ok (.goto 4, 3) := by decide +kernel
theorem dJ9_max_7cf53_9 : decode cJ9_max_7cf53 9 = .ok (.iload_n 1, 1) := by decide +kernel
theorem dJ9_max_7cf53_10 : decode cJ9_max_7cf53 10 = .ok (.ireturn, 1) := by decide +kernel
theorem dL_cell_0 : decode cL_cell 0 = .ok (.iload_n 1, 1) := by decide +kernel
theorem dL_cell_1 : decode cL_cell 1 = .ok (.aload_n 0, 1) := by decide +kernel
theorem dL_cell_2 : decode cL_cell 2 = .ok (.arraylength, 1) := by decide +kernel
theorem dL_cell_3 : decode cL_cell 3 = .ok (.if_icmp .ge 9, 3) := by decide +kernel
theorem dL_cell_6 : decode cL_cell 6 = .ok (.aload_n 0, 1) := by decide +kernel
theorem dL_cell_7 : decode cL_cell 7 = .ok (.iload_n 1, 1) := by decide +kernel
theorem dL_cell_8 : decode cL_cell 8 = .ok (.iaload, 1) := by decide +kernel
theorem dL_cell_9 : decode cL_cell 9 = .ok (.goto 15, 3) := by decide +kernel
theorem dL_cell_12 : decode cL_cell 12 = .ok (.sipush 7919, 3) := by decide +kernel
theorem dL_cell_15 : decode cL_cell 15 = .ok (.iload_n 1, 1) := by decide +kernel
theorem dL_cell_16 : decode cL_cell 16 = .ok (.iconst 3, 1) := by decide +kernel
theorem dL_cell_17 : decode cL_cell 17 = .ok (.iadd, 1) := by decide +kernel
theorem dL_cell_18 : decode cL_cell 18 = .ok (.imul, 1) := by decide +kernel
theorem dL_cell_19 : decode cL_cell 19 = .ok (.iload_n 1, 1) := by decide +kernel
theorem dL_cell_20 : decode cL_cell 20 = .ok (.bipush 11, 2) := by decide +kernel
theorem dL_cell_22 : decode cL_cell 22 = .ok (.iadd, 1) := by decide +kernel
theorem dL_cell_23 : decode cL_cell 23 = .ok (.imul, 1) := by decide +kernel
theorem dL_cell_24 : decode cL_cell 24 = .ok (.ireturn, 1) := by decide +kernel
theorem dL_low_0 : decode cL_low 0 = .ok (.iload_n 0, 1) := by decide +kernel
theorem dL_low_1 : decode cL_low 1 = .ok (.ldc 7, 2) := by decide +kernel
theorem dL_low_3 : decode cL_low 3 = .ok (.iand, 1) := by decide +kernel
theorem dL_low_4 : decode cL_low 4 = .ok (.iload_n 1, 1) := by decide +kernel
theorem dL_low_5 : decode cL_low 5 = .ok (.irem, 1) := by decide +kernel
theorem dL_low_6 : decode cL_low 6 = .ok (.ireturn, 1) := by decide +kernel
set_option maxRecDepth 20000 in
theorem ggL_add_X5_clearBuffer : GoodIn wsL_add wsX5_clearBuffer := goodIn_r _ [5, 6, 7, 8, 9, 10, 11, 12, 13, 184, 185, 186, 187, 188, 189, 190] (by decide +kernel) (by decide +kernel)
set_option maxRecDepth 20000 in
theorem gL_add_X5_clearBuffer : GoodIn wsL_add (wsV RL 8 RX5 yX5_clearBuffer wsX5_clearBuffer) := goodIn_app (goodIn_of _ (by decide +kernel)) ggL_add_X5_clearBuffer
set_option maxRecDepth 20000 in
theorem ggL_add_L_low : GoodIn wsL_add wsL_low := goodIn_r _ [17, 18] (by decide +kernel) (by decide +kernel)
set_option maxRecDepth 20000 in
theorem gL_add_L_low : GoodIn wsL_add (va_wsS RL 14 yL_low wsL_low) := goodIn_app (goodIn_of _ (by decide +kernel)) ggL_add_L_low
set_option maxRecDepth 20000 in
theorem ggL_add_X5_append : GoodIn wsL_add wsX5_append := goodIn_ca (goodIn_ca (goodIn_r _ [22, 23, 24, 25, 26, 6, 7, 27, 28, 29, 11, 30, 31, 13, 32, 4, 33, 184, 185, 186, 187, 188, 189, 190] (by decide +kernel) (by decide +kernel)) (goodIn_sub (fun _ h => List.mem_cons_of_mem _ (List.mem_append_left _ (List.mem_append_right _ h))) (by decide +kernel))) (goodIn_sub (fun _ h => List.mem_cons_of_mem _ (List.mem_append_right _ h)) (by decide +kernel))
set_option maxRecDepth 20000 in
theorem gL_add_X5_append : GoodIn wsL_add (wsV RL 20 RX5 yX5_append wsX5_append) := goodIn_app (goodIn_of _ (by decide +kernel)) ggL_add_X5_append
set_option maxRecDepth 20000 in
theorem ggL_add_X5_count : GoodIn wsL_add wsX5_count := goodIn_ca (goodIn_r _ [37, 23, 24, 38, 39, 40, 4, 41, 42, 43, 44, 45, 46, 47, 48, 49, 50, 51, 52, 53, 54, 55, 56, 57, 58, 59, 60, 61, 62, 63, 64, 65, 66, 67, 68, 69, 70, 71, 72, 73, 74, 75, 76, 77, 78, 79, 80, 81, 82, 83, 84, 85, 86, 87, 88, 89, 90, 91, 92, 93, 94, 184, 185, 186, 187, 188, 191, 192, 193, 194, 195, 196, 197, 198, 199, 200, 201, 202, 203, 204, 205, 206, 207, 208] (by decide +kernel) (by decide +kernel)) (goodIn_sub (fun _ h => List.mem_cons_of_mem _ (List.mem_append_left _ (List.mem_append_right _ h))) (by decide +kernel))
set_option maxRecDepth 20000 in
theorem gL_add_X5_count : GoodIn wsL_add (wsV RL 24 RX5 yX5_count wsX5_count) := goodIn_app (goodIn_of _ (by decide +kernel)) ggL_add_X5_count
set_option maxRecDepth 20000 in
theorem ggL_add_X5_add : GoodIn wsL_add wsX5_add := goodIn_ca (goodIn_ca (goodIn_r _ [98, 23, 24, 25, 26, 6, 50, 44, 60, 99, 42, 100, 101, 102, 11, 103, 13, 104, 105, 106, 107, 31, 62, 4, 63, 108, 109, 110, 111, 112, 113, 114, 115, 116, 117, 118, 7, 119, 56, 57, 58, 59, 61, 120, 32, 33, 121, 122, 76, 123, 124, 125, 126, 127, 128, 129, 130, 131, 132, 133, 134, 135, 136, 137, 138, 139, 140, 141, 142, 143, 144, 145, 146, 147, 148, 149, 150, 151, 152, 153, 154, 155, 8, 9, 10, 12, 156, 157, 158, 72, 159, 160, 161, 162, 163, 164, 165, 166, 74, 75, 77, 167, 168, 169, 81, 170, 171, 172, 173, 89, 174, 83, 84, 175, 176, 177, 178, 179, 85, 86, 87, 88, 180, 181, 182, 183, 184, 185, 186, 187, 188, 196, 197, 198, 199, 200, 201, 202, 203, 204, 205, 189, 190, 206, 207, 208, 191, 192, 193, 194, 195] (by decide +kernel) (by decide +kernel)) (goodIn_sub (fun _ h => List.mem_cons_of_mem _ (List.mem_append_left _ (List.mem_append_right _ h))) (by decide +kernel))) (goodIn_sub (fun _ h => List.mem_cons_of_mem _ (List.mem_append_right _ h)) (by decide +kernel))
set_option maxRecDepth 20000 in
theorem gL_add_X5_add : GoodIn wsL_add (wsV RL 27 RX5 yX5_add wsX5_add) := goodIn_app (goodIn_of _ (by decide +kernel)) ggL_add_X5_add
theorem dL_add_0 : decode cL_add 0 = .ok (.aload_n 0, 1) := by decide +kernel
theorem dL_add_1 : decode cL_add 1 = .ok (.invokevirtual 8, 3) := by decide +kernel
theorem dL_add_4 : decode cL_add 4 = .ok (.istore_n 2, 1) := by decide +kernel
theorem dL_add_5 : decode cL_add 5 = .ok (.iconst 1, 1) := by decide +kernel
theorem dL_add_6 : decode cL_add 6 = .ok (.iload_n 1, 1) := by decide +kernel
theorem dL_add_7 : decode cL_add 7 = .ok (.iconst 1, 1) := by decide +kernel
theorem dL_add_8 : decode cL_add 8 = .ok (.iand, 1) := by decide +kernel
theorem dL_add_9 : decode cL_add 9 = .ok (.iadd, 1) := by decide +kernel
theorem dL_add_10 : decode cL_add 10 = .ok (.istore_n 3, 1) := by decide +kernel
theorem dL_add_11 : decode cL_add 11 = .ok (.iconst 0, 1) := by decide +kernel
theorem dL_add_12 : decode cL_add 12 = .ok (.istore 4, 2) := by decide +kernel
theorem dL_add_14 : decode cL_add 14 = .ok (.iload 4, 2) := by decide +kernel
theorem dL_add_16 : decode cL_add 16 = .ok (.iload_n 3, 1) := by decide +kernel
theorem dL_add_17 : decode cL_add 17 = .ok (.if_icmp .ge 80, 3) := by decide +kernel
theorem dL_add_20 : decode cL_add 20 = .ok (.iconst 1, 1) := by decide +kernel
theorem dL_add_21 : decode cL_add 21 = .ok (.iload_n 1, 1) := by decide +kernel
theorem dL_add_22 : decode cL_add 22 = .ok (.iconst 1, 1) := by decide +kernel
theorem dL_add_23 : decode cL_add 23 = .ok (.iconst 5, 1) := by decide +kernel
theorem dL_add_24 : decode cL_add 24 = .ok (.iload 4, 2) := by decide +kernel
theorem dL_add_26 : decode cL_add 26 = .ok (.imul, 1) := by decide +kernel
theorem dL_add_27 : decode cL_add 27 = .ok (.iadd, 1) := by decide +kernel
theorem dL_add_28 : decode cL_add 28 = .ok (.ishr, 1) := by decide +kernel
theorem dL_add_29 : decode cL_add 29 = .ok (.iconst 5, 1) := by decide +kernel
theorem dL_add_30 : decode cL_add 30 = .ok (.invokestatic 14, 3) := by decide +kernel
theorem dL_add_33 : decode cL_add 33 = .ok (.iadd, 1) := by decide +kernel
theorem dL_add_34 : decode cL_add 34 = .ok (.istore 5, 2) := by decide +kernel
theorem dL_add_36 : decode cL_add 36 = .ok (.iconst 0, 1) := by decide +kernel
theorem dL_add_37 : decode cL_add 37 = .ok (.istore 6, 2) := by decide +kernel
theorem dL_add_39 : decode cL_add 39 = .ok (.iload 6, 2) := by decide +kernel
theorem dL_add_41 : decode cL_add 41 = .ok (.iload 5, 2) := by decide +kernel
theorem dL_add_43 : decode cL_add 43 = .ok (.if_icmp .ge 33, 3) := by decide +kernel
theorem dL_add_46 : decode cL_add 46 = .ok (.aload_n 0, 1) := by decide +kernel
theorem dL_add_47 : decode cL_add 47 = .ok (.bipush 97, 2) := by decide +kernel
theorem dL_add_49 : decode cL_add 49 = .ok (.iload_n 1, 1) := by decide +kernel
theorem dL_add_50 : decode cL_add 50 = .ok (.iconst 3, 1) := by decide +kernel
theorem dL_add_51 : decode cL_add 51 = .ok (.iload 6, 2) := by decide +kernel
theorem dL_add_53 : decode cL_add 53 = .ok (.imul, 1) := by decide +kernel
end
section
theorem dL_add_54 : decode cL_add 54 = .ok (.bipush 7, 2) := by decide +kernel
theorem dL_add_56 : decode cL_add 56 = .ok (.iload 4, 2) := by decide +kernel
theorem dL_add_58 : decode cL_add 58 = .ok (.imul, 1) := by decide +kernel
theorem dL_add_59 : decode cL_add 59 = .ok (.iadd, 1) := by decide +kernel
theorem dL_add_60 : decode cL_add 60 = .ok (.ishr, 1) := by decide +kernel
theorem dL_add_61 : decode cL_add 61 = .ok (.iconst 3, 1) := by decide +kernel
theorem dL_add_62 : decode cL_add 62 = .ok (.invokestatic 14, 3) := by decide +kernel
theorem dL_add_65 : decode cL_add 65 = .ok (.iadd, 1) := by decide +kernel
theorem dL_add_66 : decode cL_add 66 = .ok (.invokevirtual 20, 3) := by decide +kernel
theorem dL_add_69 : decode cL_add 69 = .ok (.istore_n 2, 1) := by decide +kernel
theorem dL_add_70 : decode cL_add 70 = .ok (.iinc 6 1, 3) := by decide +kernel
theorem dL_add_73 : decode cL_add 73 = .ok (.goto (-34), 3) := by decide +kernel
theorem dL_add_76 : decode cL_add 76 = .ok (.iload 4, 2) := by decide +kernel
theorem dL_add_78 : decode cL_add 78 = .ok (.iload_n 3, 1) := by decide +kernel
theorem dL_add_79 : decode cL_add 79 = .ok (.iconst 1, 1) := by decide +kernel
theorem dL_add_80 : decode cL_add 80 = .ok (.isub, 1) := by decide +kernel
theorem dL_add_81 : decode cL_add 81 = .ok (.if_icmp .ge 10, 3) := by decide +kernel
theorem dL_add_84 : decode cL_add 84 = .ok (.aload_n 0, 1) := by decide +kernel
theorem dL_add_85 : decode cL_add 85 = .ok (.bipush 59, 2) := by decide +kernel
theorem dL_add_87 : decode cL_add 87 = .ok (.invokevirtual 20, 3) := by decide +kernel
theorem dL_add_90 : decode cL_add 90 = .ok (.istore_n 2, 1) := by decide +kernel
theorem dL_add_91 : decode cL_add 91 = .ok (.iinc 4 1, 3) := by decide +kernel
theorem dL_add_94 : decode cL_add 94 = .ok (.goto (-80), 3) := by decide +kernel
theorem dL_add_97 : decode cL_add 97 = .ok (.aload_n 0, 1) := by decide +kernel
theorem dL_add_98 : decode cL_add 98 = .ok (.iconst 0, 1) := by decide +kernel
theorem dL_add_99 : decode cL_add 99 = .ok (.invokevirtual 24, 3) := by decide +kernel
theorem dL_add_102 : decode cL_add 102 = .ok (.iload_n 3, 1) := by decide +kernel
theorem dL_add_103 : decode cL_add 103 = .ok (.iadd, 1) := by decide +kernel
theorem dL_add_104 : decode cL_add 104 = .ok (.bipush 8, 2) := by decide +kernel
theorem dL_add_106 : decode cL_add 106 = .ok (.if_icmp .gt 8, 3) := by decide +kernel
theorem dL_add_109 : decode cL_add 109 = .ok (.aload_n 0, 1) := by decide +kernel
theorem dL_add_110 : decode cL_add 110 = .ok (.invokevirtual 27, 3) := by decide +kernel
theorem dL_add_113 : decode cL_add 113 = .ok (.istore_n 2, 1) := by decide +kernel
theorem dL_add_114 : decode cL_add 114 = .ok (.return_, 1) := by decide +kernel
set_option maxRecDepth 20000 in
theorem ggL_does_L_add : GoodIn wsL_does wsL_add := goodIn_ca (goodIn_ca (goodIn_r _ [4, 5, 6, 7, 8, 9, 10, 11, 12, 13, 14, 15, 16, 17, 18, 19, 3, 20, 21, 22, 23, 24, 25, 26, 27, 28, 29, 30, 31, 32, 33, 34, 35, 36, 37, 38, 39, 40, 41, 42, 43, 44, 45, 46, 47, 48, 49, 50, 51, 52, 53, 54, 55, 56, 57, 58, 59, 60, 61, 62, 63, 64, 65, 66, 67, 68, 69, 70, 71, 72, 73, 74, 75, 76, 77, 78, 79, 80, 81, 82, 83, 84, 85, 86, 87, 88, 89, 90, 91, 92, 93, 94, 95, 96, 97, 98, 99, 100, 101, 102, 103, 104, 105, 106, 107, 108, 109, 110, 111, 112, 113, 114, 115, 116, 117, 118, 119, 120, 121, 122, 123, 124, 125, 126, 127, 128, 129, 130, 131, 132, 133, 134, 135, 136, 137, 138, 139, 140, 141, 142, 143, 144, 145, 146, 147, 148, 149, 150, 151, 152, 153, 154, 155, 156, 157, 158, 159, 160, 161, 162, 163, 164, 165, 166, 167, 168, 169, 170, 171, 172, 173, 174, 175, 176, 177, 178, 179, 180, 181, 182, 183, 184, 185, 186, 290, 291, 292, 293, 294, 295, 296, 297, 298, 299, 300, 301, 302, 303, 304, 305, 306, 307, 308, 309, 310, 311, 312, 313, 314] (by decide +kernel) (by decide +kernel)) (goodIn_sub (fun _ h => List.mem_cons_of_mem _ (List.mem_append_left _ (List.mem_append_left _ (List.mem_append_right _ h)))) (by decide +kernel))) (goodIn_sub (fun _ h => List.mem_cons_of_mem _ (List.mem_append_left _ (List.mem_append_right _ h))) (by decide +kernel))
set_option maxRecDepth 20000 in
theorem gL_does_L_add : GoodIn wsL_does (va_wsS RL 30 yL_add wsL_add) := goodIn_app (goodIn_of _ (by decide +kernel)) ggL_does_L_add
set_option maxRecDepth 20000 in
theorem ggL_does_X5_pattern : GoodIn wsL_does wsX5_pattern := goodIn_ca (goodIn_ca (goodIn_r _ [190, 191, 192, 26, 27, 193, 194, 8, 195, 196, 197, 198, 199, 47, 200, 201, 45, 59, 60, 61, 62, 63, 64, 65, 66, 97, 78, 79, 80, 72, 73, 74, 75, 76, 77, 81, 82, 83, 84, 85, 86, 87, 88, 89, 90, 91, 92, 202, 203, 204, 205, 206, 207, 208, 209, 171, 172, 210, 211, 212, 213, 214, 215, 216, 217, 218, 219, 290, 291, 292, 293, 294, 302, 303, 304, 305, 306, 307, 308, 309, 310, 311, 297, 298, 299, 300, 301] (by decide +kernel) (by decide +kernel)) (goodIn_sub (fun _ h => List.mem_cons_of_mem _ (List.mem_append_right _ h)) (by decide +kernel))) (goodIn_sub (fun _ h => List.mem_cons_of_mem _ (List.mem_append_left _ (List.mem_append_left _ (List.mem_append_right _ h)))) (by decide +kernel))
set_option maxRecDepth 20000 in
theorem gL_does_X5_pattern : GoodIn wsL_does (wsV RL 33 RX5 yX5_pattern wsX5_pattern) := goodIn_app (goodIn_of _ (by decide +kernel)) ggL_does_X5_pattern
set_option maxRecDepth 20000 in
theorem ggL_does_X5_remove : GoodIn wsL_does wsX5_remove := goodIn_ca (goodIn_ca (goodIn_r _ [223, 191, 192, 28, 29, 53, 47, 200, 63, 45, 193, 194, 8, 195, 59, 60, 61, 62, 64, 65, 66, 132, 133, 134, 135, 136, 137, 138, 139, 140, 141, 142, 143, 144, 145, 146, 147, 148, 149, 150, 151, 152, 153, 154, 155, 156, 157, 158, 35, 36, 123, 224, 225, 226, 227, 159, 160, 161, 75, 162, 163, 164, 165, 166, 167, 168, 169, 77, 78, 79, 80, 170, 171, 172, 84, 173, 174, 175, 176, 92, 177, 86, 87, 178, 179, 180, 181, 182, 88, 89, 90, 91, 183, 184, 185, 186, 290, 291, 292, 293, 294, 302, 303, 304, 305, 306, 307, 308, 309, 310, 311, 312, 313, 314, 297, 298, 299, 300, 301] (by decide +kernel) (by decide +kernel)) (goodIn_sub (fun _ h => List.mem_cons_of_mem _ (List.mem_append_right _ h)) (by decide +kernel))) (goodIn_sub (fun _ h => List.mem_cons_of_mem _ (List.mem_append_left _ (List.mem_append_right _ h))) (by decide +kernel))
set_option maxRecDepth 20000 in
theorem gL_does_X5_remove : GoodIn wsL_does (wsV RL 36 RX5 yX5_remove wsX5_remove) := goodIn_app (goodIn_of _ (by decide +kernel)) ggL_does_X5_remove
set_option maxRecDepth 20000 in
theorem ggL_does_L_low : GoodIn wsL_does wsL_low := goodIn_r _ [20, 21] (by decide +kernel) (by decide +kernel)
set_option maxRecDepth 20000 in
theorem gL_does_L_low : GoodIn wsL_does (va_wsS RL 14 yL_low wsL_low) := goodIn_app (goodIn_of _ (by decide +kernel)) ggL_does_L_low
set_option maxRecDepth 20000 in
theorem ggL_does_X5_rule : GoodIn wsL_does wsX5_rule := goodIn_ca (goodIn_r _ [231, 26, 27, 53, 47, 232, 132, 133, 134, 135, 136, 137, 138, 139, 140, 141, 142, 143, 144, 145, 146, 147, 148, 149, 150, 151, 152, 153, 154, 155, 156, 157, 158, 65, 8, 66, 35, 36, 290, 291, 292, 293, 294, 302, 303, 304, 305, 306, 307, 308, 309, 310, 311, 312, 313, 314] (by decide +kernel) (by decide +kernel)) (goodIn_sub (fun _ h => List.mem_cons_of_mem _ (List.mem_append_left _ (List.mem_append_left _ (List.mem_append_right _ h)))) (by decide +kernel))
set_option maxRecDepth 20000 in
theorem gL_does_X5_rule : GoodIn wsL_does (wsV RL 39 RX5 yX5_rule wsX5_rule) := goodIn_app (goodIn_of _ (by decide +kernel)) ggL_does_X5_rule
set_option maxRecDepth 20000 in
theorem ggL_does_X5_begin : GoodIn wsL_does wsX5_begin := goodIn_r _ [236, 53, 47, 48, 132, 133, 134, 135, 136, 137, 138, 139, 140, 141, 142, 143, 144, 145, 146, 147, 148, 149, 150, 151, 152, 153, 154, 155, 156, 157, 158, 65, 8, 66, 35, 36, 237, 238, 239, 240, 241, 225, 226, 227, 290, 291, 292, 293, 294, 302, 303, 304, 305, 306, 307, 308, 309, 310, 311, 312, 313, 314] (by decide +kernel) (by decide +kernel)
set_option maxRecDepth 20000 in
theorem gL_does_X5_begin : GoodIn wsL_does (wsV RL 42 RX5 yX5_begin wsX5_begin) := goodIn_app (goodIn_of _ (by decide +kernel)) ggL_does_X5_begin
set_option maxRecDepth 20000 in
theorem ggL_does_X5_feed : GoodIn wsL_does wsX5_feed := goodIn_ca (goodIn_ca (goodIn_r _ [245, 26, 27, 28, 29, 47, 48, 53, 246, 247, 8, 248, 132, 133, 134, 135, 136, 137, 138, 139, 140, 141, 142, 143, 144, 145, 146, 147, 148, 149, 150, 151, 152, 153, 154, 155, 156, 157, 158, 65, 66, 35, 36, 249, 250, 251, 252, 45, 50, 71, 67, 68, 69, 70, 72, 73, 74, 75, 76, 77, 78, 79, 80, 81, 82, 83, 84, 85, 86, 87, 88, 89, 90, 91, 92, 253, 254, 255, 256, 257, 258, 232, 64, 59, 60, 61, 62, 63, 97, 259, 260, 261, 262, 182, 263, 264, 265, 266, 169, 267, 125, 126, 268, 269, 270, 271, 272, 273, 274, 275, 276, 277, 278, 279, 124, 280, 281, 282, 213, 214, 215, 283, 284, 285, 286, 287, 288, 289, 290, 291, 292, 293, 294, 302, 303, 304, 305, 306, 307, 308, 309, 310, 311, 312, 313, 314, 297, 298, 299, 300, 301] (by decide +kernel) (by decide +kernel)) (goodIn_sub (fun _ h => List.mem_cons_of_mem _ (List.mem_append_left _ (List.mem_append_left _ (List.mem_append_right _ h)))) (by decide +kernel))) (goodIn_sub (fun _ h => List.mem_cons_of_mem _ (List.mem_append_left _ (List.mem_append_right _ h))) (by decide +kernel))
set_option maxRecDepth 20000 in
theorem gL_does_X5_feed : GoodIn wsL_does (wsV RL 45 RX5 yX5_feed wsX5_feed) := goodIn_app (goodIn_of _ (by decide +kernel)) ggL_does_X5_feed
theorem dL_does_0 : decode cL_does 0 = .ok (.iconst 0, 1) := by decide +kernel
theorem dL_does_1 : decode cL_does 1 = .ok (.istore_n 2, 1) := by decide +kernel
theorem dL_does_2 : decode cL_does 2 = .ok (.iload_n 1, 1) := by decide +kernel
theorem dL_does_3 : decode cL_does 3 = .ok (.bipush 15, 2) := by decide +kernel
theorem dL_does_5 : decode cL_does 5 = .ok (.iand, 1) := by decide +kernel
theorem dL_does_6 : decode cL_does 6 = .ok (.tableswitch 118 0 4 #[34, 34, 44, 82, 97], 34) := by decide +kernel
theorem dL_does_40 : decode cL_does 40 = .ok (.aload_n 0, 1) := by decide +kernel
theorem dL_does_41 : decode cL_does 41 = .ok (.iload_n 1, 1) := by decide +kernel
theorem dL_does_42 : decode cL_does 42 = .ok (.iconst 4, 1) := by decide +kernel
theorem dL_does_43 : decode cL_does 43 = .ok (.ishr, 1) := by decide +kernel
theorem dL_does_44 : decode cL_does 44 = .ok (.invokestatic 30, 3) := by decide +kernel
theorem dL_does_47 : decode cL_does 47 = .ok (.goto 89, 3) := by decide +kernel
theorem dL_does_50 : decode cL_does 50 = .ok (.iload_n 1, 1) := by decide +kernel
theorem dL_does_51 : decode cL_does 51 = .ok (.iconst 4, 1) := by decide +kernel
theorem dL_does_52 : decode cL_does 52 = .ok (.ishr, 1) := by decide +kernel
theorem dL_does_53 : decode cL_does 53 = .ok (.bipush 7, 2) := by decide +kernel
theorem dL_does_55 : decode cL_does 55 = .ok (.iand, 1) := by decide +kernel
theorem dL_does_56 : decode cL_does 56 = .ok (.istore_n 3, 1) := by decide +kernel
theorem dL_does_57 : decode cL_does 57 = .ok (.iload_n 1, 1) := by decide +kernel
theorem dL_does_58 : decode cL_does 58 = .ok (.bipush 7, 2) := by decide +kernel
theorem dL_does_60 : decode cL_does 60 = .ok (.ishr, 1) := by decide +kernel
theorem dL_does_61 : decode cL_does 61 = .ok (.iconst 1, 1) := by decide +kernel
theorem dL_does_62 : decode cL_does 62 = .ok (.iand, 1) := by decide +kernel
theorem dL_does_63 : decode cL_does 63 = .ok (.ifCond .ne 20, 3) := by decide +kernel
theorem dL_does_66 : decode cL_does 66 = .ok (.aload_n 0, 1) := by decide +kernel
theorem dL_does_67 : decode cL_does 67 = .ok (.iload_n 3, 1) := by decide +kernel
theorem dL_does_68 : decode cL_does 68 = .ok (.iconst 0, 1) := by decide +kernel
theorem dL_does_69 : decode cL_does 69 = .ok (.invokevirtual 33, 3) := by decide +kernel
theorem dL_does_72 : decode cL_does 72 = .ok (.ifCond .le 11, 3) := by decide +kernel
theorem dL_does_75 : decode cL_does 75 = .ok (.aload_n 0, 1) := by decide +kernel
theorem dL_does_76 : decode cL_does 76 = .ok (.iload_n 3, 1) := by decide +kernel
theorem dL_does_77 : decode cL_does 77 = .ok (.invokevirtual 36, 3) := by decide +kernel
theorem dL_does_80 : decode cL_does 80 = .ok (.goto 4, 3) := by decide +kernel
theorem dL_does_83 : decode cL_does 83 = .ok (.iconst 0, 1) := by decide +kernel
theorem dL_does_84 : decode cL_does 84 = .ok (.istore_n 2, 1) := by decide +kernel
theorem dL_does_85 : decode cL_does 85 = .ok (.goto 51, 3) := by decide +kernel
theorem dL_does_88 : decode cL_does 88 = .ok (.aload_n 0, 1) := by decide +kernel
theorem dL_does_89 : decode cL_does 89 = .ok (.iload_n 1, 1) := by decide +kernel
theorem dL_does_90 : decode cL_does 90 = .ok (.iconst 4, 1) := by decide +kernel
theorem dL_does_91 : decode cL_does 91 = .ok (.ishr, 1) := by decide +kernel
theorem dL_does_92 : decode cL_does 92 = .ok (.iconst 3, 1) := by decide +kernel
theorem dL_does_93 : decode cL_does 93 = .ok (.invokestatic 14, 3) := by decide +kernel
theorem dL_does_96 : decode cL_does 96 = .ok (.invokevirtual 39, 3) := by decide +kernel
theorem dL_does_99 : decode cL_does 99 = .ok (.istore_n 2, 1) := by decide +kernel
theorem dL_does_100 : decode cL_does 100 = .ok (.goto 36, 3) := by decide +kernel
theorem dL_does_103 : decode cL_does 103 = .ok (.iload_n 1, 1) := by decide +kernel
theorem dL_does_104 : decode cL_does 104 = .ok (.iconst 4, 1) := by decide +kernel
theorem dL_does_105 : decode cL_does 105 = .ok (.ishr, 1) := by decide +kernel
theorem dL_does_106 : decode cL_does 106 = .ok (.bipush 7, 2) := by decide +kernel
theorem dL_does_108 : decode cL_does 108 = .ok (.iand, 1) := by decide +kernel
theorem dL_does_109 : decode cL_does 109 = .ok (.ifCond .ne 10, 3) := by decide +kernel
theorem dL_does_112 : decode cL_does 112 = .ok (.aload_n 0, 1) := by decide +kernel
theorem dL_does_113 : decode cL_does 113 = .ok (.invokevirtual 42, 3) := by decide +kernel
theorem dL_does_116 : decode cL_does 116 = .ok (.goto 4, 3) := by decide +kernel
theorem dL_does_119 : decode cL_does 119 = .ok (.iconst 0, 1) := by decide +kernel
theorem dL_does_120 : decode cL_does 120 = .ok (.istore_n 2, 1) := by decide +kernel
theorem dL_does_121 : decode cL_does 121 = .ok (.goto 15, 3) := by decide +kernel
theorem dL_does_124 : decode cL_does 124 = .ok (.aload_n 0, 1) := by decide +kernel
theorem dL_does_125 : decode cL_does 125 = .ok (.iload_n 1, 1) := by decide +kernel
theorem dL_does_126 : decode cL_does 126 = .ok (.iconst 4, 1) := by decide +kernel
theorem dL_does_127 : decode cL_does 127 = .ok (.ishr, 1) := by decide +kernel
theorem dL_does_128 : decode cL_does 128 = .ok (.iconst 3, 1) := by decide +kernel
theorem dL_does_129 : decode cL_does 129 = .ok (.invokestatic 14, 3) := by decide +kernel
theorem dL_does_132 : decode cL_does 132 = .ok (.invokevirtual 45, 3) := by decide +kernel
theorem dL_does_135 : decode cL_does 135 = .ok (.istore_n 2, 1) := by decide +kernel
theorem dL_does_136 : decode cL_does 136 = .ok (.return_, 1) := by decide +kernel
set_option maxRecDepth 20000 in
theorem ggL_areStatesSo_X5_count : GoodIn wsL_areStatesSo wsX5_count := goodIn_ca (goodIn_r _ [5, 6, 7, 8, 9, 10, 4, 11, 12, 13, 14, 15, 16, 17, 18, 19, 20, 21, 22, 23, 24, 25, 26, 27, 28, 29, 30, 31, 32, 33, 34, 35, 36, 37, 38, 39, 40, 41, 42, 43, 44, 45, 46, 47, 48, 49, 50, 51, 52, 53, 54, 55, 56, 57, 58, 59, 60, 61, 62, 63, 64, 125, 126, 127, 128, 129, 130, 131, 132, 133, 134, 135, 136, 137, 138, 139, 140, 141, 142, 143, 144, 145, 146, 147] (by decide +kernel) (by decide +kernel)) (goodIn_sub (fun _ h => List.mem_cons_of_mem _ (List.mem_append_left _ (List.mem_append_right _ h))) (by decide +kernel))
set_option maxRecDepth 20000 in
theorem gL_areStatesSo_X5_count : GoodIn wsL_areStatesSo (wsV RL 24 RX5 yX5_count wsX5_count) := goodIn_app (goodIn_of _ (by decide +kernel)) ggL_areStatesSo_X5_count
set_option maxRecDepth 20000 in
theorem ggL_areStatesSo_X5_state : GoodIn wsL_areStatesSo wsX5_state := goodIn_ca (goodIn_ca (goodIn_r _ [68, 69, 70, 6, 7, 12, 13, 71, 72, 73, 4, 74, 75, 76, 77, 31, 32, 33, 64, 45, 46, 47, 78, 53, 54, 79, 80, 81, 82, 26, 27, 28, 29, 14, 30, 83, 84, 85, 51, 86, 56, 57, 42, 58, 59, 125, 126, 127, 128, 129, 130, 131, 132, 133, 134, 135, 136, 137, 138, 139, 140, 141, 142, 143, 144] (by decide +kernel) (by decide +kernel)) (goodIn_sub (fun _ h => List.mem_cons_of_mem _ (List.mem_append_right _ h)) (by decide +kernel))) (goodIn_sub (fun _ h => List.mem_cons_of_mem _ (List.mem_append_left _ (List.mem_append_right _ h))) (by decide +kernel))
set_option maxRecDepth 20000 in
theorem gL_areStatesSo_X5_state : GoodIn wsL_areStatesSo (wsV RL 48 RX5 yX5_state wsX5_state) := goodIn_app (goodIn_of _ (by decide +kernel)) ggL_areStatesSo_X5_state
set_option maxRecDepth 20000 in
theorem ggL_areStatesSo_X5_pattern : GoodIn wsL_areStatesSo wsX5_pattern := goodIn_ca (goodIn_ca (goodIn_r _ [90, 69, 70, 6, 7, 91, 92, 4, 93, 94, 95, 96, 97, 14, 98, 99, 12, 26, 27, 28, 29, 30, 31, 32, 33, 64, 45, 46, 47, 39, 40, 41, 42, 43, 44, 48, 49, 50, 51, 52, 53, 54, 55, 56, 57, 58, 59, 100, 101, 102, 103, 104, 105, 106, 107, 108, 109, 110, 111, 112, 113, 114, 115, 116, 117, 118, 119, 125, 126, 127, 128, 129, 135, 136, 137, 138, 139, 140, 141, 142, 143, 144, 130, 131, 132, 133, 134] (by decide +kernel) (by decide +kernel)) (goodIn_sub (fun _ h => List.mem_cons_of_mem _ (List.mem_append_right _ h)) (by decide +kernel))) (goodIn_sub (fun _ h => List.mem_cons_of_mem _ (List.mem_append_left _ (List.mem_append_right _ h))) (by decide +kernel))
set_option maxRecDepth 20000 in
theorem gL_areStatesSo_X5_pattern : GoodIn wsL_areStatesSo (wsV RL 33 RX5 yX5_pattern wsX5_pattern) := goodIn_app (goodIn_of _ (by decide +kernel)) ggL_areStatesSo_X5_pattern
set_option maxRecDepth 20000 in
theorem ggL_areStatesSo_X5_letter : GoodIn wsL_areStatesSo wsX5_letter := goodIn_ca (goodIn_ca (goodIn_r _ [123, 69, 70, 6, 7, 91, 92, 4, 93, 26, 27, 28, 29, 14, 30, 31, 32, 33, 124, 49, 46, 50, 51, 45, 47, 52, 53, 54, 125, 126, 127, 128, 129, 135, 136, 137, 138, 139, 140, 141, 142, 143, 144] (by decide +kernel) (by decide +kernel)) (goodIn_sub (fun _ h => List.mem_cons_of_mem _ (List.mem_append_right _ h)) (by decide +kernel))) (goodIn_sub (fun _ h => List.mem_cons_of_mem _ (List.mem_append_left _ (List.mem_append_right _ h))) (by decide +kernel))
set_option maxRecDepth 20000 in
theorem gL_areStatesSo_X5_letter : GoodIn wsL_areStatesSo (wsV RL 51 RX5 yX5_letter wsX5_letter) := goodIn_app (goodIn_of _ (by decide +kernel)) ggL_areStatesSo_X5_letter
theorem dL_areStatesSo_0 : decode cL_areStatesSo 0 = .ok (.aload_n 0, 1) := by decide +kernel
theorem dL_areStatesSo_1 : decode cL_areStatesSo 1 = .ok (.iconst 1, 1) := by decide +kernel
theorem dL_areStatesSo_2 : decode cL_areStatesSo 2 = .ok (.invokevirtual 24, 3) := by decide +kernel
theorem dL_areStatesSo_5 : decode cL_areStatesSo 5 = .ok (.istore_n 1, 1) := by decide +kernel
theorem dL_areStatesSo_6 : decode cL_areStatesSo 6 = .ok (.iload_n 1, 1) := by decide +kernel
theorem dL_areStatesSo_7 : decode cL_areStatesSo 7 = .ok (.aload_n 0, 1) := by decide +kernel
theorem dL_areStatesSo_8 : decode cL_areStatesSo 8 = .ok (.bipush 8, 2) := by decide +kernel
theorem dL_areStatesSo_10 : decode cL_areStatesSo 10 = .ok (.invokevirtual 24, 3) := by decide +kernel
theorem dL_areStatesSo_13 : decode cL_areStatesSo 13 = .ok (.iconst 1, 1) := by decide +kernel
theorem dL_areStatesSo_14 : decode cL_areStatesSo 14 = .ok (.iadd, 1) := by decide +kernel
theorem dL_areStatesSo_15 : decode cL_areStatesSo 15 = .ok (.if_icmp .gt 49, 3) := by decide +kernel
theorem dL_areStatesSo_18 : decode cL_areStatesSo 18 = .ok (.aload_n 0, 1) := by decide +kernel
theorem dL_areStatesSo_19 : decode cL_areStatesSo 19 = .ok (.iconst 0, 1) := by decide +kernel
theorem dL_areStatesSo_20 : decode cL_areStatesSo 20 = .ok (.iconst 4, 1) := by decide +kernel
theorem dL_areStatesSo_21 : decode cL_areStatesSo 21 = .ok (.invokevirtual 48, 3) := by decide +kernel
theorem dL_areStatesSo_24 : decode cL_areStatesSo 24 = .ok (.aload_n 0, 1) := by decide +kernel
theorem dL_areStatesSo_25 : decode cL_areStatesSo 25 = .ok (.iconst 0, 1) := by decide +kernel
theorem dL_areStatesSo_26 : decode cL_areStatesSo 26 = .ok (.invokevirtual 24, 3) := by decide +kernel
theorem dL_areStatesSo_29 : decode cL_areStatesSo 29 = .ok (.if_icmp .ne 35, 3) := by decide +kernel
theorem dL_areStatesSo_32 : decode cL_areStatesSo 32 = .ok (.aload_n 0, 1) := by decide +kernel
theorem dL_areStatesSo_33 : decode cL_areStatesSo 33 = .ok (.iconst 0, 1) := by decide +kernel
theorem dL_areStatesSo_34 : decode cL_areStatesSo 34 = .ok (.iconst 2, 1) := by decide +kernel
theorem dL_areStatesSo_35 : decode cL_areStatesSo 35 = .ok (.invokevirtual 48, 3) := by decide +kernel
theorem dL_areStatesSo_38 : decode cL_areStatesSo 38 = .ok (.iconst (-1), 1) := by decide +kernel
theorem dL_areStatesSo_39 : decode cL_areStatesSo 39 = .ok (.if_icmp .ne 25, 3) := by decide +kernel
theorem dL_areStatesSo_42 : decode cL_areStatesSo 42 = .ok (.aload_n 0, 1) := by decide +kernel
theorem dL_areStatesSo_43 : decode cL_areStatesSo 43 = .ok (.iconst 0, 1) := by decide +kernel
theorem dL_areStatesSo_44 : decode cL_areStatesSo 44 = .ok (.iconst 0, 1) := by decide +kernel
theorem dL_areStatesSo_45 : decode cL_areStatesSo 45 = .ok (.invokevirtual 48, 3) := by decide +kernel
theorem dL_areStatesSo_48 : decode cL_areStatesSo 48 = .ok (.ifCond .ne 16, 3) := by decide +kernel
theorem dL_areStatesSo_51 : decode cL_areStatesSo 51 = .ok (.aload_n 0, 1) := by decide +kernel
theorem dL_areStatesSo_52 : decode cL_areStatesSo 52 = .ok (.iconst 2, 1) := by decide +kernel
theorem dL_areStatesSo_53 : decode cL_areStatesSo 53 = .ok (.invokevirtual 24, 3) := by decide +kernel
theorem dL_areStatesSo_56 : decode cL_areStatesSo 56 = .ok (.iload_n 1, 1) := by decide +kernel
theorem dL_areStatesSo_57 : decode cL_areStatesSo 57 = .ok (.if_icmp .ge 7, 3) := by decide +kernel
theorem dL_areStatesSo_60 : decode cL_areStatesSo 60 = .ok (.iconst 1, 1) := by decide +kernel
theorem dL_areStatesSo_61 : decode cL_areStatesSo 61 = .ok (.goto 4, 3) := by decide +kernel
theorem dL_areStatesSo_64 : decode cL_areStatesSo 64 = .ok (.iconst 0, 1) := by decide +kernel
theorem dL_areStatesSo_65 : decode cL_areStatesSo 65 = .ok (.istore_n 2, 1) := by decide +kernel
theorem dL_areStatesSo_66 : decode cL_areStatesSo 66 = .ok (.iconst 1, 1) := by decide +kernel
theorem dL_areStatesSo_67 : decode cL_areStatesSo 67 = .ok (.istore_n 3, 1) := by decide +kernel
theorem dL_areStatesSo_68 : decode cL_areStatesSo 68 = .ok (.iload_n 3, 1) := by decide +kernel
theorem dL_areStatesSo_69 : decode cL_areStatesSo 69 = .ok (.iload_n 1, 1) := by decide +kernel
theorem dL_areStatesSo_70 : decode cL_areStatesSo 70 = .ok (.if_icmp .ge 225, 3) := by decide +kernel
theorem dL_areStatesSo_73 : decode cL_areStatesSo 73 = .ok (.aload_n 0, 1) := by decide +kernel
theorem dL_areStatesSo_74 : decode cL_areStatesSo 74 = .ok (.iload_n 3, 1) := by decide +kernel
theorem dL_areStatesSo_75 : decode cL_areStatesSo 75 = .ok (.iconst 0, 1) := by decide +kernel
theorem dL_areStatesSo_76 : decode cL_areStatesSo 76 = .ok (.invokevirtual 48, 3) := by decide +kernel
theorem dL_areStatesSo_79 : decode cL_areStatesSo 79 = .ok (.istore 4, 2) := by decide +kernel
theorem dL_areStatesSo_81 : decode cL_areStatesSo 81 = .ok (.aload_n 0, 1) := by decide +kernel
theorem dL_areStatesSo_82 : decode cL_areStatesSo 82 = .ok (.iload_n 3, 1) := by decide +kernel
theorem dL_areStatesSo_83 : decode cL_areStatesSo 83 = .ok (.iconst 2, 1) := by decide +kernel
theorem dL_areStatesSo_84 : decode cL_areStatesSo 84 = .ok (.invokevirtual 48, 3) := by decide +kernel
theorem dL_areStatesSo_87 : decode cL_areStatesSo 87 = .ok (.istore 5, 2) := by decide +kernel
theorem dL_areStatesSo_89 : decode cL_areStatesSo 89 = .ok (.iload_n 2, 1) := by decide +kernel
theorem dL_areStatesSo_90 : decode cL_areStatesSo 90 = .ok (.ifCond .eq 66, 3) := by decide +kernel
theorem dL_areStatesSo_93 : decode cL_areStatesSo 93 = .ok (.iload 4, 2) := by decide +kernel
theorem dL_areStatesSo_95 : decode cL_areStatesSo 95 = .ok (.aload_n 0, 1) := by decide +kernel
theorem dL_areStatesSo_96 : decode cL_areStatesSo 96 = .ok (.iload_n 3, 1) := by decide +kernel
theorem dL_areStatesSo_97 : decode cL_areStatesSo 97 = .ok (.iconst 1, 1) := by decide +kernel
theorem dL_areStatesSo_98 : decode cL_areStatesSo 98 = .ok (.isub, 1) := by decide +kernel
theorem dL_areStatesSo_99 : decode cL_areStatesSo 99 = .ok (.iconst 0, 1) := by decide +kernel
theorem dL_areStatesSo_100 : decode cL_areStatesSo 100 = .ok (.invokevirtual 48, 3) := by decide +kernel
theorem dL_areStatesSo_103 : decode cL_areStatesSo 103 = .ok (.if_icmp .lt 53, 3) := by decide +kernel
theorem dL_areStatesSo_106 : decode cL_areStatesSo 106 = .ok (.iload 5, 2) := by decide +kernel
theorem dL_areStatesSo_108 : decode cL_areStatesSo 108 = .ok (.iload_n 3, 1) := by decide +kernel
theorem dL_areStatesSo_109 : decode cL_areStatesSo 109 = .ok (.if_icmp .ge 47, 3) := by decide +kernel
theorem dL_areStatesSo_112 : decode cL_areStatesSo 112 = .ok (.aload_n 0, 1) := by decide +kernel
theorem dL_areStatesSo_113 : decode cL_areStatesSo 113 = .ok (.iload 5, 2) := by decide +kernel
theorem dL_areStatesSo_115 : decode cL_areStatesSo 115 = .ok (.iconst 0, 1) := by decide +kernel
theorem dL_areStatesSo_116 : decode cL_areStatesSo 116 = .ok (.invokevirtual 48, 3) := by decide +kernel
theorem dL_areStatesSo_119 : decode cL_areStatesSo 119 = .ok (.iload 4, 2) := by decide +kernel
theorem dL_areStatesSo_121 : decode cL_areStatesSo 121 = .ok (.if_icmp .ge 35, 3) := by decide +kernel
theorem dL_areStatesSo_124 : decode cL_areStatesSo 124 = .ok (.aload_n 0, 1) := by decide +kernel
theorem dL_areStatesSo_125 : decode cL_areStatesSo 125 = .ok (.iload_n 3, 1) := by decide +kernel
theorem dL_areStatesSo_126 : decode cL_areStatesSo 126 = .ok (.iconst 4, 1) := by decide +kernel
theorem dL_areStatesSo_127 : decode cL_areStatesSo 127 = .ok (.invokevirtual 48, 3) := by decide +kernel
theorem dL_areStatesSo_130 : decode cL_areStatesSo 130 = .ok (.ifCond .le 26, 3) := by decide +kernel
theorem dL_areStatesSo_133 : decode cL_areStatesSo 133 = .ok (.aload_n 0, 1) := by decide +kernel
theorem dL_areStatesSo_134 : decode cL_areStatesSo 134 = .ok (.iload 5, 2) := by decide +kernel
theorem dL_areStatesSo_136 : decode cL_areStatesSo 136 = .ok (.iconst 3, 1) := by decide +kernel
theorem dL_areStatesSo_137 : decode cL_areStatesSo 137 = .ok (.invokevirtual 48, 3) := by decide +kernel
theorem dL_areStatesSo_140 : decode cL_areStatesSo 140 = .ok (.aload_n 0, 1) := by decide +kernel
theorem dL_areStatesSo_141 : decode cL_areStatesSo 141 = .ok (.iload_n 3, 1) := by decide +kernel
theorem dL_areStatesSo_142 : decode cL_areStatesSo 142 = .ok (.iconst 3, 1) := by decide +kernel
theorem dL_areStatesSo_143 : decode cL_areStatesSo 143 = .ok (.invokevirtual 48, 3) := by decide +kernel
theorem dL_areStatesSo_146 : decode cL_areStatesSo 146 = .ok (.iconst (-1), 1) := by decide +kernel
theorem dL_areStatesSo_147 : decode cL_areStatesSo 147 = .ok (.ixor, 1) := by decide +kernel
theorem dL_areStatesSo_148 : decode cL_areStatesSo 148 = .ok (.iand, 1) := by decide +kernel
theorem dL_areStatesSo_149 : decode cL_areStatesSo 149 = .ok (.ifCond .ne 7, 3) := by decide +kernel
theorem dL_areStatesSo_152 : decode cL_areStatesSo 152 = .ok (.iconst 1, 1) := by decide +kernel
theorem dL_areStatesSo_153 : decode cL_areStatesSo 153 = .ok (.goto 4, 3) := by decide +kernel
theorem dL_areStatesSo_156 : decode cL_areStatesSo 156 = .ok (.iconst 0, 1) := by decide +kernel
theorem dL_areStatesSo_157 : decode cL_areStatesSo 157 = .ok (.istore_n 2, 1) := by decide +kernel
theorem dL_areStatesSo_158 : decode cL_areStatesSo 158 = .ok (.iload_n 2, 1) := by decide +kernel
theorem dL_areStatesSo_159 : decode cL_areStatesSo 159 = .ok (.ifCond .eq 28, 3) := by decide +kernel
theorem dL_areStatesSo_162 : decode cL_areStatesSo 162 = .ok (.iload 5, 2) := by decide +kernel
theorem dL_areStatesSo_164 : decode cL_areStatesSo 164 = .ok (.ifCond .eq 19, 3) := by decide +kernel
theorem dL_areStatesSo_167 : decode cL_areStatesSo 167 = .ok (.aload_n 0, 1) := by decide +kernel
theorem dL_areStatesSo_168 : decode cL_areStatesSo 168 = .ok (.iload 5, 2) := by decide +kernel
theorem dL_areStatesSo_170 : decode cL_areStatesSo 170 = .ok (.iconst 1, 1) := by decide +kernel
theorem dL_areStatesSo_171 : decode cL_areStatesSo 171 = .ok (.invokevirtual 48, 3) := by decide +kernel
theorem dL_areStatesSo_174 : decode cL_areStatesSo 174 = .ok (.aload_n 0, 1) := by decide +kernel
theorem dL_areStatesSo_175 : decode cL_areStatesSo 175 = .ok (.iload_n 3, 1) := by decide +kernel
theorem dL_areStatesSo_176 : decode cL_areStatesSo 176 = .ok (.iconst 1, 1) := by decide +kernel
theorem dL_areStatesSo_177 : decode cL_areStatesSo 177 = .ok (.invokevirtual 48, 3) := by decide +kernel
theorem dL_areStatesSo_180 : decode cL_areStatesSo 180 = .ok (.if_icmp .ne 7, 3) := by decide +kernel
theorem dL_areStatesSo_183 : decode cL_areStatesSo 183 = .ok (.iconst 1, 1) := by decide +kernel
theorem dL_areStatesSo_184 : decode cL_areStatesSo 184 = .ok (.goto 4, 3) := by decide +kernel
theorem dL_areStatesSo_187 : decode cL_areStatesSo 187 = .ok (.iconst 0, 1) := by decide +kernel
theorem dL_areStatesSo_188 : decode cL_areStatesSo 188 = .ok (.istore_n 2, 1) := by decide +kernel
theorem dL_areStatesSo_189 : decode cL_areStatesSo 189 = .ok (.iconst 0, 1) := by decide +kernel
theorem dL_areStatesSo_190 : decode cL_areStatesSo 190 = .ok (.istore 6, 2) := by decide +kernel
theorem dL_areStatesSo_192 : decode cL_areStatesSo 192 = .ok (.iload 6, 2) := by decide +kernel
theorem dL_areStatesSo_194 : decode cL_areStatesSo 194 = .ok (.iconst 4, 1) := by decide +kernel
theorem dL_areStatesSo_195 : decode cL_areStatesSo 195 = .ok (.if_icmp .ge 94, 3) := by decide +kernel
theorem dL_areStatesSo_198 : decode cL_areStatesSo 198 = .ok (.aload_n 0, 1) := by decide +kernel
theorem dL_areStatesSo_199 : decode cL_areStatesSo 199 = .ok (.iload_n 3, 1) := by decide +kernel
theorem dL_areStatesSo_200 : decode cL_areStatesSo 200 = .ok (.iconst 5, 1) := by decide +kernel
theorem dL_areStatesSo_201 : decode cL_areStatesSo 201 = .ok (.iload 6, 2) := by decide +kernel
theorem dL_areStatesSo_203 : decode cL_areStatesSo 203 = .ok (.iadd, 1) := by decide +kernel
theorem dL_areStatesSo_204 : decode cL_areStatesSo 204 = .ok (.invokevirtual 48, 3) := by decide +kernel
theorem dL_areStatesSo_207 : decode cL_areStatesSo 207 = .ok (.istore 7, 2) := by decide +kernel
theorem dL_areStatesSo_209 : decode cL_areStatesSo 209 = .ok (.aload_n 0, 1) := by decide +kernel
theorem dL_areStatesSo_210 : decode cL_areStatesSo 210 = .ok (.iload 5, 2) := by decide +kernel
theorem dL_areStatesSo_212 : decode cL_areStatesSo 212 = .ok (.iconst 5, 1) := by decide +kernel
theorem dL_areStatesSo_213 : decode cL_areStatesSo 213 = .ok (.iload 6, 2) := by decide +kernel
theorem dL_areStatesSo_215 : decode cL_areStatesSo 215 = .ok (.iadd, 1) := by decide +kernel
theorem dL_areStatesSo_216 : decode cL_areStatesSo 216 = .ok (.invokevirtual 48, 3) := by decide +kernel
theorem dL_areStatesSo_219 : decode cL_areStatesSo 219 = .ok (.istore 8, 2) := by decide +kernel
theorem dL_areStatesSo_221 : decode cL_areStatesSo 221 = .ok (.iload_n 2, 1) := by decide +kernel
theorem dL_areStatesSo_222 : decode cL_areStatesSo 222 = .ok (.ifCond .eq 59, 3) := by decide +kernel
theorem dL_areStatesSo_225 : decode cL_areStatesSo 225 = .ok (.aload_n 0, 1) := by decide +kernel
theorem dL_areStatesSo_226 : decode cL_areStatesSo 226 = .ok (.iload 7, 2) := by decide +kernel
theorem dL_areStatesSo_228 : decode cL_areStatesSo 228 = .ok (.iconst 0, 1) := by decide +kernel
theorem dL_areStatesSo_229 : decode cL_areStatesSo 229 = .ok (.invokevirtual 48, 3) := by decide +kernel
theorem dL_areStatesSo_232 : decode cL_areStatesSo 232 = .ok (.iload 4, 2) := by decide +kernel
theorem dL_areStatesSo_234 : decode cL_areStatesSo 234 = .ok (.iconst 1, 1) := by decide +kernel
theorem dL_areStatesSo_235 : decode cL_areStatesSo 235 = .ok (.iadd, 1) := by decide +kernel
theorem dL_areStatesSo_236 : decode cL_areStatesSo 236 = .ok (.if_icmp .gt 45, 3) := by decide +kernel
theorem dL_areStatesSo_239 : decode cL_areStatesSo 239 = .ok (.iload 7, 2) := by decide +kernel
theorem dL_areStatesSo_241 : decode cL_areStatesSo 241 = .ok (.ifCond .eq 15, 3) := by decide +kernel
theorem dL_areStatesSo_244 : decode cL_areStatesSo 244 = .ok (.aload_n 0, 1) := by decide +kernel
theorem dL_areStatesSo_245 : decode cL_areStatesSo 245 = .ok (.iload 7, 2) := by decide +kernel
theorem dL_areStatesSo_247 : decode cL_areStatesSo 247 = .ok (.iconst 1, 1) := by decide +kernel
theorem dL_areStatesSo_248 : decode cL_areStatesSo 248 = .ok (.invokevirtual 48, 3) := by decide +kernel
theorem dL_areStatesSo_251 : decode cL_areStatesSo 251 = .ok (.iload 6, 2) := by decide +kernel
theorem dL_areStatesSo_253 : decode cL_areStatesSo 253 = .ok (.if_icmp .ne 28, 3) := by decide +kernel
theorem dL_areStatesSo_256 : decode cL_areStatesSo 256 = .ok (.aload_n 0, 1) := by decide +kernel
theorem dL_areStatesSo_257 : decode cL_areStatesSo 257 = .ok (.iload 7, 2) := by decide +kernel
theorem dL_areStatesSo_259 : decode cL_areStatesSo 259 = .ok (.iconst 0, 1) := by decide +kernel
theorem dL_areStatesSo_260 : decode cL_areStatesSo 260 = .ok (.invokevirtual 48, 3) := by decide +kernel
theorem dL_areStatesSo_263 : decode cL_areStatesSo 263 = .ok (.iload 4, 2) := by decide +kernel
theorem dL_areStatesSo_265 : decode cL_areStatesSo 265 = .ok (.iconst 1, 1) := by decide +kernel
theorem dL_areStatesSo_266 : decode cL_areStatesSo 266 = .ok (.iadd, 1) := by decide +kernel
theorem dL_areStatesSo_267 : decode cL_areStatesSo 267 = .ok (.if_icmp .eq 10, 3) := by decide +kernel
theorem dL_areStatesSo_270 : decode cL_areStatesSo 270 = .ok (.iload 7, 2) := by decide +kernel
theorem dL_areStatesSo_272 : decode cL_areStatesSo 272 = .ok (.iload 8, 2) := by decide +kernel
theorem dL_areStatesSo_274 : decode cL_areStatesSo 274 = .ok (.if_icmp .ne 7, 3) := by decide +kernel
theorem dL_areStatesSo_277 : decode cL_areStatesSo 277 = .ok (.iconst 1, 1) := by decide +kernel
theorem dL_areStatesSo_278 : decode cL_areStatesSo 278 = .ok (.goto 4, 3) := by decide +kernel
theorem dL_areStatesSo_281 : decode cL_areStatesSo 281 = .ok (.iconst 0, 1) := by decide +kernel
theorem dL_areStatesSo_282 : decode cL_areStatesSo 282 = .ok (.istore_n 2, 1) := by decide +kernel
theorem dL_areStatesSo_283 : decode cL_areStatesSo 283 = .ok (.iinc 6 1, 3) := by decide +kernel
theorem dL_areStatesSo_286 : decode cL_areStatesSo 286 = .ok (.goto (-94), 3) := by decide +kernel
theorem dL_areStatesSo_289 : decode cL_areStatesSo 289 = .ok (.iinc 3 1, 3) := by decide +kernel
theorem dL_areStatesSo_292 : decode cL_areStatesSo 292 = .ok (.goto (-224), 3) := by decide +kernel
theorem dL_areStatesSo_295 : decode cL_areStatesSo 295 = .ok (.iconst 0, 1) := by decide +kernel
theorem dL_areStatesSo_296 : decode cL_areStatesSo 296 = .ok (.istore_n 3, 1) := by decide +kernel
theorem dL_areStatesSo_297 : decode cL_areStatesSo 297 = .ok (.iload_n 3, 1) := by decide +kernel
theorem dL_areStatesSo_298 : decode cL_areStatesSo 298 = .ok (.bipush 8, 2) := by decide +kernel
theorem dL_areStatesSo_300 : decode cL_areStatesSo 300 = .ok (.if_icmp .ge 149, 3) := by decide +kernel
theorem dL_areStatesSo_303 : decode cL_areStatesSo 303 = .ok (.aload_n 0, 1) := by decide +kernel
theorem dL_areStatesSo_304 : decode cL_areStatesSo 304 = .ok (.iload_n 3, 1) := by decide +kernel
theorem dL_areStatesSo_305 : decode cL_areStatesSo 305 = .ok (.iconst 3, 1) := by decide +kernel
theorem dL_areStatesSo_306 : decode cL_areStatesSo 306 = .ok (.invokevirtual 33, 3) := by decide +kernel
theorem dL_areStatesSo_309 : decode cL_areStatesSo 309 = .ok (.istore 4, 2) := by decide +kernel
theorem dL_areStatesSo_311 : decode cL_areStatesSo 311 = .ok (.aload_n 0, 1) := by decide +kernel
theorem dL_areStatesSo_312 : decode cL_areStatesSo 312 = .ok (.iload_n 3, 1) := by decide +kernel
theorem dL_areStatesSo_313 : decode cL_areStatesSo 313 = .ok (.iconst 0, 1) := by decide +kernel
theorem dL_areStatesSo_314 : decode cL_areStatesSo 314 = .ok (.invokevirtual 33, 3) := by decide +kernel
theorem dL_areStatesSo_317 : decode cL_areStatesSo 317 = .ok (.ifCond .le 7, 3) := by decide +kernel
theorem dL_areStatesSo_320 : decode cL_areStatesSo 320 = .ok (.iconst 1, 1) := by decide +kernel
theorem dL_areStatesSo_321 : decode cL_areStatesSo 321 = .ok (.goto 4, 3) := by decide +kernel
theorem dL_areStatesSo_324 : decode cL_areStatesSo 324 = .ok (.iconst 0, 1) := by decide +kernel
theorem dL_areStatesSo_325 : decode cL_areStatesSo 325 = .ok (.istore 5, 2) := by decide +kernel
theorem dL_areStatesSo_327 : decode cL_areStatesSo 327 = .ok (.iload_n 2, 1) := by decide +kernel
theorem dL_areStatesSo_328 : decode cL_areStatesSo 328 = .ok (.ifCond .eq 58, 3) := by decide +kernel
theorem dL_areStatesSo_331 : decode cL_areStatesSo 331 = .ok (.iload 5, 2) := by decide +kernel
theorem dL_areStatesSo_333 : decode cL_areStatesSo 333 = .ok (.iload 4, 2) := by decide +kernel
theorem dL_areStatesSo_335 : decode cL_areStatesSo 335 = .ok (.ifCond .le 7, 3) := by decide +kernel
theorem dL_areStatesSo_338 : decode cL_areStatesSo 338 = .ok (.iconst 1, 1) := by decide +kernel
theorem dL_areStatesSo_339 : decode cL_areStatesSo 339 = .ok (.goto 4, 3) := by decide +kernel
theorem dL_areStatesSo_342 : decode cL_areStatesSo 342 = .ok (.iconst 0, 1) := by decide +kernel
theorem dL_areStatesSo_343 : decode cL_areStatesSo 343 = .ok (.if_icmp .ne 43, 3) := by decide +kernel
theorem dL_areStatesSo_346 : decode cL_areStatesSo 346 = .ok (.iload 5, 2) := by decide +kernel
theorem dL_areStatesSo_348 : decode cL_areStatesSo 348 = .ok (.ifCond .eq 34, 3) := by decide +kernel
theorem dL_areStatesSo_351 : decode cL_areStatesSo 351 = .ok (.aload_n 0, 1) := by decide +kernel
theorem dL_areStatesSo_352 : decode cL_areStatesSo 352 = .ok (.iload 4, 2) := by decide +kernel
theorem dL_areStatesSo_354 : decode cL_areStatesSo 354 = .ok (.iconst 0, 1) := by decide +kernel
theorem dL_areStatesSo_355 : decode cL_areStatesSo 355 = .ok (.invokevirtual 48, 3) := by decide +kernel
theorem dL_areStatesSo_358 : decode cL_areStatesSo 358 = .ok (.aload_n 0, 1) := by decide +kernel
theorem dL_areStatesSo_359 : decode cL_areStatesSo 359 = .ok (.iload_n 3, 1) := by decide +kernel
theorem dL_areStatesSo_360 : decode cL_areStatesSo 360 = .ok (.iconst 0, 1) := by decide +kernel
theorem dL_areStatesSo_361 : decode cL_areStatesSo 361 = .ok (.invokevirtual 33, 3) := by decide +kernel
theorem dL_areStatesSo_364 : decode cL_areStatesSo 364 = .ok (.if_icmp .ne 22, 3) := by decide +kernel
theorem dL_areStatesSo_367 : decode cL_areStatesSo 367 = .ok (.aload_n 0, 1) := by decide +kernel
theorem dL_areStatesSo_368 : decode cL_areStatesSo 368 = .ok (.iload 4, 2) := by decide +kernel
theorem dL_areStatesSo_370 : decode cL_areStatesSo 370 = .ok (.iconst 3, 1) := by decide +kernel
theorem dL_areStatesSo_371 : decode cL_areStatesSo 371 = .ok (.invokevirtual 48, 3) := by decide +kernel
theorem dL_areStatesSo_374 : decode cL_areStatesSo 374 = .ok (.iload_n 3, 1) := by decide +kernel
theorem dL_areStatesSo_375 : decode cL_areStatesSo 375 = .ok (.ishr, 1) := by decide +kernel
theorem dL_areStatesSo_376 : decode cL_areStatesSo 376 = .ok (.iconst 1, 1) := by decide +kernel
theorem dL_areStatesSo_377 : decode cL_areStatesSo 377 = .ok (.iand, 1) := by decide +kernel
theorem dL_areStatesSo_378 : decode cL_areStatesSo 378 = .ok (.iconst 1, 1) := by decide +kernel
theorem dL_areStatesSo_379 : decode cL_areStatesSo 379 = .ok (.if_icmp .ne 7, 3) := by decide +kernel
theorem dL_areStatesSo_382 : decode cL_areStatesSo 382 = .ok (.iconst 1, 1) := by decide +kernel
theorem dL_areStatesSo_383 : decode cL_areStatesSo 383 = .ok (.goto 4, 3) := by decide +kernel
theorem dL_areStatesSo_386 : decode cL_areStatesSo 386 = .ok (.iconst 0, 1) := by decide +kernel
theorem dL_areStatesSo_387 : decode cL_areStatesSo 387 = .ok (.istore_n 2, 1) := by decide +kernel
theorem dL_areStatesSo_388 : decode cL_areStatesSo 388 = .ok (.iload 5, 2) := by decide +kernel
theorem dL_areStatesSo_390 : decode cL_areStatesSo 390 = .ok (.ifCond .eq 14, 3) := by decide +kernel
theorem dL_areStatesSo_393 : decode cL_areStatesSo 393 = .ok (.aload_n 0, 1) := by decide +kernel
theorem dL_areStatesSo_394 : decode cL_areStatesSo 394 = .ok (.iload_n 3, 1) := by decide +kernel
theorem dL_areStatesSo_395 : decode cL_areStatesSo 395 = .ok (.iconst 0, 1) := by decide +kernel
theorem dL_areStatesSo_396 : decode cL_areStatesSo 396 = .ok (.invokevirtual 33, 3) := by decide +kernel
theorem dL_areStatesSo_399 : decode cL_areStatesSo 399 = .ok (.iconst 1, 1) := by decide +kernel
theorem dL_areStatesSo_400 : decode cL_areStatesSo 400 = .ok (.isub, 1) := by decide +kernel
theorem dL_areStatesSo_401 : decode cL_areStatesSo 401 = .ok (.goto 4, 3) := by decide +kernel
theorem dL_areStatesSo_404 : decode cL_areStatesSo 404 = .ok (.iconst 0, 1) := by decide +kernel
theorem dL_areStatesSo_405 : decode cL_areStatesSo 405 = .ok (.istore 6, 2) := by decide +kernel
theorem dL_areStatesSo_407 : decode cL_areStatesSo 407 = .ok (.iload_n 2, 1) := by decide +kernel
theorem dL_areStatesSo_408 : decode cL_areStatesSo 408 = .ok (.ifCond .eq 33, 3) := by decide +kernel
theorem dL_areStatesSo_411 : decode cL_areStatesSo 411 = .ok (.aload_n 0, 1) := by decide +kernel
theorem dL_areStatesSo_412 : decode cL_areStatesSo 412 = .ok (.iload_n 3, 1) := by decide +kernel
theorem dL_areStatesSo_413 : decode cL_areStatesSo 413 = .ok (.iload 6, 2) := by decide +kernel
theorem dL_areStatesSo_415 : decode cL_areStatesSo 415 = .ok (.invokevirtual 51, 3) := by decide +kernel
theorem dL_areStatesSo_418 : decode cL_areStatesSo 418 = .ok (.iload 5, 2) := by decide +kernel
theorem dL_areStatesSo_420 : decode cL_areStatesSo 420 = .ok (.ifCond .eq 13, 3) := by decide +kernel
theorem dL_areStatesSo_423 : decode cL_areStatesSo 423 = .ok (.aload_n 0, 1) := by decide +kernel
theorem dL_areStatesSo_424 : decode cL_areStatesSo 424 = .ok (.iload 4, 2) := by decide +kernel
theorem dL_areStatesSo_426 : decode cL_areStatesSo 426 = .ok (.iconst 1, 1) := by decide +kernel
theorem dL_areStatesSo_427 : decode cL_areStatesSo 427 = .ok (.invokevirtual 48, 3) := by decide +kernel
theorem dL_areStatesSo_430 : decode cL_areStatesSo 430 = .ok (.goto 4, 3) := by decide +kernel
theorem dL_areStatesSo_433 : decode cL_areStatesSo 433 = .ok (.iconst (-1), 1) := by decide +kernel
theorem dL_areStatesSo_434 : decode cL_areStatesSo 434 = .ok (.if_icmp .ne 7, 3) := by decide +kernel
theorem dL_areStatesSo_437 : decode cL_areStatesSo 437 = .ok (.iconst 1, 1) := by decide +kernel
theorem dL_areStatesSo_438 : decode cL_areStatesSo 438 = .ok (.goto 4, 3) := by decide +kernel
theorem dL_areStatesSo_441 : decode cL_areStatesSo 441 = .ok (.iconst 0, 1) := by decide +kernel
theorem dL_areStatesSo_442 : decode cL_areStatesSo 442 = .ok (.istore_n 2, 1) := by decide +kernel
theorem dL_areStatesSo_443 : decode cL_areStatesSo 443 = .ok (.iinc 3 1, 3) := by decide +kernel
theorem dL_areStatesSo_446 : decode cL_areStatesSo 446 = .ok (.goto (-149), 3) := by decide +kernel
theorem dL_areStatesSo_449 : decode cL_areStatesSo 449 = .ok (.iload_n 2, 1) := by decide +kernel
theorem dL_areStatesSo_450 : decode cL_areStatesSo 450 = .ok (.ireturn, 1) := by decide +kernel
set_option maxRecDepth 20000 in
theorem ggL_isFedSo_X5_count : GoodIn wsL_isFedSo wsX5_count := goodIn_ca (goodIn_r _ [5, 6, 7, 8, 9, 10, 4, 11, 12, 13, 14, 15, 16, 17, 18, 19, 20, 21, 22, 23, 24, 25, 26, 27, 28, 29, 30, 31, 32, 33, 34, 35, 36, 37, 38, 39, 40, 41, 42, 43, 44, 45, 46, 47, 48, 49, 50, 51, 52, 53, 54, 55, 56, 57, 58, 59, 60, 61, 62, 63, 64, 250, 251, 252, 253, 254, 255, 256, 257, 258, 259, 260, 261, 262, 263, 264, 265, 266, 267, 268, 269, 270, 271, 272] (by decide +kernel) (by decide +kernel)) (goodIn_sub (fun _ h => List.mem_cons_of_mem _ (List.mem_append_left _ (List.mem_append_left _ (List.mem_append_right _ h)))) (by decide +kernel))
set_option maxRecDepth 20000 in
theorem gL_isFedSo_X5_count : GoodIn wsL_isFedSo (wsV RL 24 RX5 yX5_count wsX5_count) := goodIn_app (goodIn_of _ (by decide +kernel)) ggL_isFedSo_X5_count
set_option maxRecDepth 20000 in
theorem ggL_isFedSo_X5_ifFed : GoodIn wsL_isFedSo wsX5_ifFed := goodIn_ca (goodIn_r _ [68, 6, 7, 69, 70, 4, 71, 72, 73, 74, 75, 12, 14, 15, 17, 34, 35, 36, 37, 38, 39, 40, 41, 42, 43, 44, 45, 46, 47, 48, 49, 50, 51, 52, 53, 54, 55, 56, 57, 58, 59, 32, 33, 76, 77, 78, 79, 80, 81, 82, 83, 84, 85, 86, 87, 88, 89, 90, 91, 92, 93, 94, 95, 31, 26, 27, 28, 29, 30, 64, 96, 97, 98, 99, 100, 101, 102, 103, 104, 105, 250, 251, 252, 253, 254, 260, 261, 262, 263, 264, 265, 266, 267, 268, 269, 255, 256, 257, 258, 259] (by decide +kernel) (by decide +kernel)) (goodIn_sub (fun _ h => List.mem_cons_of_mem _ (List.mem_append_left _ (List.mem_append_left _ (List.mem_append_right _ h)))) (by decide +kernel))
set_option maxRecDepth 20000 in
theorem gL_isFedSo_X5_ifFed : GoodIn wsL_isFedSo (wsV RL 54 RX5 yX5_ifFed wsX5_ifFed) := goodIn_app (goodIn_of _ (by decide +kernel)) ggL_isFedSo_X5_ifFed
set_option maxRecDepth 20000 in
theorem ggL_isFedSo_X5_pattern : GoodIn wsL_isFedSo wsX5_pattern := goodIn_ca (goodIn_ca (goodIn_r _ [109, 110, 111, 6, 7, 112, 113, 4, 114, 115, 116, 117, 118, 14, 119, 120, 12, 26, 27, 28, 29, 30, 31, 32, 33, 64, 45, 46, 47, 39, 40, 41, 42, 43, 44, 48, 49, 50, 51, 52, 53, 54, 55, 56, 57, 58, 59, 121, 122, 123, 124, 125, 126, 127, 128, 129, 130, 131, 132, 133, 134, 135, 136, 137, 138, 139, 140, 250, 251, 252, 253, 254, 260, 261, 262, 263, 264, 265, 266, 267, 268, 269, 255, 256, 257, 258, 259] (by decide +kernel) (by decide +kernel)) (goodIn_sub (fun _ h => List.mem_cons_of_mem _ (List.mem_append_left _ (List.mem_append_right _ h))) (by decide +kernel))) (goodIn_sub (fun _ h => List.mem_cons_of_mem _ (List.mem_append_left _ (List.mem_append_left _ (List.mem_append_right _ h)))) (by decide +kernel))
set_option maxRecDepth 20000 in
theorem gL_isFedSo_X5_pattern : GoodIn wsL_isFedSo (wsV RL 33 RX5 yX5_pattern wsX5_pattern) := goodIn_app (goodIn_of _ (by decide +kernel)) ggL_isFedSo_X5_pattern
set_option maxRecDepth 20000 in
theorem ggL_isFedSo_X5_state : GoodIn wsL_isFedSo wsX5_state := goodIn_ca (goodIn_ca (goodIn_r _ [144, 110, 111, 6, 7, 12, 13, 145, 146, 147, 4, 148, 149, 150, 94, 31, 32, 33, 64, 45, 46, 47, 151, 53, 54, 152, 153, 154, 155, 26, 27, 28, 29, 14, 30, 156, 157, 158, 51, 76, 56, 57, 42, 58, 59, 250, 251, 252, 253, 254, 255, 256, 257, 258, 259, 260, 261, 262, 263, 264, 265, 266, 267, 268, 269] (by decide +kernel) (by decide +kernel)) (goodIn_sub (fun _ h => List.mem_cons_of_mem _ (List.mem_append_left _ (List.mem_append_right _ h))) (by decide +kernel))) (goodIn_sub (fun _ h => List.mem_cons_of_mem _ (List.mem_append_left _ (List.mem_append_left _ (List.mem_append_right _ h)))) (by decide +kernel))
set_option maxRecDepth 20000 in
theorem gL_isFedSo_X5_state : GoodIn wsL_isFedSo (wsV RL 48 RX5 yX5_state wsX5_state) := goodIn_app (goodIn_of _ (by decide +kernel)) ggL_isFedSo_X5_state
set_option maxRecDepth 20000 in
theorem ggL_isFedSo_X5_setting : GoodIn wsL_isFedSo wsX5_setting := goodIn_r _ [162, 14, 95, 250, 251, 252, 253, 254, 260, 261, 262, 263, 264, 265, 266, 267, 268, 269] (by decide +kernel) (by decide +kernel)
set_option maxRecDepth 20000 in
theorem gL_isFedSo_X5_setting : GoodIn wsL_isFedSo (wsV RL 57 RX5 yX5_setting wsX5_setting) := goodIn_app (goodIn_of _ (by decide +kernel)) ggL_isFedSo_X5_setting
set_option maxRecDepth 20000 in
theorem ggL_isFedSo_X5_feed : GoodIn wsL_isFedSo wsX5_feed := goodIn_ca (goodIn_ca (goodIn_r _ [166, 6, 7, 167, 168, 14, 15, 20, 69, 70, 4, 71, 169, 170, 171, 172, 173, 174, 175, 176, 177, 178, 179, 180, 181, 182, 183, 184, 185, 186, 187, 188, 189, 190, 191, 192, 193, 194, 195, 32, 33, 196, 197, 198, 199, 200, 201, 12, 17, 38, 34, 35, 36, 37, 39, 40, 41, 42, 43, 44, 45, 46, 47, 48, 49, 50, 51, 52, 53, 54, 55, 56, 57, 58, 59, 76, 90, 91, 92, 93, 94, 95, 31, 26, 27, 28, 29, 30, 64, 77, 78, 79, 80, 81, 82, 83, 84, 85, 86, 87, 88, 89, 202, 203, 204, 205, 206, 207, 208, 209, 210, 211, 212, 213, 214, 215, 216, 217, 134, 135, 136, 96, 97, 98, 99, 100, 101, 102, 250, 251, 252, 253, 254, 260, 261, 262, 263, 264, 265, 266, 267, 268, 269, 270, 271, 272, 255, 256, 257, 258, 259] (by decide +kernel) (by decide +kernel)) (goodIn_sub (fun _ h => List.mem_cons_of_mem _ (List.mem_append_left _ (List.mem_append_left _ (List.mem_append_right _ h)))) (by decide +kernel))) (goodIn_sub (fun _ h => List.mem_cons_of_mem _ (List.mem_append_right _ h)) (by decide +kernel))
set_option maxRecDepth 20000 in
theorem gL_isFedSo_X5_feed : GoodIn wsL_isFedSo (wsV RL 45 RX5 yX5_feed wsX5_feed) := goodIn_app (goodIn_of _ (by decide +kernel)) ggL_isFedSo_X5_feed
set_option maxRecDepth 20000 in
theorem ggL_isFedSo_X5_undo : GoodIn wsL_isFedSo wsX5_undo := goodIn_ca (goodIn_r _ [221, 167, 168, 20, 21, 14, 12, 30, 222, 223, 224, 172, 225, 174, 176, 177, 178, 179, 175, 180, 181, 182, 183, 184, 185, 186, 187, 188, 189, 190, 191, 192, 193, 194, 195, 32, 4, 33, 196, 197, 226, 227, 228, 42, 229, 230, 231, 232, 233, 234, 235, 86, 44, 45, 46, 47, 236, 129, 130, 51, 237, 238, 239, 240, 59, 241, 53, 54, 242, 243, 244, 245, 81, 55, 56, 57, 58, 246, 247, 248, 249, 250, 251, 252, 253, 254, 270, 271, 272, 260, 261, 262, 263, 264, 265, 266, 267, 268, 269, 255, 256, 257, 258, 259] (by decide +kernel) (by decide +kernel)) (goodIn_sub (fun _ h => List.mem_cons_of_mem _ (List.mem_append_right _ h)) (by decide +kernel))
set_option maxRecDepth 20000 in
theorem gL_isFedSo_X5_undo : GoodIn wsL_isFedSo (wsV RL 60 RX5 yX5_undo wsX5_undo) := goodIn_app (goodIn_of _ (by decide +kernel)) ggL_isFedSo_X5_undo
theorem dL_isFedSo_0 : decode cL_isFedSo 0 = .ok (.aload_n 0, 1) := by decide +kernel
theorem dL_isFedSo_1 : decode cL_isFedSo 1 = .ok (.iconst 2, 1) := by decide +kernel
theorem dL_isFedSo_2 : decode cL_isFedSo 2 = .ok (.invokevirtual 24, 3) := by decide +kernel
theorem dL_isFedSo_5 : decode cL_isFedSo 5 = .ok (.istore_n 2, 1) := by decide +kernel
theorem dL_isFedSo_6 : decode cL_isFedSo 6 = .ok (.aload_n 0, 1) := by decide +kernel
theorem dL_isFedSo_7 : decode cL_isFedSo 7 = .ok (.iload_n 1, 1) := by decide +kernel
theorem dL_isFedSo_8 : decode cL_isFedSo 8 = .ok (.iconst 0, 1) := by decide +kernel
theorem dL_isFedSo_9 : decode cL_isFedSo 9 = .ok (.invokevirtual 54, 3) := by decide +kernel
theorem dL_isFedSo_12 : decode cL_isFedSo 12 = .ok (.istore_n 3, 1) := by decide +kernel
theorem dL_isFedSo_13 : decode cL_isFedSo 13 = .ok (.aload_n 0, 1) := by decide +kernel
theorem dL_isFedSo_14 : decode cL_isFedSo 14 = .ok (.iload_n 1, 1) := by decide +kernel
theorem dL_isFedSo_15 : decode cL_isFedSo 15 = .ok (.iconst 1, 1) := by decide +kernel
theorem dL_isFedSo_16 : decode cL_isFedSo 16 = .ok (.invokevirtual 54, 3) := by decide +kernel
theorem dL_isFedSo_19 : decode cL_isFedSo 19 = .ok (.istore 4, 2) := by decide +kernel
theorem dL_isFedSo_21 : decode cL_isFedSo 21 = .ok (.aload_n 0, 1) := by decide +kernel
theorem dL_isFedSo_22 : decode cL_isFedSo 22 = .ok (.iload_n 1, 1) := by decide +kernel
theorem dL_isFedSo_23 : decode cL_isFedSo 23 = .ok (.iconst 2, 1) := by decide +kernel
theorem dL_isFedSo_24 : decode cL_isFedSo 24 = .ok (.invokevirtual 54, 3) := by decide +kernel
theorem dL_isFedSo_27 : decode cL_isFedSo 27 = .ok (.istore 5, 2) := by decide +kernel
theorem dL_isFedSo_29 : decode cL_isFedSo 29 = .ok (.aload_n 0, 1) := by decide +kernel
theorem dL_isFedSo_30 : decode cL_isFedSo 30 = .ok (.iload_n 1, 1) := by decide +kernel
theorem dL_isFedSo_31 : decode cL_isFedSo 31 = .ok (.iconst 3, 1) := by decide +kernel
theorem dL_isFedSo_32 : decode cL_isFedSo 32 = .ok (.invokevirtual 54, 3) := by decide +kernel
theorem dL_isFedSo_35 : decode cL_isFedSo 35 = .ok (.istore 6, 2) := by decide +kernel
theorem dL_isFedSo_37 : decode cL_isFedSo 37 = .ok (.iload 6, 2) := by decide +kernel
theorem dL_isFedSo_39 : decode cL_isFedSo 39 = .ok (.ifCond .lt 13, 3) := by decide +kernel
theorem dL_isFedSo_42 : decode cL_isFedSo 42 = .ok (.aload_n 0, 1) := by decide +kernel
theorem dL_isFedSo_43 : decode cL_isFedSo 43 = .ok (.iload 6, 2) := by decide +kernel
theorem dL_isFedSo_45 : decode cL_isFedSo 45 = .ok (.iconst 1, 1) := by decide +kernel
theorem dL_isFedSo_46 : decode cL_isFedSo 46 = .ok (.invokevirtual 33, 3) := by decide +kernel
theorem dL_isFedSo_49 : decode cL_isFedSo 49 = .ok (.goto 4, 3) := by decide +kernel
theorem dL_isFedSo_52 : decode cL_isFedSo 52 = .ok (.iconst 0, 1) := by decide +kernel
theorem dL_isFedSo_53 : decode cL_isFedSo 53 = .ok (.istore 7, 2) := by decide +kernel
theorem dL_isFedSo_55 : decode cL_isFedSo 55 = .ok (.aload_n 0, 1) := by decide +kernel
theorem dL_isFedSo_56 : decode cL_isFedSo 56 = .ok (.bipush 6, 2) := by decide +kernel
theorem dL_isFedSo_58 : decode cL_isFedSo 58 = .ok (.invokevirtual 24, 3) := by decide +kernel
theorem dL_isFedSo_61 : decode cL_isFedSo 61 = .ok (.istore 8, 2) := by decide +kernel
theorem dL_isFedSo_63 : decode cL_isFedSo 63 = .ok (.aload_n 0, 1) := by decide +kernel
theorem dL_isFedSo_64 : decode cL_isFedSo 64 = .ok (.iconst 3, 1) := by decide +kernel
theorem dL_isFedSo_65 : decode cL_isFedSo 65 = .ok (.invokevirtual 24, 3) := by decide +kernel
theorem dL_isFedSo_68 : decode cL_isFedSo 68 = .ok (.istore 9, 2) := by decide +kernel
theorem dL_isFedSo_70 : decode cL_isFedSo 70 = .ok (.aload_n 0, 1) := by decide +kernel
theorem dL_isFedSo_71 : decode cL_isFedSo 71 = .ok (.iconst 4, 1) := by decide +kernel
theorem dL_isFedSo_72 : decode cL_isFedSo 72 = .ok (.invokevirtual 24, 3) := by decide +kernel
theorem dL_isFedSo_75 : decode cL_isFedSo 75 = .ok (.istore 10, 2) := by decide +kernel
theorem dL_isFedSo_77 : decode cL_isFedSo 77 = .ok (.aload_n 0, 1) := by decide +kernel
theorem dL_isFedSo_78 : decode cL_isFedSo 78 = .ok (.iload_n 2, 1) := by decide +kernel
theorem dL_isFedSo_79 : decode cL_isFedSo 79 = .ok (.iconst 5, 1) := by decide +kernel
theorem dL_isFedSo_80 : decode cL_isFedSo 80 = .ok (.iload_n 1, 1) := by decide +kernel
theorem dL_isFedSo_81 : decode cL_isFedSo 81 = .ok (.iadd, 1) := by decide +kernel
theorem dL_isFedSo_82 : decode cL_isFedSo 82 = .ok (.invokevirtual 48, 3) := by decide +kernel
theorem dL_isFedSo_85 : decode cL_isFedSo 85 = .ok (.iload_n 3, 1) := by decide +kernel
theorem dL_isFedSo_86 : decode cL_isFedSo 86 = .ok (.if_icmp .ne 56, 3) := by decide +kernel
theorem dL_isFedSo_89 : decode cL_isFedSo 89 = .ok (.iload 4, 2) := by decide +kernel
theorem dL_isFedSo_91 : decode cL_isFedSo 91 = .ok (.aload_n 0, 1) := by decide +kernel
theorem dL_isFedSo_92 : decode cL_isFedSo 92 = .ok (.iload_n 2, 1) := by decide +kernel
theorem dL_isFedSo_93 : decode cL_isFedSo 93 = .ok (.iconst 0, 1) := by decide +kernel
theorem dL_isFedSo_94 : decode cL_isFedSo 94 = .ok (.invokevirtual 48, 3) := by decide +kernel
theorem dL_isFedSo_97 : decode cL_isFedSo 97 = .ok (.iconst 1, 1) := by decide +kernel
theorem dL_isFedSo_98 : decode cL_isFedSo 98 = .ok (.iadd, 1) := by decide +kernel
theorem dL_isFedSo_99 : decode cL_isFedSo 99 = .ok (.if_icmp .gt 43, 3) := by decide +kernel
theorem dL_isFedSo_102 : decode cL_isFedSo 102 = .ok (.iload 6, 2) := by decide +kernel
theorem dL_isFedSo_104 : decode cL_isFedSo 104 = .ok (.ifCond .ge 7, 3) := by decide +kernel
theorem dL_isFedSo_107 : decode cL_isFedSo 107 = .ok (.iconst 1, 1) := by decide +kernel
theorem dL_isFedSo_108 : decode cL_isFedSo 108 = .ok (.goto 4, 3) := by decide +kernel
theorem dL_isFedSo_111 : decode cL_isFedSo 111 = .ok (.iconst 0, 1) := by decide +kernel
theorem dL_isFedSo_112 : decode cL_isFedSo 112 = .ok (.iload 5, 2) := by decide +kernel
theorem dL_isFedSo_114 : decode cL_isFedSo 114 = .ok (.ifCond .ne 7, 3) := by decide +kernel
theorem dL_isFedSo_117 : decode cL_isFedSo 117 = .ok (.iconst 1, 1) := by decide +kernel
theorem dL_isFedSo_118 : decode cL_isFedSo 118 = .ok (.goto 4, 3) := by decide +kernel
theorem dL_isFedSo_121 : decode cL_isFedSo 121 = .ok (.iconst 0, 1) := by decide +kernel
theorem dL_isFedSo_122 : decode cL_isFedSo 122 = .ok (.if_icmp .ne 20, 3) := by decide +kernel
theorem dL_isFedSo_125 : decode cL_isFedSo 125 = .ok (.aload_n 0, 1) := by decide +kernel
theorem dL_isFedSo_126 : decode cL_isFedSo 126 = .ok (.invokevirtual 57, 3) := by decide +kernel
theorem dL_isFedSo_129 : decode cL_isFedSo 129 = .ok (.ifCond .eq 9, 3) := by decide +kernel
theorem dL_isFedSo_132 : decode cL_isFedSo 132 = .ok (.iload 5, 2) := by decide +kernel
theorem dL_isFedSo_134 : decode cL_isFedSo 134 = .ok (.iconst 1, 1) := by decide +kernel
theorem dL_isFedSo_135 : decode cL_isFedSo 135 = .ok (.if_icmp .gt 7, 3) := by decide +kernel
theorem dL_isFedSo_138 : decode cL_isFedSo 138 = .ok (.iconst 1, 1) := by decide +kernel
theorem dL_isFedSo_139 : decode cL_isFedSo 139 = .ok (.goto 4, 3) := by decide +kernel
theorem dL_isFedSo_142 : decode cL_isFedSo 142 = .ok (.iconst 0, 1) := by decide +kernel
theorem dL_isFedSo_143 : decode cL_isFedSo 143 = .ok (.istore 11, 2) := by decide +kernel
theorem dL_isFedSo_145 : decode cL_isFedSo 145 = .ok (.iload 11, 2) := by decide +kernel
theorem dL_isFedSo_147 : decode cL_isFedSo 147 = .ok (.ifCond .eq 65, 3) := by decide +kernel
theorem dL_isFedSo_150 : decode cL_isFedSo 150 = .ok (.aload_n 0, 1) := by decide +kernel
theorem dL_isFedSo_151 : decode cL_isFedSo 151 = .ok (.iload_n 1, 1) := by decide +kernel
theorem dL_isFedSo_152 : decode cL_isFedSo 152 = .ok (.invokevirtual 45, 3) := by decide +kernel
theorem dL_isFedSo_155 : decode cL_isFedSo 155 = .ok (.iload 5, 2) := by decide +kernel
theorem dL_isFedSo_157 : decode cL_isFedSo 157 = .ok (.if_icmp .ne 55, 3) := by decide +kernel
theorem dL_isFedSo_160 : decode cL_isFedSo 160 = .ok (.aload_n 0, 1) := by decide +kernel
theorem dL_isFedSo_161 : decode cL_isFedSo 161 = .ok (.iconst 2, 1) := by decide +kernel
theorem dL_isFedSo_162 : decode cL_isFedSo 162 = .ok (.invokevirtual 24, 3) := by decide +kernel
theorem dL_isFedSo_165 : decode cL_isFedSo 165 = .ok (.iload_n 3, 1) := by decide +kernel
theorem dL_isFedSo_166 : decode cL_isFedSo 166 = .ok (.if_icmp .ne 46, 3) := by decide +kernel
theorem dL_isFedSo_169 : decode cL_isFedSo 169 = .ok (.aload_n 0, 1) := by decide +kernel
theorem dL_isFedSo_170 : decode cL_isFedSo 170 = .ok (.bipush 6, 2) := by decide +kernel
theorem dL_isFedSo_172 : decode cL_isFedSo 172 = .ok (.invokevirtual 24, 3) := by decide +kernel
theorem dL_isFedSo_175 : decode cL_isFedSo 175 = .ok (.iload 8, 2) := by decide +kernel
theorem dL_isFedSo_177 : decode cL_isFedSo 177 = .ok (.iload 4, 2) := by decide +kernel
theorem dL_isFedSo_179 : decode cL_isFedSo 179 = .ok (.iadd, 1) := by decide +kernel
theorem dL_isFedSo_180 : decode cL_isFedSo 180 = .ok (.if_icmp .ne 32, 3) := by decide +kernel
theorem dL_isFedSo_183 : decode cL_isFedSo 183 = .ok (.aload_n 0, 1) := by decide +kernel
theorem dL_isFedSo_184 : decode cL_isFedSo 184 = .ok (.iconst 3, 1) := by decide +kernel
theorem dL_isFedSo_185 : decode cL_isFedSo 185 = .ok (.invokevirtual 24, 3) := by decide +kernel
theorem dL_isFedSo_188 : decode cL_isFedSo 188 = .ok (.iload 9, 2) := by decide +kernel
theorem dL_isFedSo_190 : decode cL_isFedSo 190 = .ok (.iconst 1, 1) := by decide +kernel
theorem dL_isFedSo_191 : decode cL_isFedSo 191 = .ok (.iadd, 1) := by decide +kernel
theorem dL_isFedSo_192 : decode cL_isFedSo 192 = .ok (.if_icmp .ne 20, 3) := by decide +kernel
theorem dL_isFedSo_195 : decode cL_isFedSo 195 = .ok (.aload_n 0, 1) := by decide +kernel
theorem dL_isFedSo_196 : decode cL_isFedSo 196 = .ok (.iconst 4, 1) := by decide +kernel
theorem dL_isFedSo_197 : decode cL_isFedSo 197 = .ok (.invokevirtual 24, 3) := by decide +kernel
theorem dL_isFedSo_200 : decode cL_isFedSo 200 = .ok (.iload 10, 2) := by decide +kernel
theorem dL_isFedSo_202 : decode cL_isFedSo 202 = .ok (.iload 5, 2) := by decide +kernel
theorem dL_isFedSo_204 : decode cL_isFedSo 204 = .ok (.iadd, 1) := by decide +kernel
theorem dL_isFedSo_205 : decode cL_isFedSo 205 = .ok (.if_icmp .ne 7, 3) := by decide +kernel
theorem dL_isFedSo_208 : decode cL_isFedSo 208 = .ok (.iconst 1, 1) := by decide +kernel
theorem dL_isFedSo_209 : decode cL_isFedSo 209 = .ok (.goto 4, 3) := by decide +kernel
theorem dL_isFedSo_212 : decode cL_isFedSo 212 = .ok (.iconst 0, 1) := by decide +kernel
theorem dL_isFedSo_213 : decode cL_isFedSo 213 = .ok (.istore 11, 2) := by decide +kernel
theorem dL_isFedSo_215 : decode cL_isFedSo 215 = .ok (.iload 11, 2) := by decide +kernel
theorem dL_isFedSo_217 : decode cL_isFedSo 217 = .ok (.ifCond .eq 48, 3) := by decide +kernel
theorem dL_isFedSo_220 : decode cL_isFedSo 220 = .ok (.iload 6, 2) := by decide +kernel
theorem dL_isFedSo_222 : decode cL_isFedSo 222 = .ok (.ifCond .lt 39, 3) := by decide +kernel
theorem dL_isFedSo_225 : decode cL_isFedSo 225 = .ok (.aload_n 0, 1) := by decide +kernel
theorem dL_isFedSo_226 : decode cL_isFedSo 226 = .ok (.iload 6, 2) := by decide +kernel
theorem dL_isFedSo_228 : decode cL_isFedSo 228 = .ok (.iconst 1, 1) := by decide +kernel
theorem dL_isFedSo_229 : decode cL_isFedSo 229 = .ok (.invokevirtual 33, 3) := by decide +kernel
theorem dL_isFedSo_232 : decode cL_isFedSo 232 = .ok (.iload 7, 2) := by decide +kernel
theorem dL_isFedSo_234 : decode cL_isFedSo 234 = .ok (.iconst 1, 1) := by decide +kernel
theorem dL_isFedSo_235 : decode cL_isFedSo 235 = .ok (.iadd, 1) := by decide +kernel
theorem dL_isFedSo_236 : decode cL_isFedSo 236 = .ok (.if_icmp .ne 29, 3) := by decide +kernel
theorem dL_isFedSo_239 : decode cL_isFedSo 239 = .ok (.aload_n 0, 1) := by decide +kernel
theorem dL_isFedSo_240 : decode cL_isFedSo 240 = .ok (.iload 6, 2) := by decide +kernel
theorem dL_isFedSo_242 : decode cL_isFedSo 242 = .ok (.iconst 2, 1) := by decide +kernel
theorem dL_isFedSo_243 : decode cL_isFedSo 243 = .ok (.invokevirtual 33, 3) := by decide +kernel
theorem dL_isFedSo_246 : decode cL_isFedSo 246 = .ok (.iload 9, 2) := by decide +kernel
theorem dL_isFedSo_248 : decode cL_isFedSo 248 = .ok (.if_icmp .ne 17, 3) := by decide +kernel
theorem dL_isFedSo_251 : decode cL_isFedSo 251 = .ok (.aload_n 0, 1) := by decide +kernel
theorem dL_isFedSo_252 : decode cL_isFedSo 252 = .ok (.iconst 5, 1) := by decide +kernel
theorem dL_isFedSo_253 : decode cL_isFedSo 253 = .ok (.invokevirtual 24, 3) := by decide +kernel
theorem dL_isFedSo_256 : decode cL_isFedSo 256 = .ok (.iload 9, 2) := by decide +kernel
theorem dL_isFedSo_258 : decode cL_isFedSo 258 = .ok (.if_icmp .ne 7, 3) := by decide +kernel
theorem dL_isFedSo_261 : decode cL_isFedSo 261 = .ok (.iconst 1, 1) := by decide +kernel
theorem dL_isFedSo_262 : decode cL_isFedSo 262 = .ok (.goto 4, 3) := by decide +kernel
theorem dL_isFedSo_265 : decode cL_isFedSo 265 = .ok (.iconst 0, 1) := by decide +kernel
theorem dL_isFedSo_266 : decode cL_isFedSo 266 = .ok (.istore 11, 2) := by decide +kernel
theorem dL_isFedSo_268 : decode cL_isFedSo 268 = .ok (.aload_n 0, 1) := by decide +kernel
theorem dL_isFedSo_269 : decode cL_isFedSo 269 = .ok (.invokevirtual 60, 3) := by decide +kernel
theorem dL_isFedSo_272 : decode cL_isFedSo 272 = .ok (.istore 12, 2) := by decide +kernel
theorem dL_isFedSo_274 : decode cL_isFedSo 274 = .ok (.iload 11, 2) := by decide +kernel
theorem dL_isFedSo_276 : decode cL_isFedSo 276 = .ok (.ifCond .eq 31, 3) := by decide +kernel
theorem dL_isFedSo_279 : decode cL_isFedSo 279 = .ok (.iload 12, 2) := by decide +kernel
theorem dL_isFedSo_281 : decode cL_isFedSo 281 = .ok (.ifCond .lt 26, 3) := by decide +kernel
theorem dL_isFedSo_284 : decode cL_isFedSo 284 = .ok (.aload_n 0, 1) := by decide +kernel
theorem dL_isFedSo_285 : decode cL_isFedSo 285 = .ok (.iconst 2, 1) := by decide +kernel
theorem dL_isFedSo_286 : decode cL_isFedSo 286 = .ok (.invokevirtual 24, 3) := by decide +kernel
theorem dL_isFedSo_289 : decode cL_isFedSo 289 = .ok (.iload_n 2, 1) := by decide +kernel
theorem dL_isFedSo_290 : decode cL_isFedSo 290 = .ok (.if_icmp .ne 17, 3) := by decide +kernel
theorem dL_isFedSo_293 : decode cL_isFedSo 293 = .ok (.aload_n 0, 1) := by decide +kernel
theorem dL_isFedSo_294 : decode cL_isFedSo 294 = .ok (.iconst 3, 1) := by decide +kernel
theorem dL_isFedSo_295 : decode cL_isFedSo 295 = .ok (.invokevirtual 24, 3) := by decide +kernel
theorem dL_isFedSo_298 : decode cL_isFedSo 298 = .ok (.iload 9, 2) := by decide +kernel
theorem dL_isFedSo_300 : decode cL_isFedSo 300 = .ok (.if_icmp .ne 7, 3) := by decide +kernel
theorem dL_isFedSo_303 : decode cL_isFedSo 303 = .ok (.iconst 1, 1) := by decide +kernel
theorem dL_isFedSo_304 : decode cL_isFedSo 304 = .ok (.goto 4, 3) := by decide +kernel
theorem dL_isFedSo_307 : decode cL_isFedSo 307 = .ok (.iconst 0, 1) := by decide +kernel
theorem dL_isFedSo_308 : decode cL_isFedSo 308 = .ok (.ireturn, 1) := by decide +kernel
theorem dL_bits_0 : decode cL_bits 0 = .ok (.iconst 0, 1) := by decide +kernel
theorem dL_bits_1 : decode cL_bits 1 = .ok (.istore_n 1, 1) := by decide +kernel
theorem dL_bits_2 : decode cL_bits 2 = .ok (.iconst 0, 1) := by decide +kernel
theorem dL_bits_3 : decode cL_bits 3 = .ok (.istore_n 2, 1) := by decide +kernel
theorem dL_bits_4 : decode cL_bits 4 = .ok (.iload_n 2, 1) := by decide +kernel
theorem dL_bits_5 : decode cL_bits 5 = .ok (.bipush 8, 2) := by decide +kernel
theorem dL_bits_7 : decode cL_bits 7 = .ok (.if_icmp .ge 17, 3) := by decide +kernel
theorem dL_bits_10 : decode cL_bits 10 = .ok (.iload_n 1, 1) := by decide +kernel
theorem dL_bits_11 : decode cL_bits 11 = .ok (.iload_n 0, 1) := by decide +kernel
theorem dL_bits_12 : decode cL_bits 12 = .ok (.iload_n 2, 1) := by decide +kernel
theorem dL_bits_13 : decode cL_bits 13 = .ok (.ishr, 1) := by decide +kernel
theorem dL_bits_14 : decode cL_bits 14 = .ok (.iconst 1, 1) := by decide +kernel
theorem dL_bits_15 : decode cL_bits 15 = .ok (.iand, 1) := by decide +kernel
theorem dL_bits_16 : decode cL_bits 16 = .ok (.iadd, 1) := by decide +kernel
theorem dL_bits_17 : decode cL_bits 17 = .ok (.istore_n 1, 1) := by decide +kernel
theorem dL_bits_18 : decode cL_bits 18 = .ok (.iinc 2 1, 3) := by decide +kernel
theorem dL_bits_21 : decode cL_bits 21 = .ok (.goto (-17), 3) := by decide +kernel
theorem dL_bits_24 : decode cL_bits 24 = .ok (.iload_n 1, 1) := by decide +kernel
theorem dL_bits_25 : decode cL_bits 25 = .ok (.ireturn, 1) := by decide +kernel
set_option maxRecDepth 20000 in
theorem ggL_areWaysSo_X5_lettersTo : GoodIn wsL_areWaysSo wsX5_lettersTo := goodIn_ca (goodIn_r _ [6, 7, 8, 9, 10, 5, 11, 12, 13, 14, 15, 16, 17, 18, 19, 20, 21, 22, 23, 24, 25, 26, 27, 28, 29, 30, 31, 32, 33, 34, 35, 36, 37, 38, 39, 40, 41, 42, 43, 44, 45, 46, 47, 48, 49, 50, 51, 52, 53, 54, 55, 56, 57, 58, 59, 60, 61, 62, 131, 132, 133, 134, 135, 136, 137, 138, 139, 140, 141, 142, 143, 144, 145, 146, 147, 148, 149, 150] (by decide +kernel) (by decide +kernel)) (goodIn_sub (fun _ h => List.mem_cons_of_mem _ (List.mem_append_left _ (List.mem_append_right _ h))) (by decide +kernel))
set_option maxRecDepth 20000 in
theorem gL_areWaysSo_X5_lettersTo : GoodIn wsL_areWaysSo (wsV RL 63 RX5 yX5_lettersTo wsX5_lettersTo) := goodIn_app (goodIn_of _ (by decide +kernel)) ggL_areWaysSo_X5_lettersTo
set_option maxRecDepth 20000 in
theorem ggL_areWaysSo_X5_count : GoodIn wsL_areWaysSo wsX5_count := goodIn_ca (goodIn_r _ [66, 67, 68, 69, 70, 71, 5, 72, 25, 73, 16, 74, 75, 76, 77, 78, 79, 80, 81, 82, 83, 84, 12, 13, 14, 15, 17, 18, 19, 20, 27, 28, 29, 30, 31, 32, 33, 34, 35, 36, 37, 38, 39, 40, 41, 42, 43, 44, 45, 46, 47, 48, 49, 50, 51, 52, 85, 86, 87, 88, 53, 131, 132, 133, 134, 135, 146, 147, 148, 149, 150, 136, 137, 138, 139, 140, 141, 142, 143, 144, 145, 151, 152, 153] (by decide +kernel) (by decide +kernel)) (goodIn_sub (fun _ h => List.mem_cons_of_mem _ (List.mem_append_right _ h)) (by decide +kernel))
set_option maxRecDepth 20000 in
theorem gL_areWaysSo_X5_count : GoodIn wsL_areWaysSo (wsV RL 24 RX5 yX5_count wsX5_count) := goodIn_app (goodIn_of _ (by decide +kernel)) ggL_areWaysSo_X5_count
set_option maxRecDepth 20000 in
theorem ggL_areWaysSo_X5_pattern : GoodIn wsL_areWaysSo wsX5_pattern := goodIn_ca (goodIn_ca (goodIn_r _ [92, 7, 8, 67, 68, 9, 10, 5, 11, 93, 94, 95, 96, 16, 97, 98, 25, 12, 13, 14, 15, 17, 18, 19, 20, 53, 38, 39, 40, 32, 33, 34, 35, 36, 37, 41, 42, 43, 44, 45, 46, 47, 48, 49, 50, 51, 52, 99, 100, 101, 102, 103, 104, 105, 106, 55, 56, 107, 58, 59, 60, 61, 62, 108, 109, 110, 111, 131, 132, 133, 134, 135, 136, 137, 138, 139, 140, 141, 142, 143, 144, 145, 146, 147, 148, 149, 150] (by decide +kernel) (by decide +kernel)) (goodIn_sub (fun _ h => List.mem_cons_of_mem _ (List.mem_append_left _ (List.mem_append_right _ h))) (by decide +kernel))) (goodIn_sub (fun _ h => List.mem_cons_of_mem _ (List.mem_append_right _ h)) (by decide +kernel))
set_option maxRecDepth 20000 in
theorem gL_areWaysSo_X5_pattern : GoodIn wsL_areWaysSo (wsV RL 33 RX5 yX5_pattern wsX5_pattern) := goodIn_app (goodIn_of _ (by decide +kernel)) ggL_areWaysSo_X5_pattern
set_option maxRecDepth 20000 in
theorem ggL_areWaysSo_X5_state : GoodIn wsL_areWaysSo wsX5_state := goodIn_ca (goodIn_ca (goodIn_r _ [115, 7, 8, 67, 68, 25, 73, 116, 117, 118, 5, 119, 26, 120, 121, 18, 19, 20, 53, 38, 39, 40, 122, 46, 47, 123, 124, 125, 126, 12, 13, 14, 15, 16, 17, 127, 128, 129, 44, 130, 49, 50, 35, 51, 52, 131, 132, 133, 134, 135, 146, 147, 148, 149, 150, 136, 137, 138, 139, 140, 141, 142, 143, 144, 145] (by decide +kernel) (by decide +kernel)) (goodIn_sub (fun _ h => List.mem_cons_of_mem _ (List.mem_append_left _ (List.mem_append_right _ h))) (by decide +kernel))) (goodIn_sub (fun _ h => List.mem_cons_of_mem _ (List.mem_append_right _ h)) (by decide +kernel))
set_option maxRecDepth 20000 in
theorem gL_areWaysSo_X5_state : GoodIn wsL_areWaysSo (wsV RL 48 RX5 yX5_state wsX5_state) := goodIn_app (goodIn_of _ (by decide +kernel)) ggL_areWaysSo_X5_state
theorem dL_areWaysSo_0 : decode cL_areWaysSo 0 = .ok (.aload_n 0, 1) := by decide +kernel
theorem dL_areWaysSo_1 : decode cL_areWaysSo 1 = .ok (.iload_n 1, 1) := by decide +kernel
theorem dL_areWaysSo_2 : decode cL_areWaysSo 2 = .ok (.invokevirtual 63, 3) := by decide +kernel
theorem dL_areWaysSo_5 : decode cL_areWaysSo 5 = .ok (.istore_n 2, 1) := by decide +kernel
theorem dL_areWaysSo_6 : decode cL_areWaysSo 6 = .ok (.aload_n 0, 1) := by decide +kernel
theorem dL_areWaysSo_7 : decode cL_areWaysSo 7 = .ok (.iconst 1, 1) := by decide +kernel
theorem dL_areWaysSo_8 : decode cL_areWaysSo 8 = .ok (.invokevirtual 24, 3) := by decide +kernel
theorem dL_areWaysSo_11 : decode cL_areWaysSo 11 = .ok (.istore_n 3, 1) := by decide +kernel
theorem dL_areWaysSo_12 : decode cL_areWaysSo 12 = .ok (.aload_n 0, 1) := by decide +kernel
theorem dL_areWaysSo_13 : decode cL_areWaysSo 13 = .ok (.iload_n 1, 1) := by decide +kernel
theorem dL_areWaysSo_14 : decode cL_areWaysSo 14 = .ok (.iconst 0, 1) := by decide +kernel
theorem dL_areWaysSo_15 : decode cL_areWaysSo 15 = .ok (.invokevirtual 33, 3) := by decide +kernel
theorem dL_areWaysSo_18 : decode cL_areWaysSo 18 = .ok (.ifCond .eq 9, 3) := by decide +kernel
theorem dL_areWaysSo_21 : decode cL_areWaysSo 21 = .ok (.iload_n 3, 1) := by decide +kernel
theorem dL_areWaysSo_22 : decode cL_areWaysSo 22 = .ok (.bipush 64, 2) := by decide +kernel
theorem dL_areWaysSo_24 : decode cL_areWaysSo 24 = .ok (.if_icmp .le 20, 3) := by decide +kernel
theorem dL_areWaysSo_27 : decode cL_areWaysSo 27 = .ok (.iload_n 3, 1) := by decide +kernel
theorem dL_areWaysSo_28 : decode cL_areWaysSo 28 = .ok (.bipush 64, 2) := by decide +kernel
theorem dL_areWaysSo_30 : decode cL_areWaysSo 30 = .ok (.if_icmp .gt 8, 3) := by decide +kernel
theorem dL_areWaysSo_33 : decode cL_areWaysSo 33 = .ok (.iload_n 2, 1) := by decide +kernel
theorem dL_areWaysSo_34 : decode cL_areWaysSo 34 = .ok (.iconst (-1), 1) := by decide +kernel
theorem dL_areWaysSo_35 : decode cL_areWaysSo 35 = .ok (.if_icmp .ne 7, 3) := by decide +kernel
theorem dL_areWaysSo_38 : decode cL_areWaysSo 38 = .ok (.iconst 1, 1) := by decide +kernel
theorem dL_areWaysSo_39 : decode cL_areWaysSo 39 = .ok (.goto 4, 3) := by decide +kernel
theorem dL_areWaysSo_42 : decode cL_areWaysSo 42 = .ok (.iconst 0, 1) := by decide +kernel
theorem dL_areWaysSo_43 : decode cL_areWaysSo 43 = .ok (.ireturn, 1) := by decide +kernel
theorem dL_areWaysSo_44 : decode cL_areWaysSo 44 = .ok (.bipush 64, 2) := by decide +kernel
theorem dL_areWaysSo_46 : decode cL_areWaysSo 46 = .ok (.newarray .int, 2) := by decide +kernel
theorem dL_areWaysSo_48 : decode cL_areWaysSo 48 = .ok (.astore 4, 2) := by decide +kernel
theorem dL_areWaysSo_50 : decode cL_areWaysSo 50 = .ok (.aload 4, 2) := by decide +kernel
theorem dL_areWaysSo_52 : decode cL_areWaysSo 52 = .ok (.aload_n 0, 1) := by decide +kernel
theorem dL_areWaysSo_53 : decode cL_areWaysSo 53 = .ok (.iconst 2, 1) := by decide +kernel
theorem dL_areWaysSo_54 : decode cL_areWaysSo 54 = .ok (.invokevirtual 24, 3) := by decide +kernel
theorem dL_areWaysSo_57 : decode cL_areWaysSo 57 = .ok (.iconst 1, 1) := by decide +kernel
theorem dL_areWaysSo_58 : decode cL_areWaysSo 58 = .ok (.iastore, 1) := by decide +kernel
theorem dL_areWaysSo_59 : decode cL_areWaysSo 59 = .ok (.iconst 1, 1) := by decide +kernel
theorem dL_areWaysSo_60 : decode cL_areWaysSo 60 = .ok (.istore 5, 2) := by decide +kernel
theorem dL_areWaysSo_62 : decode cL_areWaysSo 62 = .ok (.iload 5, 2) := by decide +kernel
theorem dL_areWaysSo_64 : decode cL_areWaysSo 64 = .ok (.iload_n 2, 1) := by decide +kernel
theorem dL_areWaysSo_65 : decode cL_areWaysSo 65 = .ok (.if_icmp .gt 124, 3) := by decide +kernel
theorem dL_areWaysSo_68 : decode cL_areWaysSo 68 = .ok (.bipush 64, 2) := by decide +kernel
theorem dL_areWaysSo_70 : decode cL_areWaysSo 70 = .ok (.newarray .int, 2) := by decide +kernel
theorem dL_areWaysSo_72 : decode cL_areWaysSo 72 = .ok (.astore 6, 2) := by decide +kernel
theorem dL_areWaysSo_74 : decode cL_areWaysSo 74 = .ok (.iconst 0, 1) := by decide +kernel
theorem dL_areWaysSo_75 : decode cL_areWaysSo 75 = .ok (.istore 7, 2) := by decide +kernel
theorem dL_areWaysSo_77 : decode cL_areWaysSo 77 = .ok (.iconst 0, 1) := by decide +kernel
theorem dL_areWaysSo_78 : decode cL_areWaysSo 78 = .ok (.istore 8, 2) := by decide +kernel
theorem dL_areWaysSo_80 : decode cL_areWaysSo 80 = .ok (.iload 8, 2) := by decide +kernel
theorem dL_areWaysSo_82 : decode cL_areWaysSo 82 = .ok (.iload_n 3, 1) := by decide +kernel
theorem dL_areWaysSo_83 : decode cL_areWaysSo 83 = .ok (.if_icmp .ge 78, 3) := by decide +kernel
theorem dL_areWaysSo_86 : decode cL_areWaysSo 86 = .ok (.iconst 0, 1) := by decide +kernel
theorem dL_areWaysSo_87 : decode cL_areWaysSo 87 = .ok (.istore 9, 2) := by decide +kernel
theorem dL_areWaysSo_89 : decode cL_areWaysSo 89 = .ok (.iload 9, 2) := by decide +kernel
theorem dL_areWaysSo_91 : decode cL_areWaysSo 91 = .ok (.iconst 4, 1) := by decide +kernel
theorem dL_areWaysSo_92 : decode cL_areWaysSo 92 = .ok (.if_icmp .ge 63, 3) := by decide +kernel
theorem dL_areWaysSo_95 : decode cL_areWaysSo 95 = .ok (.aload 4, 2) := by decide +kernel
theorem dL_areWaysSo_97 : decode cL_areWaysSo 97 = .ok (.iload 8, 2) := by decide +kernel
theorem dL_areWaysSo_99 : decode cL_areWaysSo 99 = .ok (.iaload, 1) := by decide +kernel
theorem dL_areWaysSo_100 : decode cL_areWaysSo 100 = .ok (.iconst 1, 1) := by decide +kernel
theorem dL_areWaysSo_101 : decode cL_areWaysSo 101 = .ok (.if_icmp .ne 54, 3) := by decide +kernel
theorem dL_areWaysSo_104 : decode cL_areWaysSo 104 = .ok (.aload_n 0, 1) := by decide +kernel
theorem dL_areWaysSo_105 : decode cL_areWaysSo 105 = .ok (.iload 8, 2) := by decide +kernel
theorem dL_areWaysSo_107 : decode cL_areWaysSo 107 = .ok (.iconst 5, 1) := by decide +kernel
theorem dL_areWaysSo_108 : decode cL_areWaysSo 108 = .ok (.iload 9, 2) := by decide +kernel
theorem dL_areWaysSo_110 : decode cL_areWaysSo 110 = .ok (.iadd, 1) := by decide +kernel
theorem dL_areWaysSo_111 : decode cL_areWaysSo 111 = .ok (.invokevirtual 48, 3) := by decide +kernel
theorem dL_areWaysSo_114 : decode cL_areWaysSo 114 = .ok (.istore 10, 2) := by decide +kernel
theorem dL_areWaysSo_116 : decode cL_areWaysSo 116 = .ok (.aload 6, 2) := by decide +kernel
theorem dL_areWaysSo_118 : decode cL_areWaysSo 118 = .ok (.iload 10, 2) := by decide +kernel
theorem dL_areWaysSo_120 : decode cL_areWaysSo 120 = .ok (.iconst 1, 1) := by decide +kernel
theorem dL_areWaysSo_121 : decode cL_areWaysSo 121 = .ok (.iastore, 1) := by decide +kernel
theorem dL_areWaysSo_122 : decode cL_areWaysSo 122 = .ok (.iload 7, 2) := by decide +kernel
theorem dL_areWaysSo_124 : decode cL_areWaysSo 124 = .ok (.ifCond .ne 18, 3) := by decide +kernel
theorem dL_areWaysSo_127 : decode cL_areWaysSo 127 = .ok (.aload_n 0, 1) := by decide +kernel
theorem dL_areWaysSo_128 : decode cL_areWaysSo 128 = .ok (.iload 10, 2) := by decide +kernel
theorem dL_areWaysSo_130 : decode cL_areWaysSo 130 = .ok (.iconst 3, 1) := by decide +kernel
theorem dL_areWaysSo_131 : decode cL_areWaysSo 131 = .ok (.invokevirtual 48, 3) := by decide +kernel
theorem dL_areWaysSo_134 : decode cL_areWaysSo 134 = .ok (.iload_n 1, 1) := by decide +kernel
theorem dL_areWaysSo_135 : decode cL_areWaysSo 135 = .ok (.ishr, 1) := by decide +kernel
theorem dL_areWaysSo_136 : decode cL_areWaysSo 136 = .ok (.iconst 1, 1) := by decide +kernel
theorem dL_areWaysSo_137 : decode cL_areWaysSo 137 = .ok (.iand, 1) := by decide +kernel
theorem dL_areWaysSo_138 : decode cL_areWaysSo 138 = .ok (.iconst 1, 1) := by decide +kernel
theorem dL_areWaysSo_139 : decode cL_areWaysSo 139 = .ok (.if_icmp .ne 7, 3) := by decide +kernel
theorem dL_areWaysSo_142 : decode cL_areWaysSo 142 = .ok (.iconst 1, 1) := by decide +kernel
theorem dL_areWaysSo_143 : decode cL_areWaysSo 143 = .ok (.goto 4, 3) := by decide +kernel
theorem dL_areWaysSo_146 : decode cL_areWaysSo 146 = .ok (.iconst 0, 1) := by decide +kernel
theorem dL_areWaysSo_147 : decode cL_areWaysSo 147 = .ok (.istore 7, 2) := by decide +kernel
theorem dL_areWaysSo_149 : decode cL_areWaysSo 149 = .ok (.iinc 9 1, 3) := by decide +kernel
theorem dL_areWaysSo_152 : decode cL_areWaysSo 152 = .ok (.goto (-63), 3) := by decide +kernel
theorem dL_areWaysSo_155 : decode cL_areWaysSo 155 = .ok (.iinc 8 1, 3) := by decide +kernel
theorem dL_areWaysSo_158 : decode cL_areWaysSo 158 = .ok (.goto (-78), 3) := by decide +kernel
theorem dL_areWaysSo_161 : decode cL_areWaysSo 161 = .ok (.iload 7, 2) := by decide +kernel
theorem dL_areWaysSo_163 : decode cL_areWaysSo 163 = .ok (.iload 5, 2) := by decide +kernel
theorem dL_areWaysSo_165 : decode cL_areWaysSo 165 = .ok (.iload_n 2, 1) := by decide +kernel
theorem dL_areWaysSo_166 : decode cL_areWaysSo 166 = .ok (.if_icmp .ne 7, 3) := by decide +kernel
theorem dL_areWaysSo_169 : decode cL_areWaysSo 169 = .ok (.iconst 1, 1) := by decide +kernel
theorem dL_areWaysSo_170 : decode cL_areWaysSo 170 = .ok (.goto 4, 3) := by decide +kernel
theorem dL_areWaysSo_173 : decode cL_areWaysSo 173 = .ok (.iconst 0, 1) := by decide +kernel
theorem dL_areWaysSo_174 : decode cL_areWaysSo 174 = .ok (.if_icmp .eq 5, 3) := by decide +kernel
theorem dL_areWaysSo_177 : decode cL_areWaysSo 177 = .ok (.iconst 0, 1) := by decide +kernel
theorem dL_areWaysSo_178 : decode cL_areWaysSo 178 = .ok (.ireturn, 1) := by decide +kernel
theorem dL_areWaysSo_179 : decode cL_areWaysSo 179 = .ok (.aload 6, 2) := by decide +kernel
theorem dL_areWaysSo_181 : decode cL_areWaysSo 181 = .ok (.astore 4, 2) := by decide +kernel
theorem dL_areWaysSo_183 : decode cL_areWaysSo 183 = .ok (.iinc 5 1, 3) := by decide +kernel
theorem dL_areWaysSo_186 : decode cL_areWaysSo 186 = .ok (.goto (-124), 3) := by decide +kernel
theorem dL_areWaysSo_189 : decode cL_areWaysSo 189 = .ok (.iload_n 2, 1) := by decide +kernel
theorem dL_areWaysSo_190 : decode cL_areWaysSo 190 = .ok (.iconst 1, 1) := by decide +kernel
theorem dL_areWaysSo_191 : decode cL_areWaysSo 191 = .ok (.if_icmp .lt 13, 3) := by decide +kernel
theorem dL_areWaysSo_194 : decode cL_areWaysSo 194 = .ok (.iload_n 2, 1) := by decide +kernel
theorem dL_areWaysSo_195 : decode cL_areWaysSo 195 = .ok (.bipush 8, 2) := by decide +kernel
theorem dL_areWaysSo_197 : decode cL_areWaysSo 197 = .ok (.if_icmp .gt 7, 3) := by decide +kernel
theorem dL_areWaysSo_200 : decode cL_areWaysSo 200 = .ok (.iconst 1, 1) := by decide +kernel
theorem dL_areWaysSo_201 : decode cL_areWaysSo 201 = .ok (.goto 4, 3) := by decide +kernel
theorem dL_areWaysSo_204 : decode cL_areWaysSo 204 = .ok (.iconst 0, 1) := by decide +kernel
theorem dL_areWaysSo_205 : decode cL_areWaysSo 205 = .ok (.ireturn, 1) := by decide +kernel
set_option maxRecDepth 20000 in
theorem ggL_law_X5_init : GoodIn wsL_law wsX5_init := goodIn_r _ [5, 6, 7, 8, 9, 10, 11, 12, 13, 14, 15, 16, 17, 18, 19, 20, 21, 22, 23, 24, 25, 26, 27, 28, 29, 30, 31, 32, 33, 34, 35, 36, 37, 38, 39, 40, 41, 42, 43, 44, 45, 46, 47, 48, 49, 50, 51, 52, 53, 2, 54, 55, 56, 57, 58, 59, 411, 412, 413, 414, 415, 416, 417, 418, 419, 420, 406, 407, 408, 409, 410, 421, 422, 423, 424, 425, 426, 427, 428, 429, 430] (by decide +kernel) (by decide +kernel)
set_option maxRecDepth 20000 in
theorem gL_law_X5_init : GoodIn wsL_law (wsX5_init) := ggL_law_X5_init
set_option maxRecDepth 20000 in
theorem ggL_law_L_cell : GoodIn wsL_law wsL_cell := goodIn_r _ [63] (by decide +kernel) (by decide +kernel)
set_option maxRecDepth 20000 in
theorem gL_law_L_cell : GoodIn wsL_law (va_wsS RL 67 yL_cell wsL_cell) := goodIn_app (goodIn_of _ (by decide +kernel)) ggL_law_L_cell
set_option maxRecDepth 20000 in
theorem ggL_law_L_add : GoodIn wsL_law wsL_add := goodIn_ca (goodIn_ca (goodIn_r _ [66, 67, 68, 69, 2, 70, 24, 71, 72, 73, 74, 23, 75, 76, 77, 78, 62, 79, 80, 81, 82, 83, 84, 85, 86, 87, 88, 89, 90, 91, 92, 59, 53, 54, 93, 94, 95, 96, 97, 98, 99, 100, 20, 101, 12, 102, 103, 104, 105, 106, 16, 107, 108, 109, 110, 111, 112, 113, 114, 115, 116, 117, 118, 119, 120, 121, 122, 123, 124, 125, 126, 127, 19, 128, 129, 130, 131, 132, 133, 134, 135, 136, 137, 138, 139, 140, 141, 142, 143, 51, 144, 145, 146, 147, 148, 149, 150, 151, 152, 26, 153, 154, 155, 156, 157, 158, 159, 160, 161, 162, 163, 164, 165, 166, 167, 168, 169, 170, 171, 172, 173, 174, 175, 176, 177, 178, 179, 180, 181, 182, 183, 184, 15, 185, 186, 187, 188, 189, 190, 191, 42, 192, 193, 194, 11, 195, 31, 32, 33, 34, 35, 196, 197, 36, 198, 199, 200, 201, 202, 203, 52, 50, 204, 205, 206, 207, 48, 208, 209, 210, 211, 212, 213, 214, 215, 216, 217, 218, 219, 49, 220, 221, 222, 223, 406, 407, 408, 409, 410, 429, 430, 424, 425, 426, 427, 428, 411, 412, 413, 414, 415, 416, 417, 418, 419, 420, 421, 422, 423] (by decide +kernel) (by decide +kernel)) (goodIn_sub (fun _ h => List.mem_append_left _ (List.mem_append_left _ (List.mem_append_right _ h))) (by decide +kernel))) (goodIn_sub (fun _ h => List.mem_append_left _ (List.mem_append_right _ h)) (by decide +kernel))
set_option maxRecDepth 20000 in
theorem gL_law_L_add : GoodIn wsL_law (va_wsS RL 30 yL_add wsL_add) := goodIn_app (goodIn_of _ (by decide +kernel)) ggL_law_L_add
set_option maxRecDepth 20000 in
theorem ggL_law_L_does : GoodIn wsL_law wsL_does := goodIn_ca (goodIn_ca (goodIn_ca (goodIn_r _ [226, 64, 65, 62, 66, 67, 68, 69, 2, 70, 24, 71, 72, 73, 74, 23, 75, 76, 77, 78, 79, 80, 81, 82, 83, 84, 85, 86, 87, 88, 89, 90, 91, 92, 59, 53, 54, 93, 94, 95, 96, 97, 98, 99, 100, 20, 101, 12, 102, 103, 104, 105, 106, 16, 107, 108, 109, 110, 111, 112, 113, 114, 115, 116, 117, 118, 119, 120, 121, 122, 123, 124, 125, 126, 127, 19, 128, 129, 130, 131, 132, 133, 134, 135, 136, 137, 138, 139, 140, 141, 142, 143, 51, 144, 145, 146, 147, 148, 149, 150, 151, 152, 26, 153, 154, 155, 156, 157, 158, 159, 160, 161, 162, 163, 164, 165, 166, 167, 168, 169, 170, 171, 172, 173, 174, 175, 176, 177, 178, 179, 180, 181, 182, 183, 184, 15, 185, 186, 187, 188, 189, 190, 191, 42, 192, 193, 194, 11, 195, 31, 32, 33, 34, 35, 196, 197, 36, 198, 199, 200, 201, 202, 203, 52, 50, 204, 205, 206, 207, 48, 208, 209, 210, 211, 212, 213, 214, 215, 216, 217, 218, 219, 49, 220, 221, 222, 223, 227, 228, 229, 230, 231, 232, 233, 234, 235, 236, 237, 238, 239, 240, 241, 242, 243, 244, 245, 246, 247, 248, 249, 250, 251, 252, 253, 254, 255, 256, 257, 258, 259, 260, 261, 262, 263, 264, 265, 266, 267, 268, 269, 270, 271, 272, 273, 274, 275, 276, 277, 278, 279, 280, 281, 282, 283, 284, 285, 286, 287, 288, 289, 290, 291, 292, 293, 294, 295, 296, 297, 298, 299, 300, 301, 302, 303, 304, 305, 306, 307, 308, 309, 310, 311, 312, 313, 314, 315, 316, 317, 318, 319, 320, 321, 322, 323, 324, 325, 326, 327, 328, 329, 406, 407, 408, 409, 410, 429, 430, 424, 425, 426, 427, 428, 411, 412, 413, 414, 415, 416, 417, 418, 419, 420, 421, 422, 423] (by decide +kernel) (by decide +kernel)) (goodIn_sub (fun _ h => List.mem_append_left _ (List.mem_append_left _ (List.mem_append_right _ h))) (by decide +kernel))) (goodIn_sub (fun _ h => List.mem_append_left _ (List.mem_append_right _ h)) (by decide +kernel))) (goodIn_sub (fun _ h => List.mem_append_right _ h) (by decide +kernel))
set_option maxRecDepth 20000 in
theorem gL_law_L_does : GoodIn wsL_law (va_wsS RL 71 yL_does wsL_does) := goodIn_app (goodIn_of _ (by decide +kernel)) ggL_law_L_does
set_option maxRecDepth 20000 in
theorem ggL_law_L_low : GoodIn wsL_law wsL_low := goodIn_r _ [79, 80] (by decide +kernel) (by decide +kernel)
set_option maxRecDepth 20000 in
theorem gL_law_L_low : GoodIn wsL_law (va_wsS RL 14 yL_low wsL_low) := goodIn_app (goodIn_of _ (by decide +kernel)) ggL_law_L_low
set_option maxRecDepth 20000 in
theorem ggL_law_L_isFedSo : GoodIn wsL_law wsL_isFedSo := goodIn_ca (goodIn_ca (goodIn_ca (goodIn_r _ [332, 93, 94, 95, 2, 96, 85, 86, 97, 98, 99, 100, 20, 101, 12, 102, 103, 104, 105, 106, 16, 107, 108, 109, 110, 111, 112, 113, 114, 115, 116, 117, 118, 119, 120, 121, 122, 123, 124, 125, 126, 127, 19, 128, 129, 130, 131, 132, 133, 134, 135, 136, 137, 138, 139, 140, 141, 142, 143, 51, 144, 145, 146, 147, 148, 333, 334, 335, 336, 286, 287, 288, 337, 338, 339, 340, 293, 299, 300, 301, 302, 49, 303, 304, 305, 306, 48, 307, 175, 176, 294, 295, 296, 297, 298, 272, 323, 324, 325, 326, 327, 328, 329, 341, 342, 343, 227, 228, 229, 230, 231, 232, 233, 234, 235, 236, 237, 238, 239, 240, 241, 242, 243, 244, 245, 246, 247, 248, 249, 209, 210, 250, 251, 252, 253, 254, 255, 256, 257, 258, 259, 344, 345, 346, 347, 348, 349, 350, 351, 352, 353, 354, 355, 356, 357, 358, 359, 360, 361, 362, 363, 364, 365, 282, 283, 284, 285, 87, 88, 182, 183, 184, 15, 185, 186, 187, 188, 189, 190, 191, 42, 192, 193, 194, 11, 195, 31, 32, 33, 34, 35, 196, 197, 36, 198, 199, 53, 54, 289, 290, 291, 292, 308, 309, 310, 311, 312, 313, 314, 315, 316, 317, 318, 319, 174, 320, 321, 322, 366, 367, 368, 369, 370, 371, 372, 373, 200, 201, 202, 203, 52, 50, 204, 205, 206, 207, 208, 211, 212, 213, 214, 215, 216, 217, 218, 219, 220, 221, 222, 223, 406, 407, 408, 409, 410, 424, 425, 426, 427, 428, 411, 412, 413, 414, 415, 416, 417, 418, 419, 420, 421, 422, 423] (by decide +kernel) (by decide +kernel)) (goodIn_sub (fun _ h => List.mem_append_left _ (List.mem_append_left _ (List.mem_append_right _ h))) (by decide +kernel))) (goodIn_sub (fun _ h => List.mem_append_right _ h) (by decide +kernel))) (goodIn_sub (fun _ h => List.mem_append_left _ (List.mem_append_right _ h)) (by decide +kernel))
set_option maxRecDepth 20000 in
theorem gL_law_L_isFedSo : GoodIn wsL_law (va_wsS RL 74 yL_isFedSo wsL_isFedSo) := goodIn_app (goodIn_of _ (by decide +kernel)) ggL_law_L_isFedSo
set_option maxRecDepth 20000 in
theorem ggL_law_X5_count : GoodIn wsL_law wsX5_count := goodIn_ca (goodIn_r _ [96, 85, 86, 97, 98, 99, 2, 100, 20, 101, 12, 102, 103, 104, 105, 106, 16, 107, 108, 109, 110, 111, 112, 113, 114, 115, 116, 117, 118, 119, 120, 121, 122, 123, 124, 125, 126, 127, 19, 128, 129, 130, 131, 132, 133, 134, 135, 136, 137, 138, 139, 140, 141, 142, 143, 51, 144, 145, 146, 147, 148, 406, 407, 408, 409, 410, 424, 425, 426, 427, 428, 411, 412, 413, 414, 415, 416, 417, 418, 419, 420, 421, 422, 423] (by decide +kernel) (by decide +kernel)) (goodIn_sub (fun _ h => List.mem_append_left _ (List.mem_append_left _ (List.mem_append_right _ h))) (by decide +kernel))
set_option maxRecDepth 20000 in
theorem gL_law_X5_count : GoodIn wsL_law (wsV RL 24 RX5 yX5_count wsX5_count) := goodIn_app (goodIn_of _ (by decide +kernel)) ggL_law_X5_count
set_option maxRecDepth 20000 in
theorem ggL_law_L_areStatesSo : GoodIn wsL_law wsL_areStatesSo := goodIn_ca (goodIn_ca (goodIn_r _ [376, 93, 94, 95, 2, 96, 85, 86, 97, 98, 99, 100, 20, 101, 12, 102, 103, 104, 105, 106, 16, 107, 108, 109, 110, 111, 112, 113, 114, 115, 116, 117, 118, 119, 120, 121, 122, 123, 124, 125, 126, 127, 19, 128, 129, 130, 131, 132, 133, 134, 135, 136, 137, 138, 139, 140, 141, 142, 143, 51, 144, 145, 146, 147, 148, 344, 345, 346, 347, 231, 232, 348, 349, 350, 351, 352, 353, 298, 354, 355, 356, 357, 358, 359, 360, 361, 293, 227, 228, 229, 230, 233, 234, 235, 236, 237, 238, 239, 240, 241, 242, 243, 244, 245, 246, 247, 248, 249, 209, 210, 250, 251, 252, 253, 254, 255, 256, 257, 258, 259, 377, 378, 379, 380, 381, 406, 407, 408, 409, 410, 424, 425, 426, 427, 428, 411, 412, 413, 414, 415, 416, 417, 418, 419, 420, 421, 422, 423] (by decide +kernel) (by decide +kernel)) (goodIn_sub (fun _ h => List.mem_append_left _ (List.mem_append_left _ (List.mem_append_right _ h))) (by decide +kernel))) (goodIn_sub (fun _ h => List.mem_append_right _ h) (by decide +kernel))
set_option maxRecDepth 20000 in
theorem gL_law_L_areStatesSo : GoodIn wsL_law (va_wsS RL 78 yL_areStatesSo wsL_areStatesSo) := goodIn_app (goodIn_of _ (by decide +kernel)) ggL_law_L_areStatesSo
set_option maxRecDepth 20000 in
theorem ggL_law_L_areWaysSo : GoodIn wsL_law wsL_areWaysSo := goodIn_ca (goodIn_ca (goodIn_r _ [384, 25, 385, 386, 387, 2, 388, 231, 232, 233, 234, 235, 112, 113, 114, 115, 12, 116, 117, 118, 119, 389, 390, 391, 392, 20, 352, 120, 121, 122, 123, 124, 125, 126, 127, 19, 128, 129, 130, 131, 132, 133, 134, 135, 136, 137, 138, 139, 140, 141, 142, 143, 51, 148, 393, 209, 210, 394, 251, 252, 253, 254, 255, 93, 94, 95, 96, 85, 86, 97, 98, 99, 100, 101, 102, 103, 104, 105, 106, 16, 107, 108, 109, 110, 111, 144, 145, 146, 147, 227, 228, 229, 230, 236, 237, 238, 239, 240, 241, 242, 243, 244, 245, 246, 247, 248, 249, 250, 256, 257, 258, 259, 344, 345, 346, 347, 348, 349, 350, 351, 353, 298, 354, 355, 356, 357, 358, 359, 360, 361, 293, 406, 407, 408, 409, 410, 411, 412, 413, 414, 415, 416, 417, 418, 419, 420, 424, 425, 426, 427, 428, 421, 422, 423] (by decide +kernel) (by decide +kernel)) (goodIn_sub (fun _ h => List.mem_append_right _ h) (by decide +kernel))) (goodIn_sub (fun _ h => List.mem_append_left _ (List.mem_append_left _ (List.mem_append_right _ h))) (by decide +kernel))
set_option maxRecDepth 20000 in
theorem gL_law_L_areWaysSo : GoodIn wsL_law (va_wsS RL 82 yL_areWaysSo wsL_areWaysSo) := goodIn_app (goodIn_of _ (by decide +kernel)) ggL_law_L_areWaysSo
set_option maxRecDepth 20000 in
theorem ggL_law_X5_ifFed : GoodIn wsL_law wsX5_ifFed := goodIn_ca (goodIn_r _ [336, 85, 86, 286, 287, 2, 288, 337, 338, 339, 340, 20, 12, 102, 104, 120, 121, 122, 123, 124, 125, 126, 127, 19, 128, 129, 130, 131, 132, 133, 134, 135, 136, 137, 138, 139, 140, 141, 142, 143, 51, 118, 119, 293, 299, 300, 301, 302, 49, 303, 304, 305, 306, 48, 307, 175, 176, 294, 295, 296, 297, 298, 272, 117, 112, 113, 114, 115, 116, 148, 323, 324, 325, 326, 327, 328, 329, 341, 342, 343, 406, 407, 408, 409, 410, 411, 412, 413, 414, 415, 416, 417, 418, 419, 420, 424, 425, 426, 427, 428] (by decide +kernel) (by decide +kernel)) (goodIn_sub (fun _ h => List.mem_append_left _ (List.mem_append_left _ (List.mem_append_right _ h))) (by decide +kernel))
set_option maxRecDepth 20000 in
theorem gL_law_X5_ifFed : GoodIn wsL_law (wsV RL 54 RX5 yX5_ifFed wsX5_ifFed) := goodIn_app (goodIn_of _ (by decide +kernel)) ggL_law_X5_ifFed
set_option maxRecDepth 20000 in
theorem ggL_law_X5_setting : GoodIn wsL_law wsX5_setting := goodIn_r _ [365, 12, 272, 406, 407, 408, 409, 410, 411, 412, 413, 414, 415, 416, 417, 418, 419, 420] (by decide +kernel) (by decide +kernel)
set_option maxRecDepth 20000 in
theorem gL_law_X5_setting : GoodIn wsL_law (wsV RL 57 RX5 yX5_setting wsX5_setting) := goodIn_app (goodIn_of _ (by decide +kernel)) ggL_law_X5_setting
set_option maxRecDepth 20000 in
theorem ggL_law_X5_state : GoodIn wsL_law wsX5_state := goodIn_ca (goodIn_ca (goodIn_r _ [347, 231, 232, 85, 86, 20, 101, 348, 349, 350, 2, 351, 352, 353, 298, 117, 118, 119, 148, 130, 131, 132, 354, 138, 139, 355, 356, 357, 358, 112, 113, 114, 115, 12, 116, 359, 360, 361, 136, 293, 141, 142, 19, 143, 51, 406, 407, 408, 409, 410, 424, 425, 426, 427, 428, 411, 412, 413, 414, 415, 416, 417, 418, 419, 420] (by decide +kernel) (by decide +kernel)) (goodIn_sub (fun _ h => List.mem_append_right _ h) (by decide +kernel))) (goodIn_sub (fun _ h => List.mem_append_left _ (List.mem_append_left _ (List.mem_append_right _ h))) (by decide +kernel))
set_option maxRecDepth 20000 in
theorem gL_law_X5_state : GoodIn wsL_law (wsV RL 48 RX5 yX5_state wsX5_state) := goodIn_app (goodIn_of _ (by decide +kernel)) ggL_law_X5_state
set_option maxRecDepth 20000 in
theorem ggL_law_L_bits : GoodIn wsL_law wsL_bits := goodIn_r _ [397] (by decide +kernel) (by decide +kernel)
set_option maxRecDepth 20000 in
theorem gL_law_L_bits : GoodIn wsL_law (va_wsS RL 85 yL_bits wsL_bits) := goodIn_app (goodIn_of _ (by decide +kernel)) ggL_law_L_bits
set_option maxRecDepth 20000 in
theorem ggL_law_X5_ifRepeated : GoodIn wsL_law wsX5_ifRepeated := goodIn_ca (goodIn_r _ [401, 85, 86, 286, 287, 2, 288, 402, 403, 404, 405, 12, 104, 20, 102, 120, 121, 122, 123, 124, 125, 126, 127, 19, 128, 129, 130, 131, 132, 133, 134, 135, 136, 137, 138, 139, 140, 141, 142, 143, 51, 118, 119, 293, 294, 295, 296, 297, 298, 272, 117, 112, 113, 114, 115, 116, 148, 323, 324, 325, 326, 327, 328, 329, 406, 407, 408, 409, 410, 411, 412, 413, 414, 415, 416, 417, 418, 419, 420, 424, 425, 426, 427, 428] (by decide +kernel) (by decide +kernel)) (goodIn_sub (fun _ h => List.mem_append_left _ (List.mem_append_left _ (List.mem_append_right _ h))) (by decide +kernel))
set_option maxRecDepth 20000 in
theorem gL_law_X5_ifRepeated : GoodIn wsL_law (wsV RL 88 RX5 yX5_ifRepeated wsX5_ifRepeated) := goodIn_app (goodIn_of _ (by decide +kernel)) ggL_law_X5_ifRepeated
theorem dL_law_0 : decode cL_law 0 = .ok (.new 9, 3) := by decide +kernel
theorem dL_law_3 : decode cL_law 3 = .ok (.dup, 1) := by decide +kernel
theorem dL_law_4 : decode cL_law 4 = .ok (.invokespecial 66, 3) := by decide +kernel
theorem dL_law_7 : decode cL_law 7 = .ok (.astore_n 1, 1) := by decide +kernel
theorem dL_law_8 : decode cL_law 8 = .ok (.aload_n 1, 1) := by decide +kernel
theorem dL_law_9 : decode cL_law 9 = .ok (.aload_n 0, 1) := by decide +kernel
theorem dL_law_10 : decode cL_law 10 = .ok (.iconst 0, 1) := by decide +kernel
theorem dL_law_11 : decode cL_law 11 = .ok (.invokestatic 67, 3) := by decide +kernel
theorem dL_law_14 : decode cL_law 14 = .ok (.invokestatic 30, 3) := by decide +kernel
theorem dL_law_17 : decode cL_law 17 = .ok (.iconst 1, 1) := by decide +kernel
theorem dL_law_18 : decode cL_law 18 = .ok (.istore_n 2, 1) := by decide +kernel
theorem dL_law_19 : decode cL_law 19 = .ok (.iload_n 2, 1) := by decide +kernel
theorem dL_law_20 : decode cL_law 20 = .ok (.bipush 40, 2) := by decide +kernel
theorem dL_law_22 : decode cL_law 22 = .ok (.if_icmp .ge 150, 3) := by decide +kernel
theorem dL_law_25 : decode cL_law 25 = .ok (.aload_n 0, 1) := by decide +kernel
theorem dL_law_26 : decode cL_law 26 = .ok (.iload_n 2, 1) := by decide +kernel
theorem dL_law_27 : decode cL_law 27 = .ok (.invokestatic 67, 3) := by decide +kernel
theorem dL_law_30 : decode cL_law 30 = .ok (.istore_n 3, 1) := by decide +kernel
theorem dL_law_31 : decode cL_law 31 = .ok (.aload_n 1, 1) := by decide +kernel
theorem dL_law_32 : decode cL_law 32 = .ok (.iload_n 3, 1) := by decide +kernel
theorem dL_law_33 : decode cL_law 33 = .ok (.invokestatic 71, 3) := by decide +kernel
theorem dL_law_36 : decode cL_law 36 = .ok (.aload_n 1, 1) := by decide +kernel
theorem dL_law_37 : decode cL_law 37 = .ok (.iload_n 3, 1) := by decide +kernel
theorem dL_law_38 : decode cL_law 38 = .ok (.iconst 5, 1) := by decide +kernel
theorem dL_law_39 : decode cL_law 39 = .ok (.ishr, 1) := by decide +kernel
theorem dL_law_40 : decode cL_law 40 = .ok (.iconst 4, 1) := by decide +kernel
theorem dL_law_41 : decode cL_law 41 = .ok (.invokestatic 14, 3) := by decide +kernel
theorem dL_law_44 : decode cL_law 44 = .ok (.invokestatic 74, 3) := by decide +kernel
theorem dL_law_47 : decode cL_law 47 = .ok (.ifCond .eq 52, 3) := by decide +kernel
theorem dL_law_50 : decode cL_law 50 = .ok (.aload_n 1, 1) := by decide +kernel
theorem dL_law_51 : decode cL_law 51 = .ok (.iconst 5, 1) := by decide +kernel
theorem dL_law_52 : decode cL_law 52 = .ok (.invokevirtual 24, 3) := by decide +kernel
theorem dL_law_55 : decode cL_law 55 = .ok (.aload_n 1, 1) := by decide +kernel
theorem dL_law_56 : decode cL_law 56 = .ok (.iconst 3, 1) := by decide +kernel
theorem dL_law_57 : decode cL_law 57 = .ok (.invokevirtual 24, 3) := by decide +kernel
theorem dL_law_60 : decode cL_law 60 = .ok (.if_icmp .ge 39, 3) := by decide +kernel
theorem dL_law_63 : decode cL_law 63 = .ok (.iload_n 2, 1) := by decide +kernel
theorem dL_law_64 : decode cL_law 64 = .ok (.iconst 5, 1) := by decide +kernel
theorem dL_law_65 : decode cL_law 65 = .ok (.irem, 1) := by decide +kernel
theorem dL_law_66 : decode cL_law 66 = .ok (.ifCond .ne 10, 3) := by decide +kernel
theorem dL_law_69 : decode cL_law 69 = .ok (.aload_n 1, 1) := by decide +kernel
theorem dL_law_70 : decode cL_law 70 = .ok (.invokestatic 78, 3) := by decide +kernel
theorem dL_law_73 : decode cL_law 73 = .ok (.ifCond .eq 26, 3) := by decide +kernel
theorem dL_law_76 : decode cL_law 76 = .ok (.iload_n 2, 1) := by decide +kernel
theorem dL_law_77 : decode cL_law 77 = .ok (.bipush 8, 2) := by decide +kernel
theorem dL_law_79 : decode cL_law 79 = .ok (.irem, 1) := by decide +kernel
theorem dL_law_80 : decode cL_law 80 = .ok (.bipush 7, 2) := by decide +kernel
theorem dL_law_82 : decode cL_law 82 = .ok (.if_icmp .ne 19, 3) := by decide +kernel
theorem dL_law_85 : decode cL_law 85 = .ok (.aload_n 1, 1) := by decide +kernel
theorem dL_law_86 : decode cL_law 86 = .ok (.iload_n 3, 1) := by decide +kernel
theorem dL_law_87 : decode cL_law 87 = .ok (.bipush 6, 2) := by decide +kernel
theorem dL_law_89 : decode cL_law 89 = .ok (.ishr, 1) := by decide +kernel
theorem dL_law_90 : decode cL_law 90 = .ok (.bipush 7, 2) := by decide +kernel
theorem dL_law_92 : decode cL_law 92 = .ok (.iand, 1) := by decide +kernel
theorem dL_law_93 : decode cL_law 93 = .ok (.invokestatic 82, 3) := by decide +kernel
theorem dL_law_96 : decode cL_law 96 = .ok (.ifCond .ne 5, 3) := by decide +kernel
theorem dL_law_99 : decode cL_law 99 = .ok (.iconst 0, 1) := by decide +kernel
theorem dL_law_100 : decode cL_law 100 = .ok (.ireturn, 1) := by decide +kernel
theorem dL_law_101 : decode cL_law 101 = .ok (.iload_n 3, 1) := by decide +kernel
theorem dL_law_102 : decode cL_law 102 = .ok (.bipush 7, 2) := by decide +kernel
theorem dL_law_104 : decode cL_law 104 = .ok (.ishr, 1) := by decide +kernel
theorem dL_law_105 : decode cL_law 105 = .ok (.iconst 4, 1) := by decide +kernel
theorem dL_law_106 : decode cL_law 106 = .ok (.invokestatic 14, 3) := by decide +kernel
theorem dL_law_109 : decode cL_law 109 = .ok (.istore 4, 2) := by decide +kernel
theorem dL_law_111 : decode cL_law 111 = .ok (.aload_n 1, 1) := by decide +kernel
theorem dL_law_112 : decode cL_law 112 = .ok (.iload 4, 2) := by decide +kernel
theorem dL_law_114 : decode cL_law 114 = .ok (.iconst 0, 1) := by decide +kernel
theorem dL_law_115 : decode cL_law 115 = .ok (.invokevirtual 54, 3) := by decide +kernel
theorem dL_law_118 : decode cL_law 118 = .ok (.istore 5, 2) := by decide +kernel
theorem dL_law_120 : decode cL_law 120 = .ok (.aload_n 1, 1) := by decide +kernel
theorem dL_law_121 : decode cL_law 121 = .ok (.invokevirtual 57, 3) := by decide +kernel
theorem dL_law_124 : decode cL_law 124 = .ok (.ifCond .ne 23, 3) := by decide +kernel
theorem dL_law_127 : decode cL_law 127 = .ok (.aload_n 1, 1) := by decide +kernel
theorem dL_law_128 : decode cL_law 128 = .ok (.iload 4, 2) := by decide +kernel
theorem dL_law_130 : decode cL_law 130 = .ok (.iconst 2, 1) := by decide +kernel
theorem dL_law_131 : decode cL_law 131 = .ok (.invokevirtual 54, 3) := by decide +kernel
theorem dL_law_134 : decode cL_law 134 = .ok (.aload_n 1, 1) := by decide +kernel
theorem dL_law_135 : decode cL_law 135 = .ok (.iload 5, 2) := by decide +kernel
theorem dL_law_137 : decode cL_law 137 = .ok (.iconst 3, 1) := by decide +kernel
theorem dL_law_138 : decode cL_law 138 = .ok (.invokevirtual 48, 3) := by decide +kernel
theorem dL_law_141 : decode cL_law 141 = .ok (.invokestatic 85, 3) := by decide +kernel
theorem dL_law_144 : decode cL_law 144 = .ok (.if_icmp .ne 20, 3) := by decide +kernel
theorem dL_law_147 : decode cL_law 147 = .ok (.aload_n 1, 1) := by decide +kernel
theorem dL_law_148 : decode cL_law 148 = .ok (.iload 4, 2) := by decide +kernel
theorem dL_law_150 : decode cL_law 150 = .ok (.iconst 1, 1) := by decide +kernel
theorem dL_law_151 : decode cL_law 151 = .ok (.invokevirtual 88, 3) := by decide +kernel
theorem dL_law_154 : decode cL_law 154 = .ok (.aload_n 1, 1) := by decide +kernel
theorem dL_law_155 : decode cL_law 155 = .ok (.iload 4, 2) := by decide +kernel
theorem dL_law_157 : decode cL_law 157 = .ok (.iconst 2, 1) := by decide +kernel
theorem dL_law_158 : decode cL_law 158 = .ok (.invokevirtual 54, 3) := by decide +kernel
theorem dL_law_161 : decode cL_law 161 = .ok (.if_icmp .eq 5, 3) := by decide +kernel
theorem dL_law_164 : decode cL_law 164 = .ok (.iconst 0, 1) := by decide +kernel
theorem dL_law_165 : decode cL_law 165 = .ok (.ireturn, 1) := by decide +kernel
theorem dL_law_166 : decode cL_law 166 = .ok (.iinc 2 1, 3) := by decide +kernel
theorem dL_law_169 : decode cL_law 169 = .ok (.goto (-150), 3) := by decide +kernel
theorem dL_law_172 : decode cL_law 172 = .ok (.iconst 1, 1) := by decide +kernel
theorem dL_law_173 : decode cL_law 173 = .ok (.ireturn, 1) := by decide +kernel
abbrev vwCl : List vw_C := [(RX0, TX0, 2), (RX1, TX1, 5), (RX2, TX2, 10), (RX4, TX4, 3), (RX5, TX5, 5)]
end
section
/-! what the walks are made of: values that are computed beside the machine, and the rows of calls and ends -/
def nm {α β : Type} (e : α) (K : α → Option β) : Option β := K e
def grd {β : Type} (b : Bool) (x : Option β) : Option β := match b with
  | true => x
  | false => none
def bnd {α β : Type} (o : Option α) (K : α → Option β) : Option β := match o with
  | some a => K a
  | none => none
def jp {γ β : Type} (J : γ) (f : γ → Option β) : Option β := f J
def inb (i : Int32) (n : Nat) : Bool := decide (0 ≤ i) && decide (i.toNatClampNeg < n)
def bo (x : Int32) : Bool := decide (x = 0) || decide (x = 1)
def nnan (x : UInt64) : Bool := decide (x &&& 0x7fffffffffffffff ≤ 0x7ff0000000000000)
theorem nm_s {α β : Type} {e x : α} {K : α → Option β} {r : Option β} (h : nm e K = r) (ex : x = e) : K x = r := by subst ex; exact h
theorem nm_x {α β : Type} {e : α} {K : α → Option β} {r : Option β} (h : nm e K = r) : ∃ x, x = e ∧ K x = r := ⟨e, rfl, h⟩
theorem grd_s {β : Type} {b : Bool} {x : Option β} {r : β} (h : grd b x = some r) : b = true ∧ x = some r := by
  cases b with
  | false => cases h
  | true => exact ⟨rfl, h⟩
theorem bnd_s {α β : Type} {o : Option α} {K : α → Option β} {r : β} (h : bnd o K = some r) : ∃ a, o = some a ∧ K a = some r := by
  cases o with
  | none => cases h
  | some a => exact ⟨a, rfl, h⟩
theorem jp_s {γ β : Type} {J : γ} {f : γ → Option β} {r : Option β} (h : jp J f = r) : ∃ j, j = J ∧ f j = r := ⟨J, rfl, h⟩
theorem if_s {β : Type} {c : Prop} {x : Decidable c} {a b r : Option β} (h : (if c then a else b) = r) (hc : c) : a = r := by rw [if_pos hc] at h; exact h
theorem ifn_s {β : Type} {c : Prop} {x : Decidable c} {a b r : Option β} (h : (if c then a else b) = r) (hc : ¬ c) : b = r := by rw [if_neg hc] at h; exact h
theorem inb_in {i : Int32} {n : Nat} (h : inb i n = true) : vp_in i n := by
  unfold inb at h
  simp only [Bool.and_eq_true, decide_eq_true_eq] at h
  intro h2
  rcases h2 with h2 | h2
  · exact absurd h.1 (by rw [Int32.not_le]; exact h2)
  · omega
theorem bo_n {x : Int32} (h : bo x = true) : narrow .boolean (.int x) = .int x ∧ fits .boolean (.int x) = true := by
  unfold bo at h
  simp only [Bool.or_eq_true, decide_eq_true_eq] at h
  rcases h with h | h <;> subst h <;> exact ⟨rfl, by decide +kernel⟩
theorem nnan_n {x : UInt64} (h : nnan x = true) : vf_n64 x := by
  have h1 : x &&& 0x7fffffffffffffff ≤ 0x7ff0000000000000 := of_decide_eq_true h
  exact h1
theorem no_none {β : Type} {r : β} {P : Prop} (h : (none : Option β) = some r) : P := by cases h
abbrev mTy (cI cM cL : ClassId) : List (ClassId × FieldType) := [(cI, .int), (cM, .object "FallingPatterns$Memory"), (cL, .long)]
/-- the links of one nest -/
def mNw (U : State) : Prop := va_Nw (.methodLinkNest RX0 27 yX5_at "FallingPatterns") U ∧ va_Nw (.methodLinkNest RX0 19 yX5_put "FallingPatterns") U ∧ va_Nw (.methodLinkNest RX1 36 yX5_at "FallingPatterns") U ∧ va_Nw (.methodLinkNest RX1 24 yX5_put "FallingPatterns") U ∧ va_Nw (.methodLinkNest RX2 31 yX5_at "FallingPatterns") U ∧ va_Nw (.methodLinkNest RX2 35 yX5_put "FallingPatterns") U
theorem mNw.warm {s U : State} (hW : s.WarmedH U.vm) (h : mNw s) : mNw U := ⟨va_Nw.warmM hW h.1, va_Nw.warmM hW h.2.1, va_Nw.warmM hW h.2.2.1, va_Nw.warmM hW h.2.2.2.1, va_Nw.warmM hW h.2.2.2.2.1, va_Nw.warmM hW h.2.2.2.2.2⟩
theorem mNw.same {u U : State} (hv : u.vm = U.vm) (h : mNw u) : mNw U := ⟨va_Nw.same rfl hv h.1, va_Nw.same rfl hv h.2.1, va_Nw.same rfl hv h.2.2.1, va_Nw.same rfl hv h.2.2.2.1, va_Nw.same rfl hv h.2.2.2.2.1, va_Nw.same rfl hv h.2.2.2.2.2⟩
def mB (D : va_G) (T : List (ClassId × FieldType)) (sz : Nat) (ws : va_W) (U : State) : Prop := U.heap.size = sz ∧ va_P D vwCl ws U.heap ∧ va_K D vwCl T U ∧ mNw U ∧ va_D (fun _ => True) ws
def mE (D : va_G) (A : Nat → Prop) (ws : va_W) (t : State) : Prop := va_P D vwCl ws t.heap ∧ va_D A ws
abbrev mQi (D : va_G) (A : Nat → Prop) (ws : va_W) (r0 : Int32) : Array Value → State → Outcome → State → Prop := va_Qi (fun (r : Int32) (_ : Unit) => r = r0) (fun _ => mE D A ws) A
abbrev mQl (D : va_G) (A : Nat → Prop) (ws : va_W) (r0 : Int64) : Array Value → State → Outcome → State → Prop := va_Ql (fun (r : Int64) (_ : Unit) => r = r0) (fun _ => mE D A ws) A
abbrev mQd (D : va_G) (A : Nat → Prop) (ws : va_W) (r0 : UInt64) : Array Value → State → Outcome → State → Prop := va_Qd (fun (r : UInt64) (_ : Unit) => r = r0) (fun _ => mE D A ws) A
abbrev mQv (D : va_G) (A : Nat → Prop) (ws : va_W) : Array Value → State → Outcome → State → Prop := va_Qv (fun (_ : Unit) => True) (fun _ => mE D A ws) A
theorem mBlind {av : List Value} {D : va_G} {T : List (ClassId × FieldType)} {sz : Nat} {ws : va_W} : FrameBlind (va_Pc av (mB D T sz ws)) := fun a U g mk q => by
  obtain ⟨q0, q1, qP, qK, qN, qD⟩ := q
  exact ⟨q0, q1, qP, va_K.moved (u := U) (U := U.calling g mk a) (Vm.Alike.refl U.vm) qK, mNw.same (u := U) (U := U.calling g mk a) rfl qN, qD⟩
theorem mSubP {D : va_G} {cl : List vw_C} {ws wc : va_W} {H : Heap} (hP : va_P D cl ws H) (is : List Nat) (hC : is.map (fun i => ws[i]?) = wc.map some) : va_P D cl wc H := by
  intro k q hq
  have h1 : (wc.map some)[k]? = some (some q) := by rw [List.getElem?_map, hq]; rfl
  rw [← hC, List.getElem?_map] at h1
  cases hi : is[k]? with
  | none => rw [hi] at h1; cases h1
  | some i =>
    rw [hi] at h1
    exact hP i q (Option.some.inj h1)
theorem mPreV {s : State} {H : Heap} {D : va_G} {T : List (ClassId × FieldType)} {ws wc : va_W} {A0 : Nat → Prop} {b ci q0 : Nat} {As : List Value} {r : vw_C} {fs : List Value} (hP : va_P D vwCl ws H) (hD : va_D A0 ws) (hK : va_K D vwCl T s) (hN : mNw s) (is : List Nat) (hnd : va_nd is = true) (hC : is.map (fun i => ws[i]?) = wc.map some) (hc : vwCl[ci]? = some r) (he : wc[q0]? = some (b, .inr (ci, fs))) : PreV s H r.1 b (va_Pc (.ref b :: As) (mB D T H.size wc)) As :=
  ⟨mBlind, va_recv hK (mSubP hP is hC) hc he, fun U hU hW => ⟨rfl, by rw [hU], by rw [hU]; exact mSubP hP is hC, va_K.moved hW.alike hK, hN.warm hW, (hD.sub is hnd hC).weaken (fun _ _ _ _ => trivial)⟩⟩
theorem mPreS {s : State} {H : Heap} {D : va_G} {T : List (ClassId × FieldType)} {ws wc : va_W} {A0 : Nat → Prop} {As : List Value} (hP : va_P D vwCl ws H) (hD : va_D A0 ws) (hK : va_K D vwCl T s) (hN : mNw s) (is : List Nat) (hnd : va_nd is = true) (hC : is.map (fun i => ws[i]?) = wc.map some) : PreS s H (va_Pc As (mB D T H.size wc)) As :=
  ⟨mBlind, fun U hU hW => ⟨rfl, by rw [hU], by rw [hU]; exact mSubP hP is hC, va_K.moved hW.alike hK, hN.warm hW, (hD.sub is hnd hC).weaken (fun _ _ _ _ => trivial)⟩⟩
section MZ
variable {p : Program} {l : Launch} {e : Env} {R : Room} {s : State} {m : MethodId} {args : Array Value} {below : List Frame} {meth : Method} {c : Code} {H : Heap} {locs : List Loc} {cells slots : Nat} {Q : State → Prop}
variable {pc : Nat} {ls : Array Slot} {rest st0 : List Value} {a : Array Value} {A0 A : Nat → Prop} {H0 : Heap} {D : va_G} {ws wc wr wc' : va_W} {cc : ByteArray}
theorem m_ci {r0 : Int32} (hr : va_Run p l e R s m args below meth c H locs cells slots 0 0 (F0 m pc ls st0) rest (mQi D (va_A wc H.size) wc' r0 a) (va_A wc H.size)) (hP : va_P D vwCl ws H) (hD : va_D A0 ws) (hS : va_S A0 H0 H locs) (hA : ∀ q, H0.size ≤ q → A0 q) (isC isR : List Nat) (hC : isC.map (fun i => ws[i]?) = wc.map some) (hR : isR.map (fun i => ws[i]?) = wr.map some) (hn : va_nd isR = true) (hdis : ∀ i ∈ isR, i ∉ isC)
    (kk : ∀ (H1 : Heap) (locs1 : List Loc), va_P D vwCl (wr ++ wc') H1 → va_D A0 (wr ++ wc') → va_S A0 H0 H1 locs1 → W p l e R s m args below meth c H1 locs1 cells slots Q (F0 m (pc + 3) ls (.int r0 :: rest))) : W p l e R s m args below meth c H locs cells slots Q (F0 m pc ls st0) := by
  have hF := va_free (wc := wc) hD hS hA isC hC
  refine va_calli hr hS (fun q _ h => hF q h) hF (fun r u t H1 locs1 ht _ hw hB _ hk hS1 => ?_)
  obtain ⟨hP1, hD1⟩ := hB
  rw [ht] at hP1
  obtain ⟨hP2, hD2⟩ := va_join hP hD isC isR hC hR hn hdis hk hF hP1 hD1
  cases hw
  exact kk H1 locs1 hP2 hD2 hS1
theorem m_cl {r0 : Int64} (hr : va_Run p l e R s m args below meth c H locs cells slots 0 0 (F0 m pc ls st0) rest (mQl D (va_A wc H.size) wc' r0 a) (va_A wc H.size)) (hP : va_P D vwCl ws H) (hD : va_D A0 ws) (hS : va_S A0 H0 H locs) (hA : ∀ q, H0.size ≤ q → A0 q) (isC isR : List Nat) (hC : isC.map (fun i => ws[i]?) = wc.map some) (hR : isR.map (fun i => ws[i]?) = wr.map some) (hn : va_nd isR = true) (hdis : ∀ i ∈ isR, i ∉ isC)
    (kk : ∀ (H1 : Heap) (locs1 : List Loc), va_P D vwCl (wr ++ wc') H1 → va_D A0 (wr ++ wc') → va_S A0 H0 H1 locs1 → W p l e R s m args below meth c H1 locs1 cells slots Q (F0 m (pc + 3) ls (.long r0 :: rest))) : W p l e R s m args below meth c H locs cells slots Q (F0 m pc ls st0) := by
  have hF := va_free (wc := wc) hD hS hA isC hC
  refine va_calll hr hS (fun q _ h => hF q h) hF (fun r u t H1 locs1 ht _ hw hB _ hk hS1 => ?_)
  obtain ⟨hP1, hD1⟩ := hB
  rw [ht] at hP1
  obtain ⟨hP2, hD2⟩ := va_join hP hD isC isR hC hR hn hdis hk hF hP1 hD1
  cases hw
  exact kk H1 locs1 hP2 hD2 hS1
theorem m_cd {r0 : UInt64} (hr : va_Run p l e R s m args below meth c H locs cells slots 0 0 (F0 m pc ls st0) rest (mQd D (va_A wc H.size) wc' r0 a) (va_A wc H.size)) (hP : va_P D vwCl ws H) (hD : va_D A0 ws) (hS : va_S A0 H0 H locs) (hA : ∀ q, H0.size ≤ q → A0 q) (isC isR : List Nat) (hC : isC.map (fun i => ws[i]?) = wc.map some) (hR : isR.map (fun i => ws[i]?) = wr.map some) (hn : va_nd isR = true) (hdis : ∀ i ∈ isR, i ∉ isC)
    (kk : ∀ (H1 : Heap) (locs1 : List Loc), va_P D vwCl (wr ++ wc') H1 → va_D A0 (wr ++ wc') → va_S A0 H0 H1 locs1 → W p l e R s m args below meth c H1 locs1 cells slots Q (F0 m (pc + 3) ls (.double r0 :: rest))) : W p l e R s m args below meth c H locs cells slots Q (F0 m pc ls st0) := by
  have hF := va_free (wc := wc) hD hS hA isC hC
  refine va_calld hr hS (fun q _ h => hF q h) hF (fun r u t H1 locs1 ht _ hw hB _ hk hS1 => ?_)
  obtain ⟨hP1, hD1⟩ := hB
  rw [ht] at hP1
  obtain ⟨hP2, hD2⟩ := va_join hP hD isC isR hC hR hn hdis hk hF hP1 hD1
  cases hw
  exact kk H1 locs1 hP2 hD2 hS1
theorem m_cv (hr : va_Run p l e R s m args below meth c H locs cells slots 0 0 (F0 m pc ls st0) rest (mQv D (va_A wc H.size) wc' a) (va_A wc H.size)) (hP : va_P D vwCl ws H) (hD : va_D A0 ws) (hS : va_S A0 H0 H locs) (hA : ∀ q, H0.size ≤ q → A0 q) (isC isR : List Nat) (hC : isC.map (fun i => ws[i]?) = wc.map some) (hR : isR.map (fun i => ws[i]?) = wr.map some) (hn : va_nd isR = true) (hdis : ∀ i ∈ isR, i ∉ isC)
    (kk : ∀ (H1 : Heap) (locs1 : List Loc), va_P D vwCl (wr ++ wc') H1 → va_D A0 (wr ++ wc') → va_S A0 H0 H1 locs1 → W p l e R s m args below meth c H1 locs1 cells slots Q (F0 m (pc + 3) ls rest)) : W p l e R s m args below meth c H locs cells slots Q (F0 m pc ls st0) := by
  have hF := va_free (wc := wc) hD hS hA isC hC
  refine va_callv hr hS (fun q _ h => hF q h) hF (fun u t H1 locs1 ht _ hw hB _ hk hS1 => ?_)
  obtain ⟨hP1, hD1⟩ := hB
  rw [ht] at hP1
  obtain ⟨hP2, hD2⟩ := va_join hP hD isC isR hC hR hn hdis hk hF hP1 hD1
  exact kk H1 locs1 hP2 hD2 hS1
theorem m_ri {r0 v : Int32} (hx : p.tables.exec = Jvm.exec) (hb : c.code = cc) (hr : meth.sig.returnType = some .int) (hP : va_P D vwCl ws H) (hD : va_D A ws) (hS : va_S A s.heap H locs) (is : List Nat) (hnd : va_nd is = true) (hC : is.map (fun i => ws[i]?) = wc.map some) (hv : v = r0) (hdg : decode cc pc = .ok (.ireturn, 1)) (hlocks : meth.locks = false) : W p l e R s m args below meth c H locs cells slots (MQ below (mQi D A wc r0) args s cells slots A) (F0 m pc ls [.int v]) :=
  W.iret (v := v) hx hb hr (fun _ ht _ => ⟨⟨v, (), rfl, hv, by rw [ht]; exact mSubP hP is hC, hD.sub is hnd hC⟩, hS.F ht⟩) hS.2.2 hdg hlocks
theorem m_rz {r0 v : Int32} (hx : p.tables.exec = Jvm.exec) (hb : c.code = cc) (hr : meth.sig.returnType = some .boolean) (hP : va_P D vwCl ws H) (hD : va_D A ws) (hS : va_S A s.heap H locs) (is : List Nat) (hnd : va_nd is = true) (hC : is.map (fun i => ws[i]?) = wc.map some) (hv : v = r0) (hbo : bo v = true) (hdg : decode cc pc = .ok (.ireturn, 1)) (hlocks : meth.locks = false) : W p l e R s m args below meth c H locs cells slots (MQ below (mQi D A wc r0) args s cells slots A) (F0 m pc ls [.int v]) :=
  W.zret (v := v) hx hb hr (bo_n hbo).1 (fun _ ht _ => ⟨⟨v, (), rfl, hv, by rw [ht]; exact mSubP hP is hC, hD.sub is hnd hC⟩, hS.F ht⟩) hS.2.2 hdg hlocks
theorem m_rl {r0 v : Int64} (hx : p.tables.exec = Jvm.exec) (hb : c.code = cc) (hr : meth.sig.returnType = some .long) (hP : va_P D vwCl ws H) (hD : va_D A ws) (hS : va_S A s.heap H locs) (is : List Nat) (hnd : va_nd is = true) (hC : is.map (fun i => ws[i]?) = wc.map some) (hv : v = r0) (hdg : decode cc pc = .ok (.lreturn, 1)) (hlocks : meth.locks = false) : W p l e R s m args below meth c H locs cells slots (MQ below (mQl D A wc r0) args s cells slots A) (F0 m pc ls [.long v]) :=
  W.lret (v := v) hx hb hr (fun _ ht _ => ⟨⟨v, (), rfl, hv, by rw [ht]; exact mSubP hP is hC, hD.sub is hnd hC⟩, hS.F ht⟩) hS.2.2 hdg hlocks
theorem m_rd {r0 v : UInt64} (hx : p.tables.exec = Jvm.exec) (hb : c.code = cc) (hr : meth.sig.returnType = some .double) (hP : va_P D vwCl ws H) (hD : va_D A ws) (hS : va_S A s.heap H locs) (is : List Nat) (hnd : va_nd is = true) (hC : is.map (fun i => ws[i]?) = wc.map some) (hv : v = r0) (hdg : decode cc pc = .ok (.dreturn, 1)) (hlocks : meth.locks = false) : W p l e R s m args below meth c H locs cells slots (MQ below (mQd D A wc r0) args s cells slots A) (F0 m pc ls [.double v]) :=
  W.dret (v := v) hx hb hr (fun _ ht _ => ⟨⟨v, (), rfl, hv, by rw [ht]; exact mSubP hP is hC, hD.sub is hnd hC⟩, hS.F ht⟩) hS.2.2 hdg hlocks
theorem m_rv (hx : p.tables.exec = Jvm.exec) (hb : c.code = cc) (hr : meth.sig.returnType = none) (hP : va_P D vwCl ws H) (hD : va_D A ws) (hS : va_S A s.heap H locs) (is : List Nat) (hnd : va_nd is = true) (hC : is.map (fun i => ws[i]?) = wc.map some) (hdg : decode cc pc = .ok (.return_, 1)) (hlocks : meth.locks = false) : W p l e R s m args below meth c H locs cells slots (MQ below (mQv D A wc) args s cells slots A) (F0 m pc ls []) :=
  W.vret hx hb hr (fun _ ht _ => ⟨⟨(), rfl, trivial, by rw [ht]; exact mSubP hP is hC, hD.sub is hnd hC⟩, hS.F ht⟩) hS.2.2 hdg hlocks
end MZ
end
section
theorem ne0_s {y : Int32} (h : (!decide (y = 0)) = true) : ¬ y = 0 := by simpa using h
theorem tsw_ne {x v : Int32} {k : Int} (hv : v.toInt = k) (h : ¬ x = v) : x.toInt ≠ k := fun e => h (Int32.toInt_inj.mp (e.trans hv.symm))
theorem tsw_out3 {x : Int32} (h0 : ¬ x = 0) (h1 : ¬ x = 1) (h2 : ¬ x = 2) : x.toInt < 0 ∨ 2 < x.toInt := by
  have e0 := tsw_ne (k := 0) (by decide) h0
  have e1 := tsw_ne (k := 1) (by decide) h1
  have e2 := tsw_ne (k := 2) (by decide) h2
  omega
theorem tsw_out4 {x : Int32} (h0 : ¬ x = 0) (h1 : ¬ x = 1) (h2 : ¬ x = 2) (h3 : ¬ x = 3) : x.toInt < 0 ∨ 3 < x.toInt := by
  have e3 := tsw_ne (k := 3) (by decide) h3
  have e := tsw_out3 h0 h1 h2
  omega
theorem tsw_out5 {x : Int32} (h0 : ¬ x = 0) (h1 : ¬ x = 1) (h2 : ¬ x = 2) (h3 : ¬ x = 3) (h4 : ¬ x = 4) : x.toInt < 0 ∨ 4 < x.toInt := by
  have e4 := tsw_ne (k := 4) (by decide) h4
  have e := tsw_out4 h0 h1 h2 h3
  omega
theorem tsw_out9 {x : Int32} (h0 : ¬ x = 0) (h1 : ¬ x = 1) (h2 : ¬ x = 2) (h3 : ¬ x = 3) (h4 : ¬ x = 4) (h5 : ¬ x = 5) (h6 : ¬ x = 6) (h7 : ¬ x = 7) (h8 : ¬ x = 8) : x.toInt < 0 ∨ 8 < x.toInt := by
  have e5 := tsw_ne (k := 5) (by decide) h5
  have e6 := tsw_ne (k := 6) (by decide) h6
  have e7 := tsw_ne (k := 7) (by decide) h7
  have e8 := tsw_ne (k := 8) (by decide) h8
  have e := tsw_out5 h0 h1 h2 h3 h4
  omega
abbrev mQq (D : va_G) (A : Nat → Prop) (ws : va_W) (r0 : Option Nat) : Array Value → State → Outcome → State → Prop := va_Qq (fun (r : Option Nat) (_ : Unit) => r = r0) (fun _ => mE D A ws) A
section MZ2
variable {p : Program} {l : Launch} {e : Env} {R : Room} {s : State} {m : MethodId} {args : Array Value} {below : List Frame} {meth : Method} {c : Code} {H : Heap} {locs : List Loc} {cells slots : Nat} {Q : State → Prop}
variable {pc : Nat} {ls : Array Slot} {rest st0 : List Value} {a : Array Value} {A0 A : Nat → Prop} {H0 : Heap} {D : va_G} {ws wc wr wc' : va_W} {cc : ByteArray}
theorem m_cq {r0 : Option Nat} (hr : va_Run p l e R s m args below meth c H locs cells slots 0 0 (F0 m pc ls st0) rest (mQq D (va_A wc H.size) wc' r0 a) (va_A wc H.size)) (hP : va_P D vwCl ws H) (hD : va_D A0 ws) (hS : va_S A0 H0 H locs) (hA : ∀ q, H0.size ≤ q → A0 q) (isC isR : List Nat) (hC : isC.map (fun i => ws[i]?) = wc.map some) (hR : isR.map (fun i => ws[i]?) = wr.map some) (hn : va_nd isR = true) (hdis : ∀ i ∈ isR, i ∉ isC)
    (kk : ∀ (H1 : Heap) (locs1 : List Loc), va_P D vwCl (wr ++ wc') H1 → va_D A0 (wr ++ wc') → va_S A0 H0 H1 locs1 → W p l e R s m args below meth c H1 locs1 cells slots Q (F0 m (pc + 3) ls (va_rf r0 :: rest))) : W p l e R s m args below meth c H locs cells slots Q (F0 m pc ls st0) := by
  have hF := va_free (wc := wc) hD hS hA isC hC
  refine va_callq hr hS (fun q _ h => hF q h) hF (fun r u t H1 locs1 ht _ hw hB _ hk hS1 => ?_)
  obtain ⟨hP1, hD1⟩ := hB
  rw [ht] at hP1
  obtain ⟨hP2, hD2⟩ := va_join hP hD isC isR hC hR hn hdis hk hF hP1 hD1
  cases hw
  exact kk H1 locs1 hP2 hD2 hS1
theorem m_rq {r0 : Option Nat} {v : Value} {n : String} (hx : p.tables.exec = Jvm.exec) (hb : c.code = cc) (hr : meth.sig.returnType = some (.object n)) (hP : va_P D vwCl ws H) (hD : va_D A ws) (hS : va_S A s.heap H locs) (is : List Nat) (hnd : va_nd is = true) (hC : is.map (fun i => ws[i]?) = wc.map some) (hv : v = va_rf r0) (hdg : decode cc pc = .ok (.areturn, 1)) (hlocks : meth.locks = false) : W p l e R s m args below meth c H locs cells slots (MQ below (mQq D A wc r0) args s cells slots A) (F0 m pc ls [v]) := by
  subst hv
  exact W.aret hx hb hr (Or.inl ⟨n, rfl⟩) (by cases r0 with | none => exact Or.inl rfl | some q => exact Or.inr ⟨q, rfl⟩) (fun _ ht _ => ⟨⟨r0, (), rfl, rfl, by rw [ht]; exact mSubP hP is hC, hD.sub is hnd hC⟩, hS.F ht⟩) hS.2.2 hdg hlocks
end MZ2
end
section

end
