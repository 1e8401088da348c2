/-! what the walks are made of: values that are computed beside the machine, and the rows of calls and ends -/
def nm {α β : Type} (e : α) (K : α → Option β) : Option β := K e
def grd {β : Type} (b : Bool) (x : Option β) : Option β := match b with
  | true => x
  | false => none
def bnd {α β : Type} (o : Option α) (K : α → Option β) : Option β := match o with
  | some a => K a
  | none => none
def jp {γ β : Type} (J : γ) (f : γ → Option β) : Option β := f J
def inb (i : Int32) (n : Nat) : Bool := decide (0 ≤ i) && decide (i.toNatClampNeg < n)
def bo (x : Int32) : Bool := decide (x = 0) || decide (x = 1)
def nnan (x : UInt64) : Bool := decide (x &&& 0x7fffffffffffffff ≤ 0x7ff0000000000000)
theorem nm_s {α β : Type} {e x : α} {K : α → Option β} {r : Option β} (h : nm e K = r) (ex : x = e) : K x = r := by subst ex; exact h
theorem nm_x {α β : Type} {e : α} {K : α → Option β} {r : Option β} (h : nm e K = r) : ∃ x, x = e ∧ K x = r := ⟨e, rfl, h⟩
theorem grd_s {β : Type} {b : Bool} {x : Option β} {r : β} (h : grd b x = some r) : b = true ∧ x = some r := by
  cases b with
  | false => cases h
  | true => exact ⟨rfl, h⟩
theorem bnd_s {α β : Type} {o : Option α} {K : α → Option β} {r : β} (h : bnd o K = some r) : ∃ a, o = some a ∧ K a = some r := by
  cases o with
  | none => cases h
  | some a => exact ⟨a, rfl, h⟩
theorem jp_s {γ β : Type} {J : γ} {f : γ → Option β} {r : Option β} (h : jp J f = r) : ∃ j, j = J ∧ f j = r := ⟨J, rfl, h⟩
theorem if_s {β : Type} {c : Prop} {x : Decidable c} {a b r : Option β} (h : (if c then a else b) = r) (hc : c) : a = r := by rw [if_pos hc] at h; exact h
theorem ifn_s {β : Type} {c : Prop} {x : Decidable c} {a b r : Option β} (h : (if c then a else b) = r) (hc : ¬ c) : b = r := by rw [if_neg hc] at h; exact h
theorem inb_in {i : Int32} {n : Nat} (h : inb i n = true) : vp_in i n := by
  unfold inb at h
  simp only [Bool.and_eq_true, decide_eq_true_eq] at h
  intro h2
  rcases h2 with h2 | h2
  · exact absurd h.1 (by rw [Int32.not_le]; exact h2)
  · omega
theorem bo_n {x : Int32} (h : bo x = true) : narrow .boolean (.int x) = .int x ∧ fits .boolean (.int x) = true := by
  unfold bo at h
  simp only [Bool.or_eq_true, decide_eq_true_eq] at h
  rcases h with h | h <;> subst h <;> exact ⟨rfl, by decide +kernel⟩
theorem nnan_n {x : UInt64} (h : nnan x = true) : vf_n64 x := by
  have h1 : x &&& 0x7fffffffffffffff ≤ 0x7ff0000000000000 := of_decide_eq_true h
  exact h1
theorem no_none {β : Type} {r : β} {P : Prop} (h : (none : Option β) = some r) : P := by cases h
abbrev mTy (cI cM cL : ClassId) : List (ClassId × FieldType) := [(cI, .int), (cM, .object "FallingPatterns$Memory"), (cL, .int)]
/-- the links of one nest -/
def mNw (U : State) : Prop := va_Nw (.methodLinkNest RX0 27 yX5_at "FallingPatterns") U ∧ va_Nw (.methodLinkNest RX0 19 yX5_put "FallingPatterns") U ∧ va_Nw (.methodLinkNest RX1 36 yX5_at "FallingPatterns") U ∧ va_Nw (.methodLinkNest RX1 24 yX5_put "FallingPatterns") U ∧ va_Nw (.methodLinkNest RX2 31 yX5_at "FallingPatterns") U ∧ va_Nw (.methodLinkNest RX2 35 yX5_put "FallingPatterns") U
theorem mNw.warm {s U : State} (hW : s.WarmedH U.vm) (h : mNw s) : mNw U := ⟨va_Nw.warmM hW h.1, va_Nw.warmM hW h.2.1, va_Nw.warmM hW h.2.2.1, va_Nw.warmM hW h.2.2.2.1, va_Nw.warmM hW h.2.2.2.2.1, va_Nw.warmM hW h.2.2.2.2.2⟩
theorem mNw.same {u U : State} (hv : u.vm = U.vm) (h : mNw u) : mNw U := ⟨va_Nw.same rfl hv h.1, va_Nw.same rfl hv h.2.1, va_Nw.same rfl hv h.2.2.1, va_Nw.same rfl hv h.2.2.2.1, va_Nw.same rfl hv h.2.2.2.2.1, va_Nw.same rfl hv h.2.2.2.2.2⟩
def mB (D : va_G) (T : List (ClassId × FieldType)) (sz : Nat) (ws : va_W) (U : State) : Prop := U.heap.size = sz ∧ va_P D vwCl ws U.heap ∧ va_K D vwCl T U ∧ mNw U ∧ va_D (fun _ => True) ws
def mE (D : va_G) (A : Nat → Prop) (ws : va_W) (t : State) : Prop := va_P D vwCl ws t.heap ∧ va_D A ws
abbrev mQi (D : va_G) (A : Nat → Prop) (ws : va_W) (r0 : Int32) : Array Value → State → Outcome → State → Prop := va_Qi (fun (r : Int32) (_ : Unit) => r = r0) (fun _ => mE D A ws) A
abbrev mQl (D : va_G) (A : Nat → Prop) (ws : va_W) (r0 : Int64) : Array Value → State → Outcome → State → Prop := va_Ql (fun (r : Int64) (_ : Unit) => r = r0) (fun _ => mE D A ws) A
abbrev mQd (D : va_G) (A : Nat → Prop) (ws : va_W) (r0 : UInt64) : Array Value → State → Outcome → State → Prop := va_Qd (fun (r : UInt64) (_ : Unit) => r = r0) (fun _ => mE D A ws) A
abbrev mQv (D : va_G) (A : Nat → Prop) (ws : va_W) : Array Value → State → Outcome → State → Prop := va_Qv (fun (_ : Unit) => True) (fun _ => mE D A ws) A
theorem mBlind {av : List Value} {D : va_G} {T : List (ClassId × FieldType)} {sz : Nat} {ws : va_W} : FrameBlind (va_Pc av (mB D T sz ws)) := fun a U g mk q => by
  obtain ⟨q0, q1, qP, qK, qN, qD⟩ := q
  exact ⟨q0, q1, qP, va_K.moved (u := U) (U := U.calling g mk a) (Vm.Alike.refl U.vm) qK, mNw.same (u := U) (U := U.calling g mk a) rfl qN, qD⟩
theorem mSubP {D : va_G} {cl : List vw_C} {ws wc : va_W} {H : Heap} (hP : va_P D cl ws H) (is : List Nat) (hC : is.map (fun i => ws[i]?) = wc.map some) : va_P D cl wc H := by
  intro k q hq
  have h1 : (wc.map some)[k]? = some (some q) := by rw [List.getElem?_map, hq]; rfl
  rw [← hC, List.getElem?_map] at h1
  cases hi : is[k]? with
  | none => rw [hi] at h1; cases h1
  | some i =>
    rw [hi] at h1
    exact hP i q (Option.some.inj h1)
theorem mPreV {s : State} {H : Heap} {D : va_G} {T : List (ClassId × FieldType)} {ws wc : va_W} {A0 : Nat → Prop} {b ci q0 : Nat} {As : List Value} {r : vw_C} {fs : List Value} (hP : va_P D vwCl ws H) (hD : va_D A0 ws) (hK : va_K D vwCl T s) (hN : mNw s) (is : List Nat) (hnd : va_nd is = true) (hC : is.map (fun i => ws[i]?) = wc.map some) (hc : vwCl[ci]? = some r) (he : wc[q0]? = some (b, .inr (ci, fs))) : PreV s H r.1 b (va_Pc (.ref b :: As) (mB D T H.size wc)) As :=
  ⟨mBlind, va_recv hK (mSubP hP is hC) hc he, fun U hU hW => ⟨rfl, by rw [hU], by rw [hU]; exact mSubP hP is hC, va_K.moved hW.alike hK, hN.warm hW, (hD.sub is hnd hC).weaken (fun _ _ _ _ => trivial)⟩⟩
theorem mPreS {s : State} {H : Heap} {D : va_G} {T : List (ClassId × FieldType)} {ws wc : va_W} {A0 : Nat → Prop} {As : List Value} (hP : va_P D vwCl ws H) (hD : va_D A0 ws) (hK : va_K D vwCl T s) (hN : mNw s) (is : List Nat) (hnd : va_nd is = true) (hC : is.map (fun i => ws[i]?) = wc.map some) : PreS s H (va_Pc As (mB D T H.size wc)) As :=
  ⟨mBlind, fun U hU hW => ⟨rfl, by rw [hU], by rw [hU]; exact mSubP hP is hC, va_K.moved hW.alike hK, hN.warm hW, (hD.sub is hnd hC).weaken (fun _ _ _ _ => trivial)⟩⟩
section MZ
variable {p : Program} {l : Launch} {e : Env} {R : Room} {s : State} {m : MethodId} {args : Array Value} {below : List Frame} {meth : Method} {c : Code} {H : Heap} {locs : List Loc} {cells slots : Nat} {Q : State → Prop}
variable {pc : Nat} {ls : Array Slot} {rest st0 : List Value} {a : Array Value} {A0 A : Nat → Prop} {H0 : Heap} {D : va_G} {ws wc wr wc' : va_W} {cc : ByteArray}
theorem m_ci {r0 : Int32} (hr : va_Run p l e R s m args below meth c H locs cells slots 0 0 (F0 m pc ls st0) rest (mQi D (va_A wc H.size) wc' r0 a) (va_A wc H.size)) (hP : va_P D vwCl ws H) (hD : va_D A0 ws) (hS : va_S A0 H0 H locs) (hA : ∀ q, H0.size ≤ q → A0 q) (isC isR : List Nat) (hC : isC.map (fun i => ws[i]?) = wc.map some) (hR : isR.map (fun i => ws[i]?) = wr.map some) (hn : va_nd isR = true) (hdis : ∀ i ∈ isR, i ∉ isC)
    (kk : ∀ (H1 : Heap) (locs1 : List Loc), va_P D vwCl (wr ++ wc') H1 → va_D A0 (wr ++ wc') → va_S A0 H0 H1 locs1 → W p l e R s m args below meth c H1 locs1 cells slots Q (F0 m (pc + 3) ls (.int r0 :: rest))) : W p l e R s m args below meth c H locs cells slots Q (F0 m pc ls st0) := by
  have hF := va_free (wc := wc) hD hS hA isC hC
  refine va_calli hr hS (fun q _ h => hF q h) hF (fun r u t H1 locs1 ht _ hw hB _ hk hS1 => ?_)
  obtain ⟨hP1, hD1⟩ := hB
  rw [ht] at hP1
  obtain ⟨hP2, hD2⟩ := va_join hP hD isC isR hC hR hn hdis hk hF hP1 hD1
  cases hw
  exact kk H1 locs1 hP2 hD2 hS1
theorem m_cl {r0 : Int64} (hr : va_Run p l e R s m args below meth c H locs cells slots 0 0 (F0 m pc ls st0) rest (mQl D (va_A wc H.size) wc' r0 a) (va_A wc H.size)) (hP : va_P D vwCl ws H) (hD : va_D A0 ws) (hS : va_S A0 H0 H locs) (hA : ∀ q, H0.size ≤ q → A0 q) (isC isR : List Nat) (hC : isC.map (fun i => ws[i]?) = wc.map some) (hR : isR.map (fun i => ws[i]?) = wr.map some) (hn : va_nd isR = true) (hdis : ∀ i ∈ isR, i ∉ isC)
    (kk : ∀ (H1 : Heap) (locs1 : List Loc), va_P D vwCl (wr ++ wc') H1 → va_D A0 (wr ++ wc') → va_S A0 H0 H1 locs1 → W p l e R s m args below meth c H1 locs1 cells slots Q (F0 m (pc + 3) ls (.long r0 :: rest))) : W p l e R s m args below meth c H locs cells slots Q (F0 m pc ls st0) := by
  have hF := va_free (wc := wc) hD hS hA isC hC
  refine va_calll hr hS (fun q _ h => hF q h) hF (fun r u t H1 locs1 ht _ hw hB _ hk hS1 => ?_)
  obtain ⟨hP1, hD1⟩ := hB
  rw [ht] at hP1
  obtain ⟨hP2, hD2⟩ := va_join hP hD isC isR hC hR hn hdis hk hF hP1 hD1
  cases hw
  exact kk H1 locs1 hP2 hD2 hS1
theorem m_cd {r0 : UInt64} (hr : va_Run p l e R s m args below meth c H locs cells slots 0 0 (F0 m pc ls st0) rest (mQd D (va_A wc H.size) wc' r0 a) (va_A wc H.size)) (hP : va_P D vwCl ws H) (hD : va_D A0 ws) (hS : va_S A0 H0 H locs) (hA : ∀ q, H0.size ≤ q → A0 q) (isC isR : List Nat) (hC : isC.map (fun i => ws[i]?) = wc.map some) (hR : isR.map (fun i => ws[i]?) = wr.map some) (hn : va_nd isR = true) (hdis : ∀ i ∈ isR, i ∉ isC)
    (kk : ∀ (H1 : Heap) (locs1 : List Loc), va_P D vwCl (wr ++ wc') H1 → va_D A0 (wr ++ wc') → va_S A0 H0 H1 locs1 → W p l e R s m args below meth c H1 locs1 cells slots Q (F0 m (pc + 3) ls (.double r0 :: rest))) : W p l e R s m args below meth c H locs cells slots Q (F0 m pc ls st0) := by
  have hF := va_free (wc := wc) hD hS hA isC hC
  refine va_calld hr hS (fun q _ h => hF q h) hF (fun r u t H1 locs1 ht _ hw hB _ hk hS1 => ?_)
  obtain ⟨hP1, hD1⟩ := hB
  rw [ht] at hP1
  obtain ⟨hP2, hD2⟩ := va_join hP hD isC isR hC hR hn hdis hk hF hP1 hD1
  cases hw
  exact kk H1 locs1 hP2 hD2 hS1
theorem m_cv (hr : va_Run p l e R s m args below meth c H locs cells slots 0 0 (F0 m pc ls st0) rest (mQv D (va_A wc H.size) wc' a) (va_A wc H.size)) (hP : va_P D vwCl ws H) (hD : va_D A0 ws) (hS : va_S A0 H0 H locs) (hA : ∀ q, H0.size ≤ q → A0 q) (isC isR : List Nat) (hC : isC.map (fun i => ws[i]?) = wc.map some) (hR : isR.map (fun i => ws[i]?) = wr.map some) (hn : va_nd isR = true) (hdis : ∀ i ∈ isR, i ∉ isC)
    (kk : ∀ (H1 : Heap) (locs1 : List Loc), va_P D vwCl (wr ++ wc') H1 → va_D A0 (wr ++ wc') → va_S A0 H0 H1 locs1 → W p l e R s m args below meth c H1 locs1 cells slots Q (F0 m (pc + 3) ls rest)) : W p l e R s m args below meth c H locs cells slots Q (F0 m pc ls st0) := by
  have hF := va_free (wc := wc) hD hS hA isC hC
  refine va_callv hr hS (fun q _ h => hF q h) hF (fun u t H1 locs1 ht _ hw hB _ hk hS1 => ?_)
  obtain ⟨hP1, hD1⟩ := hB
  rw [ht] at hP1
  obtain ⟨hP2, hD2⟩ := va_join hP hD isC isR hC hR hn hdis hk hF hP1 hD1
  exact kk H1 locs1 hP2 hD2 hS1
theorem m_ri {r0 v : Int32} (hx : p.tables.exec = Jvm.exec) (hb : c.code = cc) (hr : meth.sig.returnType = some .int) (hP : va_P D vwCl ws H) (hD : va_D A ws) (hS : va_S A s.heap H locs) (is : List Nat) (hnd : va_nd is = true) (hC : is.map (fun i => ws[i]?) = wc.map some) (hv : v = r0) (hdg : decode cc pc = .ok (.ireturn, 1)) (hlocks : meth.locks = false) : W p l e R s m args below meth c H locs cells slots (MQ below (mQi D A wc r0) args s cells slots A) (F0 m pc ls [.int v]) :=
  W.iret (v := v) hx hb hr (fun _ ht _ => ⟨⟨v, (), rfl, hv, by rw [ht]; exact mSubP hP is hC, hD.sub is hnd hC⟩, hS.F ht⟩) hS.2.2 hdg hlocks
theorem m_rz {r0 v : Int32} (hx : p.tables.exec = Jvm.exec) (hb : c.code = cc) (hr : meth.sig.returnType = some .boolean) (hP : va_P D vwCl ws H) (hD : va_D A ws) (hS : va_S A s.heap H locs) (is : List Nat) (hnd : va_nd is = true) (hC : is.map (fun i => ws[i]?) = wc.map some) (hv : v = r0) (hbo : bo v = true) (hdg : decode cc pc = .ok (.ireturn, 1)) (hlocks : meth.locks = false) : W p l e R s m args below meth c H locs cells slots (MQ below (mQi D A wc r0) args s cells slots A) (F0 m pc ls [.int v]) :=
  W.zret (v := v) hx hb hr (bo_n hbo).1 (fun _ ht _ => ⟨⟨v, (), rfl, hv, by rw [ht]; exact mSubP hP is hC, hD.sub is hnd hC⟩, hS.F ht⟩) hS.2.2 hdg hlocks
theorem m_rl {r0 v : Int64} (hx : p.tables.exec = Jvm.exec) (hb : c.code = cc) (hr : meth.sig.returnType = some .long) (hP : va_P D vwCl ws H) (hD : va_D A ws) (hS : va_S A s.heap H locs) (is : List Nat) (hnd : va_nd is = true) (hC : is.map (fun i => ws[i]?) = wc.map some) (hv : v = r0) (hdg : decode cc pc = .ok (.lreturn, 1)) (hlocks : meth.locks = false) : W p l e R s m args below meth c H locs cells slots (MQ below (mQl D A wc r0) args s cells slots A) (F0 m pc ls [.long v]) :=
  W.lret (v := v) hx hb hr (fun _ ht _ => ⟨⟨v, (), rfl, hv, by rw [ht]; exact mSubP hP is hC, hD.sub is hnd hC⟩, hS.F ht⟩) hS.2.2 hdg hlocks
theorem m_rd {r0 v : UInt64} (hx : p.tables.exec = Jvm.exec) (hb : c.code = cc) (hr : meth.sig.returnType = some .double) (hP : va_P D vwCl ws H) (hD : va_D A ws) (hS : va_S A s.heap H locs) (is : List Nat) (hnd : va_nd is = true) (hC : is.map (fun i => ws[i]?) = wc.map some) (hv : v = r0) (hdg : decode cc pc = .ok (.dreturn, 1)) (hlocks : meth.locks = false) : W p l e R s m args below meth c H locs cells slots (MQ below (mQd D A wc r0) args s cells slots A) (F0 m pc ls [.double v]) :=
  W.dret (v := v) hx hb hr (fun _ ht _ => ⟨⟨v, (), rfl, hv, by rw [ht]; exact mSubP hP is hC, hD.sub is hnd hC⟩, hS.F ht⟩) hS.2.2 hdg hlocks
theorem m_rv (hx : p.tables.exec = Jvm.exec) (hb : c.code = cc) (hr : meth.sig.returnType = none) (hP : va_P D vwCl ws H) (hD : va_D A ws) (hS : va_S A s.heap H locs) (is : List Nat) (hnd : va_nd is = true) (hC : is.map (fun i => ws[i]?) = wc.map some) (hdg : decode cc pc = .ok (.return_, 1)) (hlocks : meth.locks = false) : W p l e R s m args below meth c H locs cells slots (MQ below (mQv D A wc) args s cells slots A) (F0 m pc ls []) :=
  W.vret hx hb hr (fun _ ht _ => ⟨⟨(), rfl, trivial, by rw [ht]; exact mSubP hP is hC, hD.sub is hnd hC⟩, hS.F ht⟩) hS.2.2 hdg hlocks
end MZ
