/-! a number out of the script: the law's own cell, read where it lies -/
def cellB (b L : Nat) (xs : Nat → Int32) (sz : Nat) (U : State) : Prop := U.heap.size = sz ∧ va_X b L xs U U.heap ∧ b < sz
theorem cellBlind {av : List Value} {b L : Nat} {xs : Nat → Int32} {sz : Nat} : FrameBlind (va_Pc av (cellB b L xs sz)) := fun a U g mk q => by
  obtain ⟨q0, q1, qX, qb⟩ := q
  exact ⟨q0, q1, va_X.moved (u := U) (U := U.calling g mk a) (Vm.Alike.refl U.vm) qX, qb⟩
def D_cell (L : Nat) (xs : Nat → Int32) (k : Int32) : Option Int32 := (if (Int32.ofNat L) ≤ k then some ((((7919 : Int32) * (k + 3)) * (k + 11))) else grd (inb k L) (some ((xs k.toNatClampNeg))))
def rm_L_cell : Room := { frames := 0, cells := 0, slots := 0, locals := 0 }
set_option maxHeartbeats 4000000 in
set_option maxRecDepth 100000 in
theorem c_L_cell (l : Launch) (D : va_G) {a_p1 : Nat} {sz : Nat} {L : Nat} {xs : Nat → Int32} {p2 : Int32} {r0 : Int32} (hden : D_cell L xs p2 = some (r0)) : Met l yL_cell wsL_cell rm_L_cell (va_Pc [.ref a_p1, .int p2] (cellB a_p1 L xs sz)) (mQi D (va_A [] sz) [] r0) 0 0 (va_A [] sz) := by
  refine Met.ofW (cc := cL_cell) (maxL := 2) (ret := (some .int)) (by decide) rfl ?_
  intro p e s m args below meth c s₁ B hml hv
  obtain ⟨rfl, hsz, hXs, hbl⟩ := hv
  have hx := B.exec
  have hb := B.bytes
  have hr := B.returns
  have hts := atoms_spec (ws := wsL_cell) B.pre
  have hown : s.vm.findClass RL = some m.cls := findClass_of_methodNamed B.named
  have hlocks := B.notSynchronized
  subst hsz
  have hP : va_P D vwCl [] s.heap := fun k q h => by simp at h
  have hD0 : va_D (fun _ => True) [] := ⟨fun i j p q h => by simp at h, fun k q h => by simp at h⟩
  have hD := hD0.self (sz := s.heap.size)
  have hbA : ¬ va_A [] s.heap.size a_p1 := by
    intro h
    rcases h with ⟨k, e, h⟩ | h
    · simp at h
    · omega
  generalize hAe : va_A [] s.heap.size = A at hD hbA ⊢
  have hA : ∀ q : Nat, s.heap.size ≤ q → A q := fun q h => by rw [← hAe]; exact Or.inr h
  have hS : va_S A s.heap s.heap [] := va_S.rf
  have hl := lv_entry ([.ref a_p1, .int p2]) (n := 2) (Nat.le_of_ble_eq_true rfl)
  rw [lg_entry_eq]
  generalize (lg_sl ([.ref a_p1, .int p2]) ++ List.replicate (2 - (lg_sl ([.ref a_p1, .int p2])).length) Slot.unset).toArray = ls at hl ⊢
  have hl : lv_has ls 2 [(0, .ref a_p1), (1, .int p2)] := hl
  change W p l e rm_L_cell s m (([.ref a_p1, .int p2] : List Value).toArray) below meth c s.heap [] 0 0 _ (F0 m 0 ls [])
  generalize hQe : MQ below (mQi D A [] r0) (([.ref a_p1, .int p2] : List Value).toArray) s 0 0 A = Q
  rw [D_cell] at hden
  refine lv_iload_n hx hb dL_cell_0 rfl (lv_at hl 1 rfl) ?_
  refine lv_aload_n hx hb dL_cell_1 rfl (lv_at hl 0 rfl) ?_
  refine va_slen hx hb hXs hbl hbA hS dL_cell_2 ?_
  refine lv_icmp_ge (tgt := 12) hx hb dL_cell_3 (by decide) (fun c_2 => ?_) (fun c_2 => ?_)
  · have hden := if_s hden c_2
    refine lv_sipush (v := 7919) hx hb dL_cell_12 (by decide) ?_
    refine lv_iload_n hx hb dL_cell_15 rfl (lv_at hl 1 rfl) ?_
    refine lv_iconst (v := 3) hx hb dL_cell_16 (by decide) ?_
    refine lv_iadd hx hb dL_cell_17 ?_
    refine lv_imul hx hb dL_cell_18 ?_
    refine lv_iload_n hx hb dL_cell_19 rfl (lv_at hl 1 rfl) ?_
    refine lv_bipush (v := 11) hx hb dL_cell_20 (by decide) ?_
    refine lv_iadd hx hb dL_cell_22 ?_
    refine lv_imul hx hb dL_cell_23 ?_
    subst hQe
    cases hden
    exact m_ri hx hb hr hP hD hS [] (by decide) rfl rfl dL_cell_24 hlocks
  · have hden := ifn_s hden c_2
    refine lv_aload_n hx hb dL_cell_6 rfl (lv_at hl 0 rfl) ?_
    refine lv_iload_n hx hb dL_cell_7 rfl (lv_at hl 1 rfl) ?_
    obtain ⟨hg_1, hden⟩ := grd_s hden
    refine va_sld hx hb hXs hbl hbA hS (inb_in hg_1) dL_cell_8 ?_
    refine lv_goto (tgt := 24) hx hb dL_cell_9 (by decide) ?_
    subst hQe
    cases hden
    exact m_ri hx hb hr hP hD hS [] (by decide) rfl rfl dL_cell_24 hlocks
theorem cellPre {s : State} {H : Heap} {A : Nat → Prop} {locs : List Loc} {b L : Nat} {xs : Nat → Int32} {As : List Value} (hX : va_X b L xs s s.heap) (hbl : b < s.heap.size) (hbA : ¬ A b) (hS : va_S A s.heap H locs) : PreS s H (va_Pc As (cellB b L xs H.size)) As :=
  ⟨cellBlind, fun U hU hW => ⟨rfl, by rw [hU], by rw [hU]; exact (va_X.moved hW.alike hX).kept (hS.2.1 b hbl hbA), Nat.lt_of_lt_of_le hbl hS.1⟩⟩
