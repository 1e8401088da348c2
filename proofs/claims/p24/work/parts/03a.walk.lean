def D_J6_bitCount_0f7a4 (F : Nat) (p1 : Int32) : Option (Int32) := nm (p1 - (((p1.toUInt32 >>> ((1 : Int32).toUInt32 &&& Int32.toUInt32 31)).toInt32) &&& 1431655765)) (fun x0_1 => nm ((x0_1 &&& 858993459) + (((x0_1.toUInt32 >>> ((2 : Int32).toUInt32 &&& Int32.toUInt32 31)).toInt32) &&& 858993459)) (fun x0_2 => nm ((x0_2 + ((x0_2.toUInt32 >>> ((4 : Int32).toUInt32 &&& Int32.toUInt32 31)).toInt32)) &&& 252645135) (fun x0_3 => nm (x0_3 + ((x0_3.toUInt32 >>> ((8 : Int32).toUInt32 &&& Int32.toUInt32 31)).toInt32)) (fun x0_4 => nm (x0_4 + ((x0_4.toUInt32 >>> ((16 : Int32).toUInt32 &&& Int32.toUInt32 31)).toInt32)) (fun x0_5 => some ((x0_5 &&& 63)))))))
def rm_J6_bitCount_0f7a4 : Room := { frames := 0, cells := 0, slots := 0, locals := 0 }
set_option maxHeartbeats 4000000 in
set_option maxRecDepth 100000 in
theorem c_J6_bitCount_0f7a4 (l : Launch) (D : va_G) (cI cM cL : ClassId) (F : Nat) {sz : Nat} {p1 : Int32} {r0 : Int32} (hden : D_J6_bitCount_0f7a4 F p1 = some (r0)) : Met l yJ6_bitCount_0f7a4 wsJ6_bitCount_0f7a4 rm_J6_bitCount_0f7a4 (va_Pc [.int p1] (mB D (mTy cI cM cL) sz [])) (mQi D (va_A [] sz) [] r0) 0 0 (va_A [] sz) := by
  refine Met.ofW (cc := cJ6_bitCount_0f7a4) (maxL := 1) (ret := (some .int)) (by decide) rfl ?_
  intro p e s m args below meth c s₁ B hml hv
  obtain ⟨rfl, hsz, hP, hK, hN, hD0⟩ := hv
  have hx := B.exec
  have hb := B.bytes
  have hr := B.returns
  have hts := atoms_spec (ws := wsJ6_bitCount_0f7a4) B.pre
  have hown : s.vm.findClass RJ6 = some m.cls := findClass_of_methodNamed B.named
  have hlocks := B.notSynchronized
  subst hsz
  have hD := hD0.self (sz := s.heap.size)
  generalize hAe : va_A [] s.heap.size = A at hD ⊢
  have hA : ∀ q : Nat, s.heap.size ≤ q → A q := fun q h => by rw [← hAe]; exact Or.inr h
  have hS : va_S A s.heap s.heap [] := va_S.rf
  have hl := lv_entry ([.int p1]) (n := 1) (Nat.le_of_ble_eq_true rfl)
  rw [lg_entry_eq]
  generalize (lg_sl ([.int p1]) ++ List.replicate (1 - (lg_sl ([.int p1])).length) Slot.unset).toArray = ls at hl ⊢
  have hl : lv_has ls 1 [(0, .int p1)] := hl
  change W p l e rm_J6_bitCount_0f7a4 s m (([.int p1] : List Value).toArray) below meth c s.heap [] 0 0 _ (F0 m 0 ls [])
  generalize hQe : MQ below (mQi D A [] r0) (([.int p1] : List Value).toArray) s 0 0 A = Q
  rw [D_J6_bitCount_0f7a4] at hden
  have w_265 := hts (.constant RJ6 265 (1431655765)) (by decide +kernel)
  have w_266 := hts (.constant RJ6 266 (858993459)) (by decide +kernel)
  have w_267 := hts (.constant RJ6 267 (252645135)) (by decide +kernel)
  refine lv_iload_n hx hb dJ6_bitCount_0f7a4_0 rfl (lv_at hl 0 rfl) ?_
  refine lv_iload_n hx hb dJ6_bitCount_0f7a4_1 rfl (lv_at hl 0 rfl) ?_
  refine lv_iconst (v := 1) hx hb dJ6_bitCount_0f7a4_2 (by decide) ?_
  refine lv_iushr hx hb dJ6_bitCount_0f7a4_3 rfl ?_
  refine lv_ldcw (v := 1431655765) hx hb hown w_265 dJ6_bitCount_0f7a4_4 ?_
  refine lv_iand hx hb dJ6_bitCount_0f7a4_7 ?_
  refine lv_isub hx hb dJ6_bitCount_0f7a4_8 ?_
  refine lv_topi (fun x0_1 ex0_1 => ?_)
  have hden := nm_s hden ex0_1
  refine lv_istore_n (lv' := [(0, .int x0_1)]) hx hb dJ6_bitCount_0f7a4_9 rfl hl (by decide) rfl (fun ls hl => ?_)
  refine lv_iload_n hx hb dJ6_bitCount_0f7a4_10 rfl (lv_at hl 0 rfl) ?_
  refine lv_ldcw (v := 858993459) hx hb hown w_266 dJ6_bitCount_0f7a4_11 ?_
  refine lv_iand hx hb dJ6_bitCount_0f7a4_14 ?_
  refine lv_iload_n hx hb dJ6_bitCount_0f7a4_15 rfl (lv_at hl 0 rfl) ?_
  refine lv_iconst (v := 2) hx hb dJ6_bitCount_0f7a4_16 (by decide) ?_
  refine lv_iushr hx hb dJ6_bitCount_0f7a4_17 rfl ?_
  refine lv_ldcw (v := 858993459) hx hb hown w_266 dJ6_bitCount_0f7a4_18 ?_
  refine lv_iand hx hb dJ6_bitCount_0f7a4_21 ?_
  refine lv_iadd hx hb dJ6_bitCount_0f7a4_22 ?_
  refine lv_topi (fun x0_2 ex0_2 => ?_)
  have hden := nm_s hden ex0_2
  refine lv_istore_n (lv' := [(0, .int x0_2)]) hx hb dJ6_bitCount_0f7a4_23 rfl hl (by decide) rfl (fun ls hl => ?_)
  refine lv_iload_n hx hb dJ6_bitCount_0f7a4_24 rfl (lv_at hl 0 rfl) ?_
  refine lv_iload_n hx hb dJ6_bitCount_0f7a4_25 rfl (lv_at hl 0 rfl) ?_
  refine lv_iconst (v := 4) hx hb dJ6_bitCount_0f7a4_26 (by decide) ?_
  refine lv_iushr hx hb dJ6_bitCount_0f7a4_27 rfl ?_
  refine lv_iadd hx hb dJ6_bitCount_0f7a4_28 ?_
  refine lv_ldcw (v := 252645135) hx hb hown w_267 dJ6_bitCount_0f7a4_29 ?_
  refine lv_iand hx hb dJ6_bitCount_0f7a4_32 ?_
  refine lv_topi (fun x0_3 ex0_3 => ?_)
  have hden := nm_s hden ex0_3
  refine lv_istore_n (lv' := [(0, .int x0_3)]) hx hb dJ6_bitCount_0f7a4_33 rfl hl (by decide) rfl (fun ls hl => ?_)
  refine lv_iload_n hx hb dJ6_bitCount_0f7a4_34 rfl (lv_at hl 0 rfl) ?_
  refine lv_iload_n hx hb dJ6_bitCount_0f7a4_35 rfl (lv_at hl 0 rfl) ?_
  refine lv_bipush (v := 8) hx hb dJ6_bitCount_0f7a4_36 (by decide) ?_
  refine lv_iushr hx hb dJ6_bitCount_0f7a4_38 rfl ?_
  refine lv_iadd hx hb dJ6_bitCount_0f7a4_39 ?_
  refine lv_topi (fun x0_4 ex0_4 => ?_)
  have hden := nm_s hden ex0_4
  refine lv_istore_n (lv' := [(0, .int x0_4)]) hx hb dJ6_bitCount_0f7a4_40 rfl hl (by decide) rfl (fun ls hl => ?_)
  refine lv_iload_n hx hb dJ6_bitCount_0f7a4_41 rfl (lv_at hl 0 rfl) ?_
  refine lv_iload_n hx hb dJ6_bitCount_0f7a4_42 rfl (lv_at hl 0 rfl) ?_
  refine lv_bipush (v := 16) hx hb dJ6_bitCount_0f7a4_43 (by decide) ?_
  refine lv_iushr hx hb dJ6_bitCount_0f7a4_45 rfl ?_
  refine lv_iadd hx hb dJ6_bitCount_0f7a4_46 ?_
  refine lv_topi (fun x0_5 ex0_5 => ?_)
  have hden := nm_s hden ex0_5
  refine lv_istore_n (lv' := [(0, .int x0_5)]) hx hb dJ6_bitCount_0f7a4_47 rfl hl (by decide) rfl (fun ls hl => ?_)
  refine lv_iload_n hx hb dJ6_bitCount_0f7a4_48 rfl (lv_at hl 0 rfl) ?_
  refine lv_bipush (v := 63) hx hb dJ6_bitCount_0f7a4_49 (by decide) ?_
  refine lv_iand hx hb dJ6_bitCount_0f7a4_51 ?_
  subst hQe
  cases hden
  exact m_ri hx hb hr hP hD hS [] (by decide) rfl rfl dJ6_bitCount_0f7a4_52 hlocks
def D_X5_put (F : Nat) (n_p1 : Nat) (p2 : Int32) (p3 : Int32) (v_p1 : (Nat → Int32)) : Option ((Nat → Int32)) := (if p2 < 0 then some (v_p1) else (if (Int32.ofNat n_p1) ≤ p2 then some (v_p1) else grd (inb p2 n_p1) (nm (upd v_p1 p2.toNatClampNeg p3) (fun v_p1_2 => some (v_p1_2)))))
def rm_X5_put : Room := { frames := 0, cells := 0, slots := 0, locals := 0 }
set_option maxHeartbeats 4000000 in
set_option maxRecDepth 100000 in
theorem c_X5_put (l : Launch) (D : va_G) (cI cM cL : ClassId) (F : Nat) {a_p1 : Nat} {sz : Nat} {n_p1 : Nat} {v_p1 : Nat → Int32} {p2 : Int32} {p3 : Int32} {w_p1 : (Nat → Int32)} (hden : D_X5_put F n_p1 p2 p3 v_p1 = some (w_p1)) : Met l yX5_put wsX5_put rm_X5_put (va_Pc [.ref a_p1, .int p2, .int p3] (mB D (mTy cI cM cL) sz [(a_p1, .inl (cI, n_p1, .inl v_p1))])) (mQv D (va_A [(a_p1, .inl (cI, n_p1, .inl v_p1))] sz) [(a_p1, .inl (cI, n_p1, .inl w_p1))]) 0 0 (va_A [(a_p1, .inl (cI, n_p1, .inl v_p1))] sz) := by
  refine Met.ofW (cc := cX5_put) (maxL := 3) (ret := none) (by decide) rfl ?_
  intro p e s m args below meth c s₁ B hml hv
  obtain ⟨rfl, hsz, hP, hK, hN, hD0⟩ := hv
  have hx := B.exec
  have hb := B.bytes
  have hr := B.returns
  have hts := atoms_spec (ws := wsX5_put) B.pre
  have hown : s.vm.findClass RX5 = some m.cls := findClass_of_methodNamed B.named
  have hlocks := B.notSynchronized
  subst hsz
  have hD := hD0.self (sz := s.heap.size)
  generalize hAe : va_A [(a_p1, .inl (cI, n_p1, .inl v_p1))] s.heap.size = A at hD ⊢
  have hA : ∀ q : Nat, s.heap.size ≤ q → A q := fun q h => by rw [← hAe]; exact Or.inr h
  have hS : va_S A s.heap s.heap [] := va_S.rf
  have hl := lv_entry ([.ref a_p1, .int p2, .int p3]) (n := 3) (Nat.le_of_ble_eq_true rfl)
  rw [lg_entry_eq]
  generalize (lg_sl ([.ref a_p1, .int p2, .int p3]) ++ List.replicate (3 - (lg_sl ([.ref a_p1, .int p2, .int p3])).length) Slot.unset).toArray = ls at hl ⊢
  have hl : lv_has ls 3 [(0, .ref a_p1), (1, .int p2), (2, .int p3)] := hl
  change W p l e rm_X5_put s m (([.ref a_p1, .int p2, .int p3] : List Value).toArray) below meth c s.heap [] 0 0 _ (F0 m 0 ls [])
  generalize hQe : MQ below (mQv D A [(a_p1, .inl (cI, n_p1, .inl w_p1))]) (([.ref a_p1, .int p2, .int p3] : List Value).toArray) s 0 0 A = Q
  rw [D_X5_put] at hden
  refine lv_aload_n hx hb dX5_put_0 rfl (lv_at hl 0 rfl) ?_
  refine lv_ifnull hx hb dX5_put_1 ?_
  refine lv_iload_n hx hb dX5_put_4 rfl (lv_at hl 1 rfl) ?_
  refine lv_if_lt (tgt := 18) hx hb dX5_put_5 (by decide) (fun c_4 => ?_) (fun c_4 => ?_)
  · have hden := if_s hden c_4
    subst hQe
    cases hden
    exact m_rv hx hb hr hP hD hS [0] (by decide) rfl dX5_put_18 hlocks
  · have hden := ifn_s hden c_4
    refine lv_iload_n hx hb dX5_put_8 rfl (lv_at hl 1 rfl) ?_
    refine lv_aload_n hx hb dX5_put_9 rfl (lv_at hl 0 rfl) ?_
    refine va_alen (v := (Int32.ofNat n_p1)) hx hb hK hP 0 0 rfl rfl rfl dX5_put_10 ?_
    refine lv_icmp_ge (tgt := 18) hx hb dX5_put_11 (by decide) (fun c_3 => ?_) (fun c_3 => ?_)
    · have hden := if_s hden c_3
      subst hQe
      cases hden
      exact m_rv hx hb hr hP hD hS [0] (by decide) rfl dX5_put_18 hlocks
    · have hden := ifn_s hden c_3
      refine lv_aload_n hx hb dX5_put_14 rfl (lv_at hl 0 rfl) ?_
      refine lv_iload_n hx hb dX5_put_15 rfl (lv_at hl 1 rfl) ?_
      refine lv_iload_n hx hb dX5_put_16 rfl (lv_at hl 2 rfl) ?_
      obtain ⟨hg_1, hden⟩ := grd_s hden
      refine va_iast hx hb hK hP hD hS 0 0 rfl rfl (inb_in hg_1) dX5_put_17 (fun H locs hP hD hS => ?_)
      obtain ⟨v_p1_2, ev_p1_2, hden⟩ := nm_x hden
      have hP : va_P D vwCl [(a_p1, .inl (cI, n_p1, .inl v_p1_2))] H := by rw [ev_p1_2]; exact hP
      have hD : va_D A [(a_p1, .inl (cI, n_p1, .inl v_p1_2))] := by rw [ev_p1_2]; exact hD
      subst hQe
      cases hden
      exact m_rv hx hb hr hP hD hS [0] (by decide) rfl dX5_put_18 hlocks
def D_X0_take (F : Nat) (p1 : Int32) (v_length : Int32) (v_codes : (Nat → Int32)) : Option ((Nat → Int32) × Int32) := bnd (D_X5_put F 60 v_length p1 v_codes) (fun v_codes_1 => nm (v_length + 1) (fun f_length_3 => some (v_codes_1, f_length_3)))
def rm_X0_take : Room := { frames := 1, cells := 0, slots := 0, locals := 22 }
set_option maxHeartbeats 4000000 in
set_option maxRecDepth 100000 in
theorem c_X0_take (l : Launch) (D : va_G) (cI cM cL : ClassId) (F : Nat) {a_this a_this_codes : Nat} {sz : Nat} {v_length : Int32} {v_codes : Nat → Int32} {p1 : Int32} {w_codes : (Nat → Int32)} {w_length : Int32} (hden : D_X0_take F p1 v_length v_codes = some (w_codes, w_length)) : Met l yX0_take wsX0_take rm_X0_take (va_Pc [.ref a_this, .int p1] (mB D (mTy cI cM cL) sz [(a_this, .inr (0, [.ref a_this_codes, .int v_length])), (a_this_codes, .inl (cI, 60, .inl v_codes))])) (mQv D (va_A [(a_this, .inr (0, [.ref a_this_codes, .int v_length])), (a_this_codes, .inl (cI, 60, .inl v_codes))] sz) [(a_this, .inr (0, [.ref a_this_codes, .int w_length])), (a_this_codes, .inl (cI, 60, .inl w_codes))]) 0 0 (va_A [(a_this, .inr (0, [.ref a_this_codes, .int v_length])), (a_this_codes, .inl (cI, 60, .inl v_codes))] sz) := by
  refine Met.ofW (cc := cX0_take) (maxL := 2) (ret := none) (by decide) rfl ?_
  intro p e s m args below meth c s₁ B hml hv
  obtain ⟨rfl, hsz, hP, hK, hN, hD0⟩ := hv
  have hx := B.exec
  have hb := B.bytes
  have hr := B.returns
  have hts := atoms_spec (ws := wsX0_take) B.pre
  have hown : s.vm.findClass RX0 = some m.cls := findClass_of_methodNamed B.named
  have hlocks := B.notSynchronized
  subst hsz
  have hD := hD0.self (sz := s.heap.size)
  generalize hAe : va_A [(a_this, .inr (0, [.ref a_this_codes, .int v_length])), (a_this_codes, .inl (cI, 60, .inl v_codes))] s.heap.size = A at hD ⊢
  have hA : ∀ q : Nat, s.heap.size ≤ q → A q := fun q h => by rw [← hAe]; exact Or.inr h
  have hS : va_S A s.heap s.heap [] := va_S.rf
  have hl := lv_entry ([.ref a_this, .int p1]) (n := 2) (Nat.le_of_ble_eq_true rfl)
  rw [lg_entry_eq]
  generalize (lg_sl ([.ref a_this, .int p1]) ++ List.replicate (2 - (lg_sl ([.ref a_this, .int p1])).length) Slot.unset).toArray = ls at hl ⊢
  have hl : lv_has ls 2 [(0, .ref a_this), (1, .int p1)] := hl
  change W p l e rm_X0_take s m (([.ref a_this, .int p1] : List Value).toArray) below meth c s.heap [] 0 0 _ (F0 m 0 ls [])
  generalize hQe : MQ below (mQv D A [(a_this, .inr (0, [.ref a_this_codes, .int w_length])), (a_this_codes, .inl (cI, 60, .inl w_codes))]) (([.ref a_this, .int p1] : List Value).toArray) s 0 0 A = Q
  rw [D_X0_take] at hden
  have hin_X0 : ∀ w ∈ wsX00, w ∈ wsX0_take := by decide +kernel
  have w_9 := hts (.fieldLink RX0 9 "FallingPatterns$Buffer" "codes" "[I") (by decide +kernel)
  have w_15 := hts (.fieldLink RX0 15 "FallingPatterns$Buffer" "length" "I") (by decide +kernel)
  have w_iX5 := hts (.initialized RX5) (by decide +kernel)
  have w_sX5_put := hts (.static yX5_put) (by decide +kernel)
  refine lv_aload_n hx hb dX0_take_0 rfl (lv_at hl 0 rfl) ?_
  refine va_get (D := D) (ci := 0) (v := .ref a_this_codes) (C := RX0) (T := TX0) (N := 2) hx hb hts hin_X0 hown hK hP 0 rfl rfl 0 (by decide) w_9 (fun _ h9 => h9) rfl dX0_take_1 ?_
  refine lv_aload_n hx hb dX0_take_4 rfl (lv_at hl 0 rfl) ?_
  refine va_get (D := D) (ci := 0) (v := .int v_length) (C := RX0) (T := TX0) (N := 2) hx hb hts hin_X0 hown hK hP 0 rfl rfl 1 (by decide) w_15 (fun _ h9 => h9) rfl dX0_take_5 ?_
  refine lv_iload_n hx hb dX0_take_8 rfl (lv_at hl 1 rfl) ?_
  obtain ⟨v_codes_1, hc_2, hden⟩ := bnd_s hden
  refine m_cv (wc := [(a_this_codes, .inl (cI, 60, .inl v_codes))]) (wr := [(a_this, .inr (0, [.ref a_this_codes, .int v_length]))]) (wc' := [(a_this_codes, .inl (cI, 60, .inl v_codes_1))]) (va_runSN (As := [.ref a_this_codes, .int v_length, .int p1]) (rest := []) ⟨hx, hb, hml, hown, hts⟩ (c_X5_put l D cI cM cL F hc_2) ⟨va_cnB 3 hts gX0_take_X5_put_n19 rfl rfl rfl hN.2.1 w_iX5 (by decide +kernel) ⟨Nat.le_of_ble_eq_true rfl, Nat.le_of_ble_eq_true rfl⟩, w_sX5_put, trivial⟩ (mPreS hP hD hK hN [1] (by decide) rfl) rfl rfl hl.1 rfl (lv_room (Nat.le_of_ble_eq_true rfl)) dX0_take_9 ⟨Nat.le_of_ble_eq_true rfl, Nat.le_of_ble_eq_true rfl⟩) hP hD hS hA [1] [0] rfl rfl (by decide) (by decide) (fun H locs hP hD hS => ?_)
  have hP : va_P D vwCl [(a_this, .inr (0, [.ref a_this_codes, .int v_length])), (a_this_codes, .inl (cI, 60, .inl v_codes_1))] H := hP
  have hD : va_D A [(a_this, .inr (0, [.ref a_this_codes, .int v_length])), (a_this_codes, .inl (cI, 60, .inl v_codes_1))] := hD
  refine lv_aload_n hx hb dX0_take_12 rfl (lv_at hl 0 rfl) ?_
  refine lv_dup hx hb dX0_take_13 rfl ?_
  refine va_get (D := D) (ci := 0) (v := .int v_length) (C := RX0) (T := TX0) (N := 2) hx hb hts hin_X0 hown hK hP 0 rfl rfl 1 (by decide) w_15 (fun _ h9 => h9) rfl dX0_take_14 ?_
  refine lv_iconst (v := 1) hx hb dX0_take_17 (by decide) ?_
  refine lv_iadd hx hb dX0_take_18 ?_
  refine lv_topi (fun f_length_3 ef_length_3 => ?_)
  have hden := nm_s hden ef_length_3
  refine va_put (D := D) (ci := 0) (v := .int f_length_3) (ty := .int) (C := RX0) (T := TX0) (N := 2) hx hb hts hin_X0 tyX0 tyX0_ok nmX0 hown hK hP hD hS 0 rfl rfl 1 (by decide) w_15 (fun _ h9 => h9) rfl (by decide +kernel) rfl rfl (Nat.le_of_ble_eq_true rfl) dX0_take_19 (fun H locs hP hD hS => ?_)
  have hP : va_P D vwCl [(a_this, .inr (0, [.ref a_this_codes, .int f_length_3])), (a_this_codes, .inl (cI, 60, .inl v_codes_1))] H := hP
  have hD : va_D A [(a_this, .inr (0, [.ref a_this_codes, .int f_length_3])), (a_this_codes, .inl (cI, 60, .inl v_codes_1))] := hD
  subst hQe
  cases hden
  exact m_rv hx hb hr hP hD hS [0, 1] (by decide) rfl dX0_take_22 hlocks
def D_X0_empty (F : Nat) (v_length : Int32) : Option (Int32) := some (0)
def rm_X0_empty : Room := { frames := 0, cells := 0, slots := 0, locals := 0 }
set_option maxHeartbeats 4000000 in
set_option maxRecDepth 100000 in
theorem c_X0_empty (l : Launch) (D : va_G) (cI cM cL : ClassId) (F : Nat) {a_this a_this_codes : Nat} {sz : Nat} {v_length : Int32} {w_length : Int32} (hden : D_X0_empty F v_length = some (w_length)) : Met l yX0_empty wsX0_empty rm_X0_empty (va_Pc [.ref a_this] (mB D (mTy cI cM cL) sz [(a_this, .inr (0, [.ref a_this_codes, .int v_length]))])) (mQv D (va_A [(a_this, .inr (0, [.ref a_this_codes, .int v_length]))] sz) [(a_this, .inr (0, [.ref a_this_codes, .int w_length]))]) 0 0 (va_A [(a_this, .inr (0, [.ref a_this_codes, .int v_length]))] sz) := by
  refine Met.ofW (cc := cX0_empty) (maxL := 1) (ret := none) (by decide) rfl ?_
  intro p e s m args below meth c s₁ B hml hv
  obtain ⟨rfl, hsz, hP, hK, hN, hD0⟩ := hv
  have hx := B.exec
  have hb := B.bytes
  have hr := B.returns
  have hts := atoms_spec (ws := wsX0_empty) B.pre
  have hown : s.vm.findClass RX0 = some m.cls := findClass_of_methodNamed B.named
  have hlocks := B.notSynchronized
  subst hsz
  have hD := hD0.self (sz := s.heap.size)
  generalize hAe : va_A [(a_this, .inr (0, [.ref a_this_codes, .int v_length]))] s.heap.size = A at hD ⊢
  have hA : ∀ q : Nat, s.heap.size ≤ q → A q := fun q h => by rw [← hAe]; exact Or.inr h
  have hS : va_S A s.heap s.heap [] := va_S.rf
  have hl := lv_entry ([.ref a_this]) (n := 1) (Nat.le_of_ble_eq_true rfl)
  rw [lg_entry_eq]
  generalize (lg_sl ([.ref a_this]) ++ List.replicate (1 - (lg_sl ([.ref a_this])).length) Slot.unset).toArray = ls at hl ⊢
  have hl : lv_has ls 1 [(0, .ref a_this)] := hl
  change W p l e rm_X0_empty s m (([.ref a_this] : List Value).toArray) below meth c s.heap [] 0 0 _ (F0 m 0 ls [])
  generalize hQe : MQ below (mQv D A [(a_this, .inr (0, [.ref a_this_codes, .int w_length]))]) (([.ref a_this] : List Value).toArray) s 0 0 A = Q
  rw [D_X0_empty] at hden
  have hin_X0 : ∀ w ∈ wsX00, w ∈ wsX0_empty := by decide +kernel
  have w_15 := hts (.fieldLink RX0 15 "FallingPatterns$Buffer" "length" "I") (by decide +kernel)
  refine lv_aload_n hx hb dX0_empty_0 rfl (lv_at hl 0 rfl) ?_
  refine lv_iconst (v := 0) hx hb dX0_empty_1 (by decide) ?_
  refine va_put (D := D) (ci := 0) (v := .int 0) (ty := .int) (C := RX0) (T := TX0) (N := 2) hx hb hts hin_X0 tyX0 tyX0_ok nmX0 hown hK hP hD hS 0 rfl rfl 1 (by decide) w_15 (fun _ h9 => h9) rfl (by decide +kernel) rfl rfl (Nat.le_of_ble_eq_true rfl) dX0_empty_2 (fun H locs hP hD hS => ?_)
  have hP : va_P D vwCl [(a_this, .inr (0, [.ref a_this_codes, .int 0]))] H := hP
  have hD : va_D A [(a_this, .inr (0, [.ref a_this_codes, .int 0]))] := hD
  subst hQe
  cases hden
  exact m_rv hx hb hr hP hD hS [0] (by decide) rfl dX0_empty_5 hlocks
def D_X0_isLetterCode (F : Nat) (p1 : Int32) : Option (Int32) := (if p1 < 97 then some (0) else (if 100 < p1 then some (0) else some (1)))
def rm_X0_isLetterCode : Room := { frames := 0, cells := 0, slots := 0, locals := 0 }
set_option maxHeartbeats 4000000 in
set_option maxRecDepth 100000 in
theorem c_X0_isLetterCode (l : Launch) (D : va_G) (cI cM cL : ClassId) (F : Nat) {sz : Nat} {p1 : Int32} {r0 : Int32} (hden : D_X0_isLetterCode F p1 = some (r0)) : Met l yX0_isLetterCode wsX0_isLetterCode rm_X0_isLetterCode (va_Pc [.int p1] (mB D (mTy cI cM cL) sz [])) (mQi D (va_A [] sz) [] r0) 0 0 (va_A [] sz) := by
  refine Met.ofW (cc := cX0_isLetterCode) (maxL := 1) (ret := (some .boolean)) (by decide) rfl ?_
  intro p e s m args below meth c s₁ B hml hv
  obtain ⟨rfl, hsz, hP, hK, hN, hD0⟩ := hv
  have hx := B.exec
  have hb := B.bytes
  have hr := B.returns
  have hts := atoms_spec (ws := wsX0_isLetterCode) B.pre
  have hown : s.vm.findClass RX0 = some m.cls := findClass_of_methodNamed B.named
  have hlocks := B.notSynchronized
  subst hsz
  have hD := hD0.self (sz := s.heap.size)
  generalize hAe : va_A [] s.heap.size = A at hD ⊢
  have hA : ∀ q : Nat, s.heap.size ≤ q → A q := fun q h => by rw [← hAe]; exact Or.inr h
  have hS : va_S A s.heap s.heap [] := va_S.rf
  have hl := lv_entry ([.int p1]) (n := 1) (Nat.le_of_ble_eq_true rfl)
  rw [lg_entry_eq]
  generalize (lg_sl ([.int p1]) ++ List.replicate (1 - (lg_sl ([.int p1])).length) Slot.unset).toArray = ls at hl ⊢
  have hl : lv_has ls 1 [(0, .int p1)] := hl
  change W p l e rm_X0_isLetterCode s m (([.int p1] : List Value).toArray) below meth c s.heap [] 0 0 _ (F0 m 0 ls [])
  generalize hQe : MQ below (mQi D A [] r0) (([.int p1] : List Value).toArray) s 0 0 A = Q
  rw [D_X0_isLetterCode] at hden
  refine lv_iload_n hx hb dX0_isLetterCode_0 rfl (lv_at hl 0 rfl) ?_
  refine lv_bipush (v := 97) hx hb dX0_isLetterCode_1 (by decide) ?_
  refine lv_icmp_lt (tgt := 16) hx hb dX0_isLetterCode_3 (by decide) (fun c_2 => ?_) (fun c_2 => ?_)
  · have hden := if_s hden c_2
    refine lv_iconst (v := 0) hx hb dX0_isLetterCode_16 (by decide) ?_
    subst hQe
    cases hden
    exact m_rz hx hb hr hP hD hS [] (by decide) rfl rfl (by decide) dX0_isLetterCode_17 hlocks
  · have hden := ifn_s hden c_2
    refine lv_iload_n hx hb dX0_isLetterCode_6 rfl (lv_at hl 0 rfl) ?_
    refine lv_bipush (v := 100) hx hb dX0_isLetterCode_7 (by decide) ?_
    refine lv_icmp_gt (tgt := 16) hx hb dX0_isLetterCode_9 (by decide) (fun c_1 => ?_) (fun c_1 => ?_)
    · have hden := if_s hden c_1
      refine lv_iconst (v := 0) hx hb dX0_isLetterCode_16 (by decide) ?_
      subst hQe
      cases hden
      exact m_rz hx hb hr hP hD hS [] (by decide) rfl rfl (by decide) dX0_isLetterCode_17 hlocks
    · have hden := ifn_s hden c_1
      refine lv_iconst (v := 1) hx hb dX0_isLetterCode_12 (by decide) ?_
      refine lv_goto (tgt := 17) hx hb dX0_isLetterCode_13 (by decide) ?_
      subst hQe
      cases hden
      exact m_rz hx hb hr hP hD hS [] (by decide) rfl rfl (by decide) dX0_isLetterCode_17 hlocks
def D_X5_at (F : Nat) (n_p1 : Nat) (p2 : Int32) (v_p1 : (Nat → Int32)) : Option (Int32) := (if p2 < 0 then some (0) else (if (Int32.ofNat n_p1) ≤ p2 then some (0) else grd (inb p2 n_p1) (some ((v_p1 p2.toNatClampNeg)))))
def rm_X5_at : Room := { frames := 0, cells := 0, slots := 0, locals := 0 }
set_option maxHeartbeats 4000000 in
set_option maxRecDepth 100000 in
theorem c_X5_at (l : Launch) (D : va_G) (cI cM cL : ClassId) (F : Nat) {a_p1 : Nat} {sz : Nat} {n_p1 : Nat} {v_p1 : Nat → Int32} {p2 : Int32} {r0 : Int32} (hden : D_X5_at F n_p1 p2 v_p1 = some (r0)) : Met l yX5_at wsX5_at rm_X5_at (va_Pc [.ref a_p1, .int p2] (mB D (mTy cI cM cL) sz [(a_p1, .inl (cI, n_p1, .inl v_p1))])) (mQi D (va_A [(a_p1, .inl (cI, n_p1, .inl v_p1))] sz) [(a_p1, .inl (cI, n_p1, .inl v_p1))] r0) 0 0 (va_A [(a_p1, .inl (cI, n_p1, .inl v_p1))] sz) := by
  refine Met.ofW (cc := cX5_at) (maxL := 2) (ret := (some .int)) (by decide) rfl ?_
  intro p e s m args below meth c s₁ B hml hv
  obtain ⟨rfl, hsz, hP, hK, hN, hD0⟩ := hv
  have hx := B.exec
  have hb := B.bytes
  have hr := B.returns
  have hts := atoms_spec (ws := wsX5_at) B.pre
  have hown : s.vm.findClass RX5 = some m.cls := findClass_of_methodNamed B.named
  have hlocks := B.notSynchronized
  subst hsz
  have hD := hD0.self (sz := s.heap.size)
  generalize hAe : va_A [(a_p1, .inl (cI, n_p1, .inl v_p1))] s.heap.size = A at hD ⊢
  have hA : ∀ q : Nat, s.heap.size ≤ q → A q := fun q h => by rw [← hAe]; exact Or.inr h
  have hS : va_S A s.heap s.heap [] := va_S.rf
  have hl := lv_entry ([.ref a_p1, .int p2]) (n := 2) (Nat.le_of_ble_eq_true rfl)
  rw [lg_entry_eq]
  generalize (lg_sl ([.ref a_p1, .int p2]) ++ List.replicate (2 - (lg_sl ([.ref a_p1, .int p2])).length) Slot.unset).toArray = ls at hl ⊢
  have hl : lv_has ls 2 [(0, .ref a_p1), (1, .int p2)] := hl
  change W p l e rm_X5_at s m (([.ref a_p1, .int p2] : List Value).toArray) below meth c s.heap [] 0 0 _ (F0 m 0 ls [])
  generalize hQe : MQ below (mQi D A [(a_p1, .inl (cI, n_p1, .inl v_p1))] r0) (([.ref a_p1, .int p2] : List Value).toArray) s 0 0 A = Q
  rw [D_X5_at] at hden
  refine lv_aload_n hx hb dX5_at_0 rfl (lv_at hl 0 rfl) ?_
  refine lv_ifnull hx hb dX5_at_1 ?_
  refine lv_iload_n hx hb dX5_at_4 rfl (lv_at hl 1 rfl) ?_
  refine lv_if_lt (tgt := 20) hx hb dX5_at_5 (by decide) (fun c_3 => ?_) (fun c_3 => ?_)
  · have hden := if_s hden c_3
    refine lv_iconst (v := 0) hx hb dX5_at_20 (by decide) ?_
    subst hQe
    cases hden
    exact m_ri hx hb hr hP hD hS [0] (by decide) rfl rfl dX5_at_21 hlocks
  · have hden := ifn_s hden c_3
    refine lv_iload_n hx hb dX5_at_8 rfl (lv_at hl 1 rfl) ?_
    refine lv_aload_n hx hb dX5_at_9 rfl (lv_at hl 0 rfl) ?_
    refine va_alen (v := (Int32.ofNat n_p1)) hx hb hK hP 0 0 rfl rfl rfl dX5_at_10 ?_
    refine lv_icmp_ge (tgt := 20) hx hb dX5_at_11 (by decide) (fun c_2 => ?_) (fun c_2 => ?_)
    · have hden := if_s hden c_2
      refine lv_iconst (v := 0) hx hb dX5_at_20 (by decide) ?_
      subst hQe
      cases hden
      exact m_ri hx hb hr hP hD hS [0] (by decide) rfl rfl dX5_at_21 hlocks
    · have hden := ifn_s hden c_2
      refine lv_aload_n hx hb dX5_at_14 rfl (lv_at hl 0 rfl) ?_
      refine lv_iload_n hx hb dX5_at_15 rfl (lv_at hl 1 rfl) ?_
      obtain ⟨hg_1, hden⟩ := grd_s hden
      refine va_iald hx hb hK hP 0 0 rfl rfl (inb_in hg_1) dX5_at_16 ?_
      refine lv_goto (tgt := 21) hx hb dX5_at_17 (by decide) ?_
      subst hQe
      cases hden
      exact m_ri hx hb hr hP hD hS [0] (by decide) rfl rfl dX5_at_21 hlocks
def L_X0_firstErrorInPatterns_4 (F : Nat) (v_length : Int32) (v_codes : (Nat → Int32)) : Nat → Int32 → Int32 → Option (Int32)
  | 0, _, _ => none
  | n + 1, x1_1, x2_2 => (if v_length ≤ x2_2 then some (v_length) else bnd (D_X5_at F 60 x2_2 v_codes) (fun r_3 => bnd (D_X0_isLetterCode F r_3) (fun r_5 => jp (fun (_ : Unit) => (if r_3 = 59 then (if x1_1 ≤ 0 then some (x2_2) else nm (x2_2 + 1) (fun x2_7 => L_X0_firstErrorInPatterns_4 F v_length v_codes n 0 x2_7)) else some (x2_2))) (fun j40 => (if r_5 = 0 then j40 () else (if 8 ≤ x1_1 then j40 () else nm (x1_1 + 1) (fun x1_10 => nm (x2_2 + 1) (fun x2_11 => L_X0_firstErrorInPatterns_4 F v_length v_codes n x1_10 x2_11))))))))
def D_X0_firstErrorInPatterns (F : Nat) (v_length : Int32) (v_codes : (Nat → Int32)) : Option (Int32) := L_X0_firstErrorInPatterns_4 F v_length v_codes F 0 0
def rm_X0_firstErrorInPatterns : Room := { frames := 1, cells := 0, slots := 0, locals := 21 }
set_option maxHeartbeats 4000000 in
set_option maxRecDepth 100000 in
theorem c_X0_firstErrorInPatterns (l : Launch) (D : va_G) (cI cM cL : ClassId) (F : Nat) {a_this a_this_codes : Nat} {sz : Nat} {v_length : Int32} {v_codes : Nat → Int32} {r0 : Int32} (hden : D_X0_firstErrorInPatterns F v_length v_codes = some (r0)) : Met l yX0_firstErrorInPatterns wsX0_firstErrorInPatterns rm_X0_firstErrorInPatterns (va_Pc [.ref a_this] (mB D (mTy cI cM cL) sz [(a_this, .inr (0, [.ref a_this_codes, .int v_length])), (a_this_codes, .inl (cI, 60, .inl v_codes))])) (mQi D (va_A [(a_this, .inr (0, [.ref a_this_codes, .int v_length])), (a_this_codes, .inl (cI, 60, .inl v_codes))] sz) [(a_this, .inr (0, [.ref a_this_codes, .int v_length])), (a_this_codes, .inl (cI, 60, .inl v_codes))] r0) 0 0 (va_A [(a_this, .inr (0, [.ref a_this_codes, .int v_length])), (a_this_codes, .inl (cI, 60, .inl v_codes))] sz) := by
  refine Met.ofW (cc := cX0_firstErrorInPatterns) (maxL := 4) (ret := (some .int)) (by decide) rfl ?_
  intro p e s m args below meth c s₁ B hml hv
  obtain ⟨rfl, hsz, hP, hK, hN, hD0⟩ := hv
  have hx := B.exec
  have hb := B.bytes
  have hr := B.returns
  have hts := atoms_spec (ws := wsX0_firstErrorInPatterns) B.pre
  have hown : s.vm.findClass RX0 = some m.cls := findClass_of_methodNamed B.named
  have hlocks := B.notSynchronized
  subst hsz
  have hD := hD0.self (sz := s.heap.size)
  generalize hAe : va_A [(a_this, .inr (0, [.ref a_this_codes, .int v_length])), (a_this_codes, .inl (cI, 60, .inl v_codes))] s.heap.size = A at hD ⊢
  have hA : ∀ q : Nat, s.heap.size ≤ q → A q := fun q h => by rw [← hAe]; exact Or.inr h
  have hS : va_S A s.heap s.heap [] := va_S.rf
  have hl := lv_entry ([.ref a_this]) (n := 4) (Nat.le_of_ble_eq_true rfl)
  rw [lg_entry_eq]
  generalize (lg_sl ([.ref a_this]) ++ List.replicate (4 - (lg_sl ([.ref a_this])).length) Slot.unset).toArray = ls at hl ⊢
  have hl : lv_has ls 4 [(0, .ref a_this)] := hl
  change W p l e rm_X0_firstErrorInPatterns s m (([.ref a_this] : List Value).toArray) below meth c s.heap [] 0 0 _ (F0 m 0 ls [])
  generalize hQe : MQ below (mQi D A [(a_this, .inr (0, [.ref a_this_codes, .int v_length])), (a_this_codes, .inl (cI, 60, .inl v_codes))] r0) (([.ref a_this] : List Value).toArray) s 0 0 A = Q
  rw [D_X0_firstErrorInPatterns] at hden
  have hin_X0 : ∀ w ∈ wsX00, w ∈ wsX0_firstErrorInPatterns := by decide +kernel
  have w_15 := hts (.fieldLink RX0 15 "FallingPatterns$Buffer" "length" "I") (by decide +kernel)
  have w_9 := hts (.fieldLink RX0 9 "FallingPatterns$Buffer" "codes" "[I") (by decide +kernel)
  have w_iX5 := hts (.initialized RX5) (by decide +kernel)
  have w_sX5_at := hts (.static yX5_at) (by decide +kernel)
  refine lv_iconst (v := 0) hx hb dX0_firstErrorInPatterns_0 (by decide) ?_
  refine lv_istore_n (lv' := [(1, .int 0), (0, .ref a_this)]) hx hb dX0_firstErrorInPatterns_1 rfl hl (by decide) rfl (fun ls hl => ?_)
  refine lv_iconst (v := 0) hx hb dX0_firstErrorInPatterns_2 (by decide) ?_
  refine lv_istore_n (lv' := [(2, .int 0), (1, .int 0), (0, .ref a_this)]) hx hb dX0_firstErrorInPatterns_3 rfl hl (by decide) rfl (fun ls hl => ?_)
  have hL4__17 : ∀ (n : Nat) (x1_15 : Int32) (x2_16 : Int32) (H : Heap) (locs : List Loc), va_P D vwCl [(a_this, .inr (0, [.ref a_this_codes, .int v_length])), (a_this_codes, .inl (cI, 60, .inl v_codes))] H → va_D A [(a_this, .inr (0, [.ref a_this_codes, .int v_length])), (a_this_codes, .inl (cI, 60, .inl v_codes))] → va_S A s.heap H locs → ∀ ls : Array Slot, lv_has ls 4 [(0, .ref a_this), (1, .int x1_15), (2, .int x2_16)] → L_X0_firstErrorInPatterns_4 F v_length v_codes n x1_15 x2_16 = some (r0) → W p l e rm_X0_firstErrorInPatterns s m (([.ref a_this] : List Value).toArray) below meth c H locs 0 0 Q (F0 m 4 ls []) := by
    intro n
    induction n with
    | zero => intro x1_15 x2_16 H locs hP hD hS ls hl hden; exact no_none hden
    | succ n ih =>
      intro x1_15 x2_16 H locs hP hD hS ls hl hden
      rw [L_X0_firstErrorInPatterns_4] at hden
      refine lv_iload_n hx hb dX0_firstErrorInPatterns_4 rfl (lv_at hl 2 rfl) ?_
      refine lv_aload_n hx hb dX0_firstErrorInPatterns_5 rfl (lv_at hl 0 rfl) ?_
      refine va_get (D := D) (ci := 0) (v := .int v_length) (C := RX0) (T := TX0) (N := 2) hx hb hts hin_X0 hown hK hP 0 rfl rfl 1 (by decide) w_15 (fun _ h9 => h9) rfl dX0_firstErrorInPatterns_6 ?_
      refine lv_icmp_ge (tgt := 63) hx hb dX0_firstErrorInPatterns_9 (by decide) (fun c_29 => ?_) (fun c_29 => ?_)
      · have hden := if_s hden c_29
        refine lv_aload_n hx hb dX0_firstErrorInPatterns_63 rfl (lv_at hl 0 rfl) ?_
        refine va_get (D := D) (ci := 0) (v := .int v_length) (C := RX0) (T := TX0) (N := 2) hx hb hts hin_X0 hown hK hP 0 rfl rfl 1 (by decide) w_15 (fun _ h9 => h9) rfl dX0_firstErrorInPatterns_64 ?_
        subst hQe
        cases hden
        exact m_ri hx hb hr hP hD hS [0, 1] (by decide) rfl rfl dX0_firstErrorInPatterns_67 hlocks
      · have hden := ifn_s hden c_29
        refine lv_aload_n hx hb dX0_firstErrorInPatterns_12 rfl (lv_at hl 0 rfl) ?_
        refine va_get (D := D) (ci := 0) (v := .ref a_this_codes) (C := RX0) (T := TX0) (N := 2) hx hb hts hin_X0 hown hK hP 0 rfl rfl 0 (by decide) w_9 (fun _ h9 => h9) rfl dX0_firstErrorInPatterns_13 ?_
        refine lv_iload_n hx hb dX0_firstErrorInPatterns_16 rfl (lv_at hl 2 rfl) ?_
        obtain ⟨r_18, hc_19, hden⟩ := bnd_s hden
        refine m_ci (wc := [(a_this_codes, .inl (cI, 60, .inl v_codes))]) (wr := [(a_this, .inr (0, [.ref a_this_codes, .int v_length]))]) (wc' := [(a_this_codes, .inl (cI, 60, .inl v_codes))]) (va_runSN (As := [.ref a_this_codes, .int x2_16]) (rest := []) ⟨hx, hb, hml, hown, hts⟩ (c_X5_at l D cI cM cL F hc_19) ⟨va_cnB 2 hts gX0_firstErrorInPatterns_X5_at_n27 rfl rfl rfl hN.1 w_iX5 (by decide +kernel) ⟨Nat.le_of_ble_eq_true rfl, Nat.le_of_ble_eq_true rfl⟩, w_sX5_at, trivial⟩ (mPreS hP hD hK hN [1] (by decide) rfl) rfl rfl hl.1 rfl (lv_room (Nat.le_of_ble_eq_true rfl)) dX0_firstErrorInPatterns_17 ⟨Nat.le_of_ble_eq_true rfl, Nat.le_of_ble_eq_true rfl⟩) hP hD hS hA [1] [0] rfl rfl (by decide) (by decide) (fun H locs hP hD hS => ?_)
        have hP : va_P D vwCl [(a_this, .inr (0, [.ref a_this_codes, .int v_length])), (a_this_codes, .inl (cI, 60, .inl v_codes))] H := hP
        have hD : va_D A [(a_this, .inr (0, [.ref a_this_codes, .int v_length])), (a_this_codes, .inl (cI, 60, .inl v_codes))] := hD
        refine lv_istore_n (lv' := [(3, .int r_18), (0, .ref a_this), (1, .int x1_15), (2, .int x2_16)]) hx hb dX0_firstErrorInPatterns_20 rfl hl (by decide) rfl (fun ls hl => ?_)
        refine lv_iload_n hx hb dX0_firstErrorInPatterns_21 rfl (lv_at hl 0 rfl) ?_
        obtain ⟨r_20, hc_21, hden⟩ := bnd_s hden
        refine m_ci (wc := []) (wr := [(a_this, .inr (0, [.ref a_this_codes, .int v_length])), (a_this_codes, .inl (cI, 60, .inl v_codes))]) (wc' := []) (va_runS (As := [.int r_18]) (rest := []) ⟨hx, hb, hml, hown, hts⟩ (c_X0_isLetterCode l D cI cM cL F hc_21) (va_cwS 1 hts gX0_firstErrorInPatterns_X0_isLetterCode rfl rfl rfl (by decide +kernel) ⟨Nat.le_of_ble_eq_true rfl, Nat.le_of_ble_eq_true rfl⟩) (mPreS hP hD hK hN [] (by decide) rfl) rfl rfl hl.1 rfl (lv_room (Nat.le_of_ble_eq_true rfl)) dX0_firstErrorInPatterns_22 ⟨Nat.le_of_ble_eq_true rfl, Nat.le_of_ble_eq_true rfl⟩) hP hD hS hA [] [0, 1] rfl rfl (by decide) (by decide) (fun H locs hP hD hS => ?_)
        have hP : va_P D vwCl [(a_this, .inr (0, [.ref a_this_codes, .int v_length])), (a_this_codes, .inl (cI, 60, .inl v_codes))] H := hP
        have hD : va_D A [(a_this, .inr (0, [.ref a_this_codes, .int v_length])), (a_this_codes, .inl (cI, 60, .inl v_codes))] := hD
        obtain ⟨j40, ej40, hden⟩ := jp_s hden
        have hj40 : ∀  (H : Heap) (locs : List Loc), va_P D vwCl [(a_this, .inr (0, [.ref a_this_codes, .int v_length])), (a_this_codes, .inl (cI, 60, .inl v_codes))] H → va_D A [(a_this, .inr (0, [.ref a_this_codes, .int v_length])), (a_this_codes, .inl (cI, 60, .inl v_codes))] → va_S A s.heap H locs → ∀ ls : Array Slot, lv_has ls 4 [(0, .ref a_this), (1, .int x1_15), (2, .int x2_16), (3, .int r_18)] → j40 () = some (r0) → W p l e rm_X0_firstErrorInPatterns s m (([.ref a_this] : List Value).toArray) below meth c H locs 0 0 Q (F0 m 40 ls []) := by
          intro H locs hP hD hS ls hl hden
          rw [ej40] at hden
          refine lv_iload_n hx hb dX0_firstErrorInPatterns_40 rfl (lv_at hl 3 rfl) ?_
          refine lv_bipush (v := 59) hx hb dX0_firstErrorInPatterns_41 (by decide) ?_
          refine lv_icmp_ne (tgt := 55) hx hb dX0_firstErrorInPatterns_43 (by decide) (fun c_24 => ?_) (fun c_24 => ?_)
          · have hden := ifn_s hden c_24
            refine lv_iload_n hx hb dX0_firstErrorInPatterns_55 rfl (lv_at hl 2 rfl) ?_
            subst hQe
            cases hden
            exact m_ri hx hb hr hP hD hS [0, 1] (by decide) rfl rfl dX0_firstErrorInPatterns_56 hlocks
          · have hden := if_s hden c_24
            refine lv_iload_n hx hb dX0_firstErrorInPatterns_46 rfl (lv_at hl 1 rfl) ?_
            refine lv_if_le (tgt := 55) hx hb dX0_firstErrorInPatterns_47 (by decide) (fun c_23 => ?_) (fun c_23 => ?_)
            · have hden := if_s hden c_23
              refine lv_iload_n hx hb dX0_firstErrorInPatterns_55 rfl (lv_at hl 2 rfl) ?_
              subst hQe
              cases hden
              exact m_ri hx hb hr hP hD hS [0, 1] (by decide) rfl rfl dX0_firstErrorInPatterns_56 hlocks
            · have hden := ifn_s hden c_23
              refine lv_iconst (v := 0) hx hb dX0_firstErrorInPatterns_50 (by decide) ?_
              refine lv_istore_n (lv' := [(1, .int 0), (0, .ref a_this), (2, .int x2_16), (3, .int r_18)]) hx hb dX0_firstErrorInPatterns_51 rfl hl (by decide) rfl (fun ls hl => ?_)
              refine lv_goto (tgt := 57) hx hb dX0_firstErrorInPatterns_52 (by decide) ?_
              obtain ⟨x2_22, ex2_22, hden⟩ := nm_x hden
              refine lv_iinc (v := x2_22) (lv' := [(2, .int x2_22), (1, .int 0), (0, .ref a_this), (3, .int r_18)]) hx hb dX0_firstErrorInPatterns_57 hl (k := 2) rfl (by rw [ex2_22]; rfl) (by decide) rfl (fun ls hl => ?_)
              refine lv_goto (tgt := 4) hx hb dX0_firstErrorInPatterns_60 (by decide) ?_
              exact ih 0 x2_22 _ _ (mSubP hP [0, 1] rfl) (hD.sub [0, 1] (by decide) rfl) hS ls (lv_sub hl [2, 1, 0] rfl) hden
        clear ej40
        refine lv_if_eq (tgt := 40) hx hb dX0_firstErrorInPatterns_25 (by decide) (fun c_28 => ?_) (fun c_28 => ?_)
        · have hden := if_s hden c_28
          exact hj40 _ _ (mSubP hP [0, 1] rfl) (hD.sub [0, 1] (by decide) rfl) hS ls (lv_sub hl [1, 2, 3, 0] rfl) hden
        · have hden := ifn_s hden c_28
          refine lv_iload_n hx hb dX0_firstErrorInPatterns_28 rfl (lv_at hl 2 rfl) ?_
          refine lv_bipush (v := 8) hx hb dX0_firstErrorInPatterns_29 (by decide) ?_
          refine lv_icmp_ge (tgt := 40) hx hb dX0_firstErrorInPatterns_31 (by decide) (fun c_27 => ?_) (fun c_27 => ?_)
          · have hden := if_s hden c_27
            exact hj40 _ _ (mSubP hP [0, 1] rfl) (hD.sub [0, 1] (by decide) rfl) hS ls (lv_sub hl [1, 2, 3, 0] rfl) hden
          · have hden := ifn_s hden c_27
            obtain ⟨x1_25, ex1_25, hden⟩ := nm_x hden
            refine lv_iinc (v := x1_25) (lv' := [(1, .int x1_25), (3, .int r_18), (0, .ref a_this), (2, .int x2_16)]) hx hb dX0_firstErrorInPatterns_34 hl (k := 2) rfl (by rw [ex1_25]; rfl) (by decide) rfl (fun ls hl => ?_)
            refine lv_goto (tgt := 57) hx hb dX0_firstErrorInPatterns_37 (by decide) ?_
            obtain ⟨x2_26, ex2_26, hden⟩ := nm_x hden
            refine lv_iinc (v := x2_26) (lv' := [(2, .int x2_26), (1, .int x1_25), (3, .int r_18), (0, .ref a_this)]) hx hb dX0_firstErrorInPatterns_57 hl (k := 3) rfl (by rw [ex2_26]; rfl) (by decide) rfl (fun ls hl => ?_)
            refine lv_goto (tgt := 4) hx hb dX0_firstErrorInPatterns_60 (by decide) ?_
            exact ih x1_25 x2_26 _ _ (mSubP hP [0, 1] rfl) (hD.sub [0, 1] (by decide) rfl) hS ls (lv_sub hl [3, 1, 0] rfl) hden
  exact hL4__17 F 0 0 _ _ (mSubP hP [0, 1] rfl) (hD.sub [0, 1] (by decide) rfl) hS ls (lv_sub hl [2, 1, 0] rfl) hden
def D_X0_endsPart (F : Nat) (p1 : Int32) (v_codes : (Nat → Int32)) (v_length : Int32) : Option (Int32) := bnd (D_X5_at F 60 p1 v_codes) (fun r_1 => (if r_1 = 59 then some (0) else (if v_length ≤ (p1 + 1) then some (1) else bnd (D_X5_at F 60 (p1 + 1) v_codes) (fun r_3 => (if r_3 = 59 then some (1) else some (0))))))
def rm_X0_endsPart : Room := { frames := 1, cells := 0, slots := 0, locals := 21 }
set_option maxHeartbeats 4000000 in
set_option maxRecDepth 100000 in
theorem c_X0_endsPart (l : Launch) (D : va_G) (cI cM cL : ClassId) (F : Nat) {a_this a_this_codes : Nat} {sz : Nat} {v_length : Int32} {v_codes : Nat → Int32} {p1 : Int32} {r0 : Int32} (hden : D_X0_endsPart F p1 v_codes v_length = some (r0)) : Met l yX0_endsPart wsX0_endsPart rm_X0_endsPart (va_Pc [.ref a_this, .int p1] (mB D (mTy cI cM cL) sz [(a_this, .inr (0, [.ref a_this_codes, .int v_length])), (a_this_codes, .inl (cI, 60, .inl v_codes))])) (mQi D (va_A [(a_this, .inr (0, [.ref a_this_codes, .int v_length])), (a_this_codes, .inl (cI, 60, .inl v_codes))] sz) [(a_this, .inr (0, [.ref a_this_codes, .int v_length])), (a_this_codes, .inl (cI, 60, .inl v_codes))] r0) 0 0 (va_A [(a_this, .inr (0, [.ref a_this_codes, .int v_length])), (a_this_codes, .inl (cI, 60, .inl v_codes))] sz) := by
  refine Met.ofW (cc := cX0_endsPart) (maxL := 2) (ret := (some .boolean)) (by decide) rfl ?_
  intro p e s m args below meth c s₁ B hml hv
  obtain ⟨rfl, hsz, hP, hK, hN, hD0⟩ := hv
  have hx := B.exec
  have hb := B.bytes
  have hr := B.returns
  have hts := atoms_spec (ws := wsX0_endsPart) B.pre
  have hown : s.vm.findClass RX0 = some m.cls := findClass_of_methodNamed B.named
  have hlocks := B.notSynchronized
  subst hsz
  have hD := hD0.self (sz := s.heap.size)
  generalize hAe : va_A [(a_this, .inr (0, [.ref a_this_codes, .int v_length])), (a_this_codes, .inl (cI, 60, .inl v_codes))] s.heap.size = A at hD ⊢
  have hA : ∀ q : Nat, s.heap.size ≤ q → A q := fun q h => by rw [← hAe]; exact Or.inr h
  have hS : va_S A s.heap s.heap [] := va_S.rf
  have hl := lv_entry ([.ref a_this, .int p1]) (n := 2) (Nat.le_of_ble_eq_true rfl)
  rw [lg_entry_eq]
  generalize (lg_sl ([.ref a_this, .int p1]) ++ List.replicate (2 - (lg_sl ([.ref a_this, .int p1])).length) Slot.unset).toArray = ls at hl ⊢
  have hl : lv_has ls 2 [(0, .ref a_this), (1, .int p1)] := hl
  change W p l e rm_X0_endsPart s m (([.ref a_this, .int p1] : List Value).toArray) below meth c s.heap [] 0 0 _ (F0 m 0 ls [])
  generalize hQe : MQ below (mQi D A [(a_this, .inr (0, [.ref a_this_codes, .int v_length])), (a_this_codes, .inl (cI, 60, .inl v_codes))] r0) (([.ref a_this, .int p1] : List Value).toArray) s 0 0 A = Q
  rw [D_X0_endsPart] at hden
  have hin_X0 : ∀ w ∈ wsX00, w ∈ wsX0_endsPart := by decide +kernel
  have w_9 := hts (.fieldLink RX0 9 "FallingPatterns$Buffer" "codes" "[I") (by decide +kernel)
  have w_iX5 := hts (.initialized RX5) (by decide +kernel)
  have w_sX5_at := hts (.static yX5_at) (by decide +kernel)
  have w_15 := hts (.fieldLink RX0 15 "FallingPatterns$Buffer" "length" "I") (by decide +kernel)
  refine lv_aload_n hx hb dX0_endsPart_0 rfl (lv_at hl 0 rfl) ?_
  refine va_get (D := D) (ci := 0) (v := .ref a_this_codes) (C := RX0) (T := TX0) (N := 2) hx hb hts hin_X0 hown hK hP 0 rfl rfl 0 (by decide) w_9 (fun _ h9 => h9) rfl dX0_endsPart_1 ?_
  refine lv_iload_n hx hb dX0_endsPart_4 rfl (lv_at hl 1 rfl) ?_
  obtain ⟨r_1, hc_2, hden⟩ := bnd_s hden
  refine m_ci (wc := [(a_this_codes, .inl (cI, 60, .inl v_codes))]) (wr := [(a_this, .inr (0, [.ref a_this_codes, .int v_length]))]) (wc' := [(a_this_codes, .inl (cI, 60, .inl v_codes))]) (va_runSN (As := [.ref a_this_codes, .int p1]) (rest := []) ⟨hx, hb, hml, hown, hts⟩ (c_X5_at l D cI cM cL F hc_2) ⟨va_cnB 2 hts gX0_endsPart_X5_at_n27 rfl rfl rfl hN.1 w_iX5 (by decide +kernel) ⟨Nat.le_of_ble_eq_true rfl, Nat.le_of_ble_eq_true rfl⟩, w_sX5_at, trivial⟩ (mPreS hP hD hK hN [1] (by decide) rfl) rfl rfl hl.1 rfl (lv_room (Nat.le_of_ble_eq_true rfl)) dX0_endsPart_5 ⟨Nat.le_of_ble_eq_true rfl, Nat.le_of_ble_eq_true rfl⟩) hP hD hS hA [1] [0] rfl rfl (by decide) (by decide) (fun H locs hP hD hS => ?_)
  have hP : va_P D vwCl [(a_this, .inr (0, [.ref a_this_codes, .int v_length])), (a_this_codes, .inl (cI, 60, .inl v_codes))] H := hP
  have hD : va_D A [(a_this, .inr (0, [.ref a_this_codes, .int v_length])), (a_this_codes, .inl (cI, 60, .inl v_codes))] := hD
  refine lv_bipush (v := 59) hx hb dX0_endsPart_8 (by decide) ?_
  refine lv_icmp_eq (tgt := 42) hx hb dX0_endsPart_10 (by decide) (fun c_7 => ?_) (fun c_7 => ?_)
  · have hden := if_s hden c_7
    refine lv_iconst (v := 0) hx hb dX0_endsPart_42 (by decide) ?_
    subst hQe
    cases hden
    exact m_rz hx hb hr hP hD hS [0, 1] (by decide) rfl rfl (by decide) dX0_endsPart_43 hlocks
  · have hden := ifn_s hden c_7
    refine lv_iload_n hx hb dX0_endsPart_13 rfl (lv_at hl 1 rfl) ?_
    refine lv_iconst (v := 1) hx hb dX0_endsPart_14 (by decide) ?_
    refine lv_iadd hx hb dX0_endsPart_15 ?_
    refine lv_aload_n hx hb dX0_endsPart_16 rfl (lv_at hl 0 rfl) ?_
    refine va_get (D := D) (ci := 0) (v := .int v_length) (C := RX0) (T := TX0) (N := 2) hx hb hts hin_X0 hown hK hP 0 rfl rfl 1 (by decide) w_15 (fun _ h9 => h9) rfl dX0_endsPart_17 ?_
    refine lv_icmp_ge (tgt := 38) hx hb dX0_endsPart_20 (by decide) (fun c_6 => ?_) (fun c_6 => ?_)
    · have hden := if_s hden c_6
      refine lv_iconst (v := 1) hx hb dX0_endsPart_38 (by decide) ?_
      refine lv_goto (tgt := 43) hx hb dX0_endsPart_39 (by decide) ?_
      subst hQe
      cases hden
      exact m_rz hx hb hr hP hD hS [0, 1] (by decide) rfl rfl (by decide) dX0_endsPart_43 hlocks
    · have hden := ifn_s hden c_6
      refine lv_aload_n hx hb dX0_endsPart_23 rfl (lv_at hl 0 rfl) ?_
      refine va_get (D := D) (ci := 0) (v := .ref a_this_codes) (C := RX0) (T := TX0) (N := 2) hx hb hts hin_X0 hown hK hP 0 rfl rfl 0 (by decide) w_9 (fun _ h9 => h9) rfl dX0_endsPart_24 ?_
      refine lv_iload_n hx hb dX0_endsPart_27 rfl (lv_at hl 1 rfl) ?_
      refine lv_iconst (v := 1) hx hb dX0_endsPart_28 (by decide) ?_
      refine lv_iadd hx hb dX0_endsPart_29 ?_
      obtain ⟨r_3, hc_4, hden⟩ := bnd_s hden
      refine m_ci (wc := [(a_this_codes, .inl (cI, 60, .inl v_codes))]) (wr := [(a_this, .inr (0, [.ref a_this_codes, .int v_length]))]) (wc' := [(a_this_codes, .inl (cI, 60, .inl v_codes))]) (va_runSN (As := [.ref a_this_codes, .int (p1 + 1)]) (rest := []) ⟨hx, hb, hml, hown, hts⟩ (c_X5_at l D cI cM cL F hc_4) ⟨va_cnB 2 hts gX0_endsPart_X5_at_n27 rfl rfl rfl hN.1 w_iX5 (by decide +kernel) ⟨Nat.le_of_ble_eq_true rfl, Nat.le_of_ble_eq_true rfl⟩, w_sX5_at, trivial⟩ (mPreS hP hD hK hN [1] (by decide) rfl) rfl rfl hl.1 rfl (lv_room (Nat.le_of_ble_eq_true rfl)) dX0_endsPart_30 ⟨Nat.le_of_ble_eq_true rfl, Nat.le_of_ble_eq_true rfl⟩) hP hD hS hA [1] [0] rfl rfl (by decide) (by decide) (fun H locs hP hD hS => ?_)
      have hP : va_P D vwCl [(a_this, .inr (0, [.ref a_this_codes, .int v_length])), (a_this_codes, .inl (cI, 60, .inl v_codes))] H := hP
      have hD : va_D A [(a_this, .inr (0, [.ref a_this_codes, .int v_length])), (a_this_codes, .inl (cI, 60, .inl v_codes))] := hD
      refine lv_bipush (v := 59) hx hb dX0_endsPart_33 (by decide) ?_
      refine lv_icmp_ne (tgt := 42) hx hb dX0_endsPart_35 (by decide) (fun c_5 => ?_) (fun c_5 => ?_)
      · have hden := ifn_s hden c_5
        refine lv_iconst (v := 0) hx hb dX0_endsPart_42 (by decide) ?_
        subst hQe
        cases hden
        exact m_rz hx hb hr hP hD hS [0, 1] (by decide) rfl rfl (by decide) dX0_endsPart_43 hlocks
      · have hden := if_s hden c_5
        refine lv_iconst (v := 1) hx hb dX0_endsPart_38 (by decide) ?_
        refine lv_goto (tgt := 43) hx hb dX0_endsPart_39 (by decide) ?_
        subst hQe
        cases hden
        exact m_rz hx hb hr hP hD hS [0, 1] (by decide) rfl rfl (by decide) dX0_endsPart_43 hlocks
def D_X0_holdsPatterns (F : Nat) (v_length : Int32) (v_codes : (Nat → Int32)) : Option (Int32) := (if v_length ≤ 0 then some (0) else bnd (D_X0_firstErrorInPatterns F v_length v_codes) (fun r_1 => (if r_1 = v_length then bnd (D_X0_endsPart F (v_length - 1) v_codes v_length) (fun r_3 => (if r_3 = 0 then some (0) else some (1))) else some (0))))
def rm_X0_holdsPatterns : Room := { frames := 2, cells := 0, slots := 0, locals := 44 }
set_option maxHeartbeats 4000000 in
set_option maxRecDepth 100000 in
theorem c_X0_holdsPatterns (l : Launch) (D : va_G) (cI cM cL : ClassId) (F : Nat) {a_this a_this_codes : Nat} {sz : Nat} {v_length : Int32} {v_codes : Nat → Int32} {r0 : Int32} (hden : D_X0_holdsPatterns F v_length v_codes = some (r0)) : Met l yX0_holdsPatterns wsX0_holdsPatterns rm_X0_holdsPatterns (va_Pc [.ref a_this] (mB D (mTy cI cM cL) sz [(a_this, .inr (0, [.ref a_this_codes, .int v_length])), (a_this_codes, .inl (cI, 60, .inl v_codes))])) (mQi D (va_A [(a_this, .inr (0, [.ref a_this_codes, .int v_length])), (a_this_codes, .inl (cI, 60, .inl v_codes))] sz) [(a_this, .inr (0, [.ref a_this_codes, .int v_length])), (a_this_codes, .inl (cI, 60, .inl v_codes))] r0) 0 0 (va_A [(a_this, .inr (0, [.ref a_this_codes, .int v_length])), (a_this_codes, .inl (cI, 60, .inl v_codes))] sz) := by
  refine Met.ofW (cc := cX0_holdsPatterns) (maxL := 1) (ret := (some .boolean)) (by decide) rfl ?_
  intro p e s m args below meth c s₁ B hml hv
  obtain ⟨rfl, hsz, hP, hK, hN, hD0⟩ := hv
  have hx := B.exec
  have hb := B.bytes
  have hr := B.returns
  have hts := atoms_spec (ws := wsX0_holdsPatterns) B.pre
  have hown : s.vm.findClass RX0 = some m.cls := findClass_of_methodNamed B.named
  have hlocks := B.notSynchronized
  subst hsz
  have hD := hD0.self (sz := s.heap.size)
  generalize hAe : va_A [(a_this, .inr (0, [.ref a_this_codes, .int v_length])), (a_this_codes, .inl (cI, 60, .inl v_codes))] s.heap.size = A at hD ⊢
  have hA : ∀ q : Nat, s.heap.size ≤ q → A q := fun q h => by rw [← hAe]; exact Or.inr h
  have hS : va_S A s.heap s.heap [] := va_S.rf
  have hl := lv_entry ([.ref a_this]) (n := 1) (Nat.le_of_ble_eq_true rfl)
  rw [lg_entry_eq]
  generalize (lg_sl ([.ref a_this]) ++ List.replicate (1 - (lg_sl ([.ref a_this])).length) Slot.unset).toArray = ls at hl ⊢
  have hl : lv_has ls 1 [(0, .ref a_this)] := hl
  change W p l e rm_X0_holdsPatterns s m (([.ref a_this] : List Value).toArray) below meth c s.heap [] 0 0 _ (F0 m 0 ls [])
  generalize hQe : MQ below (mQi D A [(a_this, .inr (0, [.ref a_this_codes, .int v_length])), (a_this_codes, .inl (cI, 60, .inl v_codes))] r0) (([.ref a_this] : List Value).toArray) s 0 0 A = Q
  rw [D_X0_holdsPatterns] at hden
  have hin_X0 : ∀ w ∈ wsX00, w ∈ wsX0_holdsPatterns := by decide +kernel
  have w_15 := hts (.fieldLink RX0 15 "FallingPatterns$Buffer" "length" "I") (by decide +kernel)
  refine lv_aload_n hx hb dX0_holdsPatterns_0 rfl (lv_at hl 0 rfl) ?_
  refine va_get (D := D) (ci := 0) (v := .int v_length) (C := RX0) (T := TX0) (N := 2) hx hb hts hin_X0 hown hK hP 0 rfl rfl 1 (by decide) w_15 (fun _ h9 => h9) rfl dX0_holdsPatterns_1 ?_
  refine lv_if_le (tgt := 35) hx hb dX0_holdsPatterns_4 (by decide) (fun c_7 => ?_) (fun c_7 => ?_)
  · have hden := if_s hden c_7
    refine lv_iconst (v := 0) hx hb dX0_holdsPatterns_35 (by decide) ?_
    subst hQe
    cases hden
    exact m_rz hx hb hr hP hD hS [0, 1] (by decide) rfl rfl (by decide) dX0_holdsPatterns_36 hlocks
  · have hden := ifn_s hden c_7
    refine lv_aload_n hx hb dX0_holdsPatterns_7 rfl (lv_at hl 0 rfl) ?_
    obtain ⟨r_1, hc_2, hden⟩ := bnd_s hden
    refine m_ci (wc := [(a_this, .inr (0, [.ref a_this_codes, .int v_length])), (a_this_codes, .inl (cI, 60, .inl v_codes))]) (wr := []) (wc' := [(a_this, .inr (0, [.ref a_this_codes, .int v_length])), (a_this_codes, .inl (cI, 60, .inl v_codes))]) (va_runV (As := []) (rest := []) ⟨hx, hb, hml, hown, hts⟩ (c_X0_firstErrorInPatterns l D cI cM cL F hc_2) (cwV 0 hts gX0_holdsPatterns_X0_firstErrorInPatterns rfl rfl rfl (by decide +kernel) ⟨Nat.le_of_ble_eq_true rfl, Nat.le_of_ble_eq_true rfl⟩) (mPreV (ci := 0) (q0 := 0) (r := (RX0, TX0, 2)) hP hD hK hN [0, 1] (by decide) rfl rfl rfl) rfl rfl hl.1 rfl (lv_room (Nat.le_of_ble_eq_true rfl)) dX0_holdsPatterns_8 ⟨Nat.le_of_ble_eq_true rfl, Nat.le_of_ble_eq_true rfl⟩) hP hD hS hA [0, 1] [] rfl rfl (by decide) (by decide) (fun H locs hP hD hS => ?_)
    have hP : va_P D vwCl [(a_this, .inr (0, [.ref a_this_codes, .int v_length])), (a_this_codes, .inl (cI, 60, .inl v_codes))] H := hP
    have hD : va_D A [(a_this, .inr (0, [.ref a_this_codes, .int v_length])), (a_this_codes, .inl (cI, 60, .inl v_codes))] := hD
    refine lv_aload_n hx hb dX0_holdsPatterns_11 rfl (lv_at hl 0 rfl) ?_
    refine va_get (D := D) (ci := 0) (v := .int v_length) (C := RX0) (T := TX0) (N := 2) hx hb hts hin_X0 hown hK hP 0 rfl rfl 1 (by decide) w_15 (fun _ h9 => h9) rfl dX0_holdsPatterns_12 ?_
    refine lv_icmp_ne (tgt := 35) hx hb dX0_holdsPatterns_15 (by decide) (fun c_6 => ?_) (fun c_6 => ?_)
    · have hden := ifn_s hden c_6
      refine lv_iconst (v := 0) hx hb dX0_holdsPatterns_35 (by decide) ?_
      subst hQe
      cases hden
      exact m_rz hx hb hr hP hD hS [0, 1] (by decide) rfl rfl (by decide) dX0_holdsPatterns_36 hlocks
    · have hden := if_s hden c_6
      refine lv_aload_n hx hb dX0_holdsPatterns_18 rfl (lv_at hl 0 rfl) ?_
      refine lv_aload_n hx hb dX0_holdsPatterns_19 rfl (lv_at hl 0 rfl) ?_
      refine va_get (D := D) (ci := 0) (v := .int v_length) (C := RX0) (T := TX0) (N := 2) hx hb hts hin_X0 hown hK hP 0 rfl rfl 1 (by decide) w_15 (fun _ h9 => h9) rfl dX0_holdsPatterns_20 ?_
      refine lv_iconst (v := 1) hx hb dX0_holdsPatterns_23 (by decide) ?_
      refine lv_isub hx hb dX0_holdsPatterns_24 ?_
      obtain ⟨r_3, hc_4, hden⟩ := bnd_s hden
      refine m_ci (wc := [(a_this, .inr (0, [.ref a_this_codes, .int v_length])), (a_this_codes, .inl (cI, 60, .inl v_codes))]) (wr := []) (wc' := [(a_this, .inr (0, [.ref a_this_codes, .int v_length])), (a_this_codes, .inl (cI, 60, .inl v_codes))]) (va_runV (As := [.int (v_length - 1)]) (rest := []) ⟨hx, hb, hml, hown, hts⟩ (c_X0_endsPart l D cI cM cL F hc_4) (cwV 1 hts gX0_holdsPatterns_X0_endsPart rfl rfl rfl (by decide +kernel) ⟨Nat.le_of_ble_eq_true rfl, Nat.le_of_ble_eq_true rfl⟩) (mPreV (ci := 0) (q0 := 0) (r := (RX0, TX0, 2)) hP hD hK hN [0, 1] (by decide) rfl rfl rfl) rfl rfl hl.1 rfl (lv_room (Nat.le_of_ble_eq_true rfl)) dX0_holdsPatterns_25 ⟨Nat.le_of_ble_eq_true rfl, Nat.le_of_ble_eq_true rfl⟩) hP hD hS hA [0, 1] [] rfl rfl (by decide) (by decide) (fun H locs hP hD hS => ?_)
      have hP : va_P D vwCl [(a_this, .inr (0, [.ref a_this_codes, .int v_length])), (a_this_codes, .inl (cI, 60, .inl v_codes))] H := hP
      have hD : va_D A [(a_this, .inr (0, [.ref a_this_codes, .int v_length])), (a_this_codes, .inl (cI, 60, .inl v_codes))] := hD
      refine lv_if_eq (tgt := 35) hx hb dX0_holdsPatterns_28 (by decide) (fun c_5 => ?_) (fun c_5 => ?_)
      · have hden := if_s hden c_5
        refine lv_iconst (v := 0) hx hb dX0_holdsPatterns_35 (by decide) ?_
        subst hQe
        cases hden
        exact m_rz hx hb hr hP hD hS [0, 1] (by decide) rfl rfl (by decide) dX0_holdsPatterns_36 hlocks
      · have hden := ifn_s hden c_5
        refine lv_iconst (v := 1) hx hb dX0_holdsPatterns_31 (by decide) ?_
        refine lv_goto (tgt := 36) hx hb dX0_holdsPatterns_32 (by decide) ?_
        subst hQe
        cases hden
        exact m_rz hx hb hr hP hD hS [0, 1] (by decide) rfl rfl (by decide) dX0_holdsPatterns_36 hlocks
def L_X1_takeState_5 (F : Nat) (k29 : Int32 → Option ((Nat → Int32) × Int32)) (y1 : Int32) (v_rows : (Nat → Int32)) : Nat → Int32 → Option ((Nat → Int32) × Int32)
  | 0, _ => none
  | n + 1, x2_1 => (if x2_1 ≤ 0 then k29 x2_1 else bnd (D_X5_at F 65 (x2_1 - 1) v_rows) (fun r_2 => (if r_2 < y1 then k29 x2_1 else nm (x2_1 + (-1)) (fun x2_4 => L_X1_takeState_5 F k29 y1 v_rows n x2_4))))
def L_X1_takeState_55 (F : Nat) (k84 : (Nat → Int32) → Option ((Nat → Int32) × Int32)) (y1 : Int32) (y2 : Int32) : Nat → Int32 → (Nat → Int32) → Option ((Nat → Int32) × Int32)
  | 0, _, _ => none
  | n + 1, x3_15, v_rows_16 => (if x3_15 ≤ y2 then k84 v_rows_16 else bnd (D_X5_at F 65 (x3_15 - 1) v_rows_16) (fun r_17 => bnd (D_X5_put F 65 x3_15 r_17 v_rows_16) (fun v_rows_19 => nm (x3_15 + (-1)) (fun x3_21 => L_X1_takeState_55 F k84 y1 y2 n x3_21 v_rows_19))))
def D_X1_takeState (F : Nat) (p1 : Int32) (v_size : Int32) (v_rows : (Nat → Int32)) : Option ((Nat → Int32) × Int32) := L_X1_takeState_5 F (fun (x2_8 : Int32) => jp (fun (_ : Unit) => L_X1_takeState_55 F (fun (v_rows_25 : (Nat → Int32)) => bnd (D_X5_put F 65 x2_8 p1 v_rows_25) (fun v_rows_33 => nm (v_size + 1) (fun f_size_35 => some (v_rows_33, f_size_35)))) p1 x2_8 F v_size v_rows) (fun j50 => (if v_size ≤ x2_8 then j50 () else bnd (D_X5_at F 65 x2_8 v_rows) (fun r_36 => (if r_36 = p1 then some (v_rows, v_size) else j50 ()))))) p1 v_rows F v_size
def rm_X1_takeState : Room := { frames := 1, cells := 0, slots := 0, locals := 22 }
set_option maxHeartbeats 4000000 in
set_option maxRecDepth 100000 in
theorem c_X1_takeState (l : Launch) (D : va_G) (cI cM cL : ClassId) (F : Nat) {a_this a_this_rows a_this_shorter a_this_ends a_this_leads : Nat} {sz : Nat} {v_size : Int32} {v_rows : Nat → Int32} {p1 : Int32} {w_rows : (Nat → Int32)} {w_size : Int32} (hden : D_X1_takeState F p1 v_size v_rows = some (w_rows, w_size)) : Met l yX1_takeState wsX1_takeState rm_X1_takeState (va_Pc [.ref a_this, .int p1] (mB D (mTy cI cM cL) sz [(a_this, .inr (1, [.ref a_this_rows, .ref a_this_shorter, .ref a_this_ends, .ref a_this_leads, .int v_size])), (a_this_rows, .inl (cI, 65, .inl v_rows))])) (mQv D (va_A [(a_this, .inr (1, [.ref a_this_rows, .ref a_this_shorter, .ref a_this_ends, .ref a_this_leads, .int v_size])), (a_this_rows, .inl (cI, 65, .inl v_rows))] sz) [(a_this, .inr (1, [.ref a_this_rows, .ref a_this_shorter, .ref a_this_ends, .ref a_this_leads, .int w_size])), (a_this_rows, .inl (cI, 65, .inl w_rows))]) 0 0 (va_A [(a_this, .inr (1, [.ref a_this_rows, .ref a_this_shorter, .ref a_this_ends, .ref a_this_leads, .int v_size])), (a_this_rows, .inl (cI, 65, .inl v_rows))] sz) := by
  refine Met.ofW (cc := cX1_takeState) (maxL := 4) (ret := none) (by decide) rfl ?_
  intro p e s m args below meth c s₁ B hml hv
  obtain ⟨rfl, hsz, hP, hK, hN, hD0⟩ := hv
  have hx := B.exec
  have hb := B.bytes
  have hr := B.returns
  have hts := atoms_spec (ws := wsX1_takeState) B.pre
  have hown : s.vm.findClass RX1 = some m.cls := findClass_of_methodNamed B.named
  have hlocks := B.notSynchronized
  subst hsz
  have hD := hD0.self (sz := s.heap.size)
  generalize hAe : va_A [(a_this, .inr (1, [.ref a_this_rows, .ref a_this_shorter, .ref a_this_ends, .ref a_this_leads, .int v_size])), (a_this_rows, .inl (cI, 65, .inl v_rows))] s.heap.size = A at hD ⊢
  have hA : ∀ q : Nat, s.heap.size ≤ q → A q := fun q h => by rw [← hAe]; exact Or.inr h
  have hS : va_S A s.heap s.heap [] := va_S.rf
  have hl := lv_entry ([.ref a_this, .int p1]) (n := 4) (Nat.le_of_ble_eq_true rfl)
  rw [lg_entry_eq]
  generalize (lg_sl ([.ref a_this, .int p1]) ++ List.replicate (4 - (lg_sl ([.ref a_this, .int p1])).length) Slot.unset).toArray = ls at hl ⊢
  have hl : lv_has ls 4 [(0, .ref a_this), (1, .int p1)] := hl
  change W p l e rm_X1_takeState s m (([.ref a_this, .int p1] : List Value).toArray) below meth c s.heap [] 0 0 _ (F0 m 0 ls [])
  generalize hQe : MQ below (mQv D A [(a_this, .inr (1, [.ref a_this_rows, .ref a_this_shorter, .ref a_this_ends, .ref a_this_leads, .int w_size])), (a_this_rows, .inl (cI, 65, .inl w_rows))]) (([.ref a_this, .int p1] : List Value).toArray) s 0 0 A = Q
  rw [D_X1_takeState] at hden
  have hin_X1 : ∀ w ∈ wsX10, w ∈ wsX1_takeState := by decide +kernel
  have w_28 := hts (.fieldLink RX1 28 "FallingPatterns$Machine" "size" "I") (by decide +kernel)
  have w_9 := hts (.fieldLink RX1 9 "FallingPatterns$Machine" "rows" "[I") (by decide +kernel)
  have w_iX5 := hts (.initialized RX5) (by decide +kernel)
  have w_sX5_at := hts (.static yX5_at) (by decide +kernel)
  have w_sX5_put := hts (.static yX5_put) (by decide +kernel)
  refine lv_aload_n hx hb dX1_takeState_0 rfl (lv_at hl 0 rfl) ?_
  refine va_get (D := D) (ci := 1) (v := .int v_size) (C := RX1) (T := TX1) (N := 5) hx hb hts hin_X1 hown hK hP 0 rfl rfl 4 (by decide) w_28 (fun _ h9 => h9) rfl dX1_takeState_1 ?_
  refine lv_istore_n (lv' := [(2, .int v_size), (0, .ref a_this), (1, .int p1)]) hx hb dX1_takeState_4 rfl hl (by decide) rfl (fun ls hl => ?_)
  have hL5__9 : ∀ (k29 : Int32 → Option ((Nat → Int32) × Int32)), (∀ (x2_8 : Int32) (H : Heap) (locs : List Loc), va_P D vwCl [(a_this, .inr (1, [.ref a_this_rows, .ref a_this_shorter, .ref a_this_ends, .ref a_this_leads, .int v_size])), (a_this_rows, .inl (cI, 65, .inl v_rows))] H → va_D A [(a_this, .inr (1, [.ref a_this_rows, .ref a_this_shorter, .ref a_this_ends, .ref a_this_leads, .int v_size])), (a_this_rows, .inl (cI, 65, .inl v_rows))] → va_S A s.heap H locs → ∀ ls : Array Slot, lv_has ls 4 [(0, .ref a_this), (1, .int p1), (2, .int x2_8)] → k29 x2_8 = some (w_rows, w_size) → W p l e rm_X1_takeState s m (([.ref a_this, .int p1] : List Value).toArray) below meth c H locs 0 0 Q (F0 m 29 ls [])) → ∀ (n : Nat) (x2_7 : Int32) (H : Heap) (locs : List Loc), va_P D vwCl [(a_this, .inr (1, [.ref a_this_rows, .ref a_this_shorter, .ref a_this_ends, .ref a_this_leads, .int v_size])), (a_this_rows, .inl (cI, 65, .inl v_rows))] H → va_D A [(a_this, .inr (1, [.ref a_this_rows, .ref a_this_shorter, .ref a_this_ends, .ref a_this_leads, .int v_size])), (a_this_rows, .inl (cI, 65, .inl v_rows))] → va_S A s.heap H locs → ∀ ls : Array Slot, lv_has ls 4 [(0, .ref a_this), (1, .int p1), (2, .int x2_7)] → L_X1_takeState_5 F k29 p1 v_rows n x2_7 = some (w_rows, w_size) → W p l e rm_X1_takeState s m (([.ref a_this, .int p1] : List Value).toArray) below meth c H locs 0 0 Q (F0 m 5 ls []) := by
    intro k29 hk29 n
    induction n with
    | zero => intro x2_7 H locs hP hD hS ls hl hden; exact no_none hden
    | succ n ih =>
      intro x2_7 H locs hP hD hS ls hl hden
      rw [L_X1_takeState_5] at hden
      refine lv_iload_n hx hb dX1_takeState_5 rfl (lv_at hl 2 rfl) ?_
      refine lv_if_le (tgt := 29) hx hb dX1_takeState_6 (by decide) (fun c_14 => ?_) (fun c_14 => ?_)
      · have hden := if_s hden c_14
        exact hk29 x2_7 _ _ (mSubP hP [0, 1] rfl) (hD.sub [0, 1] (by decide) rfl) hS ls (lv_sub hl [0, 1, 2] rfl) hden
      · have hden := ifn_s hden c_14
        refine lv_aload_n hx hb dX1_takeState_9 rfl (lv_at hl 0 rfl) ?_
        refine va_get (D := D) (ci := 1) (v := .ref a_this_rows) (C := RX1) (T := TX1) (N := 5) hx hb hts hin_X1 hown hK hP 0 rfl rfl 0 (by decide) w_9 (fun _ h9 => h9) rfl dX1_takeState_10 ?_
        refine lv_iload_n hx hb dX1_takeState_13 rfl (lv_at hl 2 rfl) ?_
        refine lv_iconst (v := 1) hx hb dX1_takeState_14 (by decide) ?_
        refine lv_isub hx hb dX1_takeState_15 ?_
        obtain ⟨r_10, hc_11, hden⟩ := bnd_s hden
        refine m_ci (wc := [(a_this_rows, .inl (cI, 65, .inl v_rows))]) (wr := [(a_this, .inr (1, [.ref a_this_rows, .ref a_this_shorter, .ref a_this_ends, .ref a_this_leads, .int v_size]))]) (wc' := [(a_this_rows, .inl (cI, 65, .inl v_rows))]) (va_runSN (As := [.ref a_this_rows, .int (x2_7 - 1)]) (rest := []) ⟨hx, hb, hml, hown, hts⟩ (c_X5_at l D cI cM cL F hc_11) ⟨va_cnB 2 hts gX1_takeState_X5_at_n36 rfl rfl rfl hN.2.2.1 w_iX5 (by decide +kernel) ⟨Nat.le_of_ble_eq_true rfl, Nat.le_of_ble_eq_true rfl⟩, w_sX5_at, trivial⟩ (mPreS hP hD hK hN [1] (by decide) rfl) rfl rfl hl.1 rfl (lv_room (Nat.le_of_ble_eq_true rfl)) dX1_takeState_16 ⟨Nat.le_of_ble_eq_true rfl, Nat.le_of_ble_eq_true rfl⟩) hP hD hS hA [1] [0] rfl rfl (by decide) (by decide) (fun H locs hP hD hS => ?_)
        have hP : va_P D vwCl [(a_this, .inr (1, [.ref a_this_rows, .ref a_this_shorter, .ref a_this_ends, .ref a_this_leads, .int v_size])), (a_this_rows, .inl (cI, 65, .inl v_rows))] H := hP
        have hD : va_D A [(a_this, .inr (1, [.ref a_this_rows, .ref a_this_shorter, .ref a_this_ends, .ref a_this_leads, .int v_size])), (a_this_rows, .inl (cI, 65, .inl v_rows))] := hD
        refine lv_iload_n hx hb dX1_takeState_19 rfl (lv_at hl 1 rfl) ?_
        refine lv_icmp_lt (tgt := 29) hx hb dX1_takeState_20 (by decide) (fun c_13 => ?_) (fun c_13 => ?_)
        · have hden := if_s hden c_13
          exact hk29 x2_7 _ _ (mSubP hP [0, 1] rfl) (hD.sub [0, 1] (by decide) rfl) hS ls (lv_sub hl [0, 1, 2] rfl) hden
        · have hden := ifn_s hden c_13
          obtain ⟨x2_12, ex2_12, hden⟩ := nm_x hden
          refine lv_iinc (v := x2_12) (lv' := [(2, .int x2_12), (0, .ref a_this), (1, .int p1)]) hx hb dX1_takeState_23 hl (k := 2) rfl (by rw [ex2_12]; rfl) (by decide) rfl (fun ls hl => ?_)
          refine lv_goto (tgt := 5) hx hb dX1_takeState_26 (by decide) ?_
          exact ih x2_12 _ _ (mSubP hP [0, 1] rfl) (hD.sub [0, 1] (by decide) rfl) hS ls (lv_sub hl [1, 2, 0] rfl) hden
  refine hL5__9 _ (fun x2_8 H locs hP hD hS ls hl hden => ?_) F v_size _ _ (mSubP hP [0, 1] rfl) (hD.sub [0, 1] (by decide) rfl) hS ls (lv_sub hl [1, 2, 0] rfl) hden
  refine lv_iload_n hx hb dX1_takeState_29 rfl (lv_at hl 2 rfl) ?_
  refine lv_aload_n hx hb dX1_takeState_30 rfl (lv_at hl 0 rfl) ?_
  refine va_get (D := D) (ci := 1) (v := .int v_size) (C := RX1) (T := TX1) (N := 5) hx hb hts hin_X1 hown hK hP 0 rfl rfl 4 (by decide) w_28 (fun _ h9 => h9) rfl dX1_takeState_31 ?_
  obtain ⟨j50, ej50, hden⟩ := jp_s hden
  have hj50 : ∀  (H : Heap) (locs : List Loc), va_P D vwCl [(a_this, .inr (1, [.ref a_this_rows, .ref a_this_shorter, .ref a_this_ends, .ref a_this_leads, .int v_size])), (a_this_rows, .inl (cI, 65, .inl v_rows))] H → va_D A [(a_this, .inr (1, [.ref a_this_rows, .ref a_this_shorter, .ref a_this_ends, .ref a_this_leads, .int v_size])), (a_this_rows, .inl (cI, 65, .inl v_rows))] → va_S A s.heap H locs → ∀ ls : Array Slot, lv_has ls 4 [(0, .ref a_this), (1, .int p1), (2, .int x2_8)] → j50 () = some (w_rows, w_size) → W p l e rm_X1_takeState s m (([.ref a_this, .int p1] : List Value).toArray) below meth c H locs 0 0 Q (F0 m 50 ls []) := by
    intro H locs hP hD hS ls hl hden
    rw [ej50] at hden
    refine lv_aload_n hx hb dX1_takeState_50 rfl (lv_at hl 0 rfl) ?_
    refine va_get (D := D) (ci := 1) (v := .int v_size) (C := RX1) (T := TX1) (N := 5) hx hb hts hin_X1 hown hK hP 0 rfl rfl 4 (by decide) w_28 (fun _ h9 => h9) rfl dX1_takeState_51 ?_
    refine lv_istore_n (lv' := [(3, .int v_size), (0, .ref a_this), (1, .int p1), (2, .int x2_8)]) hx hb dX1_takeState_54 rfl hl (by decide) rfl (fun ls hl => ?_)
    have hL55__26 : ∀ (k84 : (Nat → Int32) → Option ((Nat → Int32) × Int32)), (∀ (v_rows_25 : (Nat → Int32)) (H : Heap) (locs : List Loc), va_P D vwCl [(a_this, .inr (1, [.ref a_this_rows, .ref a_this_shorter, .ref a_this_ends, .ref a_this_leads, .int v_size])), (a_this_rows, .inl (cI, 65, .inl v_rows_25))] H → va_D A [(a_this, .inr (1, [.ref a_this_rows, .ref a_this_shorter, .ref a_this_ends, .ref a_this_leads, .int v_size])), (a_this_rows, .inl (cI, 65, .inl v_rows_25))] → va_S A s.heap H locs → ∀ ls : Array Slot, lv_has ls 4 [(0, .ref a_this), (1, .int p1), (2, .int x2_8)] → k84 v_rows_25 = some (w_rows, w_size) → W p l e rm_X1_takeState s m (([.ref a_this, .int p1] : List Value).toArray) below meth c H locs 0 0 Q (F0 m 84 ls [])) → ∀ (n : Nat) (x3_23 : Int32) (v_rows_24 : (Nat → Int32)) (H : Heap) (locs : List Loc), va_P D vwCl [(a_this, .inr (1, [.ref a_this_rows, .ref a_this_shorter, .ref a_this_ends, .ref a_this_leads, .int v_size])), (a_this_rows, .inl (cI, 65, .inl v_rows_24))] H → va_D A [(a_this, .inr (1, [.ref a_this_rows, .ref a_this_shorter, .ref a_this_ends, .ref a_this_leads, .int v_size])), (a_this_rows, .inl (cI, 65, .inl v_rows_24))] → va_S A s.heap H locs → ∀ ls : Array Slot, lv_has ls 4 [(0, .ref a_this), (1, .int p1), (2, .int x2_8), (3, .int x3_23)] → L_X1_takeState_55 F k84 p1 x2_8 n x3_23 v_rows_24 = some (w_rows, w_size) → W p l e rm_X1_takeState s m (([.ref a_this, .int p1] : List Value).toArray) below meth c H locs 0 0 Q (F0 m 55 ls []) := by
      intro k84 hk84 n
      induction n with
      | zero => intro x3_23 v_rows_24 H locs hP hD hS ls hl hden; exact no_none hden
      | succ n ih =>
        intro x3_23 v_rows_24 H locs hP hD hS ls hl hden
        rw [L_X1_takeState_55] at hden
        refine lv_iload_n hx hb dX1_takeState_55 rfl (lv_at hl 3 rfl) ?_
        refine lv_iload_n hx hb dX1_takeState_56 rfl (lv_at hl 2 rfl) ?_
        refine lv_icmp_le (tgt := 84) hx hb dX1_takeState_57 (by decide) (fun c_32 => ?_) (fun c_32 => ?_)
        · have hden := if_s hden c_32
          exact hk84 v_rows_24 _ _ (mSubP hP [0, 1] rfl) (hD.sub [0, 1] (by decide) rfl) hS ls (lv_sub hl [0, 1, 2] rfl) hden
        · have hden := ifn_s hden c_32
          refine lv_aload_n hx hb dX1_takeState_60 rfl (lv_at hl 0 rfl) ?_
          refine va_get (D := D) (ci := 1) (v := .ref a_this_rows) (C := RX1) (T := TX1) (N := 5) hx hb hts hin_X1 hown hK hP 0 rfl rfl 0 (by decide) w_9 (fun _ h9 => h9) rfl dX1_takeState_61 ?_
          refine lv_iload_n hx hb dX1_takeState_64 rfl (lv_at hl 3 rfl) ?_
          refine lv_aload_n hx hb dX1_takeState_65 rfl (lv_at hl 0 rfl) ?_
          refine va_get (D := D) (ci := 1) (v := .ref a_this_rows) (C := RX1) (T := TX1) (N := 5) hx hb hts hin_X1 hown hK hP 0 rfl rfl 0 (by decide) w_9 (fun _ h9 => h9) rfl dX1_takeState_66 ?_
          refine lv_iload_n hx hb dX1_takeState_69 rfl (lv_at hl 3 rfl) ?_
          refine lv_iconst (v := 1) hx hb dX1_takeState_70 (by decide) ?_
          refine lv_isub hx hb dX1_takeState_71 ?_
          obtain ⟨r_27, hc_28, hden⟩ := bnd_s hden
          refine m_ci (wc := [(a_this_rows, .inl (cI, 65, .inl v_rows_24))]) (wr := [(a_this, .inr (1, [.ref a_this_rows, .ref a_this_shorter, .ref a_this_ends, .ref a_this_leads, .int v_size]))]) (wc' := [(a_this_rows, .inl (cI, 65, .inl v_rows_24))]) (va_runSN (As := [.ref a_this_rows, .int (x3_23 - 1)]) (rest := [.int x3_23, .ref a_this_rows]) ⟨hx, hb, hml, hown, hts⟩ (c_X5_at l D cI cM cL F hc_28) ⟨va_cnB 2 hts gX1_takeState_X5_at_n36 rfl rfl rfl hN.2.2.1 w_iX5 (by decide +kernel) ⟨Nat.le_of_ble_eq_true rfl, Nat.le_of_ble_eq_true rfl⟩, w_sX5_at, trivial⟩ (mPreS hP hD hK hN [1] (by decide) rfl) rfl rfl hl.1 rfl (lv_room (Nat.le_of_ble_eq_true rfl)) dX1_takeState_72 ⟨Nat.le_of_ble_eq_true rfl, Nat.le_of_ble_eq_true rfl⟩) hP hD hS hA [1] [0] rfl rfl (by decide) (by decide) (fun H locs hP hD hS => ?_)
          have hP : va_P D vwCl [(a_this, .inr (1, [.ref a_this_rows, .ref a_this_shorter, .ref a_this_ends, .ref a_this_leads, .int v_size])), (a_this_rows, .inl (cI, 65, .inl v_rows_24))] H := hP
          have hD : va_D A [(a_this, .inr (1, [.ref a_this_rows, .ref a_this_shorter, .ref a_this_ends, .ref a_this_leads, .int v_size])), (a_this_rows, .inl (cI, 65, .inl v_rows_24))] := hD
          obtain ⟨v_rows_29, hc_30, hden⟩ := bnd_s hden
          refine m_cv (wc := [(a_this_rows, .inl (cI, 65, .inl v_rows_24))]) (wr := [(a_this, .inr (1, [.ref a_this_rows, .ref a_this_shorter, .ref a_this_ends, .ref a_this_leads, .int v_size]))]) (wc' := [(a_this_rows, .inl (cI, 65, .inl v_rows_29))]) (va_runSN (As := [.ref a_this_rows, .int x3_23, .int r_27]) (rest := []) ⟨hx, hb, hml, hown, hts⟩ (c_X5_put l D cI cM cL F hc_30) ⟨va_cnB 3 hts gX1_takeState_X5_put_n24 rfl rfl rfl hN.2.2.2.1 w_iX5 (by decide +kernel) ⟨Nat.le_of_ble_eq_true rfl, Nat.le_of_ble_eq_true rfl⟩, w_sX5_put, trivial⟩ (mPreS hP hD hK hN [1] (by decide) rfl) rfl rfl hl.1 rfl (lv_room (Nat.le_of_ble_eq_true rfl)) dX1_takeState_75 ⟨Nat.le_of_ble_eq_true rfl, Nat.le_of_ble_eq_true rfl⟩) hP hD hS hA [1] [0] rfl rfl (by decide) (by decide) (fun H locs hP hD hS => ?_)
          have hP : va_P D vwCl [(a_this, .inr (1, [.ref a_this_rows, .ref a_this_shorter, .ref a_this_ends, .ref a_this_leads, .int v_size])), (a_this_rows, .inl (cI, 65, .inl v_rows_29))] H := hP
          have hD : va_D A [(a_this, .inr (1, [.ref a_this_rows, .ref a_this_shorter, .ref a_this_ends, .ref a_this_leads, .int v_size])), (a_this_rows, .inl (cI, 65, .inl v_rows_29))] := hD
          obtain ⟨x3_31, ex3_31, hden⟩ := nm_x hden
          refine lv_iinc (v := x3_31) (lv' := [(3, .int x3_31), (0, .ref a_this), (1, .int p1), (2, .int x2_8)]) hx hb dX1_takeState_78 hl (k := 3) rfl (by rw [ex3_31]; rfl) (by decide) rfl (fun ls hl => ?_)
          refine lv_goto (tgt := 55) hx hb dX1_takeState_81 (by decide) ?_
          exact ih x3_31 v_rows_29 _ _ (mSubP hP [0, 1] rfl) (hD.sub [0, 1] (by decide) rfl) hS ls (lv_sub hl [1, 2, 3, 0] rfl) hden
    refine hL55__26 _ (fun v_rows_25 H locs hP hD hS ls hl hden => ?_) F v_size v_rows _ _ (mSubP hP [0, 1] rfl) (hD.sub [0, 1] (by decide) rfl) hS ls (lv_sub hl [1, 2, 3, 0] rfl) hden
    refine lv_aload_n hx hb dX1_takeState_84 rfl (lv_at hl 0 rfl) ?_
    refine va_get (D := D) (ci := 1) (v := .ref a_this_rows) (C := RX1) (T := TX1) (N := 5) hx hb hts hin_X1 hown hK hP 0 rfl rfl 0 (by decide) w_9 (fun _ h9 => h9) rfl dX1_takeState_85 ?_
    refine lv_iload_n hx hb dX1_takeState_88 rfl (lv_at hl 2 rfl) ?_
    refine lv_iload_n hx hb dX1_takeState_89 rfl (lv_at hl 1 rfl) ?_
    obtain ⟨v_rows_33, hc_34, hden⟩ := bnd_s hden
    refine m_cv (wc := [(a_this_rows, .inl (cI, 65, .inl v_rows_25))]) (wr := [(a_this, .inr (1, [.ref a_this_rows, .ref a_this_shorter, .ref a_this_ends, .ref a_this_leads, .int v_size]))]) (wc' := [(a_this_rows, .inl (cI, 65, .inl v_rows_33))]) (va_runSN (As := [.ref a_this_rows, .int x2_8, .int p1]) (rest := []) ⟨hx, hb, hml, hown, hts⟩ (c_X5_put l D cI cM cL F hc_34) ⟨va_cnB 3 hts gX1_takeState_X5_put_n24 rfl rfl rfl hN.2.2.2.1 w_iX5 (by decide +kernel) ⟨Nat.le_of_ble_eq_true rfl, Nat.le_of_ble_eq_true rfl⟩, w_sX5_put, trivial⟩ (mPreS hP hD hK hN [1] (by decide) rfl) rfl rfl hl.1 rfl (lv_room (Nat.le_of_ble_eq_true rfl)) dX1_takeState_90 ⟨Nat.le_of_ble_eq_true rfl, Nat.le_of_ble_eq_true rfl⟩) hP hD hS hA [1] [0] rfl rfl (by decide) (by decide) (fun H locs hP hD hS => ?_)
    have hP : va_P D vwCl [(a_this, .inr (1, [.ref a_this_rows, .ref a_this_shorter, .ref a_this_ends, .ref a_this_leads, .int v_size])), (a_this_rows, .inl (cI, 65, .inl v_rows_33))] H := hP
    have hD : va_D A [(a_this, .inr (1, [.ref a_this_rows, .ref a_this_shorter, .ref a_this_ends, .ref a_this_leads, .int v_size])), (a_this_rows, .inl (cI, 65, .inl v_rows_33))] := hD
    refine lv_aload_n hx hb dX1_takeState_93 rfl (lv_at hl 0 rfl) ?_
    refine lv_dup hx hb dX1_takeState_94 rfl ?_
    refine va_get (D := D) (ci := 1) (v := .int v_size) (C := RX1) (T := TX1) (N := 5) hx hb hts hin_X1 hown hK hP 0 rfl rfl 4 (by decide) w_28 (fun _ h9 => h9) rfl dX1_takeState_95 ?_
    refine lv_iconst (v := 1) hx hb dX1_takeState_98 (by decide) ?_
    refine lv_iadd hx hb dX1_takeState_99 ?_
    refine lv_topi (fun f_size_35 ef_size_35 => ?_)
    have hden := nm_s hden ef_size_35
    refine va_put (D := D) (ci := 1) (v := .int f_size_35) (ty := .int) (C := RX1) (T := TX1) (N := 5) hx hb hts hin_X1 tyX1 tyX1_ok nmX1 hown hK hP hD hS 0 rfl rfl 4 (by decide) w_28 (fun _ h9 => h9) rfl (by decide +kernel) rfl rfl (Nat.le_of_ble_eq_true rfl) dX1_takeState_100 (fun H locs hP hD hS => ?_)
    have hP : va_P D vwCl [(a_this, .inr (1, [.ref a_this_rows, .ref a_this_shorter, .ref a_this_ends, .ref a_this_leads, .int f_size_35])), (a_this_rows, .inl (cI, 65, .inl v_rows_33))] H := hP
    have hD : va_D A [(a_this, .inr (1, [.ref a_this_rows, .ref a_this_shorter, .ref a_this_ends, .ref a_this_leads, .int f_size_35])), (a_this_rows, .inl (cI, 65, .inl v_rows_33))] := hD
    subst hQe
    cases hden
    exact m_rv hx hb hr hP hD hS [0, 1] (by decide) rfl dX1_takeState_103 hlocks
  clear ej50
  refine lv_icmp_ge (tgt := 50) hx hb dX1_takeState_34 (by decide) (fun c_39 => ?_) (fun c_39 => ?_)
  · have hden := if_s hden c_39
    exact hj50 _ _ (mSubP hP [0, 1] rfl) (hD.sub [0, 1] (by decide) rfl) hS ls (lv_sub hl [0, 1, 2] rfl) hden
  · have hden := ifn_s hden c_39
    refine lv_aload_n hx hb dX1_takeState_37 rfl (lv_at hl 0 rfl) ?_
    refine va_get (D := D) (ci := 1) (v := .ref a_this_rows) (C := RX1) (T := TX1) (N := 5) hx hb hts hin_X1 hown hK hP 0 rfl rfl 0 (by decide) w_9 (fun _ h9 => h9) rfl dX1_takeState_38 ?_
    refine lv_iload_n hx hb dX1_takeState_41 rfl (lv_at hl 2 rfl) ?_
    obtain ⟨r_36, hc_37, hden⟩ := bnd_s hden
    refine m_ci (wc := [(a_this_rows, .inl (cI, 65, .inl v_rows))]) (wr := [(a_this, .inr (1, [.ref a_this_rows, .ref a_this_shorter, .ref a_this_ends, .ref a_this_leads, .int v_size]))]) (wc' := [(a_this_rows, .inl (cI, 65, .inl v_rows))]) (va_runSN (As := [.ref a_this_rows, .int x2_8]) (rest := []) ⟨hx, hb, hml, hown, hts⟩ (c_X5_at l D cI cM cL F hc_37) ⟨va_cnB 2 hts gX1_takeState_X5_at_n36 rfl rfl rfl hN.2.2.1 w_iX5 (by decide +kernel) ⟨Nat.le_of_ble_eq_true rfl, Nat.le_of_ble_eq_true rfl⟩, w_sX5_at, trivial⟩ (mPreS hP hD hK hN [1] (by decide) rfl) rfl rfl hl.1 rfl (lv_room (Nat.le_of_ble_eq_true rfl)) dX1_takeState_42 ⟨Nat.le_of_ble_eq_true rfl, Nat.le_of_ble_eq_true rfl⟩) hP hD hS hA [1] [0] rfl rfl (by decide) (by decide) (fun H locs hP hD hS => ?_)
    have hP : va_P D vwCl [(a_this, .inr (1, [.ref a_this_rows, .ref a_this_shorter, .ref a_this_ends, .ref a_this_leads, .int v_size])), (a_this_rows, .inl (cI, 65, .inl v_rows))] H := hP
    have hD : va_D A [(a_this, .inr (1, [.ref a_this_rows, .ref a_this_shorter, .ref a_this_ends, .ref a_this_leads, .int v_size])), (a_this_rows, .inl (cI, 65, .inl v_rows))] := hD
    refine lv_iload_n hx hb dX1_takeState_45 rfl (lv_at hl 1 rfl) ?_
    refine lv_icmp_ne (tgt := 50) hx hb dX1_takeState_46 (by decide) (fun c_38 => ?_) (fun c_38 => ?_)
    · have hden := ifn_s hden c_38
      exact hj50 _ _ (mSubP hP [0, 1] rfl) (hD.sub [0, 1] (by decide) rfl) hS ls (lv_sub hl [0, 1, 2] rfl) hden
    · have hden := if_s hden c_38
      subst hQe
      cases hden
      exact m_rv hx hb hr hP hD hS [0, 1] (by decide) rfl dX1_takeState_49 hlocks
def L_X3_lengthOf_2 (F : Nat) (y0 : Int32) : Nat → Int32 → Option (Int32)
  | 0, _ => none
  | n + 1, x1_1 => (if 8 < x1_1 then some (x1_1) else (if (y0 >>> (((2 : Int32) * x1_1) &&& 31)) ≤ 1 then some (x1_1) else nm (x1_1 + 1) (fun x1_2 => L_X3_lengthOf_2 F y0 n x1_2)))
def D_X3_lengthOf (F : Nat) (p1 : Int32) : Option (Int32) := L_X3_lengthOf_2 F p1 F 0
def rm_X3_lengthOf : Room := { frames := 0, cells := 0, slots := 0, locals := 0 }
set_option maxHeartbeats 4000000 in
set_option maxRecDepth 100000 in
theorem c_X3_lengthOf (l : Launch) (D : va_G) (cI cM cL : ClassId) (F : Nat) {sz : Nat} {p1 : Int32} {r0 : Int32} (hden : D_X3_lengthOf F p1 = some (r0)) : Met l yX3_lengthOf wsX3_lengthOf rm_X3_lengthOf (va_Pc [.int p1] (mB D (mTy cI cM cL) sz [])) (mQi D (va_A [] sz) [] r0) 0 0 (va_A [] sz) := by
  refine Met.ofW (cc := cX3_lengthOf) (maxL := 2) (ret := (some .int)) (by decide) rfl ?_
  intro p e s m args below meth c s₁ B hml hv
  obtain ⟨rfl, hsz, hP, hK, hN, hD0⟩ := hv
  have hx := B.exec
  have hb := B.bytes
  have hr := B.returns
  have hts := atoms_spec (ws := wsX3_lengthOf) B.pre
  have hown : s.vm.findClass RX3 = some m.cls := findClass_of_methodNamed B.named
  have hlocks := B.notSynchronized
  subst hsz
  have hD := hD0.self (sz := s.heap.size)
  generalize hAe : va_A [] s.heap.size = A at hD ⊢
  have hA : ∀ q : Nat, s.heap.size ≤ q → A q := fun q h => by rw [← hAe]; exact Or.inr h
  have hS : va_S A s.heap s.heap [] := va_S.rf
  have hl := lv_entry ([.int p1]) (n := 2) (Nat.le_of_ble_eq_true rfl)
  rw [lg_entry_eq]
  generalize (lg_sl ([.int p1]) ++ List.replicate (2 - (lg_sl ([.int p1])).length) Slot.unset).toArray = ls at hl ⊢
  have hl : lv_has ls 2 [(0, .int p1)] := hl
  change W p l e rm_X3_lengthOf s m (([.int p1] : List Value).toArray) below meth c s.heap [] 0 0 _ (F0 m 0 ls [])
  generalize hQe : MQ below (mQi D A [] r0) (([.int p1] : List Value).toArray) s 0 0 A = Q
  rw [D_X3_lengthOf] at hden
  refine lv_iconst (v := 0) hx hb dX3_lengthOf_0 (by decide) ?_
  refine lv_istore_n (lv' := [(1, .int 0), (0, .int p1)]) hx hb dX3_lengthOf_1 rfl hl (by decide) rfl (fun ls hl => ?_)
  have hL2__6 : ∀ (n : Nat) (x1_5 : Int32) (H : Heap) (locs : List Loc), va_P D vwCl [] H → va_D A [] → va_S A s.heap H locs → ∀ ls : Array Slot, lv_has ls 2 [(0, .int p1), (1, .int x1_5)] → L_X3_lengthOf_2 F p1 n x1_5 = some (r0) → W p l e rm_X3_lengthOf s m (([.int p1] : List Value).toArray) below meth c H locs 0 0 Q (F0 m 2 ls []) := by
    intro n
    induction n with
    | zero => intro x1_5 H locs hP hD hS ls hl hden; exact no_none hden
    | succ n ih =>
      intro x1_5 H locs hP hD hS ls hl hden
      rw [L_X3_lengthOf_2] at hden
      refine lv_iload_n hx hb dX3_lengthOf_2 rfl (lv_at hl 1 rfl) ?_
      refine lv_bipush (v := 8) hx hb dX3_lengthOf_3 (by decide) ?_
      refine lv_icmp_gt (tgt := 23) hx hb dX3_lengthOf_5 (by decide) (fun c_9 => ?_) (fun c_9 => ?_)
      · have hden := if_s hden c_9
        refine lv_iload_n hx hb dX3_lengthOf_23 rfl (lv_at hl 1 rfl) ?_
        subst hQe
        cases hden
        exact m_ri hx hb hr hP hD hS [] (by decide) rfl rfl dX3_lengthOf_24 hlocks
      · have hden := ifn_s hden c_9
        refine lv_iload_n hx hb dX3_lengthOf_8 rfl (lv_at hl 0 rfl) ?_
        refine lv_iconst (v := 2) hx hb dX3_lengthOf_9 (by decide) ?_
        refine lv_iload_n hx hb dX3_lengthOf_10 rfl (lv_at hl 1 rfl) ?_
        refine lv_imul hx hb dX3_lengthOf_11 ?_
        refine lv_ishr hx hb dX3_lengthOf_12 ?_
        refine lv_iconst (v := 1) hx hb dX3_lengthOf_13 (by decide) ?_
        refine lv_icmp_le (tgt := 23) hx hb dX3_lengthOf_14 (by decide) (fun c_8 => ?_) (fun c_8 => ?_)
        · have hden := if_s hden c_8
          refine lv_iload_n hx hb dX3_lengthOf_23 rfl (lv_at hl 1 rfl) ?_
          subst hQe
          cases hden
          exact m_ri hx hb hr hP hD hS [] (by decide) rfl rfl dX3_lengthOf_24 hlocks
        · have hden := ifn_s hden c_8
          obtain ⟨x1_7, ex1_7, hden⟩ := nm_x hden
          refine lv_iinc (v := x1_7) (lv' := [(1, .int x1_7), (0, .int p1)]) hx hb dX3_lengthOf_17 hl (k := 1) rfl (by rw [ex1_7]; rfl) (by decide) rfl (fun ls hl => ?_)
          refine lv_goto (tgt := 2) hx hb dX3_lengthOf_20 (by decide) ?_
          exact ih x1_7 _ _ (mSubP hP [] rfl) (hD.sub [] (by decide) rfl) hS ls (lv_sub hl [1, 0] rfl) hden
  exact hL2__6 F 0 _ _ (mSubP hP [] rfl) (hD.sub [] (by decide) rfl) hS ls (lv_sub hl [1, 0] rfl) hden
def D_X3_beginning (F : Nat) (p1 : Int32) (p2 : Int32) : Option (Int32) := bnd (D_X3_lengthOf F p1) (fun r_1 => some ((p1 >>> (((2 : Int32) * (r_1 - p2)) &&& 31))))
def rm_X3_beginning : Room := { frames := 1, cells := 0, slots := 0, locals := 21 }
set_option maxHeartbeats 4000000 in
set_option maxRecDepth 100000 in
theorem c_X3_beginning (l : Launch) (D : va_G) (cI cM cL : ClassId) (F : Nat) {sz : Nat} {p1 : Int32} {p2 : Int32} {r0 : Int32} (hden : D_X3_beginning F p1 p2 = some (r0)) : Met l yX3_beginning wsX3_beginning rm_X3_beginning (va_Pc [.int p1, .int p2] (mB D (mTy cI cM cL) sz [])) (mQi D (va_A [] sz) [] r0) 0 0 (va_A [] sz) := by
  refine Met.ofW (cc := cX3_beginning) (maxL := 2) (ret := (some .int)) (by decide) rfl ?_
  intro p e s m args below meth c s₁ B hml hv
  obtain ⟨rfl, hsz, hP, hK, hN, hD0⟩ := hv
  have hx := B.exec
  have hb := B.bytes
  have hr := B.returns
  have hts := atoms_spec (ws := wsX3_beginning) B.pre
  have hown : s.vm.findClass RX3 = some m.cls := findClass_of_methodNamed B.named
  have hlocks := B.notSynchronized
  subst hsz
  have hD := hD0.self (sz := s.heap.size)
  generalize hAe : va_A [] s.heap.size = A at hD ⊢
  have hA : ∀ q : Nat, s.heap.size ≤ q → A q := fun q h => by rw [← hAe]; exact Or.inr h
  have hS : va_S A s.heap s.heap [] := va_S.rf
  have hl := lv_entry ([.int p1, .int p2]) (n := 2) (Nat.le_of_ble_eq_true rfl)
  rw [lg_entry_eq]
  generalize (lg_sl ([.int p1, .int p2]) ++ List.replicate (2 - (lg_sl ([.int p1, .int p2])).length) Slot.unset).toArray = ls at hl ⊢
  have hl : lv_has ls 2 [(0, .int p1), (1, .int p2)] := hl
  change W p l e rm_X3_beginning s m (([.int p1, .int p2] : List Value).toArray) below meth c s.heap [] 0 0 _ (F0 m 0 ls [])
  generalize hQe : MQ below (mQi D A [] r0) (([.int p1, .int p2] : List Value).toArray) s 0 0 A = Q
  rw [D_X3_beginning] at hden
  refine lv_iload_n hx hb dX3_beginning_0 rfl (lv_at hl 0 rfl) ?_
  refine lv_iconst (v := 2) hx hb dX3_beginning_1 (by decide) ?_
  refine lv_iload_n hx hb dX3_beginning_2 rfl (lv_at hl 0 rfl) ?_
  obtain ⟨r_1, hc_2, hden⟩ := bnd_s hden
  refine m_ci (wc := []) (wr := []) (wc' := []) (va_runS (As := [.int p1]) (rest := [.int 2, .int p1]) ⟨hx, hb, hml, hown, hts⟩ (c_X3_lengthOf l D cI cM cL F hc_2) (va_cwS 1 hts gX3_beginning_X3_lengthOf rfl rfl rfl (by decide +kernel) ⟨Nat.le_of_ble_eq_true rfl, Nat.le_of_ble_eq_true rfl⟩) (mPreS hP hD hK hN [] (by decide) rfl) rfl rfl hl.1 rfl (lv_room (Nat.le_of_ble_eq_true rfl)) dX3_beginning_3 ⟨Nat.le_of_ble_eq_true rfl, Nat.le_of_ble_eq_true rfl⟩) hP hD hS hA [] [] rfl rfl (by decide) (by decide) (fun H locs hP hD hS => ?_)
  have hP : va_P D vwCl [] H := hP
  have hD : va_D A [] := hD
  refine lv_iload_n hx hb dX3_beginning_6 rfl (lv_at hl 1 rfl) ?_
  refine lv_isub hx hb dX3_beginning_7 ?_
  refine lv_imul hx hb dX3_beginning_8 ?_
  refine lv_ishr hx hb dX3_beginning_9 ?_
  subst hQe
  cases hden
  exact m_ri hx hb hr hP hD hS [] (by decide) rfl rfl dX3_beginning_10 hlocks
def D_X3_lastLetter (F : Nat) (p1 : Int32) : Option (Int32) := some ((p1 &&& 3))
def rm_X3_lastLetter : Room := { frames := 0, cells := 0, slots := 0, locals := 0 }
set_option maxHeartbeats 4000000 in
set_option maxRecDepth 100000 in
theorem c_X3_lastLetter (l : Launch) (D : va_G) (cI cM cL : ClassId) (F : Nat) {sz : Nat} {p1 : Int32} {r0 : Int32} (hden : D_X3_lastLetter F p1 = some (r0)) : Met l yX3_lastLetter wsX3_lastLetter rm_X3_lastLetter (va_Pc [.int p1] (mB D (mTy cI cM cL) sz [])) (mQi D (va_A [] sz) [] r0) 0 0 (va_A [] sz) := by
  refine Met.ofW (cc := cX3_lastLetter) (maxL := 1) (ret := (some .int)) (by decide) rfl ?_
  intro p e s m args below meth c s₁ B hml hv
  obtain ⟨rfl, hsz, hP, hK, hN, hD0⟩ := hv
  have hx := B.exec
  have hb := B.bytes
  have hr := B.returns
  have hts := atoms_spec (ws := wsX3_lastLetter) B.pre
  have hown : s.vm.findClass RX3 = some m.cls := findClass_of_methodNamed B.named
  have hlocks := B.notSynchronized
  subst hsz
  have hD := hD0.self (sz := s.heap.size)
  generalize hAe : va_A [] s.heap.size = A at hD ⊢
  have hA : ∀ q : Nat, s.heap.size ≤ q → A q := fun q h => by rw [← hAe]; exact Or.inr h
  have hS : va_S A s.heap s.heap [] := va_S.rf
  have hl := lv_entry ([.int p1]) (n := 1) (Nat.le_of_ble_eq_true rfl)
  rw [lg_entry_eq]
  generalize (lg_sl ([.int p1]) ++ List.replicate (1 - (lg_sl ([.int p1])).length) Slot.unset).toArray = ls at hl ⊢
  have hl : lv_has ls 1 [(0, .int p1)] := hl
  change W p l e rm_X3_lastLetter s m (([.int p1] : List Value).toArray) below meth c s.heap [] 0 0 _ (F0 m 0 ls [])
  generalize hQe : MQ below (mQi D A [] r0) (([.int p1] : List Value).toArray) s 0 0 A = Q
  rw [D_X3_lastLetter] at hden
  refine lv_iload_n hx hb dX3_lastLetter_0 rfl (lv_at hl 0 rfl) ?_
  refine lv_iconst (v := 3) hx hb dX3_lastLetter_1 (by decide) ?_
  refine lv_iand hx hb dX3_lastLetter_2 ?_
  subst hQe
  cases hden
  exact m_ri hx hb hr hP hD hS [] (by decide) rfl rfl dX3_lastLetter_3 hlocks
def L_X1_leadToLongerStates_2 (F : Nat) (k24 : (Nat → Int32) → Option ((Nat → Int32))) : Nat → Int32 → (Nat → Int32) → Option ((Nat → Int32))
  | 0, _, _ => none
  | n + 1, x1_1, v_leads_2 => (if 260 ≤ x1_1 then k24 v_leads_2 else grd (inb x1_1 260) (nm (upd v_leads_2 x1_1.toNatClampNeg 0) (fun v_leads_4 => nm (x1_1 + 1) (fun x1_5 => L_X1_leadToLongerStates_2 F k24 n x1_5 v_leads_4))))
def L_X1_leadToLongerStates_45 (F : Nat) (k70 : Int32 → Option ((Nat → Int32))) (y2 : Int32) (y3 : Int32) (v_rows : (Nat → Int32)) : Nat → Int32 → Option ((Nat → Int32))
  | 0, _ => none
  | n + 1, x1_20 => (if y2 ≤ x1_20 then k70 x1_20 else bnd (D_X5_at F 65 x1_20 v_rows) (fun r_21 => (if r_21 = (y3 >>> (2 &&& 31)) then k70 x1_20 else nm (x1_20 + 1) (fun x1_23 => L_X1_leadToLongerStates_45 F k70 y2 y3 v_rows n x1_23))))
def L_X1_leadToLongerStates_28 (F : Nat) (v_size : Int32) (v_rows : (Nat → Int32)) : Nat → Int32 → Int32 → (Nat → Int32) → Option ((Nat → Int32))
  | 0, _, _, _ => none
  | n + 1, x1_15, x2_16, v_leads_17 => (if v_size ≤ x2_16 then some (v_leads_17) else bnd (D_X5_at F 65 x2_16 v_rows) (fun r_18 => L_X1_leadToLongerStates_45 F (fun (x1_27 : Int32) => bnd (D_X3_lastLetter F r_18) (fun r_34 => bnd (D_X5_put F 260 ((x1_27 * 4) + r_34) x2_16 v_leads_17) (fun v_leads_36 => nm (x2_16 + 1) (fun x2_38 => L_X1_leadToLongerStates_28 F v_size v_rows n x1_27 x2_38 v_leads_36)))) x2_16 r_18 v_rows F x1_15))
def D_X1_leadToLongerStates (F : Nat) (v_size : Int32) (v_rows : (Nat → Int32)) (v_leads : (Nat → Int32)) : Option ((Nat → Int32)) := L_X1_leadToLongerStates_2 F (fun (v_leads_9 : (Nat → Int32)) => L_X1_leadToLongerStates_28 F v_size v_rows F 0 1 v_leads_9) F 0 v_leads
def rm_X1_leadToLongerStates : Room := { frames := 1, cells := 0, slots := 0, locals := 22 }
set_option maxHeartbeats 4000000 in
set_option maxRecDepth 100000 in
theorem c_X1_leadToLongerStates (l : Launch) (D : va_G) (cI cM cL : ClassId) (F : Nat) {a_this a_this_rows a_this_shorter a_this_ends a_this_leads : Nat} {sz : Nat} {v_size : Int32} {v_leads v_rows : Nat → Int32} {w_leads : (Nat → Int32)} (hden : D_X1_leadToLongerStates F v_size v_rows v_leads = some (w_leads)) : Met l yX1_leadToLongerStates wsX1_leadToLongerStates rm_X1_leadToLongerStates (va_Pc [.ref a_this] (mB D (mTy cI cM cL) sz [(a_this, .inr (1, [.ref a_this_rows, .ref a_this_shorter, .ref a_this_ends, .ref a_this_leads, .int v_size])), (a_this_leads, .inl (cI, 260, .inl v_leads)), (a_this_rows, .inl (cI, 65, .inl v_rows))])) (mQv D (va_A [(a_this, .inr (1, [.ref a_this_rows, .ref a_this_shorter, .ref a_this_ends, .ref a_this_leads, .int v_size])), (a_this_leads, .inl (cI, 260, .inl v_leads)), (a_this_rows, .inl (cI, 65, .inl v_rows))] sz) [(a_this, .inr (1, [.ref a_this_rows, .ref a_this_shorter, .ref a_this_ends, .ref a_this_leads, .int v_size])), (a_this_leads, .inl (cI, 260, .inl w_leads)), (a_this_rows, .inl (cI, 65, .inl v_rows))]) 0 0 (va_A [(a_this, .inr (1, [.ref a_this_rows, .ref a_this_shorter, .ref a_this_ends, .ref a_this_leads, .int v_size])), (a_this_leads, .inl (cI, 260, .inl v_leads)), (a_this_rows, .inl (cI, 65, .inl v_rows))] sz) := by
  refine Met.ofW (cc := cX1_leadToLongerStates) (maxL := 4) (ret := none) (by decide) rfl ?_
  intro p e s m args below meth c s₁ B hml hv
  obtain ⟨rfl, hsz, hP, hK, hN, hD0⟩ := hv
  have hx := B.exec
  have hb := B.bytes
  have hr := B.returns
  have hts := atoms_spec (ws := wsX1_leadToLongerStates) B.pre
  have hown : s.vm.findClass RX1 = some m.cls := findClass_of_methodNamed B.named
  have hlocks := B.notSynchronized
  subst hsz
  have hD := hD0.self (sz := s.heap.size)
  generalize hAe : va_A [(a_this, .inr (1, [.ref a_this_rows, .ref a_this_shorter, .ref a_this_ends, .ref a_this_leads, .int v_size])), (a_this_leads, .inl (cI, 260, .inl v_leads)), (a_this_rows, .inl (cI, 65, .inl v_rows))] s.heap.size = A at hD ⊢
  have hA : ∀ q : Nat, s.heap.size ≤ q → A q := fun q h => by rw [← hAe]; exact Or.inr h
  have hS : va_S A s.heap s.heap [] := va_S.rf
  have hl := lv_entry ([.ref a_this]) (n := 4) (Nat.le_of_ble_eq_true rfl)
  rw [lg_entry_eq]
  generalize (lg_sl ([.ref a_this]) ++ List.replicate (4 - (lg_sl ([.ref a_this])).length) Slot.unset).toArray = ls at hl ⊢
  have hl : lv_has ls 4 [(0, .ref a_this)] := hl
  change W p l e rm_X1_leadToLongerStates s m (([.ref a_this] : List Value).toArray) below meth c s.heap [] 0 0 _ (F0 m 0 ls [])
  generalize hQe : MQ below (mQv D A [(a_this, .inr (1, [.ref a_this_rows, .ref a_this_shorter, .ref a_this_ends, .ref a_this_leads, .int v_size])), (a_this_leads, .inl (cI, 260, .inl w_leads)), (a_this_rows, .inl (cI, 65, .inl v_rows))]) (([.ref a_this] : List Value).toArray) s 0 0 A = Q
  rw [D_X1_leadToLongerStates] at hden
  have hin_X1 : ∀ w ∈ wsX10, w ∈ wsX1_leadToLongerStates := by decide +kernel
  have w_21 := hts (.fieldLink RX1 21 "FallingPatterns$Machine" "leads" "[I") (by decide +kernel)
  have w_28 := hts (.fieldLink RX1 28 "FallingPatterns$Machine" "size" "I") (by decide +kernel)
  have w_9 := hts (.fieldLink RX1 9 "FallingPatterns$Machine" "rows" "[I") (by decide +kernel)
  have w_iX5 := hts (.initialized RX5) (by decide +kernel)
  have w_sX5_at := hts (.static yX5_at) (by decide +kernel)
  have w_sX5_put := hts (.static yX5_put) (by decide +kernel)
  refine lv_iconst (v := 0) hx hb dX1_leadToLongerStates_0 (by decide) ?_
  refine lv_istore_n (lv' := [(1, .int 0), (0, .ref a_this)]) hx hb dX1_leadToLongerStates_1 rfl hl (by decide) rfl (fun ls hl => ?_)
  have hL2__10 : ∀ (k24 : (Nat → Int32) → Option ((Nat → Int32))), (∀ (v_leads_9 : (Nat → Int32)) (H : Heap) (locs : List Loc), va_P D vwCl [(a_this, .inr (1, [.ref a_this_rows, .ref a_this_shorter, .ref a_this_ends, .ref a_this_leads, .int v_size])), (a_this_leads, .inl (cI, 260, .inl v_leads_9)), (a_this_rows, .inl (cI, 65, .inl v_rows))] H → va_D A [(a_this, .inr (1, [.ref a_this_rows, .ref a_this_shorter, .ref a_this_ends, .ref a_this_leads, .int v_size])), (a_this_leads, .inl (cI, 260, .inl v_leads_9)), (a_this_rows, .inl (cI, 65, .inl v_rows))] → va_S A s.heap H locs → ∀ ls : Array Slot, lv_has ls 4 [(0, .ref a_this)] → k24 v_leads_9 = some (w_leads) → W p l e rm_X1_leadToLongerStates s m (([.ref a_this] : List Value).toArray) below meth c H locs 0 0 Q (F0 m 24 ls [])) → ∀ (n : Nat) (x1_7 : Int32) (v_leads_8 : (Nat → Int32)) (H : Heap) (locs : List Loc), va_P D vwCl [(a_this, .inr (1, [.ref a_this_rows, .ref a_this_shorter, .ref a_this_ends, .ref a_this_leads, .int v_size])), (a_this_leads, .inl (cI, 260, .inl v_leads_8)), (a_this_rows, .inl (cI, 65, .inl v_rows))] H → va_D A [(a_this, .inr (1, [.ref a_this_rows, .ref a_this_shorter, .ref a_this_ends, .ref a_this_leads, .int v_size])), (a_this_leads, .inl (cI, 260, .inl v_leads_8)), (a_this_rows, .inl (cI, 65, .inl v_rows))] → va_S A s.heap H locs → ∀ ls : Array Slot, lv_has ls 4 [(0, .ref a_this), (1, .int x1_7)] → L_X1_leadToLongerStates_2 F k24 n x1_7 v_leads_8 = some (w_leads) → W p l e rm_X1_leadToLongerStates s m (([.ref a_this] : List Value).toArray) below meth c H locs 0 0 Q (F0 m 2 ls []) := by
    intro k24 hk24 n
    induction n with
    | zero => intro x1_7 v_leads_8 H locs hP hD hS ls hl hden; exact no_none hden
    | succ n ih =>
      intro x1_7 v_leads_8 H locs hP hD hS ls hl hden
      rw [L_X1_leadToLongerStates_2] at hden
      refine lv_iload_n hx hb dX1_leadToLongerStates_2 rfl (lv_at hl 1 rfl) ?_
      refine lv_aload_n hx hb dX1_leadToLongerStates_3 rfl (lv_at hl 0 rfl) ?_
      refine va_get (D := D) (ci := 1) (v := .ref a_this_leads) (C := RX1) (T := TX1) (N := 5) hx hb hts hin_X1 hown hK hP 0 rfl rfl 3 (by decide) w_21 (fun _ h9 => h9) rfl dX1_leadToLongerStates_4 ?_
      refine va_alen (v := 260) hx hb hK hP 1 0 rfl rfl rfl dX1_leadToLongerStates_7 ?_
      refine lv_icmp_ge (tgt := 24) hx hb dX1_leadToLongerStates_8 (by decide) (fun c_14 => ?_) (fun c_14 => ?_)
      · have hden := if_s hden c_14
        exact hk24 v_leads_8 _ _ (mSubP hP [0, 1, 2] rfl) (hD.sub [0, 1, 2] (by decide) rfl) hS ls (lv_sub hl [0] rfl) hden
      · have hden := ifn_s hden c_14
        refine lv_aload_n hx hb dX1_leadToLongerStates_11 rfl (lv_at hl 0 rfl) ?_
        refine va_get (D := D) (ci := 1) (v := .ref a_this_leads) (C := RX1) (T := TX1) (N := 5) hx hb hts hin_X1 hown hK hP 0 rfl rfl 3 (by decide) w_21 (fun _ h9 => h9) rfl dX1_leadToLongerStates_12 ?_
        refine lv_iload_n hx hb dX1_leadToLongerStates_15 rfl (lv_at hl 1 rfl) ?_
        refine lv_iconst (v := 0) hx hb dX1_leadToLongerStates_16 (by decide) ?_
        obtain ⟨hg_11, hden⟩ := grd_s hden
        refine va_iast hx hb hK hP hD hS 1 0 rfl rfl (inb_in hg_11) dX1_leadToLongerStates_17 (fun H locs hP hD hS => ?_)
        obtain ⟨v_leads_12, ev_leads_12, hden⟩ := nm_x hden
        have hP : va_P D vwCl [(a_this, .inr (1, [.ref a_this_rows, .ref a_this_shorter, .ref a_this_ends, .ref a_this_leads, .int v_size])), (a_this_leads, .inl (cI, 260, .inl v_leads_12)), (a_this_rows, .inl (cI, 65, .inl v_rows))] H := by rw [ev_leads_12]; exact hP
        have hD : va_D A [(a_this, .inr (1, [.ref a_this_rows, .ref a_this_shorter, .ref a_this_ends, .ref a_this_leads, .int v_size])), (a_this_leads, .inl (cI, 260, .inl v_leads_12)), (a_this_rows, .inl (cI, 65, .inl v_rows))] := by rw [ev_leads_12]; exact hD
        obtain ⟨x1_13, ex1_13, hden⟩ := nm_x hden
        refine lv_iinc (v := x1_13) (lv' := [(1, .int x1_13), (0, .ref a_this)]) hx hb dX1_leadToLongerStates_18 hl (k := 1) rfl (by rw [ex1_13]; rfl) (by decide) rfl (fun ls hl => ?_)
        refine lv_goto (tgt := 2) hx hb dX1_leadToLongerStates_21 (by decide) ?_
        exact ih x1_13 v_leads_12 _ _ (mSubP hP [0, 1, 2] rfl) (hD.sub [0, 1, 2] (by decide) rfl) hS ls (lv_sub hl [1, 0] rfl) hden
  refine hL2__10 _ (fun v_leads_9 H locs hP hD hS ls hl hden => ?_) F 0 v_leads _ _ (mSubP hP [0, 1, 2] rfl) (hD.sub [0, 1, 2] (by decide) rfl) hS ls (lv_sub hl [1, 0] rfl) hden
  refine lv_iconst (v := 0) hx hb dX1_leadToLongerStates_24 (by decide) ?_
  refine lv_istore_n (lv' := [(1, .int 0), (0, .ref a_this)]) hx hb dX1_leadToLongerStates_25 rfl hl (by decide) rfl (fun ls hl => ?_)
  refine lv_iconst (v := 1) hx hb dX1_leadToLongerStates_26 (by decide) ?_
  refine lv_istore_n (lv' := [(2, .int 1), (1, .int 0), (0, .ref a_this)]) hx hb dX1_leadToLongerStates_27 rfl hl (by decide) rfl (fun ls hl => ?_)
  have hL28__43 : ∀ (n : Nat) (x1_40 : Int32) (x2_41 : Int32) (v_leads_42 : (Nat → Int32)) (H : Heap) (locs : List Loc), va_P D vwCl [(a_this, .inr (1, [.ref a_this_rows, .ref a_this_shorter, .ref a_this_ends, .ref a_this_leads, .int v_size])), (a_this_leads, .inl (cI, 260, .inl v_leads_42)), (a_this_rows, .inl (cI, 65, .inl v_rows))] H → va_D A [(a_this, .inr (1, [.ref a_this_rows, .ref a_this_shorter, .ref a_this_ends, .ref a_this_leads, .int v_size])), (a_this_leads, .inl (cI, 260, .inl v_leads_42)), (a_this_rows, .inl (cI, 65, .inl v_rows))] → va_S A s.heap H locs → ∀ ls : Array Slot, lv_has ls 4 [(0, .ref a_this), (1, .int x1_40), (2, .int x2_41)] → L_X1_leadToLongerStates_28 F v_size v_rows n x1_40 x2_41 v_leads_42 = some (w_leads) → W p l e rm_X1_leadToLongerStates s m (([.ref a_this] : List Value).toArray) below meth c H locs 0 0 Q (F0 m 28 ls []) := by
    intro n
    induction n with
    | zero => intro x1_40 x2_41 v_leads_42 H locs hP hD hS ls hl hden; exact no_none hden
    | succ n ih =>
      intro x1_40 x2_41 v_leads_42 H locs hP hD hS ls hl hden
      rw [L_X1_leadToLongerStates_28] at hden
      refine lv_iload_n hx hb dX1_leadToLongerStates_28 rfl (lv_at hl 2 rfl) ?_
      refine lv_aload_n hx hb dX1_leadToLongerStates_29 rfl (lv_at hl 0 rfl) ?_
      refine va_get (D := D) (ci := 1) (v := .int v_size) (C := RX1) (T := TX1) (N := 5) hx hb hts hin_X1 hown hK hP 0 rfl rfl 4 (by decide) w_28 (fun _ h9 => h9) rfl dX1_leadToLongerStates_30 ?_
      refine lv_icmp_ge (tgt := 92) hx hb dX1_leadToLongerStates_33 (by decide) (fun c_59 => ?_) (fun c_59 => ?_)
      · have hden := if_s hden c_59
        subst hQe
        cases hden
        exact m_rv hx hb hr hP hD hS [0, 1, 2] (by decide) rfl dX1_leadToLongerStates_92 hlocks
      · have hden := ifn_s hden c_59
        refine lv_aload_n hx hb dX1_leadToLongerStates_36 rfl (lv_at hl 0 rfl) ?_
        refine va_get (D := D) (ci := 1) (v := .ref a_this_rows) (C := RX1) (T := TX1) (N := 5) hx hb hts hin_X1 hown hK hP 0 rfl rfl 0 (by decide) w_9 (fun _ h9 => h9) rfl dX1_leadToLongerStates_37 ?_
        refine lv_iload_n hx hb dX1_leadToLongerStates_40 rfl (lv_at hl 2 rfl) ?_
        obtain ⟨r_44, hc_45, hden⟩ := bnd_s hden
        refine m_ci (wc := [(a_this_rows, .inl (cI, 65, .inl v_rows))]) (wr := [(a_this, .inr (1, [.ref a_this_rows, .ref a_this_shorter, .ref a_this_ends, .ref a_this_leads, .int v_size])), (a_this_leads, .inl (cI, 260, .inl v_leads_42))]) (wc' := [(a_this_rows, .inl (cI, 65, .inl v_rows))]) (va_runSN (As := [.ref a_this_rows, .int x2_41]) (rest := []) ⟨hx, hb, hml, hown, hts⟩ (c_X5_at l D cI cM cL F hc_45) ⟨va_cnB 2 hts gX1_leadToLongerStates_X5_at_n36 rfl rfl rfl hN.2.2.1 w_iX5 (by decide +kernel) ⟨Nat.le_of_ble_eq_true rfl, Nat.le_of_ble_eq_true rfl⟩, w_sX5_at, trivial⟩ (mPreS hP hD hK hN [2] (by decide) rfl) rfl rfl hl.1 rfl (lv_room (Nat.le_of_ble_eq_true rfl)) dX1_leadToLongerStates_41 ⟨Nat.le_of_ble_eq_true rfl, Nat.le_of_ble_eq_true rfl⟩) hP hD hS hA [2] [0, 1] rfl rfl (by decide) (by decide) (fun H locs hP hD hS => ?_)
        have hP : va_P D vwCl [(a_this, .inr (1, [.ref a_this_rows, .ref a_this_shorter, .ref a_this_ends, .ref a_this_leads, .int v_size])), (a_this_leads, .inl (cI, 260, .inl v_leads_42)), (a_this_rows, .inl (cI, 65, .inl v_rows))] H := hP
        have hD : va_D A [(a_this, .inr (1, [.ref a_this_rows, .ref a_this_shorter, .ref a_this_ends, .ref a_this_leads, .int v_size])), (a_this_leads, .inl (cI, 260, .inl v_leads_42)), (a_this_rows, .inl (cI, 65, .inl v_rows))] := hD
        refine lv_istore_n (lv' := [(3, .int r_44), (0, .ref a_this), (1, .int x1_40), (2, .int x2_41)]) hx hb dX1_leadToLongerStates_44 rfl hl (by decide) rfl (fun ls hl => ?_)
        have hL45__48 : ∀ (k70 : Int32 → Option ((Nat → Int32))), (∀ (x1_47 : Int32) (H : Heap) (locs : List Loc), va_P D vwCl [(a_this, .inr (1, [.ref a_this_rows, .ref a_this_shorter, .ref a_this_ends, .ref a_this_leads, .int v_size])), (a_this_leads, .inl (cI, 260, .inl v_leads_42)), (a_this_rows, .inl (cI, 65, .inl v_rows))] H → va_D A [(a_this, .inr (1, [.ref a_this_rows, .ref a_this_shorter, .ref a_this_ends, .ref a_this_leads, .int v_size])), (a_this_leads, .inl (cI, 260, .inl v_leads_42)), (a_this_rows, .inl (cI, 65, .inl v_rows))] → va_S A s.heap H locs → ∀ ls : Array Slot, lv_has ls 4 [(0, .ref a_this), (1, .int x1_47), (2, .int x2_41), (3, .int r_44)] → k70 x1_47 = some (w_leads) → W p l e rm_X1_leadToLongerStates s m (([.ref a_this] : List Value).toArray) below meth c H locs 0 0 Q (F0 m 70 ls [])) → ∀ (n : Nat) (x1_46 : Int32) (H : Heap) (locs : List Loc), va_P D vwCl [(a_this, .inr (1, [.ref a_this_rows, .ref a_this_shorter, .ref a_this_ends, .ref a_this_leads, .int v_size])), (a_this_leads, .inl (cI, 260, .inl v_leads_42)), (a_this_rows, .inl (cI, 65, .inl v_rows))] H → va_D A [(a_this, .inr (1, [.ref a_this_rows, .ref a_this_shorter, .ref a_this_ends, .ref a_this_leads, .int v_size])), (a_this_leads, .inl (cI, 260, .inl v_leads_42)), (a_this_rows, .inl (cI, 65, .inl v_rows))] → va_S A s.heap H locs → ∀ ls : Array Slot, lv_has ls 4 [(0, .ref a_this), (1, .int x1_46), (2, .int x2_41), (3, .int r_44)] → L_X1_leadToLongerStates_45 F k70 x2_41 r_44 v_rows n x1_46 = some (w_leads) → W p l e rm_X1_leadToLongerStates s m (([.ref a_this] : List Value).toArray) below meth c H locs 0 0 Q (F0 m 45 ls []) := by
          intro k70 hk70 n
          induction n with
          | zero => intro x1_46 H locs hP hD hS ls hl hden; exact no_none hden
          | succ n ih =>
            intro x1_46 H locs hP hD hS ls hl hden
            rw [L_X1_leadToLongerStates_45] at hden
            refine lv_iload_n hx hb dX1_leadToLongerStates_45 rfl (lv_at hl 1 rfl) ?_
            refine lv_iload_n hx hb dX1_leadToLongerStates_46 rfl (lv_at hl 2 rfl) ?_
            refine lv_icmp_ge (tgt := 70) hx hb dX1_leadToLongerStates_47 (by decide) (fun c_53 => ?_) (fun c_53 => ?_)
            · have hden := if_s hden c_53
              exact hk70 x1_46 _ _ (mSubP hP [0, 1, 2] rfl) (hD.sub [0, 1, 2] (by decide) rfl) hS ls (lv_sub hl [0, 1, 2, 3] rfl) hden
            · have hden := ifn_s hden c_53
              refine lv_aload_n hx hb dX1_leadToLongerStates_50 rfl (lv_at hl 0 rfl) ?_
              refine va_get (D := D) (ci := 1) (v := .ref a_this_rows) (C := RX1) (T := TX1) (N := 5) hx hb hts hin_X1 hown hK hP 0 rfl rfl 0 (by decide) w_9 (fun _ h9 => h9) rfl dX1_leadToLongerStates_51 ?_
              refine lv_iload_n hx hb dX1_leadToLongerStates_54 rfl (lv_at hl 1 rfl) ?_
              obtain ⟨r_49, hc_50, hden⟩ := bnd_s hden
              refine m_ci (wc := [(a_this_rows, .inl (cI, 65, .inl v_rows))]) (wr := [(a_this, .inr (1, [.ref a_this_rows, .ref a_this_shorter, .ref a_this_ends, .ref a_this_leads, .int v_size])), (a_this_leads, .inl (cI, 260, .inl v_leads_42))]) (wc' := [(a_this_rows, .inl (cI, 65, .inl v_rows))]) (va_runSN (As := [.ref a_this_rows, .int x1_46]) (rest := []) ⟨hx, hb, hml, hown, hts⟩ (c_X5_at l D cI cM cL F hc_50) ⟨va_cnB 2 hts gX1_leadToLongerStates_X5_at_n36 rfl rfl rfl hN.2.2.1 w_iX5 (by decide +kernel) ⟨Nat.le_of_ble_eq_true rfl, Nat.le_of_ble_eq_true rfl⟩, w_sX5_at, trivial⟩ (mPreS hP hD hK hN [2] (by decide) rfl) rfl rfl hl.1 rfl (lv_room (Nat.le_of_ble_eq_true rfl)) dX1_leadToLongerStates_55 ⟨Nat.le_of_ble_eq_true rfl, Nat.le_of_ble_eq_true rfl⟩) hP hD hS hA [2] [0, 1] rfl rfl (by decide) (by decide) (fun H locs hP hD hS => ?_)
              have hP : va_P D vwCl [(a_this, .inr (1, [.ref a_this_rows, .ref a_this_shorter, .ref a_this_ends, .ref a_this_leads, .int v_size])), (a_this_leads, .inl (cI, 260, .inl v_leads_42)), (a_this_rows, .inl (cI, 65, .inl v_rows))] H := hP
              have hD : va_D A [(a_this, .inr (1, [.ref a_this_rows, .ref a_this_shorter, .ref a_this_ends, .ref a_this_leads, .int v_size])), (a_this_leads, .inl (cI, 260, .inl v_leads_42)), (a_this_rows, .inl (cI, 65, .inl v_rows))] := hD
              refine lv_iload_n hx hb dX1_leadToLongerStates_58 rfl (lv_at hl 3 rfl) ?_
              refine lv_iconst (v := 2) hx hb dX1_leadToLongerStates_59 (by decide) ?_
              refine lv_ishr hx hb dX1_leadToLongerStates_60 ?_
              refine lv_icmp_eq (tgt := 70) hx hb dX1_leadToLongerStates_61 (by decide) (fun c_52 => ?_) (fun c_52 => ?_)
              · have hden := if_s hden c_52
                exact hk70 x1_46 _ _ (mSubP hP [0, 1, 2] rfl) (hD.sub [0, 1, 2] (by decide) rfl) hS ls (lv_sub hl [0, 1, 2, 3] rfl) hden
              · have hden := ifn_s hden c_52
                obtain ⟨x1_51, ex1_51, hden⟩ := nm_x hden
                refine lv_iinc (v := x1_51) (lv' := [(1, .int x1_51), (0, .ref a_this), (2, .int x2_41), (3, .int r_44)]) hx hb dX1_leadToLongerStates_64 hl (k := 1) rfl (by rw [ex1_51]; rfl) (by decide) rfl (fun ls hl => ?_)
                refine lv_goto (tgt := 45) hx hb dX1_leadToLongerStates_67 (by decide) ?_
                exact ih x1_51 _ _ (mSubP hP [0, 1, 2] rfl) (hD.sub [0, 1, 2] (by decide) rfl) hS ls (lv_sub hl [1, 0, 2, 3] rfl) hden
        refine hL45__48 _ (fun x1_47 H locs hP hD hS ls hl hden => ?_) F x1_40 _ _ (mSubP hP [0, 1, 2] rfl) (hD.sub [0, 1, 2] (by decide) rfl) hS ls (lv_sub hl [1, 2, 3, 0] rfl) hden
        refine lv_aload_n hx hb dX1_leadToLongerStates_70 rfl (lv_at hl 0 rfl) ?_
        refine va_get (D := D) (ci := 1) (v := .ref a_this_leads) (C := RX1) (T := TX1) (N := 5) hx hb hts hin_X1 hown hK hP 0 rfl rfl 3 (by decide) w_21 (fun _ h9 => h9) rfl dX1_leadToLongerStates_71 ?_
        refine lv_iload_n hx hb dX1_leadToLongerStates_74 rfl (lv_at hl 1 rfl) ?_
        refine lv_iconst (v := 4) hx hb dX1_leadToLongerStates_75 (by decide) ?_
        refine lv_imul hx hb dX1_leadToLongerStates_76 ?_
        refine lv_iload_n hx hb dX1_leadToLongerStates_77 rfl (lv_at hl 3 rfl) ?_
        obtain ⟨r_54, hc_55, hden⟩ := bnd_s hden
        refine m_ci (wc := []) (wr := [(a_this, .inr (1, [.ref a_this_rows, .ref a_this_shorter, .ref a_this_ends, .ref a_this_leads, .int v_size])), (a_this_leads, .inl (cI, 260, .inl v_leads_42)), (a_this_rows, .inl (cI, 65, .inl v_rows))]) (wc' := []) (va_runS (As := [.int r_44]) (rest := [.int (x1_47 * 4), .ref a_this_leads]) ⟨hx, hb, hml, hown, hts⟩ (c_X3_lastLetter l D cI cM cL F hc_55) (va_cwS 1 hts gX1_leadToLongerStates_X3_lastLetter rfl rfl rfl (by decide +kernel) ⟨Nat.le_of_ble_eq_true rfl, Nat.le_of_ble_eq_true rfl⟩) (mPreS hP hD hK hN [] (by decide) rfl) rfl rfl hl.1 rfl (lv_room (Nat.le_of_ble_eq_true rfl)) dX1_leadToLongerStates_78 ⟨Nat.le_of_ble_eq_true rfl, Nat.le_of_ble_eq_true rfl⟩) hP hD hS hA [] [0, 1, 2] rfl rfl (by decide) (by decide) (fun H locs hP hD hS => ?_)
        have hP : va_P D vwCl [(a_this, .inr (1, [.ref a_this_rows, .ref a_this_shorter, .ref a_this_ends, .ref a_this_leads, .int v_size])), (a_this_leads, .inl (cI, 260, .inl v_leads_42)), (a_this_rows, .inl (cI, 65, .inl v_rows))] H := hP
        have hD : va_D A [(a_this, .inr (1, [.ref a_this_rows, .ref a_this_shorter, .ref a_this_ends, .ref a_this_leads, .int v_size])), (a_this_leads, .inl (cI, 260, .inl v_leads_42)), (a_this_rows, .inl (cI, 65, .inl v_rows))] := hD
        refine lv_iadd hx hb dX1_leadToLongerStates_81 ?_
        refine lv_iload_n hx hb dX1_leadToLongerStates_82 rfl (lv_at hl 2 rfl) ?_
        obtain ⟨v_leads_56, hc_57, hden⟩ := bnd_s hden
        refine m_cv (wc := [(a_this_leads, .inl (cI, 260, .inl v_leads_42))]) (wr := [(a_this, .inr (1, [.ref a_this_rows, .ref a_this_shorter, .ref a_this_ends, .ref a_this_leads, .int v_size])), (a_this_rows, .inl (cI, 65, .inl v_rows))]) (wc' := [(a_this_leads, .inl (cI, 260, .inl v_leads_56))]) (va_runSN (As := [.ref a_this_leads, .int ((x1_47 * 4) + r_54), .int x2_41]) (rest := []) ⟨hx, hb, hml, hown, hts⟩ (c_X5_put l D cI cM cL F hc_57) ⟨va_cnB 3 hts gX1_leadToLongerStates_X5_put_n24 rfl rfl rfl hN.2.2.2.1 w_iX5 (by decide +kernel) ⟨Nat.le_of_ble_eq_true rfl, Nat.le_of_ble_eq_true rfl⟩, w_sX5_put, trivial⟩ (mPreS hP hD hK hN [1] (by decide) rfl) rfl rfl hl.1 rfl (lv_room (Nat.le_of_ble_eq_true rfl)) dX1_leadToLongerStates_83 ⟨Nat.le_of_ble_eq_true rfl, Nat.le_of_ble_eq_true rfl⟩) hP hD hS hA [1] [0, 2] rfl rfl (by decide) (by decide) (fun H locs hP hD hS => ?_)
        have hP : va_P D vwCl [(a_this, .inr (1, [.ref a_this_rows, .ref a_this_shorter, .ref a_this_ends, .ref a_this_leads, .int v_size])), (a_this_rows, .inl (cI, 65, .inl v_rows)), (a_this_leads, .inl (cI, 260, .inl v_leads_56))] H := hP
        have hD : va_D A [(a_this, .inr (1, [.ref a_this_rows, .ref a_this_shorter, .ref a_this_ends, .ref a_this_leads, .int v_size])), (a_this_rows, .inl (cI, 65, .inl v_rows)), (a_this_leads, .inl (cI, 260, .inl v_leads_56))] := hD
        obtain ⟨x2_58, ex2_58, hden⟩ := nm_x hden
        refine lv_iinc (v := x2_58) (lv' := [(2, .int x2_58), (0, .ref a_this), (1, .int x1_47), (3, .int r_44)]) hx hb dX1_leadToLongerStates_86 hl (k := 2) rfl (by rw [ex2_58]; rfl) (by decide) rfl (fun ls hl => ?_)
        refine lv_goto (tgt := 28) hx hb dX1_leadToLongerStates_89 (by decide) ?_
        exact ih x1_47 x2_58 v_leads_56 _ _ (mSubP hP [0, 2, 1] rfl) (hD.sub [0, 2, 1] (by decide) rfl) hS ls (lv_sub hl [1, 2, 0] rfl) hden
  exact hL28__43 F 0 1 v_leads_9 _ _ (mSubP hP [0, 1, 2] rfl) (hD.sub [0, 1, 2] (by decide) rfl) hS ls (lv_sub hl [2, 1, 0] rfl) hden
def D_X1_leadsTo (F : Nat) (p1 : Int32) (p2 : Int32) (v_leads : (Nat → Int32)) : Option (Int32) := bnd (D_X5_at F 260 ((p1 * 4) + p2) v_leads) (fun r_1 => some (r_1))
def rm_X1_leadsTo : Room := { frames := 1, cells := 0, slots := 0, locals := 21 }
set_option maxHeartbeats 4000000 in
set_option maxRecDepth 100000 in
theorem c_X1_leadsTo (l : Launch) (D : va_G) (cI cM cL : ClassId) (F : Nat) {a_this a_this_rows a_this_shorter a_this_ends a_this_leads : Nat} {sz : Nat} {v_size : Int32} {v_leads : Nat → Int32} {p1 : Int32} {p2 : Int32} {r0 : Int32} (hden : D_X1_leadsTo F p1 p2 v_leads = some (r0)) : Met l yX1_leadsTo wsX1_leadsTo rm_X1_leadsTo (va_Pc [.ref a_this, .int p1, .int p2] (mB D (mTy cI cM cL) sz [(a_this, .inr (1, [.ref a_this_rows, .ref a_this_shorter, .ref a_this_ends, .ref a_this_leads, .int v_size])), (a_this_leads, .inl (cI, 260, .inl v_leads))])) (mQi D (va_A [(a_this, .inr (1, [.ref a_this_rows, .ref a_this_shorter, .ref a_this_ends, .ref a_this_leads, .int v_size])), (a_this_leads, .inl (cI, 260, .inl v_leads))] sz) [(a_this, .inr (1, [.ref a_this_rows, .ref a_this_shorter, .ref a_this_ends, .ref a_this_leads, .int v_size])), (a_this_leads, .inl (cI, 260, .inl v_leads))] r0) 0 0 (va_A [(a_this, .inr (1, [.ref a_this_rows, .ref a_this_shorter, .ref a_this_ends, .ref a_this_leads, .int v_size])), (a_this_leads, .inl (cI, 260, .inl v_leads))] sz) := by
  refine Met.ofW (cc := cX1_leadsTo) (maxL := 3) (ret := (some .int)) (by decide) rfl ?_
  intro p e s m args below meth c s₁ B hml hv
  obtain ⟨rfl, hsz, hP, hK, hN, hD0⟩ := hv
  have hx := B.exec
  have hb := B.bytes
  have hr := B.returns
  have hts := atoms_spec (ws := wsX1_leadsTo) B.pre
  have hown : s.vm.findClass RX1 = some m.cls := findClass_of_methodNamed B.named
  have hlocks := B.notSynchronized
  subst hsz
  have hD := hD0.self (sz := s.heap.size)
  generalize hAe : va_A [(a_this, .inr (1, [.ref a_this_rows, .ref a_this_shorter, .ref a_this_ends, .ref a_this_leads, .int v_size])), (a_this_leads, .inl (cI, 260, .inl v_leads))] s.heap.size = A at hD ⊢
  have hA : ∀ q : Nat, s.heap.size ≤ q → A q := fun q h => by rw [← hAe]; exact Or.inr h
  have hS : va_S A s.heap s.heap [] := va_S.rf
  have hl := lv_entry ([.ref a_this, .int p1, .int p2]) (n := 3) (Nat.le_of_ble_eq_true rfl)
  rw [lg_entry_eq]
  generalize (lg_sl ([.ref a_this, .int p1, .int p2]) ++ List.replicate (3 - (lg_sl ([.ref a_this, .int p1, .int p2])).length) Slot.unset).toArray = ls at hl ⊢
  have hl : lv_has ls 3 [(0, .ref a_this), (1, .int p1), (2, .int p2)] := hl
  change W p l e rm_X1_leadsTo s m (([.ref a_this, .int p1, .int p2] : List Value).toArray) below meth c s.heap [] 0 0 _ (F0 m 0 ls [])
  generalize hQe : MQ below (mQi D A [(a_this, .inr (1, [.ref a_this_rows, .ref a_this_shorter, .ref a_this_ends, .ref a_this_leads, .int v_size])), (a_this_leads, .inl (cI, 260, .inl v_leads))] r0) (([.ref a_this, .int p1, .int p2] : List Value).toArray) s 0 0 A = Q
  rw [D_X1_leadsTo] at hden
  have hin_X1 : ∀ w ∈ wsX10, w ∈ wsX1_leadsTo := by decide +kernel
  have w_21 := hts (.fieldLink RX1 21 "FallingPatterns$Machine" "leads" "[I") (by decide +kernel)
  have w_iX5 := hts (.initialized RX5) (by decide +kernel)
  have w_sX5_at := hts (.static yX5_at) (by decide +kernel)
  refine lv_aload_n hx hb dX1_leadsTo_0 rfl (lv_at hl 0 rfl) ?_
  refine va_get (D := D) (ci := 1) (v := .ref a_this_leads) (C := RX1) (T := TX1) (N := 5) hx hb hts hin_X1 hown hK hP 0 rfl rfl 3 (by decide) w_21 (fun _ h9 => h9) rfl dX1_leadsTo_1 ?_
  refine lv_iload_n hx hb dX1_leadsTo_4 rfl (lv_at hl 1 rfl) ?_
  refine lv_iconst (v := 4) hx hb dX1_leadsTo_5 (by decide) ?_
  refine lv_imul hx hb dX1_leadsTo_6 ?_
  refine lv_iload_n hx hb dX1_leadsTo_7 rfl (lv_at hl 2 rfl) ?_
  refine lv_iadd hx hb dX1_leadsTo_8 ?_
  obtain ⟨r_1, hc_2, hden⟩ := bnd_s hden
  refine m_ci (wc := [(a_this_leads, .inl (cI, 260, .inl v_leads))]) (wr := [(a_this, .inr (1, [.ref a_this_rows, .ref a_this_shorter, .ref a_this_ends, .ref a_this_leads, .int v_size]))]) (wc' := [(a_this_leads, .inl (cI, 260, .inl v_leads))]) (va_runSN (As := [.ref a_this_leads, .int ((p1 * 4) + p2)]) (rest := []) ⟨hx, hb, hml, hown, hts⟩ (c_X5_at l D cI cM cL F hc_2) ⟨va_cnB 2 hts gX1_leadsTo_X5_at_n36 rfl rfl rfl hN.2.2.1 w_iX5 (by decide +kernel) ⟨Nat.le_of_ble_eq_true rfl, Nat.le_of_ble_eq_true rfl⟩, w_sX5_at, trivial⟩ (mPreS hP hD hK hN [1] (by decide) rfl) rfl rfl hl.1 rfl (lv_room (Nat.le_of_ble_eq_true rfl)) dX1_leadsTo_9 ⟨Nat.le_of_ble_eq_true rfl, Nat.le_of_ble_eq_true rfl⟩) hP hD hS hA [1] [0] rfl rfl (by decide) (by decide) (fun H locs hP hD hS => ?_)
  have hP : va_P D vwCl [(a_this, .inr (1, [.ref a_this_rows, .ref a_this_shorter, .ref a_this_ends, .ref a_this_leads, .int v_size])), (a_this_leads, .inl (cI, 260, .inl v_leads))] H := hP
  have hD : va_D A [(a_this, .inr (1, [.ref a_this_rows, .ref a_this_shorter, .ref a_this_ends, .ref a_this_leads, .int v_size])), (a_this_leads, .inl (cI, 260, .inl v_leads))] := hD
  subst hQe
  cases hden
  exact m_ri hx hb hr hP hD hS [0, 1] (by decide) rfl rfl dX1_leadsTo_12 hlocks
def L_X1_fallBack_21 (F : Nat) (k93 : (Nat → Int32) → (Nat → Int32) → Option ((Nat → Int32) × (Nat → Int32))) (y1 : Int32) : Nat → Int32 → (Nat → Int32) → (Nat → Int32) → Option ((Nat → Int32) × (Nat → Int32))
  | 0, _, _, _ => none
  | n + 1, x2_6, v_shorter_7, v_leads_8 => (if 4 ≤ x2_6 then k93 v_shorter_7 v_leads_8 else bnd (D_X1_leadsTo F y1 x2_6 v_leads_8) (fun r_9 => jp (fun (t_11 : Int32) => (if r_9 = 0 then bnd (D_X5_put F 260 ((y1 * 4) + x2_6) t_11 v_leads_8) (fun v_leads_12 => nm (x2_6 + 1) (fun x2_14 => L_X1_fallBack_21 F k93 y1 n x2_14 v_shorter_7 v_leads_12)) else bnd (D_X5_put F 65 r_9 t_11 v_shorter_7) (fun v_shorter_15 => nm (x2_6 + 1) (fun x2_17 => L_X1_fallBack_21 F k93 y1 n x2_17 v_shorter_15 v_leads_8)))) (fun j54 => (if y1 = 0 then j54 0 else bnd (D_X5_at F 65 y1 v_shorter_7) (fun r_19 => bnd (D_X1_leadsTo F r_19 x2_6 v_leads_8) (fun r_21 => j54 r_21))))))
def L_X1_fallBack_11 (F : Nat) (v_size : Int32) : Nat → Int32 → (Nat → Int32) → (Nat → Int32) → Option ((Nat → Int32) × (Nat → Int32))
  | 0, _, _, _ => none
  | n + 1, x1_3, v_shorter_4, v_leads_5 => (if v_size ≤ x1_3 then some (v_shorter_4, v_leads_5) else L_X1_fallBack_21 F (fun (v_shorter_28 : (Nat → Int32)) (v_leads_29 : (Nat → Int32)) => nm (x1_3 + 1) (fun x1_47 => L_X1_fallBack_11 F v_size n x1_47 v_shorter_28 v_leads_29)) x1_3 F 0 v_shorter_4 v_leads_5)
def D_X1_fallBack (F : Nat) (v_shorter : (Nat → Int32)) (v_size : Int32) (v_leads : (Nat → Int32)) : Option ((Nat → Int32) × (Nat → Int32)) := bnd (D_X5_put F 65 0 (-1) v_shorter) (fun v_shorter_1 => L_X1_fallBack_11 F v_size F 0 v_shorter_1 v_leads)
def rm_X1_fallBack : Room := { frames := 2, cells := 0, slots := 0, locals := 43 }
set_option maxHeartbeats 4000000 in
set_option maxRecDepth 100000 in
theorem c_X1_fallBack (l : Launch) (D : va_G) (cI cM cL : ClassId) (F : Nat) {a_this a_this_rows a_this_shorter a_this_ends a_this_leads : Nat} {sz : Nat} {v_size : Int32} {v_shorter v_leads : Nat → Int32} {w_shorter : (Nat → Int32)} {w_leads : (Nat → Int32)} (hden : D_X1_fallBack F v_shorter v_size v_leads = some (w_shorter, w_leads)) : Met l yX1_fallBack wsX1_fallBack rm_X1_fallBack (va_Pc [.ref a_this] (mB D (mTy cI cM cL) sz [(a_this, .inr (1, [.ref a_this_rows, .ref a_this_shorter, .ref a_this_ends, .ref a_this_leads, .int v_size])), (a_this_shorter, .inl (cI, 65, .inl v_shorter)), (a_this_leads, .inl (cI, 260, .inl v_leads))])) (mQv D (va_A [(a_this, .inr (1, [.ref a_this_rows, .ref a_this_shorter, .ref a_this_ends, .ref a_this_leads, .int v_size])), (a_this_shorter, .inl (cI, 65, .inl v_shorter)), (a_this_leads, .inl (cI, 260, .inl v_leads))] sz) [(a_this, .inr (1, [.ref a_this_rows, .ref a_this_shorter, .ref a_this_ends, .ref a_this_leads, .int v_size])), (a_this_shorter, .inl (cI, 65, .inl w_shorter)), (a_this_leads, .inl (cI, 260, .inl w_leads))]) 0 0 (va_A [(a_this, .inr (1, [.ref a_this_rows, .ref a_this_shorter, .ref a_this_ends, .ref a_this_leads, .int v_size])), (a_this_shorter, .inl (cI, 65, .inl v_shorter)), (a_this_leads, .inl (cI, 260, .inl v_leads))] sz) := by
  refine Met.ofW (cc := cX1_fallBack) (maxL := 5) (ret := none) (by decide) rfl ?_
  intro p e s m args below meth c s₁ B hml hv
  obtain ⟨rfl, hsz, hP, hK, hN, hD0⟩ := hv
  have hx := B.exec
  have hb := B.bytes
  have hr := B.returns
  have hts := atoms_spec (ws := wsX1_fallBack) B.pre
  have hown : s.vm.findClass RX1 = some m.cls := findClass_of_methodNamed B.named
  have hlocks := B.notSynchronized
  subst hsz
  have hD := hD0.self (sz := s.heap.size)
  generalize hAe : va_A [(a_this, .inr (1, [.ref a_this_rows, .ref a_this_shorter, .ref a_this_ends, .ref a_this_leads, .int v_size])), (a_this_shorter, .inl (cI, 65, .inl v_shorter)), (a_this_leads, .inl (cI, 260, .inl v_leads))] s.heap.size = A at hD ⊢
  have hA : ∀ q : Nat, s.heap.size ≤ q → A q := fun q h => by rw [← hAe]; exact Or.inr h
  have hS : va_S A s.heap s.heap [] := va_S.rf
  have hl := lv_entry ([.ref a_this]) (n := 5) (Nat.le_of_ble_eq_true rfl)
  rw [lg_entry_eq]
  generalize (lg_sl ([.ref a_this]) ++ List.replicate (5 - (lg_sl ([.ref a_this])).length) Slot.unset).toArray = ls at hl ⊢
  have hl : lv_has ls 5 [(0, .ref a_this)] := hl
  change W p l e rm_X1_fallBack s m (([.ref a_this] : List Value).toArray) below meth c s.heap [] 0 0 _ (F0 m 0 ls [])
  generalize hQe : MQ below (mQv D A [(a_this, .inr (1, [.ref a_this_rows, .ref a_this_shorter, .ref a_this_ends, .ref a_this_leads, .int v_size])), (a_this_shorter, .inl (cI, 65, .inl w_shorter)), (a_this_leads, .inl (cI, 260, .inl w_leads))]) (([.ref a_this] : List Value).toArray) s 0 0 A = Q
  rw [D_X1_fallBack] at hden
  have hin_X1 : ∀ w ∈ wsX10, w ∈ wsX1_fallBack := by decide +kernel
  have w_15 := hts (.fieldLink RX1 15 "FallingPatterns$Machine" "shorter" "[I") (by decide +kernel)
  have w_iX5 := hts (.initialized RX5) (by decide +kernel)
  have w_sX5_put := hts (.static yX5_put) (by decide +kernel)
  have w_28 := hts (.fieldLink RX1 28 "FallingPatterns$Machine" "size" "I") (by decide +kernel)
  have w_21 := hts (.fieldLink RX1 21 "FallingPatterns$Machine" "leads" "[I") (by decide +kernel)
  have w_sX5_at := hts (.static yX5_at) (by decide +kernel)
  refine lv_aload_n hx hb dX1_fallBack_0 rfl (lv_at hl 0 rfl) ?_
  refine va_get (D := D) (ci := 1) (v := .ref a_this_shorter) (C := RX1) (T := TX1) (N := 5) hx hb hts hin_X1 hown hK hP 0 rfl rfl 1 (by decide) w_15 (fun _ h9 => h9) rfl dX1_fallBack_1 ?_
  refine lv_iconst (v := 0) hx hb dX1_fallBack_4 (by decide) ?_
  refine lv_iconst (v := (-1)) hx hb dX1_fallBack_5 (by decide) ?_
  obtain ⟨v_shorter_1, hc_2, hden⟩ := bnd_s hden
  refine m_cv (wc := [(a_this_shorter, .inl (cI, 65, .inl v_shorter))]) (wr := [(a_this, .inr (1, [.ref a_this_rows, .ref a_this_shorter, .ref a_this_ends, .ref a_this_leads, .int v_size])), (a_this_leads, .inl (cI, 260, .inl v_leads))]) (wc' := [(a_this_shorter, .inl (cI, 65, .inl v_shorter_1))]) (va_runSN (As := [.ref a_this_shorter, .int 0, .int (-1)]) (rest := []) ⟨hx, hb, hml, hown, hts⟩ (c_X5_put l D cI cM cL F hc_2) ⟨va_cnB 3 hts gX1_fallBack_X5_put_n24 rfl rfl rfl hN.2.2.2.1 w_iX5 (by decide +kernel) ⟨Nat.le_of_ble_eq_true rfl, Nat.le_of_ble_eq_true rfl⟩, w_sX5_put, trivial⟩ (mPreS hP hD hK hN [1] (by decide) rfl) rfl rfl hl.1 rfl (lv_room (Nat.le_of_ble_eq_true rfl)) dX1_fallBack_6 ⟨Nat.le_of_ble_eq_true rfl, Nat.le_of_ble_eq_true rfl⟩) hP hD hS hA [1] [0, 2] rfl rfl (by decide) (by decide) (fun H locs hP hD hS => ?_)
  have hP : va_P D vwCl [(a_this, .inr (1, [.ref a_this_rows, .ref a_this_shorter, .ref a_this_ends, .ref a_this_leads, .int v_size])), (a_this_leads, .inl (cI, 260, .inl v_leads)), (a_this_shorter, .inl (cI, 65, .inl v_shorter_1))] H := hP
  have hD : va_D A [(a_this, .inr (1, [.ref a_this_rows, .ref a_this_shorter, .ref a_this_ends, .ref a_this_leads, .int v_size])), (a_this_leads, .inl (cI, 260, .inl v_leads)), (a_this_shorter, .inl (cI, 65, .inl v_shorter_1))] := hD
  refine lv_iconst (v := 0) hx hb dX1_fallBack_9 (by decide) ?_
  refine lv_istore_n (lv' := [(1, .int 0), (0, .ref a_this)]) hx hb dX1_fallBack_10 rfl hl (by decide) rfl (fun ls hl => ?_)
  have hL11__52 : ∀ (n : Nat) (x1_49 : Int32) (v_shorter_50 : (Nat → Int32)) (v_leads_51 : (Nat → Int32)) (H : Heap) (locs : List Loc), va_P D vwCl [(a_this, .inr (1, [.ref a_this_rows, .ref a_this_shorter, .ref a_this_ends, .ref a_this_leads, .int v_size])), (a_this_shorter, .inl (cI, 65, .inl v_shorter_50)), (a_this_leads, .inl (cI, 260, .inl v_leads_51))] H → va_D A [(a_this, .inr (1, [.ref a_this_rows, .ref a_this_shorter, .ref a_this_ends, .ref a_this_leads, .int v_size])), (a_this_shorter, .inl (cI, 65, .inl v_shorter_50)), (a_this_leads, .inl (cI, 260, .inl v_leads_51))] → va_S A s.heap H locs → ∀ ls : Array Slot, lv_has ls 5 [(0, .ref a_this), (1, .int x1_49)] → L_X1_fallBack_11 F v_size n x1_49 v_shorter_50 v_leads_51 = some (w_shorter, w_leads) → W p l e rm_X1_fallBack s m (([.ref a_this] : List Value).toArray) below meth c H locs 0 0 Q (F0 m 11 ls []) := by
    intro n
    induction n with
    | zero => intro x1_49 v_shorter_50 v_leads_51 H locs hP hD hS ls hl hden; exact no_none hden
    | succ n ih =>
      intro x1_49 v_shorter_50 v_leads_51 H locs hP hD hS ls hl hden
      rw [L_X1_fallBack_11] at hden
      refine lv_iload_n hx hb dX1_fallBack_11 rfl (lv_at hl 1 rfl) ?_
      refine lv_aload_n hx hb dX1_fallBack_12 rfl (lv_at hl 0 rfl) ?_
      refine va_get (D := D) (ci := 1) (v := .int v_size) (C := RX1) (T := TX1) (N := 5) hx hb hts hin_X1 hown hK hP 0 rfl rfl 4 (by decide) w_28 (fun _ h9 => h9) rfl dX1_fallBack_13 ?_
      refine lv_icmp_ge (tgt := 99) hx hb dX1_fallBack_16 (by decide) (fun c_76 => ?_) (fun c_76 => ?_)
      · have hden := if_s hden c_76
        subst hQe
        cases hden
        exact m_rv hx hb hr hP hD hS [0, 1, 2] (by decide) rfl dX1_fallBack_99 hlocks
      · have hden := ifn_s hden c_76
        refine lv_iconst (v := 0) hx hb dX1_fallBack_19 (by decide) ?_
        refine lv_istore_n (lv' := [(2, .int 0), (0, .ref a_this), (1, .int x1_49)]) hx hb dX1_fallBack_20 rfl hl (by decide) rfl (fun ls hl => ?_)
        have hL21__58 : ∀ (k93 : (Nat → Int32) → (Nat → Int32) → Option ((Nat → Int32) × (Nat → Int32))), (∀ (v_shorter_56 : (Nat → Int32)) (v_leads_57 : (Nat → Int32)) (H : Heap) (locs : List Loc), va_P D vwCl [(a_this, .inr (1, [.ref a_this_rows, .ref a_this_shorter, .ref a_this_ends, .ref a_this_leads, .int v_size])), (a_this_shorter, .inl (cI, 65, .inl v_shorter_56)), (a_this_leads, .inl (cI, 260, .inl v_leads_57))] H → va_D A [(a_this, .inr (1, [.ref a_this_rows, .ref a_this_shorter, .ref a_this_ends, .ref a_this_leads, .int v_size])), (a_this_shorter, .inl (cI, 65, .inl v_shorter_56)), (a_this_leads, .inl (cI, 260, .inl v_leads_57))] → va_S A s.heap H locs → ∀ ls : Array Slot, lv_has ls 5 [(0, .ref a_this), (1, .int x1_49)] → k93 v_shorter_56 v_leads_57 = some (w_shorter, w_leads) → W p l e rm_X1_fallBack s m (([.ref a_this] : List Value).toArray) below meth c H locs 0 0 Q (F0 m 93 ls [])) → ∀ (n : Nat) (x2_53 : Int32) (v_shorter_54 : (Nat → Int32)) (v_leads_55 : (Nat → Int32)) (H : Heap) (locs : List Loc), va_P D vwCl [(a_this, .inr (1, [.ref a_this_rows, .ref a_this_shorter, .ref a_this_ends, .ref a_this_leads, .int v_size])), (a_this_shorter, .inl (cI, 65, .inl v_shorter_54)), (a_this_leads, .inl (cI, 260, .inl v_leads_55))] H → va_D A [(a_this, .inr (1, [.ref a_this_rows, .ref a_this_shorter, .ref a_this_ends, .ref a_this_leads, .int v_size])), (a_this_shorter, .inl (cI, 65, .inl v_shorter_54)), (a_this_leads, .inl (cI, 260, .inl v_leads_55))] → va_S A s.heap H locs → ∀ ls : Array Slot, lv_has ls 5 [(0, .ref a_this), (1, .int x1_49), (2, .int x2_53)] → L_X1_fallBack_21 F k93 x1_49 n x2_53 v_shorter_54 v_leads_55 = some (w_shorter, w_leads) → W p l e rm_X1_fallBack s m (([.ref a_this] : List Value).toArray) below meth c H locs 0 0 Q (F0 m 21 ls []) := by
          intro k93 hk93 n
          induction n with
          | zero => intro x2_53 v_shorter_54 v_leads_55 H locs hP hD hS ls hl hden; exact no_none hden
          | succ n ih =>
            intro x2_53 v_shorter_54 v_leads_55 H locs hP hD hS ls hl hden
            rw [L_X1_fallBack_21] at hden
            refine lv_iload_n hx hb dX1_fallBack_21 rfl (lv_at hl 2 rfl) ?_
            refine lv_iconst (v := 4) hx hb dX1_fallBack_22 (by decide) ?_
            refine lv_icmp_ge (tgt := 93) hx hb dX1_fallBack_23 (by decide) (fun c_74 => ?_) (fun c_74 => ?_)
            · have hden := if_s hden c_74
              exact hk93 v_shorter_54 v_leads_55 _ _ (mSubP hP [0, 1, 2] rfl) (hD.sub [0, 1, 2] (by decide) rfl) hS ls (lv_sub hl [0, 1] rfl) hden
            · have hden := ifn_s hden c_74
              refine lv_aload_n hx hb dX1_fallBack_26 rfl (lv_at hl 0 rfl) ?_
              refine lv_iload_n hx hb dX1_fallBack_27 rfl (lv_at hl 1 rfl) ?_
              refine lv_iload_n hx hb dX1_fallBack_28 rfl (lv_at hl 2 rfl) ?_
              obtain ⟨r_59, hc_60, hden⟩ := bnd_s hden
              refine m_ci (wc := [(a_this, .inr (1, [.ref a_this_rows, .ref a_this_shorter, .ref a_this_ends, .ref a_this_leads, .int v_size])), (a_this_leads, .inl (cI, 260, .inl v_leads_55))]) (wr := [(a_this_shorter, .inl (cI, 65, .inl v_shorter_54))]) (wc' := [(a_this, .inr (1, [.ref a_this_rows, .ref a_this_shorter, .ref a_this_ends, .ref a_this_leads, .int v_size])), (a_this_leads, .inl (cI, 260, .inl v_leads_55))]) (va_runV (As := [.int x1_49, .int x2_53]) (rest := []) ⟨hx, hb, hml, hown, hts⟩ (c_X1_leadsTo l D cI cM cL F hc_60) (cwV 2 hts gX1_fallBack_X1_leadsTo rfl rfl rfl (by decide +kernel) ⟨Nat.le_of_ble_eq_true rfl, Nat.le_of_ble_eq_true rfl⟩) (mPreV (ci := 1) (q0 := 0) (r := (RX1, TX1, 5)) hP hD hK hN [0, 2] (by decide) rfl rfl rfl) rfl rfl hl.1 rfl (lv_room (Nat.le_of_ble_eq_true rfl)) dX1_fallBack_29 ⟨Nat.le_of_ble_eq_true rfl, Nat.le_of_ble_eq_true rfl⟩) hP hD hS hA [0, 2] [1] rfl rfl (by decide) (by decide) (fun H locs hP hD hS => ?_)
              have hP : va_P D vwCl [(a_this_shorter, .inl (cI, 65, .inl v_shorter_54)), (a_this, .inr (1, [.ref a_this_rows, .ref a_this_shorter, .ref a_this_ends, .ref a_this_leads, .int v_size])), (a_this_leads, .inl (cI, 260, .inl v_leads_55))] H := hP
              have hD : va_D A [(a_this_shorter, .inl (cI, 65, .inl v_shorter_54)), (a_this, .inr (1, [.ref a_this_rows, .ref a_this_shorter, .ref a_this_ends, .ref a_this_leads, .int v_size])), (a_this_leads, .inl (cI, 260, .inl v_leads_55))] := hD
              refine lv_istore_n (lv' := [(3, .int r_59), (0, .ref a_this), (1, .int x1_49), (2, .int x2_53)]) hx hb dX1_fallBack_32 rfl hl (by decide) rfl (fun ls hl => ?_)
              refine lv_iload_n hx hb dX1_fallBack_33 rfl (lv_at hl 2 rfl) ?_
              obtain ⟨j54, ej54, hden⟩ := jp_s hden
              have hj54 : ∀ (t_61 : Int32) (H : Heap) (locs : List Loc), va_P D vwCl [(a_this, .inr (1, [.ref a_this_rows, .ref a_this_shorter, .ref a_this_ends, .ref a_this_leads, .int v_size])), (a_this_shorter, .inl (cI, 65, .inl v_shorter_54)), (a_this_leads, .inl (cI, 260, .inl v_leads_55))] H → va_D A [(a_this, .inr (1, [.ref a_this_rows, .ref a_this_shorter, .ref a_this_ends, .ref a_this_leads, .int v_size])), (a_this_shorter, .inl (cI, 65, .inl v_shorter_54)), (a_this_leads, .inl (cI, 260, .inl v_leads_55))] → va_S A s.heap H locs → ∀ ls : Array Slot, lv_has ls 5 [(0, .ref a_this), (1, .int x1_49), (2, .int x2_53), (3, .int r_59)] → j54 t_61 = some (w_shorter, w_leads) → W p l e rm_X1_fallBack s m (([.ref a_this] : List Value).toArray) below meth c H locs 0 0 Q (F0 m 54 ls [.int t_61]) := by
                intro t_61 H locs hP hD hS ls hl hden
                rw [ej54] at hden
                refine lv_istore (lv' := [(4, .int t_61), (0, .ref a_this), (1, .int x1_49), (2, .int x2_53), (3, .int r_59)]) hx hb dX1_fallBack_54 hl (by decide) rfl (fun ls hl => ?_)
                refine lv_iload_n hx hb dX1_fallBack_56 rfl (lv_at hl 4 rfl) ?_
                refine lv_if_eq (tgt := 73) hx hb dX1_fallBack_57 (by decide) (fun c_68 => ?_) (fun c_68 => ?_)
                · have hden := if_s hden c_68
                  refine lv_aload_n hx hb dX1_fallBack_73 rfl (lv_at hl 1 rfl) ?_
                  refine va_get (D := D) (ci := 1) (v := .ref a_this_leads) (C := RX1) (T := TX1) (N := 5) hx hb hts hin_X1 hown hK hP 0 rfl rfl 3 (by decide) w_21 (fun _ h9 => h9) rfl dX1_fallBack_74 ?_
                  refine lv_iload_n hx hb dX1_fallBack_77 rfl (lv_at hl 2 rfl) ?_
                  refine lv_iconst (v := 4) hx hb dX1_fallBack_78 (by decide) ?_
                  refine lv_imul hx hb dX1_fallBack_79 ?_
                  refine lv_iload_n hx hb dX1_fallBack_80 rfl (lv_at hl 3 rfl) ?_
                  refine lv_iadd hx hb dX1_fallBack_81 ?_
                  refine lv_iload hx hb dX1_fallBack_82 (lv_at hl 0 rfl) ?_
                  obtain ⟨v_leads_62, hc_63, hden⟩ := bnd_s hden
                  refine m_cv (wc := [(a_this_leads, .inl (cI, 260, .inl v_leads_55))]) (wr := [(a_this, .inr (1, [.ref a_this_rows, .ref a_this_shorter, .ref a_this_ends, .ref a_this_leads, .int v_size])), (a_this_shorter, .inl (cI, 65, .inl v_shorter_54))]) (wc' := [(a_this_leads, .inl (cI, 260, .inl v_leads_62))]) (va_runSN (As := [.ref a_this_leads, .int ((x1_49 * 4) + x2_53), .int t_61]) (rest := []) ⟨hx, hb, hml, hown, hts⟩ (c_X5_put l D cI cM cL F hc_63) ⟨va_cnB 3 hts gX1_fallBack_X5_put_n24 rfl rfl rfl hN.2.2.2.1 w_iX5 (by decide +kernel) ⟨Nat.le_of_ble_eq_true rfl, Nat.le_of_ble_eq_true rfl⟩, w_sX5_put, trivial⟩ (mPreS hP hD hK hN [2] (by decide) rfl) rfl rfl hl.1 rfl (lv_room (Nat.le_of_ble_eq_true rfl)) dX1_fallBack_84 ⟨Nat.le_of_ble_eq_true rfl, Nat.le_of_ble_eq_true rfl⟩) hP hD hS hA [2] [0, 1] rfl rfl (by decide) (by decide) (fun H locs hP hD hS => ?_)
                  have hP : va_P D vwCl [(a_this, .inr (1, [.ref a_this_rows, .ref a_this_shorter, .ref a_this_ends, .ref a_this_leads, .int v_size])), (a_this_shorter, .inl (cI, 65, .inl v_shorter_54)), (a_this_leads, .inl (cI, 260, .inl v_leads_62))] H := hP
                  have hD : va_D A [(a_this, .inr (1, [.ref a_this_rows, .ref a_this_shorter, .ref a_this_ends, .ref a_this_leads, .int v_size])), (a_this_shorter, .inl (cI, 65, .inl v_shorter_54)), (a_this_leads, .inl (cI, 260, .inl v_leads_62))] := hD
                  obtain ⟨x2_64, ex2_64, hden⟩ := nm_x hden
                  refine lv_iinc (v := x2_64) (lv' := [(2, .int x2_64), (4, .int t_61), (0, .ref a_this), (1, .int x1_49), (3, .int r_59)]) hx hb dX1_fallBack_87 hl (k := 3) rfl (by rw [ex2_64]; rfl) (by decide) rfl (fun ls hl => ?_)
                  refine lv_goto (tgt := 21) hx hb dX1_fallBack_90 (by decide) ?_
                  exact ih x2_64 v_shorter_54 v_leads_62 _ _ (mSubP hP [0, 1, 2] rfl) (hD.sub [0, 1, 2] (by decide) rfl) hS ls (lv_sub hl [2, 3, 0] rfl) hden
                · have hden := ifn_s hden c_68
                  refine lv_aload_n hx hb dX1_fallBack_60 rfl (lv_at hl 1 rfl) ?_
                  refine va_get (D := D) (ci := 1) (v := .ref a_this_shorter) (C := RX1) (T := TX1) (N := 5) hx hb hts hin_X1 hown hK hP 0 rfl rfl 1 (by decide) w_15 (fun _ h9 => h9) rfl dX1_fallBack_61 ?_
                  refine lv_iload_n hx hb dX1_fallBack_64 rfl (lv_at hl 4 rfl) ?_
                  refine lv_iload hx hb dX1_fallBack_65 (lv_at hl 0 rfl) ?_
                  obtain ⟨v_shorter_65, hc_66, hden⟩ := bnd_s hden
                  refine m_cv (wc := [(a_this_shorter, .inl (cI, 65, .inl v_shorter_54))]) (wr := [(a_this, .inr (1, [.ref a_this_rows, .ref a_this_shorter, .ref a_this_ends, .ref a_this_leads, .int v_size])), (a_this_leads, .inl (cI, 260, .inl v_leads_55))]) (wc' := [(a_this_shorter, .inl (cI, 65, .inl v_shorter_65))]) (va_runSN (As := [.ref a_this_shorter, .int r_59, .int t_61]) (rest := []) ⟨hx, hb, hml, hown, hts⟩ (c_X5_put l D cI cM cL F hc_66) ⟨va_cnB 3 hts gX1_fallBack_X5_put_n24 rfl rfl rfl hN.2.2.2.1 w_iX5 (by decide +kernel) ⟨Nat.le_of_ble_eq_true rfl, Nat.le_of_ble_eq_true rfl⟩, w_sX5_put, trivial⟩ (mPreS hP hD hK hN [1] (by decide) rfl) rfl rfl hl.1 rfl (lv_room (Nat.le_of_ble_eq_true rfl)) dX1_fallBack_67 ⟨Nat.le_of_ble_eq_true rfl, Nat.le_of_ble_eq_true rfl⟩) hP hD hS hA [1] [0, 2] rfl rfl (by decide) (by decide) (fun H locs hP hD hS => ?_)
                  have hP : va_P D vwCl [(a_this, .inr (1, [.ref a_this_rows, .ref a_this_shorter, .ref a_this_ends, .ref a_this_leads, .int v_size])), (a_this_leads, .inl (cI, 260, .inl v_leads_55)), (a_this_shorter, .inl (cI, 65, .inl v_shorter_65))] H := hP
                  have hD : va_D A [(a_this, .inr (1, [.ref a_this_rows, .ref a_this_shorter, .ref a_this_ends, .ref a_this_leads, .int v_size])), (a_this_leads, .inl (cI, 260, .inl v_leads_55)), (a_this_shorter, .inl (cI, 65, .inl v_shorter_65))] := hD
                  refine lv_goto (tgt := 87) hx hb dX1_fallBack_70 (by decide) ?_
                  obtain ⟨x2_67, ex2_67, hden⟩ := nm_x hden
                  refine lv_iinc (v := x2_67) (lv' := [(2, .int x2_67), (4, .int t_61), (0, .ref a_this), (1, .int x1_49), (3, .int r_59)]) hx hb dX1_fallBack_87 hl (k := 3) rfl (by rw [ex2_67]; rfl) (by decide) rfl (fun ls hl => ?_)
                  refine lv_goto (tgt := 21) hx hb dX1_fallBack_90 (by decide) ?_
                  exact ih x2_67 v_shorter_65 v_leads_55 _ _ (mSubP hP [0, 2, 1] rfl) (hD.sub [0, 2, 1] (by decide) rfl) hS ls (lv_sub hl [2, 3, 0] rfl) hden
              clear ej54
              refine lv_if_ne (tgt := 41) hx hb dX1_fallBack_34 (by decide) (fun c_73 => ?_) (fun c_73 => ?_)
              · have hden := ifn_s hden c_73
                refine lv_aload_n hx hb dX1_fallBack_41 rfl (lv_at hl 1 rfl) ?_
                refine lv_aload_n hx hb dX1_fallBack_42 rfl (lv_at hl 1 rfl) ?_
                refine va_get (D := D) (ci := 1) (v := .ref a_this_shorter) (C := RX1) (T := TX1) (N := 5) hx hb hts hin_X1 hown hK hP 1 rfl rfl 1 (by decide) w_15 (fun _ h9 => h9) rfl dX1_fallBack_43 ?_
                refine lv_iload_n hx hb dX1_fallBack_46 rfl (lv_at hl 2 rfl) ?_
                obtain ⟨r_69, hc_70, hden⟩ := bnd_s hden
                refine m_ci (wc := [(a_this_shorter, .inl (cI, 65, .inl v_shorter_54))]) (wr := [(a_this, .inr (1, [.ref a_this_rows, .ref a_this_shorter, .ref a_this_ends, .ref a_this_leads, .int v_size])), (a_this_leads, .inl (cI, 260, .inl v_leads_55))]) (wc' := [(a_this_shorter, .inl (cI, 65, .inl v_shorter_54))]) (va_runSN (As := [.ref a_this_shorter, .int x1_49]) (rest := [.ref a_this]) ⟨hx, hb, hml, hown, hts⟩ (c_X5_at l D cI cM cL F hc_70) ⟨va_cnB 2 hts gX1_fallBack_X5_at_n36 rfl rfl rfl hN.2.2.1 w_iX5 (by decide +kernel) ⟨Nat.le_of_ble_eq_true rfl, Nat.le_of_ble_eq_true rfl⟩, w_sX5_at, trivial⟩ (mPreS hP hD hK hN [0] (by decide) rfl) rfl rfl hl.1 rfl (lv_room (Nat.le_of_ble_eq_true rfl)) dX1_fallBack_47 ⟨Nat.le_of_ble_eq_true rfl, Nat.le_of_ble_eq_true rfl⟩) hP hD hS hA [0] [1, 2] rfl rfl (by decide) (by decide) (fun H locs hP hD hS => ?_)
                have hP : va_P D vwCl [(a_this, .inr (1, [.ref a_this_rows, .ref a_this_shorter, .ref a_this_ends, .ref a_this_leads, .int v_size])), (a_this_leads, .inl (cI, 260, .inl v_leads_55)), (a_this_shorter, .inl (cI, 65, .inl v_shorter_54))] H := hP
                have hD : va_D A [(a_this, .inr (1, [.ref a_this_rows, .ref a_this_shorter, .ref a_this_ends, .ref a_this_leads, .int v_size])), (a_this_leads, .inl (cI, 260, .inl v_leads_55)), (a_this_shorter, .inl (cI, 65, .inl v_shorter_54))] := hD
                refine lv_iload_n hx hb dX1_fallBack_50 rfl (lv_at hl 3 rfl) ?_
                obtain ⟨r_71, hc_72, hden⟩ := bnd_s hden
                refine m_ci (wc := [(a_this, .inr (1, [.ref a_this_rows, .ref a_this_shorter, .ref a_this_ends, .ref a_this_leads, .int v_size])), (a_this_leads, .inl (cI, 260, .inl v_leads_55))]) (wr := [(a_this_shorter, .inl (cI, 65, .inl v_shorter_54))]) (wc' := [(a_this, .inr (1, [.ref a_this_rows, .ref a_this_shorter, .ref a_this_ends, .ref a_this_leads, .int v_size])), (a_this_leads, .inl (cI, 260, .inl v_leads_55))]) (va_runV (As := [.int r_69, .int x2_53]) (rest := []) ⟨hx, hb, hml, hown, hts⟩ (c_X1_leadsTo l D cI cM cL F hc_72) (cwV 2 hts gX1_fallBack_X1_leadsTo rfl rfl rfl (by decide +kernel) ⟨Nat.le_of_ble_eq_true rfl, Nat.le_of_ble_eq_true rfl⟩) (mPreV (ci := 1) (q0 := 0) (r := (RX1, TX1, 5)) hP hD hK hN [0, 1] (by decide) rfl rfl rfl) rfl rfl hl.1 rfl (lv_room (Nat.le_of_ble_eq_true rfl)) dX1_fallBack_51 ⟨Nat.le_of_ble_eq_true rfl, Nat.le_of_ble_eq_true rfl⟩) hP hD hS hA [0, 1] [2] rfl rfl (by decide) (by decide) (fun H locs hP hD hS => ?_)
                have hP : va_P D vwCl [(a_this_shorter, .inl (cI, 65, .inl v_shorter_54)), (a_this, .inr (1, [.ref a_this_rows, .ref a_this_shorter, .ref a_this_ends, .ref a_this_leads, .int v_size])), (a_this_leads, .inl (cI, 260, .inl v_leads_55))] H := hP
                have hD : va_D A [(a_this_shorter, .inl (cI, 65, .inl v_shorter_54)), (a_this, .inr (1, [.ref a_this_rows, .ref a_this_shorter, .ref a_this_ends, .ref a_this_leads, .int v_size])), (a_this_leads, .inl (cI, 260, .inl v_leads_55))] := hD
                exact hj54 r_71 _ _ (mSubP hP [1, 0, 2] rfl) (hD.sub [1, 0, 2] (by decide) rfl) hS ls (lv_sub hl [1, 2, 3, 0] rfl) hden
              · have hden := if_s hden c_73
                refine lv_iconst (v := 0) hx hb dX1_fallBack_37 (by decide) ?_
                refine lv_goto (tgt := 54) hx hb dX1_fallBack_38 (by decide) ?_
                exact hj54 0 _ _ (mSubP hP [1, 0, 2] rfl) (hD.sub [1, 0, 2] (by decide) rfl) hS ls (lv_sub hl [1, 2, 3, 0] rfl) hden
        refine hL21__58 _ (fun v_shorter_56 v_leads_57 H locs hP hD hS ls hl hden => ?_) F 0 v_shorter_50 v_leads_51 _ _ (mSubP hP [0, 1, 2] rfl) (hD.sub [0, 1, 2] (by decide) rfl) hS ls (lv_sub hl [1, 2, 0] rfl) hden
        obtain ⟨x1_75, ex1_75, hden⟩ := nm_x hden
        refine lv_iinc (v := x1_75) (lv' := [(1, .int x1_75), (0, .ref a_this)]) hx hb dX1_fallBack_93 hl (k := 1) rfl (by rw [ex1_75]; rfl) (by decide) rfl (fun ls hl => ?_)
        refine lv_goto (tgt := 11) hx hb dX1_fallBack_96 (by decide) ?_
        exact ih x1_75 v_shorter_56 v_leads_57 _ _ (mSubP hP [0, 1, 2] rfl) (hD.sub [0, 1, 2] (by decide) rfl) hS ls (lv_sub hl [1, 0] rfl) hden
  exact hL11__52 F 0 v_shorter_1 v_leads _ _ (mSubP hP [0, 2, 1] rfl) (hD.sub [0, 2, 1] (by decide) rfl) hS ls (lv_sub hl [1, 0] rfl) hden
def L_X1_endsOf_27 (F : Nat) (y1 : Int32) (v_p2 : (Nat → Int32)) (v_rows : (Nat → Int32)) : Nat → Int32 → Int32 → Option (Int32)
  | 0, _, _ => none
  | n + 1, x3_2, x4_3 => (if 8 ≤ x4_3 then some (x3_2) else bnd (D_X5_at F 8 x4_3 v_p2) (fun r_4 => bnd (D_X5_at F 65 y1 v_rows) (fun r_6 => (if r_4 = r_6 then nm (x3_2 ||| ((1 : Int32) <<< (x4_3 &&& 31))) (fun x3_9 => nm (x4_3 + 1) (fun x4_10 => L_X1_endsOf_27 F y1 v_p2 v_rows n x3_9 x4_10)) else nm (x4_3 + 1) (fun x4_8 => L_X1_endsOf_27 F y1 v_p2 v_rows n x3_2 x4_8)))))
def D_X1_endsOf (F : Nat) (p1 : Int32) (v_shorter : (Nat → Int32)) (v_ends : (Nat → Int32)) (v_p2 : (Nat → Int32)) (v_rows : (Nat → Int32)) : Option (Int32) := jp (fun (t_1 : Int32) => L_X1_endsOf_27 F p1 v_p2 v_rows F t_1 0) (fun j23 => (if p1 = 0 then j23 0 else bnd (D_X5_at F 65 p1 v_shorter) (fun r_25 => bnd (D_X5_at F 65 r_25 v_ends) (fun r_27 => j23 r_27))))
def rm_X1_endsOf : Room := { frames := 1, cells := 0, slots := 0, locals := 21 }
set_option maxHeartbeats 4000000 in
set_option maxRecDepth 100000 in
theorem c_X1_endsOf (l : Launch) (D : va_G) (cI cM cL : ClassId) (F : Nat) {a_this a_this_rows a_this_shorter a_this_ends a_this_leads a_p2 : Nat} {sz : Nat} {v_size : Int32} {v_shorter v_ends v_p2 v_rows : Nat → Int32} {p1 : Int32} {r0 : Int32} (hden : D_X1_endsOf F p1 v_shorter v_ends v_p2 v_rows = some (r0)) : Met l yX1_endsOf wsX1_endsOf rm_X1_endsOf (va_Pc [.ref a_this, .int p1, .ref a_p2] (mB D (mTy cI cM cL) sz [(a_this, .inr (1, [.ref a_this_rows, .ref a_this_shorter, .ref a_this_ends, .ref a_this_leads, .int v_size])), (a_this_shorter, .inl (cI, 65, .inl v_shorter)), (a_this_ends, .inl (cI, 65, .inl v_ends)), (a_p2, .inl (cI, 8, .inl v_p2)), (a_this_rows, .inl (cI, 65, .inl v_rows))])) (mQi D (va_A [(a_this, .inr (1, [.ref a_this_rows, .ref a_this_shorter, .ref a_this_ends, .ref a_this_leads, .int v_size])), (a_this_shorter, .inl (cI, 65, .inl v_shorter)), (a_this_ends, .inl (cI, 65, .inl v_ends)), (a_p2, .inl (cI, 8, .inl v_p2)), (a_this_rows, .inl (cI, 65, .inl v_rows))] sz) [(a_this, .inr (1, [.ref a_this_rows, .ref a_this_shorter, .ref a_this_ends, .ref a_this_leads, .int v_size])), (a_this_shorter, .inl (cI, 65, .inl v_shorter)), (a_this_ends, .inl (cI, 65, .inl v_ends)), (a_p2, .inl (cI, 8, .inl v_p2)), (a_this_rows, .inl (cI, 65, .inl v_rows))] r0) 0 0 (va_A [(a_this, .inr (1, [.ref a_this_rows, .ref a_this_shorter, .ref a_this_ends, .ref a_this_leads, .int v_size])), (a_this_shorter, .inl (cI, 65, .inl v_shorter)), (a_this_ends, .inl (cI, 65, .inl v_ends)), (a_p2, .inl (cI, 8, .inl v_p2)), (a_this_rows, .inl (cI, 65, .inl v_rows))] sz) := by
  refine Met.ofW (cc := cX1_endsOf) (maxL := 5) (ret := (some .int)) (by decide) rfl ?_
  intro p e s m args below meth c s₁ B hml hv
  obtain ⟨rfl, hsz, hP, hK, hN, hD0⟩ := hv
  have hx := B.exec
  have hb := B.bytes
  have hr := B.returns
  have hts := atoms_spec (ws := wsX1_endsOf) B.pre
  have hown : s.vm.findClass RX1 = some m.cls := findClass_of_methodNamed B.named
  have hlocks := B.notSynchronized
  subst hsz
  have hD := hD0.self (sz := s.heap.size)
  generalize hAe : va_A [(a_this, .inr (1, [.ref a_this_rows, .ref a_this_shorter, .ref a_this_ends, .ref a_this_leads, .int v_size])), (a_this_shorter, .inl (cI, 65, .inl v_shorter)), (a_this_ends, .inl (cI, 65, .inl v_ends)), (a_p2, .inl (cI, 8, .inl v_p2)), (a_this_rows, .inl (cI, 65, .inl v_rows))] s.heap.size = A at hD ⊢
  have hA : ∀ q : Nat, s.heap.size ≤ q → A q := fun q h => by rw [← hAe]; exact Or.inr h
  have hS : va_S A s.heap s.heap [] := va_S.rf
  have hl := lv_entry ([.ref a_this, .int p1, .ref a_p2]) (n := 5) (Nat.le_of_ble_eq_true rfl)
  rw [lg_entry_eq]
  generalize (lg_sl ([.ref a_this, .int p1, .ref a_p2]) ++ List.replicate (5 - (lg_sl ([.ref a_this, .int p1, .ref a_p2])).length) Slot.unset).toArray = ls at hl ⊢
  have hl : lv_has ls 5 [(0, .ref a_this), (1, .int p1), (2, .ref a_p2)] := hl
  change W p l e rm_X1_endsOf s m (([.ref a_this, .int p1, .ref a_p2] : List Value).toArray) below meth c s.heap [] 0 0 _ (F0 m 0 ls [])
  generalize hQe : MQ below (mQi D A [(a_this, .inr (1, [.ref a_this_rows, .ref a_this_shorter, .ref a_this_ends, .ref a_this_leads, .int v_size])), (a_this_shorter, .inl (cI, 65, .inl v_shorter)), (a_this_ends, .inl (cI, 65, .inl v_ends)), (a_p2, .inl (cI, 8, .inl v_p2)), (a_this_rows, .inl (cI, 65, .inl v_rows))] r0) (([.ref a_this, .int p1, .ref a_p2] : List Value).toArray) s 0 0 A = Q
  rw [D_X1_endsOf] at hden
  have hin_X1 : ∀ w ∈ wsX10, w ∈ wsX1_endsOf := by decide +kernel
  have w_iX5 := hts (.initialized RX5) (by decide +kernel)
  have w_sX5_at := hts (.static yX5_at) (by decide +kernel)
  have w_9 := hts (.fieldLink RX1 9 "FallingPatterns$Machine" "rows" "[I") (by decide +kernel)
  have w_18 := hts (.fieldLink RX1 18 "FallingPatterns$Machine" "ends" "[I") (by decide +kernel)
  have w_15 := hts (.fieldLink RX1 15 "FallingPatterns$Machine" "shorter" "[I") (by decide +kernel)
  refine lv_iload_n hx hb dX1_endsOf_0 rfl (lv_at hl 1 rfl) ?_
  obtain ⟨j23, ej23, hden⟩ := jp_s hden
  have hj23 : ∀ (t_1 : Int32) (H : Heap) (locs : List Loc), va_P D vwCl [(a_this, .inr (1, [.ref a_this_rows, .ref a_this_shorter, .ref a_this_ends, .ref a_this_leads, .int v_size])), (a_this_shorter, .inl (cI, 65, .inl v_shorter)), (a_this_ends, .inl (cI, 65, .inl v_ends)), (a_p2, .inl (cI, 8, .inl v_p2)), (a_this_rows, .inl (cI, 65, .inl v_rows))] H → va_D A [(a_this, .inr (1, [.ref a_this_rows, .ref a_this_shorter, .ref a_this_ends, .ref a_this_leads, .int v_size])), (a_this_shorter, .inl (cI, 65, .inl v_shorter)), (a_this_ends, .inl (cI, 65, .inl v_ends)), (a_p2, .inl (cI, 8, .inl v_p2)), (a_this_rows, .inl (cI, 65, .inl v_rows))] → va_S A s.heap H locs → ∀ ls : Array Slot, lv_has ls 5 [(0, .ref a_this), (1, .int p1), (2, .ref a_p2)] → j23 t_1 = some (r0) → W p l e rm_X1_endsOf s m (([.ref a_this, .int p1, .ref a_p2] : List Value).toArray) below meth c H locs 0 0 Q (F0 m 23 ls [.int t_1]) := by
    intro t_1 H locs hP hD hS ls hl hden
    rw [ej23] at hden
    refine lv_istore_n (lv' := [(3, .int t_1), (0, .ref a_this), (1, .int p1), (2, .ref a_p2)]) hx hb dX1_endsOf_23 rfl hl (by decide) rfl (fun ls hl => ?_)
    refine lv_iconst (v := 0) hx hb dX1_endsOf_24 (by decide) ?_
    refine lv_istore (lv' := [(4, .int 0), (3, .int t_1), (0, .ref a_this), (1, .int p1), (2, .ref a_p2)]) hx hb dX1_endsOf_25 hl (by decide) rfl (fun ls hl => ?_)
    have hL27__15 : ∀ (n : Nat) (x3_13 : Int32) (x4_14 : Int32) (H : Heap) (locs : List Loc), va_P D vwCl [(a_this, .inr (1, [.ref a_this_rows, .ref a_this_shorter, .ref a_this_ends, .ref a_this_leads, .int v_size])), (a_this_shorter, .inl (cI, 65, .inl v_shorter)), (a_this_ends, .inl (cI, 65, .inl v_ends)), (a_p2, .inl (cI, 8, .inl v_p2)), (a_this_rows, .inl (cI, 65, .inl v_rows))] H → va_D A [(a_this, .inr (1, [.ref a_this_rows, .ref a_this_shorter, .ref a_this_ends, .ref a_this_leads, .int v_size])), (a_this_shorter, .inl (cI, 65, .inl v_shorter)), (a_this_ends, .inl (cI, 65, .inl v_ends)), (a_p2, .inl (cI, 8, .inl v_p2)), (a_this_rows, .inl (cI, 65, .inl v_rows))] → va_S A s.heap H locs → ∀ ls : Array Slot, lv_has ls 5 [(0, .ref a_this), (1, .int p1), (2, .ref a_p2), (3, .int x3_13), (4, .int x4_14)] → L_X1_endsOf_27 F p1 v_p2 v_rows n x3_13 x4_14 = some (r0) → W p l e rm_X1_endsOf s m (([.ref a_this, .int p1, .ref a_p2] : List Value).toArray) below meth c H locs 0 0 Q (F0 m 27 ls []) := by
      intro n
      induction n with
      | zero => intro x3_13 x4_14 H locs hP hD hS ls hl hden; exact no_none hden
      | succ n ih =>
        intro x3_13 x4_14 H locs hP hD hS ls hl hden
        rw [L_X1_endsOf_27] at hden
        refine lv_iload hx hb dX1_endsOf_27 (lv_at hl 4 rfl) ?_
        refine lv_bipush (v := 8) hx hb dX1_endsOf_29 (by decide) ?_
        refine lv_icmp_ge (tgt := 64) hx hb dX1_endsOf_31 (by decide) (fun c_24 => ?_) (fun c_24 => ?_)
        · have hden := if_s hden c_24
          refine lv_iload_n hx hb dX1_endsOf_64 rfl (lv_at hl 3 rfl) ?_
          subst hQe
          cases hden
          exact m_ri hx hb hr hP hD hS [0, 1, 2, 3, 4] (by decide) rfl rfl dX1_endsOf_65 hlocks
        · have hden := ifn_s hden c_24
          refine lv_aload_n hx hb dX1_endsOf_34 rfl (lv_at hl 2 rfl) ?_
          refine lv_iload hx hb dX1_endsOf_35 (lv_at hl 4 rfl) ?_
          obtain ⟨r_16, hc_17, hden⟩ := bnd_s hden
          refine m_ci (wc := [(a_p2, .inl (cI, 8, .inl v_p2))]) (wr := [(a_this, .inr (1, [.ref a_this_rows, .ref a_this_shorter, .ref a_this_ends, .ref a_this_leads, .int v_size])), (a_this_shorter, .inl (cI, 65, .inl v_shorter)), (a_this_ends, .inl (cI, 65, .inl v_ends)), (a_this_rows, .inl (cI, 65, .inl v_rows))]) (wc' := [(a_p2, .inl (cI, 8, .inl v_p2))]) (va_runSN (As := [.ref a_p2, .int x4_14]) (rest := []) ⟨hx, hb, hml, hown, hts⟩ (c_X5_at l D cI cM cL F hc_17) ⟨va_cnB 2 hts gX1_endsOf_X5_at_n36 rfl rfl rfl hN.2.2.1 w_iX5 (by decide +kernel) ⟨Nat.le_of_ble_eq_true rfl, Nat.le_of_ble_eq_true rfl⟩, w_sX5_at, trivial⟩ (mPreS hP hD hK hN [3] (by decide) rfl) rfl rfl hl.1 rfl (lv_room (Nat.le_of_ble_eq_true rfl)) dX1_endsOf_37 ⟨Nat.le_of_ble_eq_true rfl, Nat.le_of_ble_eq_true rfl⟩) hP hD hS hA [3] [0, 1, 2, 4] rfl rfl (by decide) (by decide) (fun H locs hP hD hS => ?_)
          have hP : va_P D vwCl [(a_this, .inr (1, [.ref a_this_rows, .ref a_this_shorter, .ref a_this_ends, .ref a_this_leads, .int v_size])), (a_this_shorter, .inl (cI, 65, .inl v_shorter)), (a_this_ends, .inl (cI, 65, .inl v_ends)), (a_this_rows, .inl (cI, 65, .inl v_rows)), (a_p2, .inl (cI, 8, .inl v_p2))] H := hP
          have hD : va_D A [(a_this, .inr (1, [.ref a_this_rows, .ref a_this_shorter, .ref a_this_ends, .ref a_this_leads, .int v_size])), (a_this_shorter, .inl (cI, 65, .inl v_shorter)), (a_this_ends, .inl (cI, 65, .inl v_ends)), (a_this_rows, .inl (cI, 65, .inl v_rows)), (a_p2, .inl (cI, 8, .inl v_p2))] := hD
          refine lv_aload_n hx hb dX1_endsOf_40 rfl (lv_at hl 0 rfl) ?_
          refine va_get (D := D) (ci := 1) (v := .ref a_this_rows) (C := RX1) (T := TX1) (N := 5) hx hb hts hin_X1 hown hK hP 0 rfl rfl 0 (by decide) w_9 (fun _ h9 => h9) rfl dX1_endsOf_41 ?_
          refine lv_iload_n hx hb dX1_endsOf_44 rfl (lv_at hl 1 rfl) ?_
          obtain ⟨r_18, hc_19, hden⟩ := bnd_s hden
          refine m_ci (wc := [(a_this_rows, .inl (cI, 65, .inl v_rows))]) (wr := [(a_this, .inr (1, [.ref a_this_rows, .ref a_this_shorter, .ref a_this_ends, .ref a_this_leads, .int v_size])), (a_this_shorter, .inl (cI, 65, .inl v_shorter)), (a_this_ends, .inl (cI, 65, .inl v_ends)), (a_p2, .inl (cI, 8, .inl v_p2))]) (wc' := [(a_this_rows, .inl (cI, 65, .inl v_rows))]) (va_runSN (As := [.ref a_this_rows, .int p1]) (rest := [.int r_16]) ⟨hx, hb, hml, hown, hts⟩ (c_X5_at l D cI cM cL F hc_19) ⟨va_cnB 2 hts gX1_endsOf_X5_at_n36 rfl rfl rfl hN.2.2.1 w_iX5 (by decide +kernel) ⟨Nat.le_of_ble_eq_true rfl, Nat.le_of_ble_eq_true rfl⟩, w_sX5_at, trivial⟩ (mPreS hP hD hK hN [3] (by decide) rfl) rfl rfl hl.1 rfl (lv_room (Nat.le_of_ble_eq_true rfl)) dX1_endsOf_45 ⟨Nat.le_of_ble_eq_true rfl, Nat.le_of_ble_eq_true rfl⟩) hP hD hS hA [3] [0, 1, 2, 4] rfl rfl (by decide) (by decide) (fun H locs hP hD hS => ?_)
          have hP : va_P D vwCl [(a_this, .inr (1, [.ref a_this_rows, .ref a_this_shorter, .ref a_this_ends, .ref a_this_leads, .int v_size])), (a_this_shorter, .inl (cI, 65, .inl v_shorter)), (a_this_ends, .inl (cI, 65, .inl v_ends)), (a_p2, .inl (cI, 8, .inl v_p2)), (a_this_rows, .inl (cI, 65, .inl v_rows))] H := hP
          have hD : va_D A [(a_this, .inr (1, [.ref a_this_rows, .ref a_this_shorter, .ref a_this_ends, .ref a_this_leads, .int v_size])), (a_this_shorter, .inl (cI, 65, .inl v_shorter)), (a_this_ends, .inl (cI, 65, .inl v_ends)), (a_p2, .inl (cI, 8, .inl v_p2)), (a_this_rows, .inl (cI, 65, .inl v_rows))] := hD
          refine lv_icmp_ne (tgt := 58) hx hb dX1_endsOf_48 (by decide) (fun c_23 => ?_) (fun c_23 => ?_)
          · have hden := ifn_s hden c_23
            obtain ⟨x4_20, ex4_20, hden⟩ := nm_x hden
            refine lv_iinc (v := x4_20) (lv' := [(4, .int x4_20), (0, .ref a_this), (1, .int p1), (2, .ref a_p2), (3, .int x3_13)]) hx hb dX1_endsOf_58 hl (k := 4) rfl (by rw [ex4_20]; rfl) (by decide) rfl (fun ls hl => ?_)
            refine lv_goto (tgt := 27) hx hb dX1_endsOf_61 (by decide) ?_
            exact ih x3_13 x4_20 _ _ (mSubP hP [0, 1, 2, 3, 4] rfl) (hD.sub [0, 1, 2, 3, 4] (by decide) rfl) hS ls (lv_sub hl [1, 2, 3, 4, 0] rfl) hden
          · have hden := if_s hden c_23
            refine lv_iload_n hx hb dX1_endsOf_51 rfl (lv_at hl 3 rfl) ?_
            refine lv_iconst (v := 1) hx hb dX1_endsOf_52 (by decide) ?_
            refine lv_iload hx hb dX1_endsOf_53 (lv_at hl 4 rfl) ?_
            refine lv_ishl hx hb dX1_endsOf_55 ?_
            refine lv_ior hx hb dX1_endsOf_56 ?_
            refine lv_topi (fun x3_21 ex3_21 => ?_)
            have hden := nm_s hden ex3_21
            refine lv_istore_n (lv' := [(3, .int x3_21), (0, .ref a_this), (1, .int p1), (2, .ref a_p2), (4, .int x4_14)]) hx hb dX1_endsOf_57 rfl hl (by decide) rfl (fun ls hl => ?_)
            obtain ⟨x4_22, ex4_22, hden⟩ := nm_x hden
            refine lv_iinc (v := x4_22) (lv' := [(4, .int x4_22), (3, .int x3_21), (0, .ref a_this), (1, .int p1), (2, .ref a_p2)]) hx hb dX1_endsOf_58 hl (k := 4) rfl (by rw [ex4_22]; rfl) (by decide) rfl (fun ls hl => ?_)
            refine lv_goto (tgt := 27) hx hb dX1_endsOf_61 (by decide) ?_
            exact ih x3_21 x4_22 _ _ (mSubP hP [0, 1, 2, 3, 4] rfl) (hD.sub [0, 1, 2, 3, 4] (by decide) rfl) hS ls (lv_sub hl [2, 3, 4, 1, 0] rfl) hden
    exact hL27__15 F t_1 0 _ _ (mSubP hP [0, 1, 2, 3, 4] rfl) (hD.sub [0, 1, 2, 3, 4] (by decide) rfl) hS ls (lv_sub hl [2, 3, 4, 1, 0] rfl) hden
  clear ej23
  refine lv_if_ne (tgt := 8) hx hb dX1_endsOf_1 (by decide) (fun c_29 => ?_) (fun c_29 => ?_)
  · have hden := ifn_s hden c_29
    refine lv_aload_n hx hb dX1_endsOf_8 rfl (lv_at hl 0 rfl) ?_
    refine va_get (D := D) (ci := 1) (v := .ref a_this_ends) (C := RX1) (T := TX1) (N := 5) hx hb hts hin_X1 hown hK hP 0 rfl rfl 2 (by decide) w_18 (fun _ h9 => h9) rfl dX1_endsOf_9 ?_
    refine lv_aload_n hx hb dX1_endsOf_12 rfl (lv_at hl 0 rfl) ?_
    refine va_get (D := D) (ci := 1) (v := .ref a_this_shorter) (C := RX1) (T := TX1) (N := 5) hx hb hts hin_X1 hown hK hP 0 rfl rfl 1 (by decide) w_15 (fun _ h9 => h9) rfl dX1_endsOf_13 ?_
    refine lv_iload_n hx hb dX1_endsOf_16 rfl (lv_at hl 1 rfl) ?_
    obtain ⟨r_25, hc_26, hden⟩ := bnd_s hden
    refine m_ci (wc := [(a_this_shorter, .inl (cI, 65, .inl v_shorter))]) (wr := [(a_this, .inr (1, [.ref a_this_rows, .ref a_this_shorter, .ref a_this_ends, .ref a_this_leads, .int v_size])), (a_this_ends, .inl (cI, 65, .inl v_ends)), (a_p2, .inl (cI, 8, .inl v_p2)), (a_this_rows, .inl (cI, 65, .inl v_rows))]) (wc' := [(a_this_shorter, .inl (cI, 65, .inl v_shorter))]) (va_runSN (As := [.ref a_this_shorter, .int p1]) (rest := [.ref a_this_ends]) ⟨hx, hb, hml, hown, hts⟩ (c_X5_at l D cI cM cL F hc_26) ⟨va_cnB 2 hts gX1_endsOf_X5_at_n36 rfl rfl rfl hN.2.2.1 w_iX5 (by decide +kernel) ⟨Nat.le_of_ble_eq_true rfl, Nat.le_of_ble_eq_true rfl⟩, w_sX5_at, trivial⟩ (mPreS hP hD hK hN [1] (by decide) rfl) rfl rfl hl.1 rfl (lv_room (Nat.le_of_ble_eq_true rfl)) dX1_endsOf_17 ⟨Nat.le_of_ble_eq_true rfl, Nat.le_of_ble_eq_true rfl⟩) hP hD hS hA [1] [0, 2, 3, 4] rfl rfl (by decide) (by decide) (fun H locs hP hD hS => ?_)
    have hP : va_P D vwCl [(a_this, .inr (1, [.ref a_this_rows, .ref a_this_shorter, .ref a_this_ends, .ref a_this_leads, .int v_size])), (a_this_ends, .inl (cI, 65, .inl v_ends)), (a_p2, .inl (cI, 8, .inl v_p2)), (a_this_rows, .inl (cI, 65, .inl v_rows)), (a_this_shorter, .inl (cI, 65, .inl v_shorter))] H := hP
    have hD : va_D A [(a_this, .inr (1, [.ref a_this_rows, .ref a_this_shorter, .ref a_this_ends, .ref a_this_leads, .int v_size])), (a_this_ends, .inl (cI, 65, .inl v_ends)), (a_p2, .inl (cI, 8, .inl v_p2)), (a_this_rows, .inl (cI, 65, .inl v_rows)), (a_this_shorter, .inl (cI, 65, .inl v_shorter))] := hD
    obtain ⟨r_27, hc_28, hden⟩ := bnd_s hden
    refine m_ci (wc := [(a_this_ends, .inl (cI, 65, .inl v_ends))]) (wr := [(a_this, .inr (1, [.ref a_this_rows, .ref a_this_shorter, .ref a_this_ends, .ref a_this_leads, .int v_size])), (a_p2, .inl (cI, 8, .inl v_p2)), (a_this_rows, .inl (cI, 65, .inl v_rows)), (a_this_shorter, .inl (cI, 65, .inl v_shorter))]) (wc' := [(a_this_ends, .inl (cI, 65, .inl v_ends))]) (va_runSN (As := [.ref a_this_ends, .int r_25]) (rest := []) ⟨hx, hb, hml, hown, hts⟩ (c_X5_at l D cI cM cL F hc_28) ⟨va_cnB 2 hts gX1_endsOf_X5_at_n36 rfl rfl rfl hN.2.2.1 w_iX5 (by decide +kernel) ⟨Nat.le_of_ble_eq_true rfl, Nat.le_of_ble_eq_true rfl⟩, w_sX5_at, trivial⟩ (mPreS hP hD hK hN [1] (by decide) rfl) rfl rfl hl.1 rfl (lv_room (Nat.le_of_ble_eq_true rfl)) dX1_endsOf_20 ⟨Nat.le_of_ble_eq_true rfl, Nat.le_of_ble_eq_true rfl⟩) hP hD hS hA [1] [0, 2, 3, 4] rfl rfl (by decide) (by decide) (fun H locs hP hD hS => ?_)
    have hP : va_P D vwCl [(a_this, .inr (1, [.ref a_this_rows, .ref a_this_shorter, .ref a_this_ends, .ref a_this_leads, .int v_size])), (a_p2, .inl (cI, 8, .inl v_p2)), (a_this_rows, .inl (cI, 65, .inl v_rows)), (a_this_shorter, .inl (cI, 65, .inl v_shorter)), (a_this_ends, .inl (cI, 65, .inl v_ends))] H := hP
    have hD : va_D A [(a_this, .inr (1, [.ref a_this_rows, .ref a_this_shorter, .ref a_this_ends, .ref a_this_leads, .int v_size])), (a_p2, .inl (cI, 8, .inl v_p2)), (a_this_rows, .inl (cI, 65, .inl v_rows)), (a_this_shorter, .inl (cI, 65, .inl v_shorter)), (a_this_ends, .inl (cI, 65, .inl v_ends))] := hD
    exact hj23 r_27 _ _ (mSubP hP [0, 3, 4, 1, 2] rfl) (hD.sub [0, 3, 4, 1, 2] (by decide) rfl) hS ls (lv_sub hl [0, 1, 2] rfl) hden
  · have hden := if_s hden c_29
    refine lv_iconst (v := 0) hx hb dX1_endsOf_4 (by decide) ?_
    refine lv_goto (tgt := 23) hx hb dX1_endsOf_5 (by decide) ?_
    exact hj23 0 _ _ (mSubP hP [0, 1, 2, 3, 4] rfl) (hD.sub [0, 1, 2, 3, 4] (by decide) rfl) hS ls (lv_sub hl [0, 1, 2] rfl) hden
def L_X1_rebuild_33 (F : Nat) (k56 : Int32 → (Nat → Int32) → Option (Int32 × (Nat → Int32) × (Nat → Int32) × (Nat → Int32) × (Nat → Int32))) (y2 : Int32) (y3 : Int32) (y4 : Int32) : Nat → Int32 → Int32 → (Nat → Int32) → Option (Int32 × (Nat → Int32) × (Nat → Int32) × (Nat → Int32) × (Nat → Int32))
  | 0, _, _, _ => none
  | n + 1, x5_11, v_size_12, v_rows_13 => (if y4 < x5_11 then k56 v_size_12 v_rows_13 else bnd (D_X3_beginning F y3 x5_11) (fun r_14 => bnd (D_X1_takeState F r_14 v_size_12 v_rows_13) (fun (v_rows_16, v_size_17) => nm (x5_11 + 1) (fun x5_19 => L_X1_rebuild_33 F k56 y2 y3 y4 n x5_19 v_size_17 v_rows_16))))
def L_X1_rebuild_12 (F : Nat) (k62 : Int32 → (Nat → Int32) → Option (Int32 × (Nat → Int32) × (Nat → Int32) × (Nat → Int32) × (Nat → Int32))) (v_p1 : (Nat → Int32)) : Nat → Int32 → Int32 → (Nat → Int32) → Option (Int32 × (Nat → Int32) × (Nat → Int32) × (Nat → Int32) × (Nat → Int32))
  | 0, _, _, _ => none
  | n + 1, x2_4, v_size_5, v_rows_6 => (if 8 ≤ x2_4 then k62 v_size_5 v_rows_6 else bnd (D_X5_at F 8 x2_4 v_p1) (fun r_7 => bnd (D_X3_lengthOf F r_7) (fun r_9 => L_X1_rebuild_33 F (fun (v_size_24 : Int32) (v_rows_25 : (Nat → Int32)) => nm (x2_4 + 1) (fun x2_34 => L_X1_rebuild_12 F k62 v_p1 n x2_34 v_size_24 v_rows_25)) x2_4 r_7 r_9 F 1 v_size_5 v_rows_6)))
def L_X1_rebuild_72 (F : Nat) (v_size : Int32) (v_rows : (Nat → Int32)) (v_leads : (Nat → Int32)) (v_shorter : (Nat → Int32)) (v_p1 : (Nat → Int32)) : Nat → Int32 → (Nat → Int32) → Option (Int32 × (Nat → Int32) × (Nat → Int32) × (Nat → Int32) × (Nat → Int32))
  | 0, _, _ => none
  | n + 1, x2_66, v_ends_67 => (if v_size ≤ x2_66 then some (v_size, v_rows, v_leads, v_shorter, v_ends_67) else bnd (D_X1_endsOf F x2_66 v_shorter v_ends_67 v_p1 v_rows) (fun r_68 => bnd (D_X5_put F 65 x2_66 r_68 v_ends_67) (fun v_ends_70 => nm (x2_66 + 1) (fun x2_72 => L_X1_rebuild_72 F v_size v_rows v_leads v_shorter v_p1 n x2_72 v_ends_70))))
def D_X1_rebuild (F : Nat) (v_size : Int32) (v_rows : (Nat → Int32)) (v_leads : (Nat → Int32)) (v_shorter : (Nat → Int32)) (v_ends : (Nat → Int32)) (v_p1 : (Nat → Int32)) : Option (Int32 × (Nat → Int32) × (Nat → Int32) × (Nat → Int32) × (Nat → Int32)) := bnd (D_X1_takeState F 1 0 v_rows) (fun (v_rows_1, v_size_2) => L_X1_rebuild_12 F (fun (v_size_39 : Int32) (v_rows_40 : (Nat → Int32)) => bnd (D_X1_leadToLongerStates F v_size_39 v_rows_40 v_leads) (fun v_leads_61 => bnd (D_X1_fallBack F v_shorter v_size_39 v_leads_61) (fun (v_shorter_63, v_leads_64) => L_X1_rebuild_72 F v_size_39 v_rows_40 v_leads_64 v_shorter_63 v_p1 F 0 v_ends))) v_p1 F 0 v_size_2 v_rows_1)
def rm_X1_rebuild : Room := { frames := 3, cells := 0, slots := 0, locals := 67 }
set_option maxHeartbeats 4000000 in
set_option maxRecDepth 100000 in
theorem c_X1_rebuild (l : Launch) (D : va_G) (cI cM cL : ClassId) (F : Nat) {a_this a_this_rows a_this_shorter a_this_ends a_this_leads a_p1 : Nat} {sz : Nat} {v_size : Int32} {v_rows v_leads v_shorter v_ends v_p1 : Nat → Int32} {w_size : Int32} {w_rows : (Nat → Int32)} {w_leads : (Nat → Int32)} {w_shorter : (Nat → Int32)} {w_ends : (Nat → Int32)} (hden : D_X1_rebuild F v_size v_rows v_leads v_shorter v_ends v_p1 = some (w_size, w_rows, w_leads, w_shorter, w_ends)) : Met l yX1_rebuild wsX1_rebuild rm_X1_rebuild (va_Pc [.ref a_this, .ref a_p1] (mB D (mTy cI cM cL) sz [(a_this, .inr (1, [.ref a_this_rows, .ref a_this_shorter, .ref a_this_ends, .ref a_this_leads, .int v_size])), (a_this_rows, .inl (cI, 65, .inl v_rows)), (a_this_leads, .inl (cI, 260, .inl v_leads)), (a_this_shorter, .inl (cI, 65, .inl v_shorter)), (a_this_ends, .inl (cI, 65, .inl v_ends)), (a_p1, .inl (cI, 8, .inl v_p1))])) (mQv D (va_A [(a_this, .inr (1, [.ref a_this_rows, .ref a_this_shorter, .ref a_this_ends, .ref a_this_leads, .int v_size])), (a_this_rows, .inl (cI, 65, .inl v_rows)), (a_this_leads, .inl (cI, 260, .inl v_leads)), (a_this_shorter, .inl (cI, 65, .inl v_shorter)), (a_this_ends, .inl (cI, 65, .inl v_ends)), (a_p1, .inl (cI, 8, .inl v_p1))] sz) [(a_this, .inr (1, [.ref a_this_rows, .ref a_this_shorter, .ref a_this_ends, .ref a_this_leads, .int w_size])), (a_this_rows, .inl (cI, 65, .inl w_rows)), (a_this_leads, .inl (cI, 260, .inl w_leads)), (a_this_shorter, .inl (cI, 65, .inl w_shorter)), (a_this_ends, .inl (cI, 65, .inl w_ends)), (a_p1, .inl (cI, 8, .inl v_p1))]) 0 0 (va_A [(a_this, .inr (1, [.ref a_this_rows, .ref a_this_shorter, .ref a_this_ends, .ref a_this_leads, .int v_size])), (a_this_rows, .inl (cI, 65, .inl v_rows)), (a_this_leads, .inl (cI, 260, .inl v_leads)), (a_this_shorter, .inl (cI, 65, .inl v_shorter)), (a_this_ends, .inl (cI, 65, .inl v_ends)), (a_p1, .inl (cI, 8, .inl v_p1))] sz) := by
  refine Met.ofW (cc := cX1_rebuild) (maxL := 6) (ret := none) (by decide) rfl ?_
  intro p e s m args below meth c s₁ B hml hv
  obtain ⟨rfl, hsz, hP, hK, hN, hD0⟩ := hv
  have hx := B.exec
  have hb := B.bytes
  have hr := B.returns
  have hts := atoms_spec (ws := wsX1_rebuild) B.pre
  have hown : s.vm.findClass RX1 = some m.cls := findClass_of_methodNamed B.named
  have hlocks := B.notSynchronized
  subst hsz
  have hD := hD0.self (sz := s.heap.size)
  generalize hAe : va_A [(a_this, .inr (1, [.ref a_this_rows, .ref a_this_shorter, .ref a_this_ends, .ref a_this_leads, .int v_size])), (a_this_rows, .inl (cI, 65, .inl v_rows)), (a_this_leads, .inl (cI, 260, .inl v_leads)), (a_this_shorter, .inl (cI, 65, .inl v_shorter)), (a_this_ends, .inl (cI, 65, .inl v_ends)), (a_p1, .inl (cI, 8, .inl v_p1))] s.heap.size = A at hD ⊢
  have hA : ∀ q : Nat, s.heap.size ≤ q → A q := fun q h => by rw [← hAe]; exact Or.inr h
  have hS : va_S A s.heap s.heap [] := va_S.rf
  have hl := lv_entry ([.ref a_this, .ref a_p1]) (n := 6) (Nat.le_of_ble_eq_true rfl)
  rw [lg_entry_eq]
  generalize (lg_sl ([.ref a_this, .ref a_p1]) ++ List.replicate (6 - (lg_sl ([.ref a_this, .ref a_p1])).length) Slot.unset).toArray = ls at hl ⊢
  have hl : lv_has ls 6 [(0, .ref a_this), (1, .ref a_p1)] := hl
  change W p l e rm_X1_rebuild s m (([.ref a_this, .ref a_p1] : List Value).toArray) below meth c s.heap [] 0 0 _ (F0 m 0 ls [])
  generalize hQe : MQ below (mQv D A [(a_this, .inr (1, [.ref a_this_rows, .ref a_this_shorter, .ref a_this_ends, .ref a_this_leads, .int w_size])), (a_this_rows, .inl (cI, 65, .inl w_rows)), (a_this_leads, .inl (cI, 260, .inl w_leads)), (a_this_shorter, .inl (cI, 65, .inl w_shorter)), (a_this_ends, .inl (cI, 65, .inl w_ends)), (a_p1, .inl (cI, 8, .inl v_p1))]) (([.ref a_this, .ref a_p1] : List Value).toArray) s 0 0 A = Q
  rw [D_X1_rebuild] at hden
  have hin_X1 : ∀ w ∈ wsX10, w ∈ wsX1_rebuild := by decide +kernel
  have w_28 := hts (.fieldLink RX1 28 "FallingPatterns$Machine" "size" "I") (by decide +kernel)
  have w_iX5 := hts (.initialized RX5) (by decide +kernel)
  have w_sX5_at := hts (.static yX5_at) (by decide +kernel)
  have w_18 := hts (.fieldLink RX1 18 "FallingPatterns$Machine" "ends" "[I") (by decide +kernel)
  have w_sX5_put := hts (.static yX5_put) (by decide +kernel)
  refine lv_aload_n hx hb dX1_rebuild_0 rfl (lv_at hl 0 rfl) ?_
  refine lv_iconst (v := 0) hx hb dX1_rebuild_1 (by decide) ?_
  refine va_put (D := D) (ci := 1) (v := .int 0) (ty := .int) (C := RX1) (T := TX1) (N := 5) hx hb hts hin_X1 tyX1 tyX1_ok nmX1 hown hK hP hD hS 0 rfl rfl 4 (by decide) w_28 (fun _ h9 => h9) rfl (by decide +kernel) rfl rfl (Nat.le_of_ble_eq_true rfl) dX1_rebuild_2 (fun H locs hP hD hS => ?_)
  have hP : va_P D vwCl [(a_this, .inr (1, [.ref a_this_rows, .ref a_this_shorter, .ref a_this_ends, .ref a_this_leads, .int 0])), (a_this_rows, .inl (cI, 65, .inl v_rows)), (a_this_leads, .inl (cI, 260, .inl v_leads)), (a_this_shorter, .inl (cI, 65, .inl v_shorter)), (a_this_ends, .inl (cI, 65, .inl v_ends)), (a_p1, .inl (cI, 8, .inl v_p1))] H := hP
  have hD : va_D A [(a_this, .inr (1, [.ref a_this_rows, .ref a_this_shorter, .ref a_this_ends, .ref a_this_leads, .int 0])), (a_this_rows, .inl (cI, 65, .inl v_rows)), (a_this_leads, .inl (cI, 260, .inl v_leads)), (a_this_shorter, .inl (cI, 65, .inl v_shorter)), (a_this_ends, .inl (cI, 65, .inl v_ends)), (a_p1, .inl (cI, 8, .inl v_p1))] := hD
  refine lv_aload_n hx hb dX1_rebuild_5 rfl (lv_at hl 0 rfl) ?_
  refine lv_iconst (v := 1) hx hb dX1_rebuild_6 (by decide) ?_
  obtain ⟨⟨v_rows_1, v_size_2⟩, hc_3, hden⟩ := bnd_s hden
  refine m_cv (wc := [(a_this, .inr (1, [.ref a_this_rows, .ref a_this_shorter, .ref a_this_ends, .ref a_this_leads, .int 0])), (a_this_rows, .inl (cI, 65, .inl v_rows))]) (wr := [(a_this_leads, .inl (cI, 260, .inl v_leads)), (a_this_shorter, .inl (cI, 65, .inl v_shorter)), (a_this_ends, .inl (cI, 65, .inl v_ends)), (a_p1, .inl (cI, 8, .inl v_p1))]) (wc' := [(a_this, .inr (1, [.ref a_this_rows, .ref a_this_shorter, .ref a_this_ends, .ref a_this_leads, .int v_size_2])), (a_this_rows, .inl (cI, 65, .inl v_rows_1))]) (va_runV (As := [.int 1]) (rest := []) ⟨hx, hb, hml, hown, hts⟩ (c_X1_takeState l D cI cM cL F hc_3) (cwV 1 hts gX1_rebuild_X1_takeState rfl rfl rfl (by decide +kernel) ⟨Nat.le_of_ble_eq_true rfl, Nat.le_of_ble_eq_true rfl⟩) (mPreV (ci := 1) (q0 := 0) (r := (RX1, TX1, 5)) hP hD hK hN [0, 1] (by decide) rfl rfl rfl) rfl rfl hl.1 rfl (lv_room (Nat.le_of_ble_eq_true rfl)) dX1_rebuild_7 ⟨Nat.le_of_ble_eq_true rfl, Nat.le_of_ble_eq_true rfl⟩) hP hD hS hA [0, 1] [2, 3, 4, 5] rfl rfl (by decide) (by decide) (fun H locs hP hD hS => ?_)
  have hP : va_P D vwCl [(a_this_leads, .inl (cI, 260, .inl v_leads)), (a_this_shorter, .inl (cI, 65, .inl v_shorter)), (a_this_ends, .inl (cI, 65, .inl v_ends)), (a_p1, .inl (cI, 8, .inl v_p1)), (a_this, .inr (1, [.ref a_this_rows, .ref a_this_shorter, .ref a_this_ends, .ref a_this_leads, .int v_size_2])), (a_this_rows, .inl (cI, 65, .inl v_rows_1))] H := hP
  have hD : va_D A [(a_this_leads, .inl (cI, 260, .inl v_leads)), (a_this_shorter, .inl (cI, 65, .inl v_shorter)), (a_this_ends, .inl (cI, 65, .inl v_ends)), (a_p1, .inl (cI, 8, .inl v_p1)), (a_this, .inr (1, [.ref a_this_rows, .ref a_this_shorter, .ref a_this_ends, .ref a_this_leads, .int v_size_2])), (a_this_rows, .inl (cI, 65, .inl v_rows_1))] := hD
  refine lv_iconst (v := 0) hx hb dX1_rebuild_10 (by decide) ?_
  refine lv_istore_n (lv' := [(2, .int 0), (0, .ref a_this), (1, .ref a_p1)]) hx hb dX1_rebuild_11 rfl hl (by decide) rfl (fun ls hl => ?_)
  have hL12__41 : ∀ (k62 : Int32 → (Nat → Int32) → Option (Int32 × (Nat → Int32) × (Nat → Int32) × (Nat → Int32) × (Nat → Int32))), (∀ (v_size_39 : Int32) (v_rows_40 : (Nat → Int32)) (H : Heap) (locs : List Loc), va_P D vwCl [(a_this, .inr (1, [.ref a_this_rows, .ref a_this_shorter, .ref a_this_ends, .ref a_this_leads, .int v_size_39])), (a_this_rows, .inl (cI, 65, .inl v_rows_40)), (a_this_leads, .inl (cI, 260, .inl v_leads)), (a_this_shorter, .inl (cI, 65, .inl v_shorter)), (a_this_ends, .inl (cI, 65, .inl v_ends)), (a_p1, .inl (cI, 8, .inl v_p1))] H → va_D A [(a_this, .inr (1, [.ref a_this_rows, .ref a_this_shorter, .ref a_this_ends, .ref a_this_leads, .int v_size_39])), (a_this_rows, .inl (cI, 65, .inl v_rows_40)), (a_this_leads, .inl (cI, 260, .inl v_leads)), (a_this_shorter, .inl (cI, 65, .inl v_shorter)), (a_this_ends, .inl (cI, 65, .inl v_ends)), (a_p1, .inl (cI, 8, .inl v_p1))] → va_S A s.heap H locs → ∀ ls : Array Slot, lv_has ls 6 [(0, .ref a_this), (1, .ref a_p1)] → k62 v_size_39 v_rows_40 = some (w_size, w_rows, w_leads, w_shorter, w_ends) → W p l e rm_X1_rebuild s m (([.ref a_this, .ref a_p1] : List Value).toArray) below meth c H locs 0 0 Q (F0 m 62 ls [])) → ∀ (n : Nat) (x2_36 : Int32) (v_size_37 : Int32) (v_rows_38 : (Nat → Int32)) (H : Heap) (locs : List Loc), va_P D vwCl [(a_this, .inr (1, [.ref a_this_rows, .ref a_this_shorter, .ref a_this_ends, .ref a_this_leads, .int v_size_37])), (a_this_rows, .inl (cI, 65, .inl v_rows_38)), (a_this_leads, .inl (cI, 260, .inl v_leads)), (a_this_shorter, .inl (cI, 65, .inl v_shorter)), (a_this_ends, .inl (cI, 65, .inl v_ends)), (a_p1, .inl (cI, 8, .inl v_p1))] H → va_D A [(a_this, .inr (1, [.ref a_this_rows, .ref a_this_shorter, .ref a_this_ends, .ref a_this_leads, .int v_size_37])), (a_this_rows, .inl (cI, 65, .inl v_rows_38)), (a_this_leads, .inl (cI, 260, .inl v_leads)), (a_this_shorter, .inl (cI, 65, .inl v_shorter)), (a_this_ends, .inl (cI, 65, .inl v_ends)), (a_p1, .inl (cI, 8, .inl v_p1))] → va_S A s.heap H locs → ∀ ls : Array Slot, lv_has ls 6 [(0, .ref a_this), (1, .ref a_p1), (2, .int x2_36)] → L_X1_rebuild_12 F k62 v_p1 n x2_36 v_size_37 v_rows_38 = some (w_size, w_rows, w_leads, w_shorter, w_ends) → W p l e rm_X1_rebuild s m (([.ref a_this, .ref a_p1] : List Value).toArray) below meth c H locs 0 0 Q (F0 m 12 ls []) := by
    intro k62 hk62 n
    induction n with
    | zero => intro x2_36 v_size_37 v_rows_38 H locs hP hD hS ls hl hden; exact no_none hden
    | succ n ih =>
      intro x2_36 v_size_37 v_rows_38 H locs hP hD hS ls hl hden
      rw [L_X1_rebuild_12] at hden
      refine lv_iload_n hx hb dX1_rebuild_12 rfl (lv_at hl 2 rfl) ?_
      refine lv_bipush (v := 8) hx hb dX1_rebuild_13 (by decide) ?_
      refine lv_icmp_ge (tgt := 62) hx hb dX1_rebuild_15 (by decide) (fun c_60 => ?_) (fun c_60 => ?_)
      · have hden := if_s hden c_60
        exact hk62 v_size_37 v_rows_38 _ _ (mSubP hP [0, 1, 2, 3, 4, 5] rfl) (hD.sub [0, 1, 2, 3, 4, 5] (by decide) rfl) hS ls (lv_sub hl [0, 1] rfl) hden
      · have hden := ifn_s hden c_60
        refine lv_aload_n hx hb dX1_rebuild_18 rfl (lv_at hl 1 rfl) ?_
        refine lv_iload_n hx hb dX1_rebuild_19 rfl (lv_at hl 2 rfl) ?_
        obtain ⟨r_42, hc_43, hden⟩ := bnd_s hden
        refine m_ci (wc := [(a_p1, .inl (cI, 8, .inl v_p1))]) (wr := [(a_this, .inr (1, [.ref a_this_rows, .ref a_this_shorter, .ref a_this_ends, .ref a_this_leads, .int v_size_37])), (a_this_rows, .inl (cI, 65, .inl v_rows_38)), (a_this_leads, .inl (cI, 260, .inl v_leads)), (a_this_shorter, .inl (cI, 65, .inl v_shorter)), (a_this_ends, .inl (cI, 65, .inl v_ends))]) (wc' := [(a_p1, .inl (cI, 8, .inl v_p1))]) (va_runSN (As := [.ref a_p1, .int x2_36]) (rest := []) ⟨hx, hb, hml, hown, hts⟩ (c_X5_at l D cI cM cL F hc_43) ⟨va_cnB 2 hts gX1_rebuild_X5_at_n36 rfl rfl rfl hN.2.2.1 w_iX5 (by decide +kernel) ⟨Nat.le_of_ble_eq_true rfl, Nat.le_of_ble_eq_true rfl⟩, w_sX5_at, trivial⟩ (mPreS hP hD hK hN [5] (by decide) rfl) rfl rfl hl.1 rfl (lv_room (Nat.le_of_ble_eq_true rfl)) dX1_rebuild_20 ⟨Nat.le_of_ble_eq_true rfl, Nat.le_of_ble_eq_true rfl⟩) hP hD hS hA [5] [0, 1, 2, 3, 4] rfl rfl (by decide) (by decide) (fun H locs hP hD hS => ?_)
        have hP : va_P D vwCl [(a_this, .inr (1, [.ref a_this_rows, .ref a_this_shorter, .ref a_this_ends, .ref a_this_leads, .int v_size_37])), (a_this_rows, .inl (cI, 65, .inl v_rows_38)), (a_this_leads, .inl (cI, 260, .inl v_leads)), (a_this_shorter, .inl (cI, 65, .inl v_shorter)), (a_this_ends, .inl (cI, 65, .inl v_ends)), (a_p1, .inl (cI, 8, .inl v_p1))] H := hP
        have hD : va_D A [(a_this, .inr (1, [.ref a_this_rows, .ref a_this_shorter, .ref a_this_ends, .ref a_this_leads, .int v_size_37])), (a_this_rows, .inl (cI, 65, .inl v_rows_38)), (a_this_leads, .inl (cI, 260, .inl v_leads)), (a_this_shorter, .inl (cI, 65, .inl v_shorter)), (a_this_ends, .inl (cI, 65, .inl v_ends)), (a_p1, .inl (cI, 8, .inl v_p1))] := hD
        refine lv_istore_n (lv' := [(3, .int r_42), (0, .ref a_this), (1, .ref a_p1), (2, .int x2_36)]) hx hb dX1_rebuild_23 rfl hl (by decide) rfl (fun ls hl => ?_)
        refine lv_iload_n hx hb dX1_rebuild_24 rfl (lv_at hl 0 rfl) ?_
        obtain ⟨r_44, hc_45, hden⟩ := bnd_s hden
        refine m_ci (wc := []) (wr := [(a_this, .inr (1, [.ref a_this_rows, .ref a_this_shorter, .ref a_this_ends, .ref a_this_leads, .int v_size_37])), (a_this_rows, .inl (cI, 65, .inl v_rows_38)), (a_this_leads, .inl (cI, 260, .inl v_leads)), (a_this_shorter, .inl (cI, 65, .inl v_shorter)), (a_this_ends, .inl (cI, 65, .inl v_ends)), (a_p1, .inl (cI, 8, .inl v_p1))]) (wc' := []) (va_runS (As := [.int r_42]) (rest := []) ⟨hx, hb, hml, hown, hts⟩ (c_X3_lengthOf l D cI cM cL F hc_45) (va_cwS 1 hts gX1_rebuild_X3_lengthOf rfl rfl rfl (by decide +kernel) ⟨Nat.le_of_ble_eq_true rfl, Nat.le_of_ble_eq_true rfl⟩) (mPreS hP hD hK hN [] (by decide) rfl) rfl rfl hl.1 rfl (lv_room (Nat.le_of_ble_eq_true rfl)) dX1_rebuild_25 ⟨Nat.le_of_ble_eq_true rfl, Nat.le_of_ble_eq_true rfl⟩) hP hD hS hA [] [0, 1, 2, 3, 4, 5] rfl rfl (by decide) (by decide) (fun H locs hP hD hS => ?_)
        have hP : va_P D vwCl [(a_this, .inr (1, [.ref a_this_rows, .ref a_this_shorter, .ref a_this_ends, .ref a_this_leads, .int v_size_37])), (a_this_rows, .inl (cI, 65, .inl v_rows_38)), (a_this_leads, .inl (cI, 260, .inl v_leads)), (a_this_shorter, .inl (cI, 65, .inl v_shorter)), (a_this_ends, .inl (cI, 65, .inl v_ends)), (a_p1, .inl (cI, 8, .inl v_p1))] H := hP
        have hD : va_D A [(a_this, .inr (1, [.ref a_this_rows, .ref a_this_shorter, .ref a_this_ends, .ref a_this_leads, .int v_size_37])), (a_this_rows, .inl (cI, 65, .inl v_rows_38)), (a_this_leads, .inl (cI, 260, .inl v_leads)), (a_this_shorter, .inl (cI, 65, .inl v_shorter)), (a_this_ends, .inl (cI, 65, .inl v_ends)), (a_p1, .inl (cI, 8, .inl v_p1))] := hD
        refine lv_istore (lv' := [(4, .int r_44), (3, .int r_42), (0, .ref a_this), (1, .ref a_p1), (2, .int x2_36)]) hx hb dX1_rebuild_28 hl (by decide) rfl (fun ls hl => ?_)
        refine lv_iconst (v := 1) hx hb dX1_rebuild_30 (by decide) ?_
        refine lv_istore (lv' := [(5, .int 1), (4, .int r_44), (3, .int r_42), (0, .ref a_this), (1, .ref a_p1), (2, .int x2_36)]) hx hb dX1_rebuild_31 hl (by decide) rfl (fun ls hl => ?_)
        have hL33__51 : ∀ (k56 : Int32 → (Nat → Int32) → Option (Int32 × (Nat → Int32) × (Nat → Int32) × (Nat → Int32) × (Nat → Int32))), (∀ (v_size_49 : Int32) (v_rows_50 : (Nat → Int32)) (H : Heap) (locs : List Loc), va_P D vwCl [(a_this, .inr (1, [.ref a_this_rows, .ref a_this_shorter, .ref a_this_ends, .ref a_this_leads, .int v_size_49])), (a_this_rows, .inl (cI, 65, .inl v_rows_50)), (a_this_leads, .inl (cI, 260, .inl v_leads)), (a_this_shorter, .inl (cI, 65, .inl v_shorter)), (a_this_ends, .inl (cI, 65, .inl v_ends)), (a_p1, .inl (cI, 8, .inl v_p1))] H → va_D A [(a_this, .inr (1, [.ref a_this_rows, .ref a_this_shorter, .ref a_this_ends, .ref a_this_leads, .int v_size_49])), (a_this_rows, .inl (cI, 65, .inl v_rows_50)), (a_this_leads, .inl (cI, 260, .inl v_leads)), (a_this_shorter, .inl (cI, 65, .inl v_shorter)), (a_this_ends, .inl (cI, 65, .inl v_ends)), (a_p1, .inl (cI, 8, .inl v_p1))] → va_S A s.heap H locs → ∀ ls : Array Slot, lv_has ls 6 [(0, .ref a_this), (1, .ref a_p1), (2, .int x2_36)] → k56 v_size_49 v_rows_50 = some (w_size, w_rows, w_leads, w_shorter, w_ends) → W p l e rm_X1_rebuild s m (([.ref a_this, .ref a_p1] : List Value).toArray) below meth c H locs 0 0 Q (F0 m 56 ls [])) → ∀ (n : Nat) (x5_46 : Int32) (v_size_47 : Int32) (v_rows_48 : (Nat → Int32)) (H : Heap) (locs : List Loc), va_P D vwCl [(a_this, .inr (1, [.ref a_this_rows, .ref a_this_shorter, .ref a_this_ends, .ref a_this_leads, .int v_size_47])), (a_this_rows, .inl (cI, 65, .inl v_rows_48)), (a_this_leads, .inl (cI, 260, .inl v_leads)), (a_this_shorter, .inl (cI, 65, .inl v_shorter)), (a_this_ends, .inl (cI, 65, .inl v_ends)), (a_p1, .inl (cI, 8, .inl v_p1))] H → va_D A [(a_this, .inr (1, [.ref a_this_rows, .ref a_this_shorter, .ref a_this_ends, .ref a_this_leads, .int v_size_47])), (a_this_rows, .inl (cI, 65, .inl v_rows_48)), (a_this_leads, .inl (cI, 260, .inl v_leads)), (a_this_shorter, .inl (cI, 65, .inl v_shorter)), (a_this_ends, .inl (cI, 65, .inl v_ends)), (a_p1, .inl (cI, 8, .inl v_p1))] → va_S A s.heap H locs → ∀ ls : Array Slot, lv_has ls 6 [(0, .ref a_this), (1, .ref a_p1), (2, .int x2_36), (3, .int r_42), (4, .int r_44), (5, .int x5_46)] → L_X1_rebuild_33 F k56 x2_36 r_42 r_44 n x5_46 v_size_47 v_rows_48 = some (w_size, w_rows, w_leads, w_shorter, w_ends) → W p l e rm_X1_rebuild s m (([.ref a_this, .ref a_p1] : List Value).toArray) below meth c H locs 0 0 Q (F0 m 33 ls []) := by
          intro k56 hk56 n
          induction n with
          | zero => intro x5_46 v_size_47 v_rows_48 H locs hP hD hS ls hl hden; exact no_none hden
          | succ n ih =>
            intro x5_46 v_size_47 v_rows_48 H locs hP hD hS ls hl hden
            rw [L_X1_rebuild_33] at hden
            refine lv_iload hx hb dX1_rebuild_33 (lv_at hl 5 rfl) ?_
            refine lv_iload hx hb dX1_rebuild_35 (lv_at hl 4 rfl) ?_
            refine lv_icmp_gt (tgt := 56) hx hb dX1_rebuild_37 (by decide) (fun c_58 => ?_) (fun c_58 => ?_)
            · have hden := if_s hden c_58
              exact hk56 v_size_47 v_rows_48 _ _ (mSubP hP [0, 1, 2, 3, 4, 5] rfl) (hD.sub [0, 1, 2, 3, 4, 5] (by decide) rfl) hS ls (lv_sub hl [0, 1, 2] rfl) hden
            · have hden := ifn_s hden c_58
              refine lv_aload_n hx hb dX1_rebuild_40 rfl (lv_at hl 0 rfl) ?_
              refine lv_iload_n hx hb dX1_rebuild_41 rfl (lv_at hl 3 rfl) ?_
              refine lv_iload hx hb dX1_rebuild_42 (lv_at hl 5 rfl) ?_
              obtain ⟨r_52, hc_53, hden⟩ := bnd_s hden
              refine m_ci (wc := []) (wr := [(a_this, .inr (1, [.ref a_this_rows, .ref a_this_shorter, .ref a_this_ends, .ref a_this_leads, .int v_size_47])), (a_this_rows, .inl (cI, 65, .inl v_rows_48)), (a_this_leads, .inl (cI, 260, .inl v_leads)), (a_this_shorter, .inl (cI, 65, .inl v_shorter)), (a_this_ends, .inl (cI, 65, .inl v_ends)), (a_p1, .inl (cI, 8, .inl v_p1))]) (wc' := []) (va_runS (As := [.int r_42, .int x5_46]) (rest := [.ref a_this]) ⟨hx, hb, hml, hown, hts⟩ (c_X3_beginning l D cI cM cL F hc_53) (va_cwS 2 hts gX1_rebuild_X3_beginning rfl rfl rfl (by decide +kernel) ⟨Nat.le_of_ble_eq_true rfl, Nat.le_of_ble_eq_true rfl⟩) (mPreS hP hD hK hN [] (by decide) rfl) rfl rfl hl.1 rfl (lv_room (Nat.le_of_ble_eq_true rfl)) dX1_rebuild_44 ⟨Nat.le_of_ble_eq_true rfl, Nat.le_of_ble_eq_true rfl⟩) hP hD hS hA [] [0, 1, 2, 3, 4, 5] rfl rfl (by decide) (by decide) (fun H locs hP hD hS => ?_)
              have hP : va_P D vwCl [(a_this, .inr (1, [.ref a_this_rows, .ref a_this_shorter, .ref a_this_ends, .ref a_this_leads, .int v_size_47])), (a_this_rows, .inl (cI, 65, .inl v_rows_48)), (a_this_leads, .inl (cI, 260, .inl v_leads)), (a_this_shorter, .inl (cI, 65, .inl v_shorter)), (a_this_ends, .inl (cI, 65, .inl v_ends)), (a_p1, .inl (cI, 8, .inl v_p1))] H := hP
              have hD : va_D A [(a_this, .inr (1, [.ref a_this_rows, .ref a_this_shorter, .ref a_this_ends, .ref a_this_leads, .int v_size_47])), (a_this_rows, .inl (cI, 65, .inl v_rows_48)), (a_this_leads, .inl (cI, 260, .inl v_leads)), (a_this_shorter, .inl (cI, 65, .inl v_shorter)), (a_this_ends, .inl (cI, 65, .inl v_ends)), (a_p1, .inl (cI, 8, .inl v_p1))] := hD
              obtain ⟨⟨v_rows_54, v_size_55⟩, hc_56, hden⟩ := bnd_s hden
              refine m_cv (wc := [(a_this, .inr (1, [.ref a_this_rows, .ref a_this_shorter, .ref a_this_ends, .ref a_this_leads, .int v_size_47])), (a_this_rows, .inl (cI, 65, .inl v_rows_48))]) (wr := [(a_this_leads, .inl (cI, 260, .inl v_leads)), (a_this_shorter, .inl (cI, 65, .inl v_shorter)), (a_this_ends, .inl (cI, 65, .inl v_ends)), (a_p1, .inl (cI, 8, .inl v_p1))]) (wc' := [(a_this, .inr (1, [.ref a_this_rows, .ref a_this_shorter, .ref a_this_ends, .ref a_this_leads, .int v_size_55])), (a_this_rows, .inl (cI, 65, .inl v_rows_54))]) (va_runV (As := [.int r_52]) (rest := []) ⟨hx, hb, hml, hown, hts⟩ (c_X1_takeState l D cI cM cL F hc_56) (cwV 1 hts gX1_rebuild_X1_takeState rfl rfl rfl (by decide +kernel) ⟨Nat.le_of_ble_eq_true rfl, Nat.le_of_ble_eq_true rfl⟩) (mPreV (ci := 1) (q0 := 0) (r := (RX1, TX1, 5)) hP hD hK hN [0, 1] (by decide) rfl rfl rfl) rfl rfl hl.1 rfl (lv_room (Nat.le_of_ble_eq_true rfl)) dX1_rebuild_47 ⟨Nat.le_of_ble_eq_true rfl, Nat.le_of_ble_eq_true rfl⟩) hP hD hS hA [0, 1] [2, 3, 4, 5] rfl rfl (by decide) (by decide) (fun H locs hP hD hS => ?_)
              have hP : va_P D vwCl [(a_this_leads, .inl (cI, 260, .inl v_leads)), (a_this_shorter, .inl (cI, 65, .inl v_shorter)), (a_this_ends, .inl (cI, 65, .inl v_ends)), (a_p1, .inl (cI, 8, .inl v_p1)), (a_this, .inr (1, [.ref a_this_rows, .ref a_this_shorter, .ref a_this_ends, .ref a_this_leads, .int v_size_55])), (a_this_rows, .inl (cI, 65, .inl v_rows_54))] H := hP
              have hD : va_D A [(a_this_leads, .inl (cI, 260, .inl v_leads)), (a_this_shorter, .inl (cI, 65, .inl v_shorter)), (a_this_ends, .inl (cI, 65, .inl v_ends)), (a_p1, .inl (cI, 8, .inl v_p1)), (a_this, .inr (1, [.ref a_this_rows, .ref a_this_shorter, .ref a_this_ends, .ref a_this_leads, .int v_size_55])), (a_this_rows, .inl (cI, 65, .inl v_rows_54))] := hD
              obtain ⟨x5_57, ex5_57, hden⟩ := nm_x hden
              refine lv_iinc (v := x5_57) (lv' := [(5, .int x5_57), (0, .ref a_this), (1, .ref a_p1), (2, .int x2_36), (3, .int r_42), (4, .int r_44)]) hx hb dX1_rebuild_50 hl (k := 5) rfl (by rw [ex5_57]; rfl) (by decide) rfl (fun ls hl => ?_)
              refine lv_goto (tgt := 33) hx hb dX1_rebuild_53 (by decide) ?_
              exact ih x5_57 v_size_55 v_rows_54 _ _ (mSubP hP [4, 5, 0, 1, 2, 3] rfl) (hD.sub [4, 5, 0, 1, 2, 3] (by decide) rfl) hS ls (lv_sub hl [1, 2, 3, 4, 5, 0] rfl) hden
        refine hL33__51 _ (fun v_size_49 v_rows_50 H locs hP hD hS ls hl hden => ?_) F 1 v_size_37 v_rows_38 _ _ (mSubP hP [0, 1, 2, 3, 4, 5] rfl) (hD.sub [0, 1, 2, 3, 4, 5] (by decide) rfl) hS ls (lv_sub hl [3, 4, 5, 2, 1, 0] rfl) hden
        obtain ⟨x2_59, ex2_59, hden⟩ := nm_x hden
        refine lv_iinc (v := x2_59) (lv' := [(2, .int x2_59), (0, .ref a_this), (1, .ref a_p1)]) hx hb dX1_rebuild_56 hl (k := 2) rfl (by rw [ex2_59]; rfl) (by decide) rfl (fun ls hl => ?_)
        refine lv_goto (tgt := 12) hx hb dX1_rebuild_59 (by decide) ?_
        exact ih x2_59 v_size_49 v_rows_50 _ _ (mSubP hP [0, 1, 2, 3, 4, 5] rfl) (hD.sub [0, 1, 2, 3, 4, 5] (by decide) rfl) hS ls (lv_sub hl [1, 2, 0] rfl) hden
  refine hL12__41 _ (fun v_size_39 v_rows_40 H locs hP hD hS ls hl hden => ?_) F 0 v_size_2 v_rows_1 _ _ (mSubP hP [4, 5, 0, 1, 2, 3] rfl) (hD.sub [4, 5, 0, 1, 2, 3] (by decide) rfl) hS ls (lv_sub hl [1, 2, 0] rfl) hden
  refine lv_aload_n hx hb dX1_rebuild_62 rfl (lv_at hl 0 rfl) ?_
  obtain ⟨v_leads_61, hc_62, hden⟩ := bnd_s hden
  refine m_cv (wc := [(a_this, .inr (1, [.ref a_this_rows, .ref a_this_shorter, .ref a_this_ends, .ref a_this_leads, .int v_size_39])), (a_this_leads, .inl (cI, 260, .inl v_leads)), (a_this_rows, .inl (cI, 65, .inl v_rows_40))]) (wr := [(a_this_shorter, .inl (cI, 65, .inl v_shorter)), (a_this_ends, .inl (cI, 65, .inl v_ends)), (a_p1, .inl (cI, 8, .inl v_p1))]) (wc' := [(a_this, .inr (1, [.ref a_this_rows, .ref a_this_shorter, .ref a_this_ends, .ref a_this_leads, .int v_size_39])), (a_this_leads, .inl (cI, 260, .inl v_leads_61)), (a_this_rows, .inl (cI, 65, .inl v_rows_40))]) (va_runV (As := []) (rest := []) ⟨hx, hb, hml, hown, hts⟩ (c_X1_leadToLongerStates l D cI cM cL F hc_62) (cwV 0 hts gX1_rebuild_X1_leadToLongerStates rfl rfl rfl (by decide +kernel) ⟨Nat.le_of_ble_eq_true rfl, Nat.le_of_ble_eq_true rfl⟩) (mPreV (ci := 1) (q0 := 0) (r := (RX1, TX1, 5)) hP hD hK hN [0, 2, 1] (by decide) rfl rfl rfl) rfl rfl hl.1 rfl (lv_room (Nat.le_of_ble_eq_true rfl)) dX1_rebuild_63 ⟨Nat.le_of_ble_eq_true rfl, Nat.le_of_ble_eq_true rfl⟩) hP hD hS hA [0, 2, 1] [3, 4, 5] rfl rfl (by decide) (by decide) (fun H locs hP hD hS => ?_)
  have hP : va_P D vwCl [(a_this_shorter, .inl (cI, 65, .inl v_shorter)), (a_this_ends, .inl (cI, 65, .inl v_ends)), (a_p1, .inl (cI, 8, .inl v_p1)), (a_this, .inr (1, [.ref a_this_rows, .ref a_this_shorter, .ref a_this_ends, .ref a_this_leads, .int v_size_39])), (a_this_leads, .inl (cI, 260, .inl v_leads_61)), (a_this_rows, .inl (cI, 65, .inl v_rows_40))] H := hP
  have hD : va_D A [(a_this_shorter, .inl (cI, 65, .inl v_shorter)), (a_this_ends, .inl (cI, 65, .inl v_ends)), (a_p1, .inl (cI, 8, .inl v_p1)), (a_this, .inr (1, [.ref a_this_rows, .ref a_this_shorter, .ref a_this_ends, .ref a_this_leads, .int v_size_39])), (a_this_leads, .inl (cI, 260, .inl v_leads_61)), (a_this_rows, .inl (cI, 65, .inl v_rows_40))] := hD
  refine lv_aload_n hx hb dX1_rebuild_66 rfl (lv_at hl 0 rfl) ?_
  obtain ⟨⟨v_shorter_63, v_leads_64⟩, hc_65, hden⟩ := bnd_s hden
  refine m_cv (wc := [(a_this, .inr (1, [.ref a_this_rows, .ref a_this_shorter, .ref a_this_ends, .ref a_this_leads, .int v_size_39])), (a_this_shorter, .inl (cI, 65, .inl v_shorter)), (a_this_leads, .inl (cI, 260, .inl v_leads_61))]) (wr := [(a_this_ends, .inl (cI, 65, .inl v_ends)), (a_p1, .inl (cI, 8, .inl v_p1)), (a_this_rows, .inl (cI, 65, .inl v_rows_40))]) (wc' := [(a_this, .inr (1, [.ref a_this_rows, .ref a_this_shorter, .ref a_this_ends, .ref a_this_leads, .int v_size_39])), (a_this_shorter, .inl (cI, 65, .inl v_shorter_63)), (a_this_leads, .inl (cI, 260, .inl v_leads_64))]) (va_runV (As := []) (rest := []) ⟨hx, hb, hml, hown, hts⟩ (c_X1_fallBack l D cI cM cL F hc_65) (cwV 0 hts gX1_rebuild_X1_fallBack rfl rfl rfl (by decide +kernel) ⟨Nat.le_of_ble_eq_true rfl, Nat.le_of_ble_eq_true rfl⟩) (mPreV (ci := 1) (q0 := 0) (r := (RX1, TX1, 5)) hP hD hK hN [3, 0, 4] (by decide) rfl rfl rfl) rfl rfl hl.1 rfl (lv_room (Nat.le_of_ble_eq_true rfl)) dX1_rebuild_67 ⟨Nat.le_of_ble_eq_true rfl, Nat.le_of_ble_eq_true rfl⟩) hP hD hS hA [3, 0, 4] [1, 2, 5] rfl rfl (by decide) (by decide) (fun H locs hP hD hS => ?_)
  have hP : va_P D vwCl [(a_this_ends, .inl (cI, 65, .inl v_ends)), (a_p1, .inl (cI, 8, .inl v_p1)), (a_this_rows, .inl (cI, 65, .inl v_rows_40)), (a_this, .inr (1, [.ref a_this_rows, .ref a_this_shorter, .ref a_this_ends, .ref a_this_leads, .int v_size_39])), (a_this_shorter, .inl (cI, 65, .inl v_shorter_63)), (a_this_leads, .inl (cI, 260, .inl v_leads_64))] H := hP
  have hD : va_D A [(a_this_ends, .inl (cI, 65, .inl v_ends)), (a_p1, .inl (cI, 8, .inl v_p1)), (a_this_rows, .inl (cI, 65, .inl v_rows_40)), (a_this, .inr (1, [.ref a_this_rows, .ref a_this_shorter, .ref a_this_ends, .ref a_this_leads, .int v_size_39])), (a_this_shorter, .inl (cI, 65, .inl v_shorter_63)), (a_this_leads, .inl (cI, 260, .inl v_leads_64))] := hD
  refine lv_iconst (v := 0) hx hb dX1_rebuild_70 (by decide) ?_
  refine lv_istore_n (lv' := [(2, .int 0), (0, .ref a_this), (1, .ref a_p1)]) hx hb dX1_rebuild_71 rfl hl (by decide) rfl (fun ls hl => ?_)
  have hL72__76 : ∀ (n : Nat) (x2_74 : Int32) (v_ends_75 : (Nat → Int32)) (H : Heap) (locs : List Loc), va_P D vwCl [(a_this, .inr (1, [.ref a_this_rows, .ref a_this_shorter, .ref a_this_ends, .ref a_this_leads, .int v_size_39])), (a_this_rows, .inl (cI, 65, .inl v_rows_40)), (a_this_leads, .inl (cI, 260, .inl v_leads_64)), (a_this_shorter, .inl (cI, 65, .inl v_shorter_63)), (a_this_ends, .inl (cI, 65, .inl v_ends_75)), (a_p1, .inl (cI, 8, .inl v_p1))] H → va_D A [(a_this, .inr (1, [.ref a_this_rows, .ref a_this_shorter, .ref a_this_ends, .ref a_this_leads, .int v_size_39])), (a_this_rows, .inl (cI, 65, .inl v_rows_40)), (a_this_leads, .inl (cI, 260, .inl v_leads_64)), (a_this_shorter, .inl (cI, 65, .inl v_shorter_63)), (a_this_ends, .inl (cI, 65, .inl v_ends_75)), (a_p1, .inl (cI, 8, .inl v_p1))] → va_S A s.heap H locs → ∀ ls : Array Slot, lv_has ls 6 [(0, .ref a_this), (1, .ref a_p1), (2, .int x2_74)] → L_X1_rebuild_72 F v_size_39 v_rows_40 v_leads_64 v_shorter_63 v_p1 n x2_74 v_ends_75 = some (w_size, w_rows, w_leads, w_shorter, w_ends) → W p l e rm_X1_rebuild s m (([.ref a_this, .ref a_p1] : List Value).toArray) below meth c H locs 0 0 Q (F0 m 72 ls []) := by
    intro n
    induction n with
    | zero => intro x2_74 v_ends_75 H locs hP hD hS ls hl hden; exact no_none hden
    | succ n ih =>
      intro x2_74 v_ends_75 H locs hP hD hS ls hl hden
      rw [L_X1_rebuild_72] at hden
      refine lv_iload_n hx hb dX1_rebuild_72 rfl (lv_at hl 2 rfl) ?_
      refine lv_aload_n hx hb dX1_rebuild_73 rfl (lv_at hl 0 rfl) ?_
      refine va_get (D := D) (ci := 1) (v := .int v_size_39) (C := RX1) (T := TX1) (N := 5) hx hb hts hin_X1 hown hK hP 0 rfl rfl 4 (by decide) w_28 (fun _ h9 => h9) rfl dX1_rebuild_74 ?_
      refine lv_icmp_ge (tgt := 100) hx hb dX1_rebuild_77 (by decide) (fun c_82 => ?_) (fun c_82 => ?_)
      · have hden := if_s hden c_82
        subst hQe
        cases hden
        exact m_rv hx hb hr hP hD hS [0, 1, 2, 3, 4, 5] (by decide) rfl dX1_rebuild_100 hlocks
      · have hden := ifn_s hden c_82
        refine lv_aload_n hx hb dX1_rebuild_80 rfl (lv_at hl 0 rfl) ?_
        refine va_get (D := D) (ci := 1) (v := .ref a_this_ends) (C := RX1) (T := TX1) (N := 5) hx hb hts hin_X1 hown hK hP 0 rfl rfl 2 (by decide) w_18 (fun _ h9 => h9) rfl dX1_rebuild_81 ?_
        refine lv_iload_n hx hb dX1_rebuild_84 rfl (lv_at hl 2 rfl) ?_
        refine lv_aload_n hx hb dX1_rebuild_85 rfl (lv_at hl 0 rfl) ?_
        refine lv_iload_n hx hb dX1_rebuild_86 rfl (lv_at hl 2 rfl) ?_
        refine lv_aload_n hx hb dX1_rebuild_87 rfl (lv_at hl 1 rfl) ?_
        obtain ⟨r_77, hc_78, hden⟩ := bnd_s hden
        refine m_ci (wc := [(a_this, .inr (1, [.ref a_this_rows, .ref a_this_shorter, .ref a_this_ends, .ref a_this_leads, .int v_size_39])), (a_this_shorter, .inl (cI, 65, .inl v_shorter_63)), (a_this_ends, .inl (cI, 65, .inl v_ends_75)), (a_p1, .inl (cI, 8, .inl v_p1)), (a_this_rows, .inl (cI, 65, .inl v_rows_40))]) (wr := [(a_this_leads, .inl (cI, 260, .inl v_leads_64))]) (wc' := [(a_this, .inr (1, [.ref a_this_rows, .ref a_this_shorter, .ref a_this_ends, .ref a_this_leads, .int v_size_39])), (a_this_shorter, .inl (cI, 65, .inl v_shorter_63)), (a_this_ends, .inl (cI, 65, .inl v_ends_75)), (a_p1, .inl (cI, 8, .inl v_p1)), (a_this_rows, .inl (cI, 65, .inl v_rows_40))]) (va_runV (As := [.int x2_74, .ref a_p1]) (rest := [.int x2_74, .ref a_this_ends]) ⟨hx, hb, hml, hown, hts⟩ (c_X1_endsOf l D cI cM cL F hc_78) (cwV 2 hts gX1_rebuild_X1_endsOf rfl rfl rfl (by decide +kernel) ⟨Nat.le_of_ble_eq_true rfl, Nat.le_of_ble_eq_true rfl⟩) (mPreV (ci := 1) (q0 := 0) (r := (RX1, TX1, 5)) hP hD hK hN [0, 3, 4, 5, 1] (by decide) rfl rfl rfl) rfl rfl hl.1 rfl (lv_room (Nat.le_of_ble_eq_true rfl)) dX1_rebuild_88 ⟨Nat.le_of_ble_eq_true rfl, Nat.le_of_ble_eq_true rfl⟩) hP hD hS hA [0, 3, 4, 5, 1] [2] rfl rfl (by decide) (by decide) (fun H locs hP hD hS => ?_)
        have hP : va_P D vwCl [(a_this_leads, .inl (cI, 260, .inl v_leads_64)), (a_this, .inr (1, [.ref a_this_rows, .ref a_this_shorter, .ref a_this_ends, .ref a_this_leads, .int v_size_39])), (a_this_shorter, .inl (cI, 65, .inl v_shorter_63)), (a_this_ends, .inl (cI, 65, .inl v_ends_75)), (a_p1, .inl (cI, 8, .inl v_p1)), (a_this_rows, .inl (cI, 65, .inl v_rows_40))] H := hP
        have hD : va_D A [(a_this_leads, .inl (cI, 260, .inl v_leads_64)), (a_this, .inr (1, [.ref a_this_rows, .ref a_this_shorter, .ref a_this_ends, .ref a_this_leads, .int v_size_39])), (a_this_shorter, .inl (cI, 65, .inl v_shorter_63)), (a_this_ends, .inl (cI, 65, .inl v_ends_75)), (a_p1, .inl (cI, 8, .inl v_p1)), (a_this_rows, .inl (cI, 65, .inl v_rows_40))] := hD
        obtain ⟨v_ends_79, hc_80, hden⟩ := bnd_s hden
        refine m_cv (wc := [(a_this_ends, .inl (cI, 65, .inl v_ends_75))]) (wr := [(a_this_leads, .inl (cI, 260, .inl v_leads_64)), (a_this, .inr (1, [.ref a_this_rows, .ref a_this_shorter, .ref a_this_ends, .ref a_this_leads, .int v_size_39])), (a_this_shorter, .inl (cI, 65, .inl v_shorter_63)), (a_p1, .inl (cI, 8, .inl v_p1)), (a_this_rows, .inl (cI, 65, .inl v_rows_40))]) (wc' := [(a_this_ends, .inl (cI, 65, .inl v_ends_79))]) (va_runSN (As := [.ref a_this_ends, .int x2_74, .int r_77]) (rest := []) ⟨hx, hb, hml, hown, hts⟩ (c_X5_put l D cI cM cL F hc_80) ⟨va_cnB 3 hts gX1_rebuild_X5_put_n24 rfl rfl rfl hN.2.2.2.1 w_iX5 (by decide +kernel) ⟨Nat.le_of_ble_eq_true rfl, Nat.le_of_ble_eq_true rfl⟩, w_sX5_put, trivial⟩ (mPreS hP hD hK hN [3] (by decide) rfl) rfl rfl hl.1 rfl (lv_room (Nat.le_of_ble_eq_true rfl)) dX1_rebuild_91 ⟨Nat.le_of_ble_eq_true rfl, Nat.le_of_ble_eq_true rfl⟩) hP hD hS hA [3] [0, 1, 2, 4, 5] rfl rfl (by decide) (by decide) (fun H locs hP hD hS => ?_)
        have hP : va_P D vwCl [(a_this_leads, .inl (cI, 260, .inl v_leads_64)), (a_this, .inr (1, [.ref a_this_rows, .ref a_this_shorter, .ref a_this_ends, .ref a_this_leads, .int v_size_39])), (a_this_shorter, .inl (cI, 65, .inl v_shorter_63)), (a_p1, .inl (cI, 8, .inl v_p1)), (a_this_rows, .inl (cI, 65, .inl v_rows_40)), (a_this_ends, .inl (cI, 65, .inl v_ends_79))] H := hP
        have hD : va_D A [(a_this_leads, .inl (cI, 260, .inl v_leads_64)), (a_this, .inr (1, [.ref a_this_rows, .ref a_this_shorter, .ref a_this_ends, .ref a_this_leads, .int v_size_39])), (a_this_shorter, .inl (cI, 65, .inl v_shorter_63)), (a_p1, .inl (cI, 8, .inl v_p1)), (a_this_rows, .inl (cI, 65, .inl v_rows_40)), (a_this_ends, .inl (cI, 65, .inl v_ends_79))] := hD
        obtain ⟨x2_81, ex2_81, hden⟩ := nm_x hden
        refine lv_iinc (v := x2_81) (lv' := [(2, .int x2_81), (0, .ref a_this), (1, .ref a_p1)]) hx hb dX1_rebuild_94 hl (k := 2) rfl (by rw [ex2_81]; rfl) (by decide) rfl (fun ls hl => ?_)
        refine lv_goto (tgt := 72) hx hb dX1_rebuild_97 (by decide) ?_
        exact ih x2_81 v_ends_79 _ _ (mSubP hP [1, 4, 0, 2, 5, 3] rfl) (hD.sub [1, 4, 0, 2, 5, 3] (by decide) rfl) hS ls (lv_sub hl [1, 2, 0] rfl) hden
  exact hL72__76 F 0 v_ends _ _ (mSubP hP [3, 2, 5, 4, 0, 1] rfl) (hD.sub [3, 2, 5, 4, 0, 1] (by decide) rfl) hS ls (lv_sub hl [1, 2, 0] rfl) hden
def D_X3_letterAt (F : Nat) (p1 : Int32) (p2 : Int32) : Option (Int32) := bnd (D_X3_lengthOf F p1) (fun r_1 => (if r_1 ≤ p2 then some ((-1)) else bnd (D_X3_lastLetter F (p1 >>> (((2 : Int32) * ((r_1 - 1) - p2)) &&& 31))) (fun r_3 => some (r_3))))
def rm_X3_letterAt : Room := { frames := 1, cells := 0, slots := 0, locals := 21 }
set_option maxHeartbeats 4000000 in
set_option maxRecDepth 100000 in
theorem c_X3_letterAt (l : Launch) (D : va_G) (cI cM cL : ClassId) (F : Nat) {sz : Nat} {p1 : Int32} {p2 : Int32} {r0 : Int32} (hden : D_X3_letterAt F p1 p2 = some (r0)) : Met l yX3_letterAt wsX3_letterAt rm_X3_letterAt (va_Pc [.int p1, .int p2] (mB D (mTy cI cM cL) sz [])) (mQi D (va_A [] sz) [] r0) 0 0 (va_A [] sz) := by
  refine Met.ofW (cc := cX3_letterAt) (maxL := 3) (ret := (some .int)) (by decide) rfl ?_
  intro p e s m args below meth c s₁ B hml hv
  obtain ⟨rfl, hsz, hP, hK, hN, hD0⟩ := hv
  have hx := B.exec
  have hb := B.bytes
  have hr := B.returns
  have hts := atoms_spec (ws := wsX3_letterAt) B.pre
  have hown : s.vm.findClass RX3 = some m.cls := findClass_of_methodNamed B.named
  have hlocks := B.notSynchronized
  subst hsz
  have hD := hD0.self (sz := s.heap.size)
  generalize hAe : va_A [] s.heap.size = A at hD ⊢
  have hA : ∀ q : Nat, s.heap.size ≤ q → A q := fun q h => by rw [← hAe]; exact Or.inr h
  have hS : va_S A s.heap s.heap [] := va_S.rf
  have hl := lv_entry ([.int p1, .int p2]) (n := 3) (Nat.le_of_ble_eq_true rfl)
  rw [lg_entry_eq]
  generalize (lg_sl ([.int p1, .int p2]) ++ List.replicate (3 - (lg_sl ([.int p1, .int p2])).length) Slot.unset).toArray = ls at hl ⊢
  have hl : lv_has ls 3 [(0, .int p1), (1, .int p2)] := hl
  change W p l e rm_X3_letterAt s m (([.int p1, .int p2] : List Value).toArray) below meth c s.heap [] 0 0 _ (F0 m 0 ls [])
  generalize hQe : MQ below (mQi D A [] r0) (([.int p1, .int p2] : List Value).toArray) s 0 0 A = Q
  rw [D_X3_letterAt] at hden
  refine lv_iload_n hx hb dX3_letterAt_0 rfl (lv_at hl 0 rfl) ?_
  obtain ⟨r_1, hc_2, hden⟩ := bnd_s hden
  refine m_ci (wc := []) (wr := []) (wc' := []) (va_runS (As := [.int p1]) (rest := []) ⟨hx, hb, hml, hown, hts⟩ (c_X3_lengthOf l D cI cM cL F hc_2) (va_cwS 1 hts gX3_letterAt_X3_lengthOf rfl rfl rfl (by decide +kernel) ⟨Nat.le_of_ble_eq_true rfl, Nat.le_of_ble_eq_true rfl⟩) (mPreS hP hD hK hN [] (by decide) rfl) rfl rfl hl.1 rfl (lv_room (Nat.le_of_ble_eq_true rfl)) dX3_letterAt_1 ⟨Nat.le_of_ble_eq_true rfl, Nat.le_of_ble_eq_true rfl⟩) hP hD hS hA [] [] rfl rfl (by decide) (by decide) (fun H locs hP hD hS => ?_)
  have hP : va_P D vwCl [] H := hP
  have hD : va_D A [] := hD
  refine lv_istore_n (lv' := [(2, .int r_1), (0, .int p1), (1, .int p2)]) hx hb dX3_letterAt_4 rfl hl (by decide) rfl (fun ls hl => ?_)
  refine lv_iload_n hx hb dX3_letterAt_5 rfl (lv_at hl 2 rfl) ?_
  refine lv_iload_n hx hb dX3_letterAt_6 rfl (lv_at hl 0 rfl) ?_
  refine lv_icmp_ge (tgt := 25) hx hb dX3_letterAt_7 (by decide) (fun c_5 => ?_) (fun c_5 => ?_)
  · have hden := if_s hden c_5
    refine lv_iconst (v := (-1)) hx hb dX3_letterAt_25 (by decide) ?_
    subst hQe
    cases hden
    exact m_ri hx hb hr hP hD hS [] (by decide) rfl rfl dX3_letterAt_26 hlocks
  · have hden := ifn_s hden c_5
    refine lv_iload_n hx hb dX3_letterAt_10 rfl (lv_at hl 1 rfl) ?_
    refine lv_iconst (v := 2) hx hb dX3_letterAt_11 (by decide) ?_
    refine lv_iload_n hx hb dX3_letterAt_12 rfl (lv_at hl 0 rfl) ?_
    refine lv_iconst (v := 1) hx hb dX3_letterAt_13 (by decide) ?_
    refine lv_isub hx hb dX3_letterAt_14 ?_
    refine lv_iload_n hx hb dX3_letterAt_15 rfl (lv_at hl 2 rfl) ?_
    refine lv_isub hx hb dX3_letterAt_16 ?_
    refine lv_imul hx hb dX3_letterAt_17 ?_
    refine lv_ishr hx hb dX3_letterAt_18 ?_
    obtain ⟨r_3, hc_4, hden⟩ := bnd_s hden
    refine m_ci (wc := []) (wr := []) (wc' := []) (va_runS (As := [.int (p1 >>> (((2 : Int32) * ((r_1 - 1) - p2)) &&& 31))]) (rest := []) ⟨hx, hb, hml, hown, hts⟩ (c_X3_lastLetter l D cI cM cL F hc_4) (va_cwS 1 hts gX3_letterAt_X3_lastLetter rfl rfl rfl (by decide +kernel) ⟨Nat.le_of_ble_eq_true rfl, Nat.le_of_ble_eq_true rfl⟩) (mPreS hP hD hK hN [] (by decide) rfl) rfl rfl hl.1 rfl (lv_room (Nat.le_of_ble_eq_true rfl)) dX3_letterAt_19 ⟨Nat.le_of_ble_eq_true rfl, Nat.le_of_ble_eq_true rfl⟩) hP hD hS hA [] [] rfl rfl (by decide) (by decide) (fun H locs hP hD hS => ?_)
    have hP : va_P D vwCl [] H := hP
    have hD : va_D A [] := hD
    refine lv_goto (tgt := 26) hx hb dX3_letterAt_22 (by decide) ?_
    subst hQe
    cases hden
    exact m_ri hx hb hr hP hD hS [] (by decide) rfl rfl dX3_letterAt_26 hlocks
def L_X1_stateBehind_10 (F : Nat) (y1 : Int32) (y3 : Int32) (v_leads : (Nat → Int32)) : Nat → Int32 → Int32 → Option (Int32)
  | 0, _, _ => none
  | n + 1, x2_3, x4_4 => (if y3 ≤ x4_4 then some (x2_3) else bnd (D_X3_letterAt F y1 x4_4) (fun r_5 => bnd (D_X1_leadsTo F x2_3 r_5 v_leads) (fun r_7 => nm (x4_4 + 1) (fun x4_9 => L_X1_stateBehind_10 F y1 y3 v_leads n r_7 x4_9))))
def D_X1_stateBehind (F : Nat) (p1 : Int32) (v_leads : (Nat → Int32)) : Option (Int32) := bnd (D_X3_lengthOf F p1) (fun r_1 => L_X1_stateBehind_10 F p1 r_1 v_leads F 0 0)
def rm_X1_stateBehind : Room := { frames := 2, cells := 0, slots := 0, locals := 43 }
set_option maxHeartbeats 4000000 in
set_option maxRecDepth 100000 in
theorem c_X1_stateBehind (l : Launch) (D : va_G) (cI cM cL : ClassId) (F : Nat) {a_this a_this_rows a_this_shorter a_this_ends a_this_leads : Nat} {sz : Nat} {v_size : Int32} {v_leads : Nat → Int32} {p1 : Int32} {r0 : Int32} (hden : D_X1_stateBehind F p1 v_leads = some (r0)) : Met l yX1_stateBehind wsX1_stateBehind rm_X1_stateBehind (va_Pc [.ref a_this, .int p1] (mB D (mTy cI cM cL) sz [(a_this, .inr (1, [.ref a_this_rows, .ref a_this_shorter, .ref a_this_ends, .ref a_this_leads, .int v_size])), (a_this_leads, .inl (cI, 260, .inl v_leads))])) (mQi D (va_A [(a_this, .inr (1, [.ref a_this_rows, .ref a_this_shorter, .ref a_this_ends, .ref a_this_leads, .int v_size])), (a_this_leads, .inl (cI, 260, .inl v_leads))] sz) [(a_this, .inr (1, [.ref a_this_rows, .ref a_this_shorter, .ref a_this_ends, .ref a_this_leads, .int v_size])), (a_this_leads, .inl (cI, 260, .inl v_leads))] r0) 0 0 (va_A [(a_this, .inr (1, [.ref a_this_rows, .ref a_this_shorter, .ref a_this_ends, .ref a_this_leads, .int v_size])), (a_this_leads, .inl (cI, 260, .inl v_leads))] sz) := by
  refine Met.ofW (cc := cX1_stateBehind) (maxL := 5) (ret := (some .int)) (by decide) rfl ?_
  intro p e s m args below meth c s₁ B hml hv
  obtain ⟨rfl, hsz, hP, hK, hN, hD0⟩ := hv
  have hx := B.exec
  have hb := B.bytes
  have hr := B.returns
  have hts := atoms_spec (ws := wsX1_stateBehind) B.pre
  have hown : s.vm.findClass RX1 = some m.cls := findClass_of_methodNamed B.named
  have hlocks := B.notSynchronized
  subst hsz
  have hD := hD0.self (sz := s.heap.size)
  generalize hAe : va_A [(a_this, .inr (1, [.ref a_this_rows, .ref a_this_shorter, .ref a_this_ends, .ref a_this_leads, .int v_size])), (a_this_leads, .inl (cI, 260, .inl v_leads))] s.heap.size = A at hD ⊢
  have hA : ∀ q : Nat, s.heap.size ≤ q → A q := fun q h => by rw [← hAe]; exact Or.inr h
  have hS : va_S A s.heap s.heap [] := va_S.rf
  have hl := lv_entry ([.ref a_this, .int p1]) (n := 5) (Nat.le_of_ble_eq_true rfl)
  rw [lg_entry_eq]
  generalize (lg_sl ([.ref a_this, .int p1]) ++ List.replicate (5 - (lg_sl ([.ref a_this, .int p1])).length) Slot.unset).toArray = ls at hl ⊢
  have hl : lv_has ls 5 [(0, .ref a_this), (1, .int p1)] := hl
  change W p l e rm_X1_stateBehind s m (([.ref a_this, .int p1] : List Value).toArray) below meth c s.heap [] 0 0 _ (F0 m 0 ls [])
  generalize hQe : MQ below (mQi D A [(a_this, .inr (1, [.ref a_this_rows, .ref a_this_shorter, .ref a_this_ends, .ref a_this_leads, .int v_size])), (a_this_leads, .inl (cI, 260, .inl v_leads))] r0) (([.ref a_this, .int p1] : List Value).toArray) s 0 0 A = Q
  rw [D_X1_stateBehind] at hden
  refine lv_iconst (v := 0) hx hb dX1_stateBehind_0 (by decide) ?_
  refine lv_istore_n (lv' := [(2, .int 0), (0, .ref a_this), (1, .int p1)]) hx hb dX1_stateBehind_1 rfl hl (by decide) rfl (fun ls hl => ?_)
  refine lv_iload_n hx hb dX1_stateBehind_2 rfl (lv_at hl 2 rfl) ?_
  obtain ⟨r_1, hc_2, hden⟩ := bnd_s hden
  refine m_ci (wc := []) (wr := [(a_this, .inr (1, [.ref a_this_rows, .ref a_this_shorter, .ref a_this_ends, .ref a_this_leads, .int v_size])), (a_this_leads, .inl (cI, 260, .inl v_leads))]) (wc' := []) (va_runS (As := [.int p1]) (rest := []) ⟨hx, hb, hml, hown, hts⟩ (c_X3_lengthOf l D cI cM cL F hc_2) (va_cwS 1 hts gX1_stateBehind_X3_lengthOf rfl rfl rfl (by decide +kernel) ⟨Nat.le_of_ble_eq_true rfl, Nat.le_of_ble_eq_true rfl⟩) (mPreS hP hD hK hN [] (by decide) rfl) rfl rfl hl.1 rfl (lv_room (Nat.le_of_ble_eq_true rfl)) dX1_stateBehind_3 ⟨Nat.le_of_ble_eq_true rfl, Nat.le_of_ble_eq_true rfl⟩) hP hD hS hA [] [0, 1] rfl rfl (by decide) (by decide) (fun H locs hP hD hS => ?_)
  have hP : va_P D vwCl [(a_this, .inr (1, [.ref a_this_rows, .ref a_this_shorter, .ref a_this_ends, .ref a_this_leads, .int v_size])), (a_this_leads, .inl (cI, 260, .inl v_leads))] H := hP
  have hD : va_D A [(a_this, .inr (1, [.ref a_this_rows, .ref a_this_shorter, .ref a_this_ends, .ref a_this_leads, .int v_size])), (a_this_leads, .inl (cI, 260, .inl v_leads))] := hD
  refine lv_istore_n (lv' := [(3, .int r_1), (2, .int 0), (0, .ref a_this), (1, .int p1)]) hx hb dX1_stateBehind_6 rfl hl (by decide) rfl (fun ls hl => ?_)
  refine lv_iconst (v := 0) hx hb dX1_stateBehind_7 (by decide) ?_
  refine lv_istore (lv' := [(4, .int 0), (3, .int r_1), (2, .int 0), (0, .ref a_this), (1, .int p1)]) hx hb dX1_stateBehind_8 hl (by decide) rfl (fun ls hl => ?_)
  have hL10__13 : ∀ (n : Nat) (x2_11 : Int32) (x4_12 : Int32) (H : Heap) (locs : List Loc), va_P D vwCl [(a_this, .inr (1, [.ref a_this_rows, .ref a_this_shorter, .ref a_this_ends, .ref a_this_leads, .int v_size])), (a_this_leads, .inl (cI, 260, .inl v_leads))] H → va_D A [(a_this, .inr (1, [.ref a_this_rows, .ref a_this_shorter, .ref a_this_ends, .ref a_this_leads, .int v_size])), (a_this_leads, .inl (cI, 260, .inl v_leads))] → va_S A s.heap H locs → ∀ ls : Array Slot, lv_has ls 5 [(0, .ref a_this), (1, .int p1), (2, .int x2_11), (3, .int r_1), (4, .int x4_12)] → L_X1_stateBehind_10 F p1 r_1 v_leads n x2_11 x4_12 = some (r0) → W p l e rm_X1_stateBehind s m (([.ref a_this, .int p1] : List Value).toArray) below meth c H locs 0 0 Q (F0 m 10 ls []) := by
    intro n
    induction n with
    | zero => intro x2_11 x4_12 H locs hP hD hS ls hl hden; exact no_none hden
    | succ n ih =>
      intro x2_11 x4_12 H locs hP hD hS ls hl hden
      rw [L_X1_stateBehind_10] at hden
      refine lv_iload hx hb dX1_stateBehind_10 (lv_at hl 4 rfl) ?_
      refine lv_iload_n hx hb dX1_stateBehind_12 rfl (lv_at hl 3 rfl) ?_
      refine lv_icmp_ge (tgt := 34) hx hb dX1_stateBehind_13 (by decide) (fun c_19 => ?_) (fun c_19 => ?_)
      · have hden := if_s hden c_19
        refine lv_iload_n hx hb dX1_stateBehind_34 rfl (lv_at hl 2 rfl) ?_
        subst hQe
        cases hden
        exact m_ri hx hb hr hP hD hS [0, 1] (by decide) rfl rfl dX1_stateBehind_35 hlocks
      · have hden := ifn_s hden c_19
        refine lv_aload_n hx hb dX1_stateBehind_16 rfl (lv_at hl 0 rfl) ?_
        refine lv_iload_n hx hb dX1_stateBehind_17 rfl (lv_at hl 2 rfl) ?_
        refine lv_iload_n hx hb dX1_stateBehind_18 rfl (lv_at hl 1 rfl) ?_
        refine lv_iload hx hb dX1_stateBehind_19 (lv_at hl 4 rfl) ?_
        obtain ⟨r_14, hc_15, hden⟩ := bnd_s hden
        refine m_ci (wc := []) (wr := [(a_this, .inr (1, [.ref a_this_rows, .ref a_this_shorter, .ref a_this_ends, .ref a_this_leads, .int v_size])), (a_this_leads, .inl (cI, 260, .inl v_leads))]) (wc' := []) (va_runS (As := [.int p1, .int x4_12]) (rest := [.int x2_11, .ref a_this]) ⟨hx, hb, hml, hown, hts⟩ (c_X3_letterAt l D cI cM cL F hc_15) (va_cwS 2 hts gX1_stateBehind_X3_letterAt rfl rfl rfl (by decide +kernel) ⟨Nat.le_of_ble_eq_true rfl, Nat.le_of_ble_eq_true rfl⟩) (mPreS hP hD hK hN [] (by decide) rfl) rfl rfl hl.1 rfl (lv_room (Nat.le_of_ble_eq_true rfl)) dX1_stateBehind_21 ⟨Nat.le_of_ble_eq_true rfl, Nat.le_of_ble_eq_true rfl⟩) hP hD hS hA [] [0, 1] rfl rfl (by decide) (by decide) (fun H locs hP hD hS => ?_)
        have hP : va_P D vwCl [(a_this, .inr (1, [.ref a_this_rows, .ref a_this_shorter, .ref a_this_ends, .ref a_this_leads, .int v_size])), (a_this_leads, .inl (cI, 260, .inl v_leads))] H := hP
        have hD : va_D A [(a_this, .inr (1, [.ref a_this_rows, .ref a_this_shorter, .ref a_this_ends, .ref a_this_leads, .int v_size])), (a_this_leads, .inl (cI, 260, .inl v_leads))] := hD
        obtain ⟨r_16, hc_17, hden⟩ := bnd_s hden
        refine m_ci (wc := [(a_this, .inr (1, [.ref a_this_rows, .ref a_this_shorter, .ref a_this_ends, .ref a_this_leads, .int v_size])), (a_this_leads, .inl (cI, 260, .inl v_leads))]) (wr := []) (wc' := [(a_this, .inr (1, [.ref a_this_rows, .ref a_this_shorter, .ref a_this_ends, .ref a_this_leads, .int v_size])), (a_this_leads, .inl (cI, 260, .inl v_leads))]) (va_runV (As := [.int x2_11, .int r_14]) (rest := []) ⟨hx, hb, hml, hown, hts⟩ (c_X1_leadsTo l D cI cM cL F hc_17) (cwV 2 hts gX1_stateBehind_X1_leadsTo rfl rfl rfl (by decide +kernel) ⟨Nat.le_of_ble_eq_true rfl, Nat.le_of_ble_eq_true rfl⟩) (mPreV (ci := 1) (q0 := 0) (r := (RX1, TX1, 5)) hP hD hK hN [0, 1] (by decide) rfl rfl rfl) rfl rfl hl.1 rfl (lv_room (Nat.le_of_ble_eq_true rfl)) dX1_stateBehind_24 ⟨Nat.le_of_ble_eq_true rfl, Nat.le_of_ble_eq_true rfl⟩) hP hD hS hA [0, 1] [] rfl rfl (by decide) (by decide) (fun H locs hP hD hS => ?_)
        have hP : va_P D vwCl [(a_this, .inr (1, [.ref a_this_rows, .ref a_this_shorter, .ref a_this_ends, .ref a_this_leads, .int v_size])), (a_this_leads, .inl (cI, 260, .inl v_leads))] H := hP
        have hD : va_D A [(a_this, .inr (1, [.ref a_this_rows, .ref a_this_shorter, .ref a_this_ends, .ref a_this_leads, .int v_size])), (a_this_leads, .inl (cI, 260, .inl v_leads))] := hD
        refine lv_istore_n (lv' := [(2, .int r_16), (0, .ref a_this), (1, .int p1), (3, .int r_1), (4, .int x4_12)]) hx hb dX1_stateBehind_27 rfl hl (by decide) rfl (fun ls hl => ?_)
        obtain ⟨x4_18, ex4_18, hden⟩ := nm_x hden
        refine lv_iinc (v := x4_18) (lv' := [(4, .int x4_18), (2, .int r_16), (0, .ref a_this), (1, .int p1), (3, .int r_1)]) hx hb dX1_stateBehind_28 hl (k := 4) rfl (by rw [ex4_18]; rfl) (by decide) rfl (fun ls hl => ?_)
        refine lv_goto (tgt := 10) hx hb dX1_stateBehind_31 (by decide) ?_
        exact ih r_16 x4_18 _ _ (mSubP hP [0, 1] rfl) (hD.sub [0, 1] (by decide) rfl) hS ls (lv_sub hl [2, 3, 1, 4, 0] rfl) hden
  exact hL10__13 F 0 0 _ _ (mSubP hP [0, 1] rfl) (hD.sub [0, 1] (by decide) rfl) hS ls (lv_sub hl [3, 4, 2, 1, 0] rfl) hden
def D_X3_behind (F : Nat) (p1 : Int32) (p2 : Int32) : Option (Int32) := some (((p1 <<< (2 &&& 31)) ||| (p2 &&& 3)))
def rm_X3_behind : Room := { frames := 0, cells := 0, slots := 0, locals := 0 }
set_option maxHeartbeats 4000000 in
set_option maxRecDepth 100000 in
theorem c_X3_behind (l : Launch) (D : va_G) (cI cM cL : ClassId) (F : Nat) {sz : Nat} {p1 : Int32} {p2 : Int32} {r0 : Int32} (hden : D_X3_behind F p1 p2 = some (r0)) : Met l yX3_behind wsX3_behind rm_X3_behind (va_Pc [.int p1, .int p2] (mB D (mTy cI cM cL) sz [])) (mQi D (va_A [] sz) [] r0) 0 0 (va_A [] sz) := by
  refine Met.ofW (cc := cX3_behind) (maxL := 2) (ret := (some .int)) (by decide) rfl ?_
  intro p e s m args below meth c s₁ B hml hv
  obtain ⟨rfl, hsz, hP, hK, hN, hD0⟩ := hv
  have hx := B.exec
  have hb := B.bytes
  have hr := B.returns
  have hts := atoms_spec (ws := wsX3_behind) B.pre
  have hown : s.vm.findClass RX3 = some m.cls := findClass_of_methodNamed B.named
  have hlocks := B.notSynchronized
  subst hsz
  have hD := hD0.self (sz := s.heap.size)
  generalize hAe : va_A [] s.heap.size = A at hD ⊢
  have hA : ∀ q : Nat, s.heap.size ≤ q → A q := fun q h => by rw [← hAe]; exact Or.inr h
  have hS : va_S A s.heap s.heap [] := va_S.rf
  have hl := lv_entry ([.int p1, .int p2]) (n := 2) (Nat.le_of_ble_eq_true rfl)
  rw [lg_entry_eq]
  generalize (lg_sl ([.int p1, .int p2]) ++ List.replicate (2 - (lg_sl ([.int p1, .int p2])).length) Slot.unset).toArray = ls at hl ⊢
  have hl : lv_has ls 2 [(0, .int p1), (1, .int p2)] := hl
  change W p l e rm_X3_behind s m (([.int p1, .int p2] : List Value).toArray) below meth c s.heap [] 0 0 _ (F0 m 0 ls [])
  generalize hQe : MQ below (mQi D A [] r0) (([.int p1, .int p2] : List Value).toArray) s 0 0 A = Q
  rw [D_X3_behind] at hden
  refine lv_iload_n hx hb dX3_behind_0 rfl (lv_at hl 0 rfl) ?_
  refine lv_iconst (v := 2) hx hb dX3_behind_1 (by decide) ?_
  refine lv_ishl hx hb dX3_behind_2 ?_
  refine lv_iload_n hx hb dX3_behind_3 rfl (lv_at hl 1 rfl) ?_
  refine lv_iconst (v := 3) hx hb dX3_behind_4 (by decide) ?_
  refine lv_iand hx hb dX3_behind_5 ?_
  refine lv_ior hx hb dX3_behind_6 ?_
  subst hQe
  cases hden
  exact m_ri hx hb hr hP hD hS [] (by decide) rfl rfl dX3_behind_7 hlocks
def D_X1_goesOn (F : Nat) (p1 : Int32) (p2 : Int32) (v_leads : (Nat → Int32)) (v_rows : (Nat → Int32)) : Option (Int32) := bnd (D_X1_leadsTo F p1 p2 v_leads) (fun r_1 => bnd (D_X5_at F 65 r_1 v_rows) (fun r_3 => bnd (D_X5_at F 65 p1 v_rows) (fun r_5 => bnd (D_X3_behind F r_5 p2) (fun r_7 => (if r_3 = r_7 then some (1) else some (0))))))
def rm_X1_goesOn : Room := { frames := 2, cells := 0, slots := 0, locals := 43 }
set_option maxHeartbeats 4000000 in
set_option maxRecDepth 100000 in
theorem c_X1_goesOn (l : Launch) (D : va_G) (cI cM cL : ClassId) (F : Nat) {a_this a_this_rows a_this_shorter a_this_ends a_this_leads : Nat} {sz : Nat} {v_size : Int32} {v_leads v_rows : Nat → Int32} {p1 : Int32} {p2 : Int32} {r0 : Int32} (hden : D_X1_goesOn F p1 p2 v_leads v_rows = some (r0)) : Met l yX1_goesOn wsX1_goesOn rm_X1_goesOn (va_Pc [.ref a_this, .int p1, .int p2] (mB D (mTy cI cM cL) sz [(a_this, .inr (1, [.ref a_this_rows, .ref a_this_shorter, .ref a_this_ends, .ref a_this_leads, .int v_size])), (a_this_leads, .inl (cI, 260, .inl v_leads)), (a_this_rows, .inl (cI, 65, .inl v_rows))])) (mQi D (va_A [(a_this, .inr (1, [.ref a_this_rows, .ref a_this_shorter, .ref a_this_ends, .ref a_this_leads, .int v_size])), (a_this_leads, .inl (cI, 260, .inl v_leads)), (a_this_rows, .inl (cI, 65, .inl v_rows))] sz) [(a_this, .inr (1, [.ref a_this_rows, .ref a_this_shorter, .ref a_this_ends, .ref a_this_leads, .int v_size])), (a_this_leads, .inl (cI, 260, .inl v_leads)), (a_this_rows, .inl (cI, 65, .inl v_rows))] r0) 0 0 (va_A [(a_this, .inr (1, [.ref a_this_rows, .ref a_this_shorter, .ref a_this_ends, .ref a_this_leads, .int v_size])), (a_this_leads, .inl (cI, 260, .inl v_leads)), (a_this_rows, .inl (cI, 65, .inl v_rows))] sz) := by
  refine Met.ofW (cc := cX1_goesOn) (maxL := 3) (ret := (some .boolean)) (by decide) rfl ?_
  intro p e s m args below meth c s₁ B hml hv
  obtain ⟨rfl, hsz, hP, hK, hN, hD0⟩ := hv
  have hx := B.exec
  have hb := B.bytes
  have hr := B.returns
  have hts := atoms_spec (ws := wsX1_goesOn) B.pre
  have hown : s.vm.findClass RX1 = some m.cls := findClass_of_methodNamed B.named
  have hlocks := B.notSynchronized
  subst hsz
  have hD := hD0.self (sz := s.heap.size)
  generalize hAe : va_A [(a_this, .inr (1, [.ref a_this_rows, .ref a_this_shorter, .ref a_this_ends, .ref a_this_leads, .int v_size])), (a_this_leads, .inl (cI, 260, .inl v_leads)), (a_this_rows, .inl (cI, 65, .inl v_rows))] s.heap.size = A at hD ⊢
  have hA : ∀ q : Nat, s.heap.size ≤ q → A q := fun q h => by rw [← hAe]; exact Or.inr h
  have hS : va_S A s.heap s.heap [] := va_S.rf
  have hl := lv_entry ([.ref a_this, .int p1, .int p2]) (n := 3) (Nat.le_of_ble_eq_true rfl)
  rw [lg_entry_eq]
  generalize (lg_sl ([.ref a_this, .int p1, .int p2]) ++ List.replicate (3 - (lg_sl ([.ref a_this, .int p1, .int p2])).length) Slot.unset).toArray = ls at hl ⊢
  have hl : lv_has ls 3 [(0, .ref a_this), (1, .int p1), (2, .int p2)] := hl
  change W p l e rm_X1_goesOn s m (([.ref a_this, .int p1, .int p2] : List Value).toArray) below meth c s.heap [] 0 0 _ (F0 m 0 ls [])
  generalize hQe : MQ below (mQi D A [(a_this, .inr (1, [.ref a_this_rows, .ref a_this_shorter, .ref a_this_ends, .ref a_this_leads, .int v_size])), (a_this_leads, .inl (cI, 260, .inl v_leads)), (a_this_rows, .inl (cI, 65, .inl v_rows))] r0) (([.ref a_this, .int p1, .int p2] : List Value).toArray) s 0 0 A = Q
  rw [D_X1_goesOn] at hden
  have hin_X1 : ∀ w ∈ wsX10, w ∈ wsX1_goesOn := by decide +kernel
  have w_9 := hts (.fieldLink RX1 9 "FallingPatterns$Machine" "rows" "[I") (by decide +kernel)
  have w_iX5 := hts (.initialized RX5) (by decide +kernel)
  have w_sX5_at := hts (.static yX5_at) (by decide +kernel)
  refine lv_aload_n hx hb dX1_goesOn_0 rfl (lv_at hl 0 rfl) ?_
  refine va_get (D := D) (ci := 1) (v := .ref a_this_rows) (C := RX1) (T := TX1) (N := 5) hx hb hts hin_X1 hown hK hP 0 rfl rfl 0 (by decide) w_9 (fun _ h9 => h9) rfl dX1_goesOn_1 ?_
  refine lv_aload_n hx hb dX1_goesOn_4 rfl (lv_at hl 0 rfl) ?_
  refine lv_iload_n hx hb dX1_goesOn_5 rfl (lv_at hl 1 rfl) ?_
  refine lv_iload_n hx hb dX1_goesOn_6 rfl (lv_at hl 2 rfl) ?_
  obtain ⟨r_1, hc_2, hden⟩ := bnd_s hden
  refine m_ci (wc := [(a_this, .inr (1, [.ref a_this_rows, .ref a_this_shorter, .ref a_this_ends, .ref a_this_leads, .int v_size])), (a_this_leads, .inl (cI, 260, .inl v_leads))]) (wr := [(a_this_rows, .inl (cI, 65, .inl v_rows))]) (wc' := [(a_this, .inr (1, [.ref a_this_rows, .ref a_this_shorter, .ref a_this_ends, .ref a_this_leads, .int v_size])), (a_this_leads, .inl (cI, 260, .inl v_leads))]) (va_runV (As := [.int p1, .int p2]) (rest := [.ref a_this_rows]) ⟨hx, hb, hml, hown, hts⟩ (c_X1_leadsTo l D cI cM cL F hc_2) (cwV 2 hts gX1_goesOn_X1_leadsTo rfl rfl rfl (by decide +kernel) ⟨Nat.le_of_ble_eq_true rfl, Nat.le_of_ble_eq_true rfl⟩) (mPreV (ci := 1) (q0 := 0) (r := (RX1, TX1, 5)) hP hD hK hN [0, 1] (by decide) rfl rfl rfl) rfl rfl hl.1 rfl (lv_room (Nat.le_of_ble_eq_true rfl)) dX1_goesOn_7 ⟨Nat.le_of_ble_eq_true rfl, Nat.le_of_ble_eq_true rfl⟩) hP hD hS hA [0, 1] [2] rfl rfl (by decide) (by decide) (fun H locs hP hD hS => ?_)
  have hP : va_P D vwCl [(a_this_rows, .inl (cI, 65, .inl v_rows)), (a_this, .inr (1, [.ref a_this_rows, .ref a_this_shorter, .ref a_this_ends, .ref a_this_leads, .int v_size])), (a_this_leads, .inl (cI, 260, .inl v_leads))] H := hP
  have hD : va_D A [(a_this_rows, .inl (cI, 65, .inl v_rows)), (a_this, .inr (1, [.ref a_this_rows, .ref a_this_shorter, .ref a_this_ends, .ref a_this_leads, .int v_size])), (a_this_leads, .inl (cI, 260, .inl v_leads))] := hD
  obtain ⟨r_3, hc_4, hden⟩ := bnd_s hden
  refine m_ci (wc := [(a_this_rows, .inl (cI, 65, .inl v_rows))]) (wr := [(a_this, .inr (1, [.ref a_this_rows, .ref a_this_shorter, .ref a_this_ends, .ref a_this_leads, .int v_size])), (a_this_leads, .inl (cI, 260, .inl v_leads))]) (wc' := [(a_this_rows, .inl (cI, 65, .inl v_rows))]) (va_runSN (As := [.ref a_this_rows, .int r_1]) (rest := []) ⟨hx, hb, hml, hown, hts⟩ (c_X5_at l D cI cM cL F hc_4) ⟨va_cnB 2 hts gX1_goesOn_X5_at_n36 rfl rfl rfl hN.2.2.1 w_iX5 (by decide +kernel) ⟨Nat.le_of_ble_eq_true rfl, Nat.le_of_ble_eq_true rfl⟩, w_sX5_at, trivial⟩ (mPreS hP hD hK hN [0] (by decide) rfl) rfl rfl hl.1 rfl (lv_room (Nat.le_of_ble_eq_true rfl)) dX1_goesOn_10 ⟨Nat.le_of_ble_eq_true rfl, Nat.le_of_ble_eq_true rfl⟩) hP hD hS hA [0] [1, 2] rfl rfl (by decide) (by decide) (fun H locs hP hD hS => ?_)
  have hP : va_P D vwCl [(a_this, .inr (1, [.ref a_this_rows, .ref a_this_shorter, .ref a_this_ends, .ref a_this_leads, .int v_size])), (a_this_leads, .inl (cI, 260, .inl v_leads)), (a_this_rows, .inl (cI, 65, .inl v_rows))] H := hP
  have hD : va_D A [(a_this, .inr (1, [.ref a_this_rows, .ref a_this_shorter, .ref a_this_ends, .ref a_this_leads, .int v_size])), (a_this_leads, .inl (cI, 260, .inl v_leads)), (a_this_rows, .inl (cI, 65, .inl v_rows))] := hD
  refine lv_aload_n hx hb dX1_goesOn_13 rfl (lv_at hl 0 rfl) ?_
  refine va_get (D := D) (ci := 1) (v := .ref a_this_rows) (C := RX1) (T := TX1) (N := 5) hx hb hts hin_X1 hown hK hP 0 rfl rfl 0 (by decide) w_9 (fun _ h9 => h9) rfl dX1_goesOn_14 ?_
  refine lv_iload_n hx hb dX1_goesOn_17 rfl (lv_at hl 1 rfl) ?_
  obtain ⟨r_5, hc_6, hden⟩ := bnd_s hden
  refine m_ci (wc := [(a_this_rows, .inl (cI, 65, .inl v_rows))]) (wr := [(a_this, .inr (1, [.ref a_this_rows, .ref a_this_shorter, .ref a_this_ends, .ref a_this_leads, .int v_size])), (a_this_leads, .inl (cI, 260, .inl v_leads))]) (wc' := [(a_this_rows, .inl (cI, 65, .inl v_rows))]) (va_runSN (As := [.ref a_this_rows, .int p1]) (rest := [.int r_3]) ⟨hx, hb, hml, hown, hts⟩ (c_X5_at l D cI cM cL F hc_6) ⟨va_cnB 2 hts gX1_goesOn_X5_at_n36 rfl rfl rfl hN.2.2.1 w_iX5 (by decide +kernel) ⟨Nat.le_of_ble_eq_true rfl, Nat.le_of_ble_eq_true rfl⟩, w_sX5_at, trivial⟩ (mPreS hP hD hK hN [2] (by decide) rfl) rfl rfl hl.1 rfl (lv_room (Nat.le_of_ble_eq_true rfl)) dX1_goesOn_18 ⟨Nat.le_of_ble_eq_true rfl, Nat.le_of_ble_eq_true rfl⟩) hP hD hS hA [2] [0, 1] rfl rfl (by decide) (by decide) (fun H locs hP hD hS => ?_)
  have hP : va_P D vwCl [(a_this, .inr (1, [.ref a_this_rows, .ref a_this_shorter, .ref a_this_ends, .ref a_this_leads, .int v_size])), (a_this_leads, .inl (cI, 260, .inl v_leads)), (a_this_rows, .inl (cI, 65, .inl v_rows))] H := hP
  have hD : va_D A [(a_this, .inr (1, [.ref a_this_rows, .ref a_this_shorter, .ref a_this_ends, .ref a_this_leads, .int v_size])), (a_this_leads, .inl (cI, 260, .inl v_leads)), (a_this_rows, .inl (cI, 65, .inl v_rows))] := hD
  refine lv_iload_n hx hb dX1_goesOn_21 rfl (lv_at hl 2 rfl) ?_
  obtain ⟨r_7, hc_8, hden⟩ := bnd_s hden
  refine m_ci (wc := []) (wr := [(a_this, .inr (1, [.ref a_this_rows, .ref a_this_shorter, .ref a_this_ends, .ref a_this_leads, .int v_size])), (a_this_leads, .inl (cI, 260, .inl v_leads)), (a_this_rows, .inl (cI, 65, .inl v_rows))]) (wc' := []) (va_runS (As := [.int r_5, .int p2]) (rest := [.int r_3]) ⟨hx, hb, hml, hown, hts⟩ (c_X3_behind l D cI cM cL F hc_8) (va_cwS 2 hts gX1_goesOn_X3_behind rfl rfl rfl (by decide +kernel) ⟨Nat.le_of_ble_eq_true rfl, Nat.le_of_ble_eq_true rfl⟩) (mPreS hP hD hK hN [] (by decide) rfl) rfl rfl hl.1 rfl (lv_room (Nat.le_of_ble_eq_true rfl)) dX1_goesOn_22 ⟨Nat.le_of_ble_eq_true rfl, Nat.le_of_ble_eq_true rfl⟩) hP hD hS hA [] [0, 1, 2] rfl rfl (by decide) (by decide) (fun H locs hP hD hS => ?_)
  have hP : va_P D vwCl [(a_this, .inr (1, [.ref a_this_rows, .ref a_this_shorter, .ref a_this_ends, .ref a_this_leads, .int v_size])), (a_this_leads, .inl (cI, 260, .inl v_leads)), (a_this_rows, .inl (cI, 65, .inl v_rows))] H := hP
  have hD : va_D A [(a_this, .inr (1, [.ref a_this_rows, .ref a_this_shorter, .ref a_this_ends, .ref a_this_leads, .int v_size])), (a_this_leads, .inl (cI, 260, .inl v_leads)), (a_this_rows, .inl (cI, 65, .inl v_rows))] := hD
  refine lv_icmp_ne (tgt := 32) hx hb dX1_goesOn_25 (by decide) (fun c_9 => ?_) (fun c_9 => ?_)
  · have hden := ifn_s hden c_9
    refine lv_iconst (v := 0) hx hb dX1_goesOn_32 (by decide) ?_
    subst hQe
    cases hden
    exact m_rz hx hb hr hP hD hS [0, 1, 2] (by decide) rfl rfl (by decide) dX1_goesOn_33 hlocks
  · have hden := if_s hden c_9
    refine lv_iconst (v := 1) hx hb dX1_goesOn_28 (by decide) ?_
    refine lv_goto (tgt := 33) hx hb dX1_goesOn_29 (by decide) ?_
    subst hQe
    cases hden
    exact m_rz hx hb hr hP hD hS [0, 1, 2] (by decide) rfl rfl (by decide) dX1_goesOn_33 hlocks
def L_X1_fallsBefore_5 (F : Nat) (y2 : Int32) (v_leads : (Nat → Int32)) (v_rows : (Nat → Int32)) (v_shorter : (Nat → Int32)) : Nat → Int32 → Int32 → Option (Int32)
  | 0, _, _ => none
  | n + 1, x3_1, x4_2 => (if 8 < x4_2 then some (9) else bnd (D_X1_goesOn F x3_1 y2 v_leads v_rows) (fun r_3 => (if r_3 = 0 then (if x3_1 = 0 then some ((x4_2 + 1)) else bnd (D_X5_at F 65 x3_1 v_shorter) (fun r_5 => nm (x4_2 + 1) (fun x4_7 => L_X1_fallsBefore_5 F y2 v_leads v_rows v_shorter n r_5 x4_7))) else some (x4_2))))
def D_X1_fallsBefore (F : Nat) (p1 : Int32) (p2 : Int32) (v_leads : (Nat → Int32)) (v_rows : (Nat → Int32)) (v_shorter : (Nat → Int32)) : Option (Int32) := L_X1_fallsBefore_5 F p2 v_leads v_rows v_shorter F p1 0
def rm_X1_fallsBefore : Room := { frames := 3, cells := 0, slots := 0, locals := 65 }
set_option maxHeartbeats 4000000 in
set_option maxRecDepth 100000 in
theorem c_X1_fallsBefore (l : Launch) (D : va_G) (cI cM cL : ClassId) (F : Nat) {a_this a_this_rows a_this_shorter a_this_ends a_this_leads : Nat} {sz : Nat} {v_size : Int32} {v_leads v_rows v_shorter : Nat → Int32} {p1 : Int32} {p2 : Int32} {r0 : Int32} (hden : D_X1_fallsBefore F p1 p2 v_leads v_rows v_shorter = some (r0)) : Met l yX1_fallsBefore wsX1_fallsBefore rm_X1_fallsBefore (va_Pc [.ref a_this, .int p1, .int p2] (mB D (mTy cI cM cL) sz [(a_this, .inr (1, [.ref a_this_rows, .ref a_this_shorter, .ref a_this_ends, .ref a_this_leads, .int v_size])), (a_this_leads, .inl (cI, 260, .inl v_leads)), (a_this_rows, .inl (cI, 65, .inl v_rows)), (a_this_shorter, .inl (cI, 65, .inl v_shorter))])) (mQi D (va_A [(a_this, .inr (1, [.ref a_this_rows, .ref a_this_shorter, .ref a_this_ends, .ref a_this_leads, .int v_size])), (a_this_leads, .inl (cI, 260, .inl v_leads)), (a_this_rows, .inl (cI, 65, .inl v_rows)), (a_this_shorter, .inl (cI, 65, .inl v_shorter))] sz) [(a_this, .inr (1, [.ref a_this_rows, .ref a_this_shorter, .ref a_this_ends, .ref a_this_leads, .int v_size])), (a_this_leads, .inl (cI, 260, .inl v_leads)), (a_this_rows, .inl (cI, 65, .inl v_rows)), (a_this_shorter, .inl (cI, 65, .inl v_shorter))] r0) 0 0 (va_A [(a_this, .inr (1, [.ref a_this_rows, .ref a_this_shorter, .ref a_this_ends, .ref a_this_leads, .int v_size])), (a_this_leads, .inl (cI, 260, .inl v_leads)), (a_this_rows, .inl (cI, 65, .inl v_rows)), (a_this_shorter, .inl (cI, 65, .inl v_shorter))] sz) := by
  refine Met.ofW (cc := cX1_fallsBefore) (maxL := 5) (ret := (some .int)) (by decide) rfl ?_
  intro p e s m args below meth c s₁ B hml hv
  obtain ⟨rfl, hsz, hP, hK, hN, hD0⟩ := hv
  have hx := B.exec
  have hb := B.bytes
  have hr := B.returns
  have hts := atoms_spec (ws := wsX1_fallsBefore) B.pre
  have hown : s.vm.findClass RX1 = some m.cls := findClass_of_methodNamed B.named
  have hlocks := B.notSynchronized
  subst hsz
  have hD := hD0.self (sz := s.heap.size)
  generalize hAe : va_A [(a_this, .inr (1, [.ref a_this_rows, .ref a_this_shorter, .ref a_this_ends, .ref a_this_leads, .int v_size])), (a_this_leads, .inl (cI, 260, .inl v_leads)), (a_this_rows, .inl (cI, 65, .inl v_rows)), (a_this_shorter, .inl (cI, 65, .inl v_shorter))] s.heap.size = A at hD ⊢
  have hA : ∀ q : Nat, s.heap.size ≤ q → A q := fun q h => by rw [← hAe]; exact Or.inr h
  have hS : va_S A s.heap s.heap [] := va_S.rf
  have hl := lv_entry ([.ref a_this, .int p1, .int p2]) (n := 5) (Nat.le_of_ble_eq_true rfl)
  rw [lg_entry_eq]
  generalize (lg_sl ([.ref a_this, .int p1, .int p2]) ++ List.replicate (5 - (lg_sl ([.ref a_this, .int p1, .int p2])).length) Slot.unset).toArray = ls at hl ⊢
  have hl : lv_has ls 5 [(0, .ref a_this), (1, .int p1), (2, .int p2)] := hl
  change W p l e rm_X1_fallsBefore s m (([.ref a_this, .int p1, .int p2] : List Value).toArray) below meth c s.heap [] 0 0 _ (F0 m 0 ls [])
  generalize hQe : MQ below (mQi D A [(a_this, .inr (1, [.ref a_this_rows, .ref a_this_shorter, .ref a_this_ends, .ref a_this_leads, .int v_size])), (a_this_leads, .inl (cI, 260, .inl v_leads)), (a_this_rows, .inl (cI, 65, .inl v_rows)), (a_this_shorter, .inl (cI, 65, .inl v_shorter))] r0) (([.ref a_this, .int p1, .int p2] : List Value).toArray) s 0 0 A = Q
  rw [D_X1_fallsBefore] at hden
  have hin_X1 : ∀ w ∈ wsX10, w ∈ wsX1_fallsBefore := by decide +kernel
  have w_15 := hts (.fieldLink RX1 15 "FallingPatterns$Machine" "shorter" "[I") (by decide +kernel)
  have w_iX5 := hts (.initialized RX5) (by decide +kernel)
  have w_sX5_at := hts (.static yX5_at) (by decide +kernel)
  refine lv_iload_n hx hb dX1_fallsBefore_0 rfl (lv_at hl 1 rfl) ?_
  refine lv_istore_n (lv' := [(3, .int p1), (0, .ref a_this), (1, .int p1), (2, .int p2)]) hx hb dX1_fallsBefore_1 rfl hl (by decide) rfl (fun ls hl => ?_)
  refine lv_iconst (v := 0) hx hb dX1_fallsBefore_2 (by decide) ?_
  refine lv_istore (lv' := [(4, .int 0), (3, .int p1), (0, .ref a_this), (1, .int p1), (2, .int p2)]) hx hb dX1_fallsBefore_3 hl (by decide) rfl (fun ls hl => ?_)
  have hL5__13 : ∀ (n : Nat) (x3_11 : Int32) (x4_12 : Int32) (H : Heap) (locs : List Loc), va_P D vwCl [(a_this, .inr (1, [.ref a_this_rows, .ref a_this_shorter, .ref a_this_ends, .ref a_this_leads, .int v_size])), (a_this_leads, .inl (cI, 260, .inl v_leads)), (a_this_rows, .inl (cI, 65, .inl v_rows)), (a_this_shorter, .inl (cI, 65, .inl v_shorter))] H → va_D A [(a_this, .inr (1, [.ref a_this_rows, .ref a_this_shorter, .ref a_this_ends, .ref a_this_leads, .int v_size])), (a_this_leads, .inl (cI, 260, .inl v_leads)), (a_this_rows, .inl (cI, 65, .inl v_rows)), (a_this_shorter, .inl (cI, 65, .inl v_shorter))] → va_S A s.heap H locs → ∀ ls : Array Slot, lv_has ls 5 [(0, .ref a_this), (2, .int p2), (3, .int x3_11), (4, .int x4_12)] → L_X1_fallsBefore_5 F p2 v_leads v_rows v_shorter n x3_11 x4_12 = some (r0) → W p l e rm_X1_fallsBefore s m (([.ref a_this, .int p1, .int p2] : List Value).toArray) below meth c H locs 0 0 Q (F0 m 5 ls []) := by
    intro n
    induction n with
    | zero => intro x3_11 x4_12 H locs hP hD hS ls hl hden; exact no_none hden
    | succ n ih =>
      intro x3_11 x4_12 H locs hP hD hS ls hl hden
      rw [L_X1_fallsBefore_5] at hden
      refine lv_iload hx hb dX1_fallsBefore_5 (lv_at hl 3 rfl) ?_
      refine lv_bipush (v := 8) hx hb dX1_fallsBefore_7 (by decide) ?_
      refine lv_icmp_gt (tgt := 48) hx hb dX1_fallsBefore_9 (by decide) (fun c_21 => ?_) (fun c_21 => ?_)
      · have hden := if_s hden c_21
        refine lv_bipush (v := 9) hx hb dX1_fallsBefore_48 (by decide) ?_
        subst hQe
        cases hden
        exact m_ri hx hb hr hP hD hS [0, 1, 2, 3] (by decide) rfl rfl dX1_fallsBefore_50 hlocks
      · have hden := ifn_s hden c_21
        refine lv_aload_n hx hb dX1_fallsBefore_12 rfl (lv_at hl 0 rfl) ?_
        refine lv_iload_n hx hb dX1_fallsBefore_13 rfl (lv_at hl 2 rfl) ?_
        refine lv_iload_n hx hb dX1_fallsBefore_14 rfl (lv_at hl 1 rfl) ?_
        obtain ⟨r_14, hc_15, hden⟩ := bnd_s hden
        refine m_ci (wc := [(a_this, .inr (1, [.ref a_this_rows, .ref a_this_shorter, .ref a_this_ends, .ref a_this_leads, .int v_size])), (a_this_leads, .inl (cI, 260, .inl v_leads)), (a_this_rows, .inl (cI, 65, .inl v_rows))]) (wr := [(a_this_shorter, .inl (cI, 65, .inl v_shorter))]) (wc' := [(a_this, .inr (1, [.ref a_this_rows, .ref a_this_shorter, .ref a_this_ends, .ref a_this_leads, .int v_size])), (a_this_leads, .inl (cI, 260, .inl v_leads)), (a_this_rows, .inl (cI, 65, .inl v_rows))]) (va_runV (As := [.int x3_11, .int p2]) (rest := []) ⟨hx, hb, hml, hown, hts⟩ (c_X1_goesOn l D cI cM cL F hc_15) (cwV 2 hts gX1_fallsBefore_X1_goesOn rfl rfl rfl (by decide +kernel) ⟨Nat.le_of_ble_eq_true rfl, Nat.le_of_ble_eq_true rfl⟩) (mPreV (ci := 1) (q0 := 0) (r := (RX1, TX1, 5)) hP hD hK hN [0, 1, 2] (by decide) rfl rfl rfl) rfl rfl hl.1 rfl (lv_room (Nat.le_of_ble_eq_true rfl)) dX1_fallsBefore_15 ⟨Nat.le_of_ble_eq_true rfl, Nat.le_of_ble_eq_true rfl⟩) hP hD hS hA [0, 1, 2] [3] rfl rfl (by decide) (by decide) (fun H locs hP hD hS => ?_)
        have hP : va_P D vwCl [(a_this_shorter, .inl (cI, 65, .inl v_shorter)), (a_this, .inr (1, [.ref a_this_rows, .ref a_this_shorter, .ref a_this_ends, .ref a_this_leads, .int v_size])), (a_this_leads, .inl (cI, 260, .inl v_leads)), (a_this_rows, .inl (cI, 65, .inl v_rows))] H := hP
        have hD : va_D A [(a_this_shorter, .inl (cI, 65, .inl v_shorter)), (a_this, .inr (1, [.ref a_this_rows, .ref a_this_shorter, .ref a_this_ends, .ref a_this_leads, .int v_size])), (a_this_leads, .inl (cI, 260, .inl v_leads)), (a_this_rows, .inl (cI, 65, .inl v_rows))] := hD
        refine lv_if_eq (tgt := 24) hx hb dX1_fallsBefore_18 (by decide) (fun c_20 => ?_) (fun c_20 => ?_)
        · have hden := if_s hden c_20
          refine lv_iload_n hx hb dX1_fallsBefore_24 rfl (lv_at hl 2 rfl) ?_
          refine lv_if_ne (tgt := 33) hx hb dX1_fallsBefore_25 (by decide) (fun c_19 => ?_) (fun c_19 => ?_)
          · have hden := ifn_s hden c_19
            refine lv_aload_n hx hb dX1_fallsBefore_33 rfl (lv_at hl 0 rfl) ?_
            refine va_get (D := D) (ci := 1) (v := .ref a_this_shorter) (C := RX1) (T := TX1) (N := 5) hx hb hts hin_X1 hown hK hP 1 rfl rfl 1 (by decide) w_15 (fun _ h9 => h9) rfl dX1_fallsBefore_34 ?_
            refine lv_iload_n hx hb dX1_fallsBefore_37 rfl (lv_at hl 2 rfl) ?_
            obtain ⟨r_16, hc_17, hden⟩ := bnd_s hden
            refine m_ci (wc := [(a_this_shorter, .inl (cI, 65, .inl v_shorter))]) (wr := [(a_this, .inr (1, [.ref a_this_rows, .ref a_this_shorter, .ref a_this_ends, .ref a_this_leads, .int v_size])), (a_this_leads, .inl (cI, 260, .inl v_leads)), (a_this_rows, .inl (cI, 65, .inl v_rows))]) (wc' := [(a_this_shorter, .inl (cI, 65, .inl v_shorter))]) (va_runSN (As := [.ref a_this_shorter, .int x3_11]) (rest := []) ⟨hx, hb, hml, hown, hts⟩ (c_X5_at l D cI cM cL F hc_17) ⟨va_cnB 2 hts gX1_fallsBefore_X5_at_n36 rfl rfl rfl hN.2.2.1 w_iX5 (by decide +kernel) ⟨Nat.le_of_ble_eq_true rfl, Nat.le_of_ble_eq_true rfl⟩, w_sX5_at, trivial⟩ (mPreS hP hD hK hN [0] (by decide) rfl) rfl rfl hl.1 rfl (lv_room (Nat.le_of_ble_eq_true rfl)) dX1_fallsBefore_38 ⟨Nat.le_of_ble_eq_true rfl, Nat.le_of_ble_eq_true rfl⟩) hP hD hS hA [0] [1, 2, 3] rfl rfl (by decide) (by decide) (fun H locs hP hD hS => ?_)
            have hP : va_P D vwCl [(a_this, .inr (1, [.ref a_this_rows, .ref a_this_shorter, .ref a_this_ends, .ref a_this_leads, .int v_size])), (a_this_leads, .inl (cI, 260, .inl v_leads)), (a_this_rows, .inl (cI, 65, .inl v_rows)), (a_this_shorter, .inl (cI, 65, .inl v_shorter))] H := hP
            have hD : va_D A [(a_this, .inr (1, [.ref a_this_rows, .ref a_this_shorter, .ref a_this_ends, .ref a_this_leads, .int v_size])), (a_this_leads, .inl (cI, 260, .inl v_leads)), (a_this_rows, .inl (cI, 65, .inl v_rows)), (a_this_shorter, .inl (cI, 65, .inl v_shorter))] := hD
            refine lv_istore_n (lv' := [(3, .int r_16), (0, .ref a_this), (2, .int p2), (4, .int x4_12)]) hx hb dX1_fallsBefore_41 rfl hl (by decide) rfl (fun ls hl => ?_)
            obtain ⟨x4_18, ex4_18, hden⟩ := nm_x hden
            refine lv_iinc (v := x4_18) (lv' := [(4, .int x4_18), (3, .int r_16), (0, .ref a_this), (2, .int p2)]) hx hb dX1_fallsBefore_42 hl (k := 3) rfl (by rw [ex4_18]; rfl) (by decide) rfl (fun ls hl => ?_)
            refine lv_goto (tgt := 5) hx hb dX1_fallsBefore_45 (by decide) ?_
            exact ih r_16 x4_18 _ _ (mSubP hP [0, 1, 2, 3] rfl) (hD.sub [0, 1, 2, 3] (by decide) rfl) hS ls (lv_sub hl [2, 3, 1, 0] rfl) hden
          · have hden := if_s hden c_19
            refine lv_iload hx hb dX1_fallsBefore_28 (lv_at hl 3 rfl) ?_
            refine lv_iconst (v := 1) hx hb dX1_fallsBefore_30 (by decide) ?_
            refine lv_iadd hx hb dX1_fallsBefore_31 ?_
            subst hQe
            cases hden
            exact m_ri hx hb hr hP hD hS [1, 2, 3, 0] (by decide) rfl rfl dX1_fallsBefore_32 hlocks
        · have hden := ifn_s hden c_20
          refine lv_iload hx hb dX1_fallsBefore_21 (lv_at hl 3 rfl) ?_
          subst hQe
          cases hden
          exact m_ri hx hb hr hP hD hS [1, 2, 3, 0] (by decide) rfl rfl dX1_fallsBefore_23 hlocks
  exact hL5__13 F p1 0 _ _ (mSubP hP [0, 1, 2, 3] rfl) (hD.sub [0, 1, 2, 3] (by decide) rfl) hS ls (lv_sub hl [2, 4, 1, 0] rfl) hden
def D_X3_beginsWith (F : Nat) (p1 : Int32) (p2 : Int32) : Option (Int32) := bnd (D_X3_lengthOf F p1) (fun r_1 => bnd (D_X3_lengthOf F p2) (fun r_3 => nm (r_1 - r_3) (fun x2_5 => (if x2_5 < 0 then some (0) else (if (p1 >>> (((2 : Int32) * x2_5) &&& 31)) = p2 then some (1) else some (0))))))
def rm_X3_beginsWith : Room := { frames := 1, cells := 0, slots := 0, locals := 21 }
set_option maxHeartbeats 4000000 in
set_option maxRecDepth 100000 in
theorem c_X3_beginsWith (l : Launch) (D : va_G) (cI cM cL : ClassId) (F : Nat) {sz : Nat} {p1 : Int32} {p2 : Int32} {r0 : Int32} (hden : D_X3_beginsWith F p1 p2 = some (r0)) : Met l yX3_beginsWith wsX3_beginsWith rm_X3_beginsWith (va_Pc [.int p1, .int p2] (mB D (mTy cI cM cL) sz [])) (mQi D (va_A [] sz) [] r0) 0 0 (va_A [] sz) := by
  refine Met.ofW (cc := cX3_beginsWith) (maxL := 3) (ret := (some .boolean)) (by decide) rfl ?_
  intro p e s m args below meth c s₁ B hml hv
  obtain ⟨rfl, hsz, hP, hK, hN, hD0⟩ := hv
  have hx := B.exec
  have hb := B.bytes
  have hr := B.returns
  have hts := atoms_spec (ws := wsX3_beginsWith) B.pre
  have hown : s.vm.findClass RX3 = some m.cls := findClass_of_methodNamed B.named
  have hlocks := B.notSynchronized
  subst hsz
  have hD := hD0.self (sz := s.heap.size)
  generalize hAe : va_A [] s.heap.size = A at hD ⊢
  have hA : ∀ q : Nat, s.heap.size ≤ q → A q := fun q h => by rw [← hAe]; exact Or.inr h
  have hS : va_S A s.heap s.heap [] := va_S.rf
  have hl := lv_entry ([.int p1, .int p2]) (n := 3) (Nat.le_of_ble_eq_true rfl)
  rw [lg_entry_eq]
  generalize (lg_sl ([.int p1, .int p2]) ++ List.replicate (3 - (lg_sl ([.int p1, .int p2])).length) Slot.unset).toArray = ls at hl ⊢
  have hl : lv_has ls 3 [(0, .int p1), (1, .int p2)] := hl
  change W p l e rm_X3_beginsWith s m (([.int p1, .int p2] : List Value).toArray) below meth c s.heap [] 0 0 _ (F0 m 0 ls [])
  generalize hQe : MQ below (mQi D A [] r0) (([.int p1, .int p2] : List Value).toArray) s 0 0 A = Q
  rw [D_X3_beginsWith] at hden
  refine lv_iload_n hx hb dX3_beginsWith_0 rfl (lv_at hl 0 rfl) ?_
  obtain ⟨r_1, hc_2, hden⟩ := bnd_s hden
  refine m_ci (wc := []) (wr := []) (wc' := []) (va_runS (As := [.int p1]) (rest := []) ⟨hx, hb, hml, hown, hts⟩ (c_X3_lengthOf l D cI cM cL F hc_2) (va_cwS 1 hts gX3_beginsWith_X3_lengthOf rfl rfl rfl (by decide +kernel) ⟨Nat.le_of_ble_eq_true rfl, Nat.le_of_ble_eq_true rfl⟩) (mPreS hP hD hK hN [] (by decide) rfl) rfl rfl hl.1 rfl (lv_room (Nat.le_of_ble_eq_true rfl)) dX3_beginsWith_1 ⟨Nat.le_of_ble_eq_true rfl, Nat.le_of_ble_eq_true rfl⟩) hP hD hS hA [] [] rfl rfl (by decide) (by decide) (fun H locs hP hD hS => ?_)
  have hP : va_P D vwCl [] H := hP
  have hD : va_D A [] := hD
  refine lv_iload_n hx hb dX3_beginsWith_4 rfl (lv_at hl 1 rfl) ?_
  obtain ⟨r_3, hc_4, hden⟩ := bnd_s hden
  refine m_ci (wc := []) (wr := []) (wc' := []) (va_runS (As := [.int p2]) (rest := [.int r_1]) ⟨hx, hb, hml, hown, hts⟩ (c_X3_lengthOf l D cI cM cL F hc_4) (va_cwS 1 hts gX3_beginsWith_X3_lengthOf rfl rfl rfl (by decide +kernel) ⟨Nat.le_of_ble_eq_true rfl, Nat.le_of_ble_eq_true rfl⟩) (mPreS hP hD hK hN [] (by decide) rfl) rfl rfl hl.1 rfl (lv_room (Nat.le_of_ble_eq_true rfl)) dX3_beginsWith_5 ⟨Nat.le_of_ble_eq_true rfl, Nat.le_of_ble_eq_true rfl⟩) hP hD hS hA [] [] rfl rfl (by decide) (by decide) (fun H locs hP hD hS => ?_)
  have hP : va_P D vwCl [] H := hP
  have hD : va_D A [] := hD
  refine lv_isub hx hb dX3_beginsWith_8 ?_
  refine lv_topi (fun x2_5 ex2_5 => ?_)
  have hden := nm_s hden ex2_5
  refine lv_istore_n (lv' := [(2, .int x2_5), (0, .int p1), (1, .int p2)]) hx hb dX3_beginsWith_9 rfl hl (by decide) rfl (fun ls hl => ?_)
  refine lv_iload_n hx hb dX3_beginsWith_10 rfl (lv_at hl 0 rfl) ?_
  refine lv_if_lt (tgt := 27) hx hb dX3_beginsWith_11 (by decide) (fun c_7 => ?_) (fun c_7 => ?_)
  · have hden := if_s hden c_7
    refine lv_iconst (v := 0) hx hb dX3_beginsWith_27 (by decide) ?_
    subst hQe
    cases hden
    exact m_rz hx hb hr hP hD hS [] (by decide) rfl rfl (by decide) dX3_beginsWith_28 hlocks
  · have hden := ifn_s hden c_7
    refine lv_iload_n hx hb dX3_beginsWith_14 rfl (lv_at hl 1 rfl) ?_
    refine lv_iconst (v := 2) hx hb dX3_beginsWith_15 (by decide) ?_
    refine lv_iload_n hx hb dX3_beginsWith_16 rfl (lv_at hl 0 rfl) ?_
    refine lv_imul hx hb dX3_beginsWith_17 ?_
    refine lv_ishr hx hb dX3_beginsWith_18 ?_
    refine lv_iload_n hx hb dX3_beginsWith_19 rfl (lv_at hl 2 rfl) ?_
    refine lv_icmp_ne (tgt := 27) hx hb dX3_beginsWith_20 (by decide) (fun c_6 => ?_) (fun c_6 => ?_)
    · have hden := ifn_s hden c_6
      refine lv_iconst (v := 0) hx hb dX3_beginsWith_27 (by decide) ?_
      subst hQe
      cases hden
      exact m_rz hx hb hr hP hD hS [] (by decide) rfl rfl (by decide) dX3_beginsWith_28 hlocks
    · have hden := if_s hden c_6
      refine lv_iconst (v := 1) hx hb dX3_beginsWith_23 (by decide) ?_
      refine lv_goto (tgt := 28) hx hb dX3_beginsWith_24 (by decide) ?_
      subst hQe
      cases hden
      exact m_rz hx hb hr hP hD hS [] (by decide) rfl rfl (by decide) dX3_beginsWith_28 hlocks
def D_X3_end (F : Nat) (p1 : Int32) (p2 : Int32) : Option (Int32) := nm ((1 : Int32) <<< (((2 : Int32) * p2) &&& 31)) (fun x2_1 => some ((x2_1 ||| (p1 &&& (x2_1 - 1)))))
def rm_X3_end : Room := { frames := 0, cells := 0, slots := 0, locals := 0 }
set_option maxHeartbeats 4000000 in
set_option maxRecDepth 100000 in
theorem c_X3_end (l : Launch) (D : va_G) (cI cM cL : ClassId) (F : Nat) {sz : Nat} {p1 : Int32} {p2 : Int32} {r0 : Int32} (hden : D_X3_end F p1 p2 = some (r0)) : Met l yX3_end wsX3_end rm_X3_end (va_Pc [.int p1, .int p2] (mB D (mTy cI cM cL) sz [])) (mQi D (va_A [] sz) [] r0) 0 0 (va_A [] sz) := by
  refine Met.ofW (cc := cX3_end) (maxL := 3) (ret := (some .int)) (by decide) rfl ?_
  intro p e s m args below meth c s₁ B hml hv
  obtain ⟨rfl, hsz, hP, hK, hN, hD0⟩ := hv
  have hx := B.exec
  have hb := B.bytes
  have hr := B.returns
  have hts := atoms_spec (ws := wsX3_end) B.pre
  have hown : s.vm.findClass RX3 = some m.cls := findClass_of_methodNamed B.named
  have hlocks := B.notSynchronized
  subst hsz
  have hD := hD0.self (sz := s.heap.size)
  generalize hAe : va_A [] s.heap.size = A at hD ⊢
  have hA : ∀ q : Nat, s.heap.size ≤ q → A q := fun q h => by rw [← hAe]; exact Or.inr h
  have hS : va_S A s.heap s.heap [] := va_S.rf
  have hl := lv_entry ([.int p1, .int p2]) (n := 3) (Nat.le_of_ble_eq_true rfl)
  rw [lg_entry_eq]
  generalize (lg_sl ([.int p1, .int p2]) ++ List.replicate (3 - (lg_sl ([.int p1, .int p2])).length) Slot.unset).toArray = ls at hl ⊢
  have hl : lv_has ls 3 [(0, .int p1), (1, .int p2)] := hl
  change W p l e rm_X3_end s m (([.int p1, .int p2] : List Value).toArray) below meth c s.heap [] 0 0 _ (F0 m 0 ls [])
  generalize hQe : MQ below (mQi D A [] r0) (([.int p1, .int p2] : List Value).toArray) s 0 0 A = Q
  rw [D_X3_end] at hden
  refine lv_iconst (v := 1) hx hb dX3_end_0 (by decide) ?_
  refine lv_iconst (v := 2) hx hb dX3_end_1 (by decide) ?_
  refine lv_iload_n hx hb dX3_end_2 rfl (lv_at hl 1 rfl) ?_
  refine lv_imul hx hb dX3_end_3 ?_
  refine lv_ishl hx hb dX3_end_4 ?_
  refine lv_topi (fun x2_1 ex2_1 => ?_)
  have hden := nm_s hden ex2_1
  refine lv_istore_n (lv' := [(2, .int x2_1), (0, .int p1), (1, .int p2)]) hx hb dX3_end_5 rfl hl (by decide) rfl (fun ls hl => ?_)
  refine lv_iload_n hx hb dX3_end_6 rfl (lv_at hl 0 rfl) ?_
  refine lv_iload_n hx hb dX3_end_7 rfl (lv_at hl 1 rfl) ?_
  refine lv_iload_n hx hb dX3_end_8 rfl (lv_at hl 0 rfl) ?_
  refine lv_iconst (v := 1) hx hb dX3_end_9 (by decide) ?_
  refine lv_isub hx hb dX3_end_10 ?_
  refine lv_iand hx hb dX3_end_11 ?_
  refine lv_ior hx hb dX3_end_12 ?_
  subst hQe
  cases hden
  exact m_ri hx hb hr hP hD hS [] (by decide) rfl rfl dX3_end_13 hlocks
def D_X3_endsWith (F : Nat) (p1 : Int32) (p2 : Int32) : Option (Int32) := bnd (D_X3_lengthOf F p2) (fun r_1 => bnd (D_X3_lengthOf F p1) (fun r_3 => (if r_3 < r_1 then some (0) else bnd (D_X3_end F p1 r_1) (fun r_5 => (if r_5 = p2 then some (1) else some (0))))))
def rm_X3_endsWith : Room := { frames := 1, cells := 0, slots := 0, locals := 22 }
set_option maxHeartbeats 4000000 in
set_option maxRecDepth 100000 in
theorem c_X3_endsWith (l : Launch) (D : va_G) (cI cM cL : ClassId) (F : Nat) {sz : Nat} {p1 : Int32} {p2 : Int32} {r0 : Int32} (hden : D_X3_endsWith F p1 p2 = some (r0)) : Met l yX3_endsWith wsX3_endsWith rm_X3_endsWith (va_Pc [.int p1, .int p2] (mB D (mTy cI cM cL) sz [])) (mQi D (va_A [] sz) [] r0) 0 0 (va_A [] sz) := by
  refine Met.ofW (cc := cX3_endsWith) (maxL := 3) (ret := (some .boolean)) (by decide) rfl ?_
  intro p e s m args below meth c s₁ B hml hv
  obtain ⟨rfl, hsz, hP, hK, hN, hD0⟩ := hv
  have hx := B.exec
  have hb := B.bytes
  have hr := B.returns
  have hts := atoms_spec (ws := wsX3_endsWith) B.pre
  have hown : s.vm.findClass RX3 = some m.cls := findClass_of_methodNamed B.named
  have hlocks := B.notSynchronized
  subst hsz
  have hD := hD0.self (sz := s.heap.size)
  generalize hAe : va_A [] s.heap.size = A at hD ⊢
  have hA : ∀ q : Nat, s.heap.size ≤ q → A q := fun q h => by rw [← hAe]; exact Or.inr h
  have hS : va_S A s.heap s.heap [] := va_S.rf
  have hl := lv_entry ([.int p1, .int p2]) (n := 3) (Nat.le_of_ble_eq_true rfl)
  rw [lg_entry_eq]
  generalize (lg_sl ([.int p1, .int p2]) ++ List.replicate (3 - (lg_sl ([.int p1, .int p2])).length) Slot.unset).toArray = ls at hl ⊢
  have hl : lv_has ls 3 [(0, .int p1), (1, .int p2)] := hl
  change W p l e rm_X3_endsWith s m (([.int p1, .int p2] : List Value).toArray) below meth c s.heap [] 0 0 _ (F0 m 0 ls [])
  generalize hQe : MQ below (mQi D A [] r0) (([.int p1, .int p2] : List Value).toArray) s 0 0 A = Q
  rw [D_X3_endsWith] at hden
  refine lv_iload_n hx hb dX3_endsWith_0 rfl (lv_at hl 1 rfl) ?_
  obtain ⟨r_1, hc_2, hden⟩ := bnd_s hden
  refine m_ci (wc := []) (wr := []) (wc' := []) (va_runS (As := [.int p2]) (rest := []) ⟨hx, hb, hml, hown, hts⟩ (c_X3_lengthOf l D cI cM cL F hc_2) (va_cwS 1 hts gX3_endsWith_X3_lengthOf rfl rfl rfl (by decide +kernel) ⟨Nat.le_of_ble_eq_true rfl, Nat.le_of_ble_eq_true rfl⟩) (mPreS hP hD hK hN [] (by decide) rfl) rfl rfl hl.1 rfl (lv_room (Nat.le_of_ble_eq_true rfl)) dX3_endsWith_1 ⟨Nat.le_of_ble_eq_true rfl, Nat.le_of_ble_eq_true rfl⟩) hP hD hS hA [] [] rfl rfl (by decide) (by decide) (fun H locs hP hD hS => ?_)
  have hP : va_P D vwCl [] H := hP
  have hD : va_D A [] := hD
  refine lv_istore_n (lv' := [(2, .int r_1), (0, .int p1), (1, .int p2)]) hx hb dX3_endsWith_4 rfl hl (by decide) rfl (fun ls hl => ?_)
  refine lv_iload_n hx hb dX3_endsWith_5 rfl (lv_at hl 0 rfl) ?_
  refine lv_iload_n hx hb dX3_endsWith_6 rfl (lv_at hl 1 rfl) ?_
  obtain ⟨r_3, hc_4, hden⟩ := bnd_s hden
  refine m_ci (wc := []) (wr := []) (wc' := []) (va_runS (As := [.int p1]) (rest := [.int r_1]) ⟨hx, hb, hml, hown, hts⟩ (c_X3_lengthOf l D cI cM cL F hc_4) (va_cwS 1 hts gX3_endsWith_X3_lengthOf rfl rfl rfl (by decide +kernel) ⟨Nat.le_of_ble_eq_true rfl, Nat.le_of_ble_eq_true rfl⟩) (mPreS hP hD hK hN [] (by decide) rfl) rfl rfl hl.1 rfl (lv_room (Nat.le_of_ble_eq_true rfl)) dX3_endsWith_7 ⟨Nat.le_of_ble_eq_true rfl, Nat.le_of_ble_eq_true rfl⟩) hP hD hS hA [] [] rfl rfl (by decide) (by decide) (fun H locs hP hD hS => ?_)
  have hP : va_P D vwCl [] H := hP
  have hD : va_D A [] := hD
  refine lv_icmp_gt (tgt := 26) hx hb dX3_endsWith_10 (by decide) (fun c_8 => ?_) (fun c_8 => ?_)
  · have hden := if_s hden c_8
    refine lv_iconst (v := 0) hx hb dX3_endsWith_26 (by decide) ?_
    subst hQe
    cases hden
    exact m_rz hx hb hr hP hD hS [] (by decide) rfl rfl (by decide) dX3_endsWith_27 hlocks
  · have hden := ifn_s hden c_8
    refine lv_iload_n hx hb dX3_endsWith_13 rfl (lv_at hl 1 rfl) ?_
    refine lv_iload_n hx hb dX3_endsWith_14 rfl (lv_at hl 0 rfl) ?_
    obtain ⟨r_5, hc_6, hden⟩ := bnd_s hden
    refine m_ci (wc := []) (wr := []) (wc' := []) (va_runS (As := [.int p1, .int r_1]) (rest := []) ⟨hx, hb, hml, hown, hts⟩ (c_X3_end l D cI cM cL F hc_6) (va_cwS 2 hts gX3_endsWith_X3_end rfl rfl rfl (by decide +kernel) ⟨Nat.le_of_ble_eq_true rfl, Nat.le_of_ble_eq_true rfl⟩) (mPreS hP hD hK hN [] (by decide) rfl) rfl rfl hl.1 rfl (lv_room (Nat.le_of_ble_eq_true rfl)) dX3_endsWith_15 ⟨Nat.le_of_ble_eq_true rfl, Nat.le_of_ble_eq_true rfl⟩) hP hD hS hA [] [] rfl rfl (by decide) (by decide) (fun H locs hP hD hS => ?_)
    have hP : va_P D vwCl [] H := hP
    have hD : va_D A [] := hD
    refine lv_iload_n hx hb dX3_endsWith_18 rfl (lv_at hl 2 rfl) ?_
    refine lv_icmp_ne (tgt := 26) hx hb dX3_endsWith_19 (by decide) (fun c_7 => ?_) (fun c_7 => ?_)
    · have hden := ifn_s hden c_7
      refine lv_iconst (v := 0) hx hb dX3_endsWith_26 (by decide) ?_
      subst hQe
      cases hden
      exact m_rz hx hb hr hP hD hS [] (by decide) rfl rfl (by decide) dX3_endsWith_27 hlocks
    · have hden := if_s hden c_7
      refine lv_iconst (v := 1) hx hb dX3_endsWith_22 (by decide) ?_
      refine lv_goto (tgt := 27) hx hb dX3_endsWith_23 (by decide) ?_
      subst hQe
      cases hden
      exact m_rz hx hb hr hP hD hS [] (by decide) rfl rfl (by decide) dX3_endsWith_27 hlocks
def L_X3_isPart_16 (F : Nat) (y0 : Int32) (y1 : Int32) (y2 : Int32) : Nat → Int32 → Option (Int32)
  | 0, _ => none
  | n + 1, x3_5 => (if y2 < x3_5 then some (0) else bnd (D_X3_beginning F y1 x3_5) (fun r_6 => bnd (D_X3_endsWith F r_6 y0) (fun r_8 => (if r_8 = 0 then nm (x3_5 + 1) (fun x3_10 => L_X3_isPart_16 F y0 y1 y2 n x3_10) else some (1)))))
def D_X3_isPart (F : Nat) (p1 : Int32) (p2 : Int32) : Option (Int32) := (if p1 = 0 then some (0) else bnd (D_X3_lengthOf F p2) (fun r_1 => bnd (D_X3_lengthOf F p1) (fun r_3 => L_X3_isPart_16 F p1 p2 r_1 F r_3)))
def rm_X3_isPart : Room := { frames := 2, cells := 0, slots := 0, locals := 44 }
set_option maxHeartbeats 4000000 in
set_option maxRecDepth 100000 in
theorem c_X3_isPart (l : Launch) (D : va_G) (cI cM cL : ClassId) (F : Nat) {sz : Nat} {p1 : Int32} {p2 : Int32} {r0 : Int32} (hden : D_X3_isPart F p1 p2 = some (r0)) : Met l yX3_isPart wsX3_isPart rm_X3_isPart (va_Pc [.int p1, .int p2] (mB D (mTy cI cM cL) sz [])) (mQi D (va_A [] sz) [] r0) 0 0 (va_A [] sz) := by
  refine Met.ofW (cc := cX3_isPart) (maxL := 4) (ret := (some .boolean)) (by decide) rfl ?_
  intro p e s m args below meth c s₁ B hml hv
  obtain ⟨rfl, hsz, hP, hK, hN, hD0⟩ := hv
  have hx := B.exec
  have hb := B.bytes
  have hr := B.returns
  have hts := atoms_spec (ws := wsX3_isPart) B.pre
  have hown : s.vm.findClass RX3 = some m.cls := findClass_of_methodNamed B.named
  have hlocks := B.notSynchronized
  subst hsz
  have hD := hD0.self (sz := s.heap.size)
  generalize hAe : va_A [] s.heap.size = A at hD ⊢
  have hA : ∀ q : Nat, s.heap.size ≤ q → A q := fun q h => by rw [← hAe]; exact Or.inr h
  have hS : va_S A s.heap s.heap [] := va_S.rf
  have hl := lv_entry ([.int p1, .int p2]) (n := 4) (Nat.le_of_ble_eq_true rfl)
  rw [lg_entry_eq]
  generalize (lg_sl ([.int p1, .int p2]) ++ List.replicate (4 - (lg_sl ([.int p1, .int p2])).length) Slot.unset).toArray = ls at hl ⊢
  have hl : lv_has ls 4 [(0, .int p1), (1, .int p2)] := hl
  change W p l e rm_X3_isPart s m (([.int p1, .int p2] : List Value).toArray) below meth c s.heap [] 0 0 _ (F0 m 0 ls [])
  generalize hQe : MQ below (mQi D A [] r0) (([.int p1, .int p2] : List Value).toArray) s 0 0 A = Q
  rw [D_X3_isPart] at hden
  refine lv_iload_n hx hb dX3_isPart_0 rfl (lv_at hl 0 rfl) ?_
  refine lv_if_ne (tgt := 6) hx hb dX3_isPart_1 (by decide) (fun c_22 => ?_) (fun c_22 => ?_)
  · have hden := ifn_s hden c_22
    refine lv_iload_n hx hb dX3_isPart_6 rfl (lv_at hl 1 rfl) ?_
    obtain ⟨r_1, hc_2, hden⟩ := bnd_s hden
    refine m_ci (wc := []) (wr := []) (wc' := []) (va_runS (As := [.int p2]) (rest := []) ⟨hx, hb, hml, hown, hts⟩ (c_X3_lengthOf l D cI cM cL F hc_2) (va_cwS 1 hts gX3_isPart_X3_lengthOf rfl rfl rfl (by decide +kernel) ⟨Nat.le_of_ble_eq_true rfl, Nat.le_of_ble_eq_true rfl⟩) (mPreS hP hD hK hN [] (by decide) rfl) rfl rfl hl.1 rfl (lv_room (Nat.le_of_ble_eq_true rfl)) dX3_isPart_7 ⟨Nat.le_of_ble_eq_true rfl, Nat.le_of_ble_eq_true rfl⟩) hP hD hS hA [] [] rfl rfl (by decide) (by decide) (fun H locs hP hD hS => ?_)
    have hP : va_P D vwCl [] H := hP
    have hD : va_D A [] := hD
    refine lv_istore_n (lv' := [(2, .int r_1), (0, .int p1), (1, .int p2)]) hx hb dX3_isPart_10 rfl hl (by decide) rfl (fun ls hl => ?_)
    refine lv_iload_n hx hb dX3_isPart_11 rfl (lv_at hl 1 rfl) ?_
    obtain ⟨r_3, hc_4, hden⟩ := bnd_s hden
    refine m_ci (wc := []) (wr := []) (wc' := []) (va_runS (As := [.int p1]) (rest := []) ⟨hx, hb, hml, hown, hts⟩ (c_X3_lengthOf l D cI cM cL F hc_4) (va_cwS 1 hts gX3_isPart_X3_lengthOf rfl rfl rfl (by decide +kernel) ⟨Nat.le_of_ble_eq_true rfl, Nat.le_of_ble_eq_true rfl⟩) (mPreS hP hD hK hN [] (by decide) rfl) rfl rfl hl.1 rfl (lv_room (Nat.le_of_ble_eq_true rfl)) dX3_isPart_12 ⟨Nat.le_of_ble_eq_true rfl, Nat.le_of_ble_eq_true rfl⟩) hP hD hS hA [] [] rfl rfl (by decide) (by decide) (fun H locs hP hD hS => ?_)
    have hP : va_P D vwCl [] H := hP
    have hD : va_D A [] := hD
    refine lv_istore_n (lv' := [(3, .int r_3), (2, .int r_1), (0, .int p1), (1, .int p2)]) hx hb dX3_isPart_15 rfl hl (by decide) rfl (fun ls hl => ?_)
    have hL16__14 : ∀ (n : Nat) (x3_13 : Int32) (H : Heap) (locs : List Loc), va_P D vwCl [] H → va_D A [] → va_S A s.heap H locs → ∀ ls : Array Slot, lv_has ls 4 [(0, .int p1), (1, .int p2), (2, .int r_1), (3, .int x3_13)] → L_X3_isPart_16 F p1 p2 r_1 n x3_13 = some (r0) → W p l e rm_X3_isPart s m (([.int p1, .int p2] : List Value).toArray) below meth c H locs 0 0 Q (F0 m 16 ls []) := by
      intro n
      induction n with
      | zero => intro x3_13 H locs hP hD hS ls hl hden; exact no_none hden
      | succ n ih =>
        intro x3_13 H locs hP hD hS ls hl hden
        rw [L_X3_isPart_16] at hden
        refine lv_iload_n hx hb dX3_isPart_16 rfl (lv_at hl 3 rfl) ?_
        refine lv_iload_n hx hb dX3_isPart_17 rfl (lv_at hl 2 rfl) ?_
        refine lv_icmp_gt (tgt := 41) hx hb dX3_isPart_18 (by decide) (fun c_21 => ?_) (fun c_21 => ?_)
        · have hden := if_s hden c_21
          refine lv_iconst (v := 0) hx hb dX3_isPart_41 (by decide) ?_
          subst hQe
          cases hden
          exact m_rz hx hb hr hP hD hS [] (by decide) rfl rfl (by decide) dX3_isPart_42 hlocks
        · have hden := ifn_s hden c_21
          refine lv_iload_n hx hb dX3_isPart_21 rfl (lv_at hl 1 rfl) ?_
          refine lv_iload_n hx hb dX3_isPart_22 rfl (lv_at hl 3 rfl) ?_
          obtain ⟨r_15, hc_16, hden⟩ := bnd_s hden
          refine m_ci (wc := []) (wr := []) (wc' := []) (va_runS (As := [.int p2, .int x3_13]) (rest := []) ⟨hx, hb, hml, hown, hts⟩ (c_X3_beginning l D cI cM cL F hc_16) (va_cwS 2 hts gX3_isPart_X3_beginning rfl rfl rfl (by decide +kernel) ⟨Nat.le_of_ble_eq_true rfl, Nat.le_of_ble_eq_true rfl⟩) (mPreS hP hD hK hN [] (by decide) rfl) rfl rfl hl.1 rfl (lv_room (Nat.le_of_ble_eq_true rfl)) dX3_isPart_23 ⟨Nat.le_of_ble_eq_true rfl, Nat.le_of_ble_eq_true rfl⟩) hP hD hS hA [] [] rfl rfl (by decide) (by decide) (fun H locs hP hD hS => ?_)
          have hP : va_P D vwCl [] H := hP
          have hD : va_D A [] := hD
          refine lv_iload_n hx hb dX3_isPart_26 rfl (lv_at hl 0 rfl) ?_
          obtain ⟨r_17, hc_18, hden⟩ := bnd_s hden
          refine m_ci (wc := []) (wr := []) (wc' := []) (va_runS (As := [.int r_15, .int p1]) (rest := []) ⟨hx, hb, hml, hown, hts⟩ (c_X3_endsWith l D cI cM cL F hc_18) (va_cwS 2 hts gX3_isPart_X3_endsWith rfl rfl rfl (by decide +kernel) ⟨Nat.le_of_ble_eq_true rfl, Nat.le_of_ble_eq_true rfl⟩) (mPreS hP hD hK hN [] (by decide) rfl) rfl rfl hl.1 rfl (lv_room (Nat.le_of_ble_eq_true rfl)) dX3_isPart_27 ⟨Nat.le_of_ble_eq_true rfl, Nat.le_of_ble_eq_true rfl⟩) hP hD hS hA [] [] rfl rfl (by decide) (by decide) (fun H locs hP hD hS => ?_)
          have hP : va_P D vwCl [] H := hP
          have hD : va_D A [] := hD
          refine lv_if_eq (tgt := 35) hx hb dX3_isPart_30 (by decide) (fun c_20 => ?_) (fun c_20 => ?_)
          · have hden := if_s hden c_20
            obtain ⟨x3_19, ex3_19, hden⟩ := nm_x hden
            refine lv_iinc (v := x3_19) (lv' := [(3, .int x3_19), (0, .int p1), (1, .int p2), (2, .int r_1)]) hx hb dX3_isPart_35 hl (k := 3) rfl (by rw [ex3_19]; rfl) (by decide) rfl (fun ls hl => ?_)
            refine lv_goto (tgt := 16) hx hb dX3_isPart_38 (by decide) ?_
            exact ih x3_19 _ _ (mSubP hP [] rfl) (hD.sub [] (by decide) rfl) hS ls (lv_sub hl [1, 2, 3, 0] rfl) hden
          · have hden := ifn_s hden c_20
            refine lv_iconst (v := 1) hx hb dX3_isPart_33 (by decide) ?_
            subst hQe
            cases hden
            exact m_rz hx hb hr hP hD hS [] (by decide) rfl rfl (by decide) dX3_isPart_34 hlocks
    exact hL16__14 F r_3 _ _ (mSubP hP [] rfl) (hD.sub [] (by decide) rfl) hS ls (lv_sub hl [2, 3, 1, 0] rfl) hden
  · have hden := if_s hden c_22
    refine lv_iconst (v := 0) hx hb dX3_isPart_4 (by decide) ?_
    subst hQe
    cases hden
    exact m_rz hx hb hr hP hD hS [] (by decide) rfl rfl (by decide) dX3_isPart_5 hlocks
def D_X3_latest (F : Nat) (p1 : Int32) : Option (Int32) := bnd (D_X3_lengthOf F p1) (fun r_1 => (if r_1 ≤ 8 then some (p1) else bnd (D_X3_end F p1 8) (fun r_3 => some (r_3))))
def rm_X3_latest : Room := { frames := 1, cells := 0, slots := 0, locals := 22 }
set_option maxHeartbeats 4000000 in
set_option maxRecDepth 100000 in
theorem c_X3_latest (l : Launch) (D : va_G) (cI cM cL : ClassId) (F : Nat) {sz : Nat} {p1 : Int32} {r0 : Int32} (hden : D_X3_latest F p1 = some (r0)) : Met l yX3_latest wsX3_latest rm_X3_latest (va_Pc [.int p1] (mB D (mTy cI cM cL) sz [])) (mQi D (va_A [] sz) [] r0) 0 0 (va_A [] sz) := by
  refine Met.ofW (cc := cX3_latest) (maxL := 1) (ret := (some .int)) (by decide) rfl ?_
  intro p e s m args below meth c s₁ B hml hv
  obtain ⟨rfl, hsz, hP, hK, hN, hD0⟩ := hv
  have hx := B.exec
  have hb := B.bytes
  have hr := B.returns
  have hts := atoms_spec (ws := wsX3_latest) B.pre
  have hown : s.vm.findClass RX3 = some m.cls := findClass_of_methodNamed B.named
  have hlocks := B.notSynchronized
  subst hsz
  have hD := hD0.self (sz := s.heap.size)
  generalize hAe : va_A [] s.heap.size = A at hD ⊢
  have hA : ∀ q : Nat, s.heap.size ≤ q → A q := fun q h => by rw [← hAe]; exact Or.inr h
  have hS : va_S A s.heap s.heap [] := va_S.rf
  have hl := lv_entry ([.int p1]) (n := 1) (Nat.le_of_ble_eq_true rfl)
  rw [lg_entry_eq]
  generalize (lg_sl ([.int p1]) ++ List.replicate (1 - (lg_sl ([.int p1])).length) Slot.unset).toArray = ls at hl ⊢
  have hl : lv_has ls 1 [(0, .int p1)] := hl
  change W p l e rm_X3_latest s m (([.int p1] : List Value).toArray) below meth c s.heap [] 0 0 _ (F0 m 0 ls [])
  generalize hQe : MQ below (mQi D A [] r0) (([.int p1] : List Value).toArray) s 0 0 A = Q
  rw [D_X3_latest] at hden
  refine lv_iload_n hx hb dX3_latest_0 rfl (lv_at hl 0 rfl) ?_
  obtain ⟨r_1, hc_2, hden⟩ := bnd_s hden
  refine m_ci (wc := []) (wr := []) (wc' := []) (va_runS (As := [.int p1]) (rest := []) ⟨hx, hb, hml, hown, hts⟩ (c_X3_lengthOf l D cI cM cL F hc_2) (va_cwS 1 hts gX3_latest_X3_lengthOf rfl rfl rfl (by decide +kernel) ⟨Nat.le_of_ble_eq_true rfl, Nat.le_of_ble_eq_true rfl⟩) (mPreS hP hD hK hN [] (by decide) rfl) rfl rfl hl.1 rfl (lv_room (Nat.le_of_ble_eq_true rfl)) dX3_latest_1 ⟨Nat.le_of_ble_eq_true rfl, Nat.le_of_ble_eq_true rfl⟩) hP hD hS hA [] [] rfl rfl (by decide) (by decide) (fun H locs hP hD hS => ?_)
  have hP : va_P D vwCl [] H := hP
  have hD : va_D A [] := hD
  refine lv_bipush (v := 8) hx hb dX3_latest_4 (by decide) ?_
  refine lv_icmp_le (tgt := 18) hx hb dX3_latest_6 (by decide) (fun c_5 => ?_) (fun c_5 => ?_)
  · have hden := if_s hden c_5
    refine lv_iload_n hx hb dX3_latest_18 rfl (lv_at hl 0 rfl) ?_
    subst hQe
    cases hden
    exact m_ri hx hb hr hP hD hS [] (by decide) rfl rfl dX3_latest_19 hlocks
  · have hden := ifn_s hden c_5
    refine lv_iload_n hx hb dX3_latest_9 rfl (lv_at hl 0 rfl) ?_
    refine lv_bipush (v := 8) hx hb dX3_latest_10 (by decide) ?_
    obtain ⟨r_3, hc_4, hden⟩ := bnd_s hden
    refine m_ci (wc := []) (wr := []) (wc' := []) (va_runS (As := [.int p1, .int 8]) (rest := []) ⟨hx, hb, hml, hown, hts⟩ (c_X3_end l D cI cM cL F hc_4) (va_cwS 2 hts gX3_latest_X3_end rfl rfl rfl (by decide +kernel) ⟨Nat.le_of_ble_eq_true rfl, Nat.le_of_ble_eq_true rfl⟩) (mPreS hP hD hK hN [] (by decide) rfl) rfl rfl hl.1 rfl (lv_room (Nat.le_of_ble_eq_true rfl)) dX3_latest_12 ⟨Nat.le_of_ble_eq_true rfl, Nat.le_of_ble_eq_true rfl⟩) hP hD hS hA [] [] rfl rfl (by decide) (by decide) (fun H locs hP hD hS => ?_)
    have hP : va_P D vwCl [] H := hP
    have hD : va_D A [] := hD
    refine lv_goto (tgt := 19) hx hb dX3_latest_15 (by decide) ?_
    subst hQe
    cases hden
    exact m_ri hx hb hr hP hD hS [] (by decide) rfl rfl dX3_latest_19 hlocks
