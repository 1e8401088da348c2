def rm_X1_init : Room := { frames := 1, cells := 4, slots := 455, locals := 22 }
set_option maxHeartbeats 4000000 in
set_option maxRecDepth 100000 in
theorem c_X1_init (l : Launch) (D : va_G) (cI cM cL : ClassId) {a_this sz : Nat} : Met l yX1_init wsX1_init rm_X1_init (va_Pc [.ref a_this] (mBI D (mTy cI cM cL) sz [(a_this, .inr (1, [.null, .null, .null, .null, .int 0]))])) (mQn D (va_A [(a_this, .inr (1, [.null, .null, .null, .null, .int 0]))] sz) (fun q => [(a_this, .inr (1, [.ref (q 0), .ref (q 1), .ref (q 2), .ref (q 3), .int 1])), ((q 0), .inl (cI, 65, .inl (upd (fun _ => 0) 0 1))), ((q 1), .inl (cI, 65, .inl (upd (fun _ => 0) 0 (-1)))), ((q 2), .inl (cI, 65, .inl (fun _ => 0))), ((q 3), .inl (cI, 260, .inl (fun _ => 0)))])) 4 455 (va_A [(a_this, .inr (1, [.null, .null, .null, .null, .int 0]))] sz) := by
  refine Met.ofW (cc := cX1_init) (maxL := 1) (ret := none) (by decide) rfl ?_
  intro p e s m args below meth c s₁ B hml hv
  obtain ⟨rfl, ⟨hsz, hP, hK, hN, hD0⟩, hO⟩ := hv
  have hx := B.exec
  have hb := B.bytes
  have hr := B.returns
  have hts := atoms_spec (ws := wsX1_init) B.pre
  have hown : s.vm.findClass RX1 = some m.cls := findClass_of_methodNamed B.named
  have hlocks := B.notSynchronized
  have hin : meth.name = "<init>" := (name_of_methodNamed B.named B.method).1
  subst hsz
  have hD := hD0.self (sz := s.heap.size)
  generalize hAe : va_A [(a_this, .inr (1, [.null, .null, .null, .null, .int 0]))] s.heap.size = A at hD ⊢
  have hA : ∀ q : Nat, s.heap.size ≤ q → A q := fun q h => by rw [← hAe]; exact Or.inr h
  have hS : va_S A s.heap s.heap [] := va_S.rf
  have hl := lv_entry ([.ref a_this]) (n := 1) (Nat.le_of_ble_eq_true rfl)
  rw [lg_entry_eq]
  generalize (lg_sl ([.ref a_this]) ++ List.replicate (1 - (lg_sl ([.ref a_this])).length) Slot.unset).toArray = ls at hl ⊢
  have hl : lv_has ls 1 [(0, .ref a_this)] := hl
  change W p l e rm_X1_init s m (([.ref a_this] : List Value).toArray) below meth c s.heap [] 0 0 _ (F0 m 0 ls [])
  have hin_X1 : ∀ w ∈ wsX10, w ∈ wsX1_init := by decide +kernel
  refine lv_aload_n hx hb dX1_init_0 rfl (lv_at hl 0 rfl) ?_
  refine W.objInit hx hb hown (hts (.methodLink RX1 3 objectInit) (by decide +kernel)) (hts (.instanceMethod objectInit) (by decide +kernel)) (hts _ (List.mem_of_getElem? (i := 3) rfl)) rfl (by rw [hml]; exact hl.1) rfl dX1_init_1 (Nat.le_of_ble_eq_true rfl) (Nat.le_of_ble_eq_true rfl) ?_
  refine W.eq (g2 := F0 m 4 ls []) rfl ?_
  refine lv_aload_n hx hb dX1_init_4 rfl (lv_at hl 0 rfl) ?_
  refine lv_bipush (v := 65) hx hb dX1_init_5 (by decide) ?_
  refine m_newI (N' := 65) hx hb (hts (.arrayClass .int) (by decide +kernel)) hK hP hD hS hA (by decide) (by decide) (by decide) (Nat.le_of_ble_eq_true rfl) (Nat.le_of_ble_eq_true rfl) dX1_init_7 (fun n1 H hP hD hS => ?_)
  have hP : va_P D vwCl [(a_this, .inr (1, [.null, .null, .null, .null, .int 0])), (n1, .inl (cI, 65, .inl (fun _ => 0)))] H := hP
  have hD : va_D A [(a_this, .inr (1, [.null, .null, .null, .null, .int 0])), (n1, .inl (cI, 65, .inl (fun _ => 0)))] := hD
  refine W.widen (k := 1) (n := 65) (by omega) (by omega) ?_
  refine va_putF (D := D) (ci := 1) (v := .ref n1) (ty := .array .int) (C := RX1) (T := TX1) (N := 5) hx hb hts hin_X1 tyX1 tyX1_ok nmX1 hown hK hP hD hS 0 rfl rfl 0 (by decide) (hts (.fieldLink RX1 9 "FallingPatterns$Machine" "rows" "[I") (by decide +kernel)) (fun _ h9 => h9) rfl hin rfl (by decide +kernel) rfl rfl (Nat.le_of_ble_eq_true rfl) dX1_init_9 (fun H locs hP hD hS => ?_)
  have hP : va_P D vwCl [(a_this, .inr (1, [.ref n1, .null, .null, .null, .int 0])), (n1, .inl (cI, 65, .inl (fun _ => 0)))] H := hP
  have hD : va_D A [(a_this, .inr (1, [.ref n1, .null, .null, .null, .int 0])), (n1, .inl (cI, 65, .inl (fun _ => 0)))] := hD
  refine lv_aload_n hx hb dX1_init_12 rfl (lv_at hl 0 rfl) ?_
  refine lv_bipush (v := 65) hx hb dX1_init_13 (by decide) ?_
  refine m_newI (N' := 65) hx hb (hts (.arrayClass .int) (by decide +kernel)) hK hP hD hS hA (by decide) (by decide) (by decide) (Nat.le_of_ble_eq_true rfl) (Nat.le_of_ble_eq_true rfl) dX1_init_15 (fun n2 H hP hD hS => ?_)
  have hP : va_P D vwCl [(a_this, .inr (1, [.ref n1, .null, .null, .null, .int 0])), (n1, .inl (cI, 65, .inl (fun _ => 0))), (n2, .inl (cI, 65, .inl (fun _ => 0)))] H := hP
  have hD : va_D A [(a_this, .inr (1, [.ref n1, .null, .null, .null, .int 0])), (n1, .inl (cI, 65, .inl (fun _ => 0))), (n2, .inl (cI, 65, .inl (fun _ => 0)))] := hD
  refine W.widen (k := 2) (n := 130) (by omega) (by omega) ?_
  refine va_putF (D := D) (ci := 1) (v := .ref n2) (ty := .array .int) (C := RX1) (T := TX1) (N := 5) hx hb hts hin_X1 tyX1 tyX1_ok nmX1 hown hK hP hD hS 0 rfl rfl 1 (by decide) (hts (.fieldLink RX1 15 "FallingPatterns$Machine" "shorter" "[I") (by decide +kernel)) (fun _ h9 => h9) rfl hin rfl (by decide +kernel) rfl rfl (Nat.le_of_ble_eq_true rfl) dX1_init_17 (fun H locs hP hD hS => ?_)
  have hP : va_P D vwCl [(a_this, .inr (1, [.ref n1, .ref n2, .null, .null, .int 0])), (n1, .inl (cI, 65, .inl (fun _ => 0))), (n2, .inl (cI, 65, .inl (fun _ => 0)))] H := hP
  have hD : va_D A [(a_this, .inr (1, [.ref n1, .ref n2, .null, .null, .int 0])), (n1, .inl (cI, 65, .inl (fun _ => 0))), (n2, .inl (cI, 65, .inl (fun _ => 0)))] := hD
  refine lv_aload_n hx hb dX1_init_20 rfl (lv_at hl 0 rfl) ?_
  refine lv_bipush (v := 65) hx hb dX1_init_21 (by decide) ?_
  refine m_newI (N' := 65) hx hb (hts (.arrayClass .int) (by decide +kernel)) hK hP hD hS hA (by decide) (by decide) (by decide) (Nat.le_of_ble_eq_true rfl) (Nat.le_of_ble_eq_true rfl) dX1_init_23 (fun n3 H hP hD hS => ?_)
  have hP : va_P D vwCl [(a_this, .inr (1, [.ref n1, .ref n2, .null, .null, .int 0])), (n1, .inl (cI, 65, .inl (fun _ => 0))), (n2, .inl (cI, 65, .inl (fun _ => 0))), (n3, .inl (cI, 65, .inl (fun _ => 0)))] H := hP
  have hD : va_D A [(a_this, .inr (1, [.ref n1, .ref n2, .null, .null, .int 0])), (n1, .inl (cI, 65, .inl (fun _ => 0))), (n2, .inl (cI, 65, .inl (fun _ => 0))), (n3, .inl (cI, 65, .inl (fun _ => 0)))] := hD
  refine W.widen (k := 3) (n := 195) (by omega) (by omega) ?_
  refine va_putF (D := D) (ci := 1) (v := .ref n3) (ty := .array .int) (C := RX1) (T := TX1) (N := 5) hx hb hts hin_X1 tyX1 tyX1_ok nmX1 hown hK hP hD hS 0 rfl rfl 2 (by decide) (hts (.fieldLink RX1 18 "FallingPatterns$Machine" "ends" "[I") (by decide +kernel)) (fun _ h9 => h9) rfl hin rfl (by decide +kernel) rfl rfl (Nat.le_of_ble_eq_true rfl) dX1_init_25 (fun H locs hP hD hS => ?_)
  have hP : va_P D vwCl [(a_this, .inr (1, [.ref n1, .ref n2, .ref n3, .null, .int 0])), (n1, .inl (cI, 65, .inl (fun _ => 0))), (n2, .inl (cI, 65, .inl (fun _ => 0))), (n3, .inl (cI, 65, .inl (fun _ => 0)))] H := hP
  have hD : va_D A [(a_this, .inr (1, [.ref n1, .ref n2, .ref n3, .null, .int 0])), (n1, .inl (cI, 65, .inl (fun _ => 0))), (n2, .inl (cI, 65, .inl (fun _ => 0))), (n3, .inl (cI, 65, .inl (fun _ => 0)))] := hD
  refine lv_aload_n hx hb dX1_init_28 rfl (lv_at hl 0 rfl) ?_
  refine lv_sipush (v := 260) hx hb dX1_init_29 (by decide) ?_
  refine m_newI (N' := 260) hx hb (hts (.arrayClass .int) (by decide +kernel)) hK hP hD hS hA (by decide) (by decide) (by decide) (Nat.le_of_ble_eq_true rfl) (Nat.le_of_ble_eq_true rfl) dX1_init_32 (fun n4 H hP hD hS => ?_)
  have hP : va_P D vwCl [(a_this, .inr (1, [.ref n1, .ref n2, .ref n3, .null, .int 0])), (n1, .inl (cI, 65, .inl (fun _ => 0))), (n2, .inl (cI, 65, .inl (fun _ => 0))), (n3, .inl (cI, 65, .inl (fun _ => 0))), (n4, .inl (cI, 260, .inl (fun _ => 0)))] H := hP
  have hD : va_D A [(a_this, .inr (1, [.ref n1, .ref n2, .ref n3, .null, .int 0])), (n1, .inl (cI, 65, .inl (fun _ => 0))), (n2, .inl (cI, 65, .inl (fun _ => 0))), (n3, .inl (cI, 65, .inl (fun _ => 0))), (n4, .inl (cI, 260, .inl (fun _ => 0)))] := hD
  refine W.widen (k := 4) (n := 455) (by omega) (by omega) ?_
  refine va_putF (D := D) (ci := 1) (v := .ref n4) (ty := .array .int) (C := RX1) (T := TX1) (N := 5) hx hb hts hin_X1 tyX1 tyX1_ok nmX1 hown hK hP hD hS 0 rfl rfl 3 (by decide) (hts (.fieldLink RX1 21 "FallingPatterns$Machine" "leads" "[I") (by decide +kernel)) (fun _ h9 => h9) rfl hin rfl (by decide +kernel) rfl rfl (Nat.le_of_ble_eq_true rfl) dX1_init_34 (fun H locs hP hD hS => ?_)
  have hP : va_P D vwCl [(a_this, .inr (1, [.ref n1, .ref n2, .ref n3, .ref n4, .int 0])), (n1, .inl (cI, 65, .inl (fun _ => 0))), (n2, .inl (cI, 65, .inl (fun _ => 0))), (n3, .inl (cI, 65, .inl (fun _ => 0))), (n4, .inl (cI, 260, .inl (fun _ => 0)))] H := hP
  have hD : va_D A [(a_this, .inr (1, [.ref n1, .ref n2, .ref n3, .ref n4, .int 0])), (n1, .inl (cI, 65, .inl (fun _ => 0))), (n2, .inl (cI, 65, .inl (fun _ => 0))), (n3, .inl (cI, 65, .inl (fun _ => 0))), (n4, .inl (cI, 260, .inl (fun _ => 0)))] := hD
  refine lv_aload_n hx hb dX1_init_37 rfl (lv_at hl 0 rfl) ?_
  refine va_get (D := D) (ci := 1) (v := .ref n1) (C := RX1) (T := TX1) (N := 5) hx hb hts hin_X1 hown hK hP 0 rfl rfl 0 (by decide) (hts (.fieldLink RX1 9 "FallingPatterns$Machine" "rows" "[I") (by decide +kernel)) (fun _ h9 => h9) rfl dX1_init_38 ?_
  refine lv_iconst (v := 0) hx hb dX1_init_41 (by decide) ?_
  refine lv_iconst (v := 1) hx hb dX1_init_42 (by decide) ?_
  refine m_cv (wc := [(n1, .inl (cI, 65, .inl (fun _ => 0)))]) (wr := [(a_this, .inr (1, [.ref n1, .ref n2, .ref n3, .ref n4, .int 0])), (n2, .inl (cI, 65, .inl (fun _ => 0))), (n3, .inl (cI, 65, .inl (fun _ => 0))), (n4, .inl (cI, 260, .inl (fun _ => 0)))]) (wc' := [(n1, .inl (cI, 65, .inl (upd (fun _ => 0) 0 1)))]) (va_runSN (As := [.ref n1, .int 0, .int 1]) (rest := []) ⟨hx, hb, hml, hown, hts⟩ (c_X5_put l D cI cM cL 0 (put_in (F := 0) (n := 65) (i := 0) (x := 1) (f := (fun _ => 0)) (by decide) (by decide))) ⟨va_cnB 3 hts gX1_init_X5_put_n24 rfl rfl rfl hN.2.2.2.1 (hts (.initialized RX5) (by decide +kernel)) (by decide +kernel) ⟨Nat.le_of_ble_eq_true rfl, Nat.le_of_ble_eq_true rfl⟩, (hts (.static yX5_put) (by decide +kernel)), trivial⟩ (mPreS hP hD hK hN [1] (by decide) rfl) rfl rfl hl.1 rfl (lv_room (Nat.le_of_ble_eq_true rfl)) dX1_init_43 ⟨Nat.le_of_ble_eq_true rfl, Nat.le_of_ble_eq_true rfl⟩) hP hD hS hA [1] [0, 2, 3, 4] rfl rfl (by decide) (by decide) (fun H locs hP hD hS => ?_)
  have hP : va_P D vwCl [(a_this, .inr (1, [.ref n1, .ref n2, .ref n3, .ref n4, .int 0])), (n2, .inl (cI, 65, .inl (fun _ => 0))), (n3, .inl (cI, 65, .inl (fun _ => 0))), (n4, .inl (cI, 260, .inl (fun _ => 0))), (n1, .inl (cI, 65, .inl (upd (fun _ => 0) 0 1)))] H := hP
  have hD : va_D A [(a_this, .inr (1, [.ref n1, .ref n2, .ref n3, .ref n4, .int 0])), (n2, .inl (cI, 65, .inl (fun _ => 0))), (n3, .inl (cI, 65, .inl (fun _ => 0))), (n4, .inl (cI, 260, .inl (fun _ => 0))), (n1, .inl (cI, 65, .inl (upd (fun _ => 0) 0 1)))] := hD
  refine lv_aload_n hx hb dX1_init_46 rfl (lv_at hl 0 rfl) ?_
  refine va_get (D := D) (ci := 1) (v := .ref n2) (C := RX1) (T := TX1) (N := 5) hx hb hts hin_X1 hown hK hP 0 rfl rfl 1 (by decide) (hts (.fieldLink RX1 15 "FallingPatterns$Machine" "shorter" "[I") (by decide +kernel)) (fun _ h9 => h9) rfl dX1_init_47 ?_
  refine lv_iconst (v := 0) hx hb dX1_init_50 (by decide) ?_
  refine lv_iconst (v := (-1)) hx hb dX1_init_51 (by decide) ?_
  refine m_cv (wc := [(n2, .inl (cI, 65, .inl (fun _ => 0)))]) (wr := [(a_this, .inr (1, [.ref n1, .ref n2, .ref n3, .ref n4, .int 0])), (n3, .inl (cI, 65, .inl (fun _ => 0))), (n4, .inl (cI, 260, .inl (fun _ => 0))), (n1, .inl (cI, 65, .inl (upd (fun _ => 0) 0 1)))]) (wc' := [(n2, .inl (cI, 65, .inl (upd (fun _ => 0) 0 (-1))))]) (va_runSN (As := [.ref n2, .int 0, .int (-1)]) (rest := []) ⟨hx, hb, hml, hown, hts⟩ (c_X5_put l D cI cM cL 0 (put_in (F := 0) (n := 65) (i := 0) (x := (-1)) (f := (fun _ => 0)) (by decide) (by decide))) ⟨va_cnB 3 hts gX1_init_X5_put_n24 rfl rfl rfl hN.2.2.2.1 (hts (.initialized RX5) (by decide +kernel)) (by decide +kernel) ⟨Nat.le_of_ble_eq_true rfl, Nat.le_of_ble_eq_true rfl⟩, (hts (.static yX5_put) (by decide +kernel)), trivial⟩ (mPreS hP hD hK hN [1] (by decide) rfl) rfl rfl hl.1 rfl (lv_room (Nat.le_of_ble_eq_true rfl)) dX1_init_52 ⟨Nat.le_of_ble_eq_true rfl, Nat.le_of_ble_eq_true rfl⟩) hP hD hS hA [1] [0, 2, 3, 4] rfl rfl (by decide) (by decide) (fun H locs hP hD hS => ?_)
  have hP : va_P D vwCl [(a_this, .inr (1, [.ref n1, .ref n2, .ref n3, .ref n4, .int 0])), (n3, .inl (cI, 65, .inl (fun _ => 0))), (n4, .inl (cI, 260, .inl (fun _ => 0))), (n1, .inl (cI, 65, .inl (upd (fun _ => 0) 0 1))), (n2, .inl (cI, 65, .inl (upd (fun _ => 0) 0 (-1))))] H := hP
  have hD : va_D A [(a_this, .inr (1, [.ref n1, .ref n2, .ref n3, .ref n4, .int 0])), (n3, .inl (cI, 65, .inl (fun _ => 0))), (n4, .inl (cI, 260, .inl (fun _ => 0))), (n1, .inl (cI, 65, .inl (upd (fun _ => 0) 0 1))), (n2, .inl (cI, 65, .inl (upd (fun _ => 0) 0 (-1))))] := hD
  refine lv_aload_n hx hb dX1_init_55 rfl (lv_at hl 0 rfl) ?_
  refine lv_iconst (v := 1) hx hb dX1_init_56 (by decide) ?_
  refine va_put (D := D) (ci := 1) (v := .int 1) (ty := .int) (C := RX1) (T := TX1) (N := 5) hx hb hts hin_X1 tyX1 tyX1_ok nmX1 hown hK hP hD hS 0 rfl rfl 4 (by decide) (hts (.fieldLink RX1 28 "FallingPatterns$Machine" "size" "I") (by decide +kernel)) (fun _ h9 => h9) rfl (by decide +kernel) rfl rfl (Nat.le_of_ble_eq_true rfl) dX1_init_57 (fun H locs hP hD hS => ?_)
  have hP : va_P D vwCl [(a_this, .inr (1, [.ref n1, .ref n2, .ref n3, .ref n4, .int 1])), (n3, .inl (cI, 65, .inl (fun _ => 0))), (n4, .inl (cI, 260, .inl (fun _ => 0))), (n1, .inl (cI, 65, .inl (upd (fun _ => 0) 0 1))), (n2, .inl (cI, 65, .inl (upd (fun _ => 0) 0 (-1))))] H := hP
  have hD : va_D A [(a_this, .inr (1, [.ref n1, .ref n2, .ref n3, .ref n4, .int 1])), (n3, .inl (cI, 65, .inl (fun _ => 0))), (n4, .inl (cI, 260, .inl (fun _ => 0))), (n1, .inl (cI, 65, .inl (upd (fun _ => 0) 0 1))), (n2, .inl (cI, 65, .inl (upd (fun _ => 0) 0 (-1))))] := hD
  exact m_rn (fun k => [n1, n2, n3, n4].getD k 0) hx hb hr hP hD hS [0, 3, 4, 1, 2] (by decide) rfl dX1_init_60 hlocks
