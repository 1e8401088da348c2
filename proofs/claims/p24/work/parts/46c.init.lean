def rm_X2_init : Room := { frames := 1, cells := 3, slots := 24, locals := 12 }
set_option maxHeartbeats 4000000 in
set_option maxRecDepth 100000 in
theorem c_X2_init (l : Launch) (D : va_G) (cI cM cL : ClassId) {a_this sz : Nat} : Met l yX2_init wsX2_init rm_X2_init (va_Pc [.ref a_this] (mBI D (mTy cI cM cL) sz [(a_this, .inr (2, [.null, .null, .null, .int 0, .int 0, .int 0, .int 0, .int 0, .int 0, .int 0]))])) (mQn D (va_A [(a_this, .inr (2, [.null, .null, .null, .int 0, .int 0, .int 0, .int 0, .int 0, .int 0, .int 0]))] sz) (fun q => [(a_this, .inr (2, [.ref (q 0), .ref (q 1), .ref (q 2), .int 0, .int 1, .int 0, .int 0, .int (-1), .int 0, .int 0])), ((q 0), .inl (cI, 8, .inl (fun _ => 0))), ((q 1), .inl (cI, 8, .inl (fun _ => 0))), ((q 2), .inl (cI, 8, .inl (upd (upd (upd (upd (upd (upd (upd (upd (fun _ => 0) 0 (-1)) 1 (-1)) 2 (-1)) 3 (-1)) 4 (-1)) 5 (-1)) 6 (-1)) 7 (-1))))])) 3 24 (va_A [(a_this, .inr (2, [.null, .null, .null, .int 0, .int 0, .int 0, .int 0, .int 0, .int 0, .int 0]))] sz) := by
  refine Met.ofW (cc := cX2_init) (maxL := 2) (ret := none) (by decide) rfl ?_
  intro p e s m args below meth c s₁ B hml hv
  obtain ⟨rfl, ⟨hsz, hP, hK, hN, hD0⟩, hO⟩ := hv
  have hx := B.exec
  have hb := B.bytes
  have hr := B.returns
  have hts := atoms_spec (ws := wsX2_init) B.pre
  have hown : s.vm.findClass RX2 = some m.cls := findClass_of_methodNamed B.named
  have hlocks := B.notSynchronized
  have hin : meth.name = "<init>" := (name_of_methodNamed B.named B.method).1
  subst hsz
  have hD := hD0.self (sz := s.heap.size)
  generalize hAe : va_A [(a_this, .inr (2, [.null, .null, .null, .int 0, .int 0, .int 0, .int 0, .int 0, .int 0, .int 0]))] s.heap.size = A at hD ⊢
  have hA : ∀ q : Nat, s.heap.size ≤ q → A q := fun q h => by rw [← hAe]; exact Or.inr h
  have hS : va_S A s.heap s.heap [] := va_S.rf
  have hl := lv_entry ([.ref a_this]) (n := 2) (Nat.le_of_ble_eq_true rfl)
  rw [lg_entry_eq]
  generalize (lg_sl ([.ref a_this]) ++ List.replicate (2 - (lg_sl ([.ref a_this])).length) Slot.unset).toArray = ls at hl ⊢
  have hl : lv_has ls 2 [(0, .ref a_this)] := hl
  change W p l e rm_X2_init s m (([.ref a_this] : List Value).toArray) below meth c s.heap [] 0 0 _ (F0 m 0 ls [])
  have hin_X2 : ∀ w ∈ wsX20, w ∈ wsX2_init := by decide +kernel
  refine lv_aload_n hx hb dX2_init_0 rfl (lv_at hl 0 rfl) ?_
  refine W.objInit hx hb hown (hts (.methodLink RX2 3 objectInit) (by decide +kernel)) (hts (.instanceMethod objectInit) (by decide +kernel)) (hts _ (List.mem_of_getElem? (i := 3) rfl)) rfl (by rw [hml]; exact hl.1) rfl dX2_init_1 (Nat.le_of_ble_eq_true rfl) (Nat.le_of_ble_eq_true rfl) ?_
  refine W.eq (g2 := F0 m 4 ls []) rfl ?_
  refine lv_aload_n hx hb dX2_init_4 rfl (lv_at hl 0 rfl) ?_
  refine lv_bipush (v := 8) hx hb dX2_init_5 (by decide) ?_
  refine m_newI (N' := 8) hx hb (hts (.arrayClass .int) (by decide +kernel)) hK hP hD hS hA (by decide) (by decide) (by decide) (Nat.le_of_ble_eq_true rfl) (Nat.le_of_ble_eq_true rfl) dX2_init_7 (fun n1 H hP hD hS => ?_)
  have hP : va_P D vwCl [(a_this, .inr (2, [.null, .null, .null, .int 0, .int 0, .int 0, .int 0, .int 0, .int 0, .int 0])), (n1, .inl (cI, 8, .inl (fun _ => 0)))] H := hP
  have hD : va_D A [(a_this, .inr (2, [.null, .null, .null, .int 0, .int 0, .int 0, .int 0, .int 0, .int 0, .int 0])), (n1, .inl (cI, 8, .inl (fun _ => 0)))] := hD
  refine W.widen (k := 1) (n := 8) (by omega) (by omega) ?_
  refine va_putF (D := D) (ci := 2) (v := .ref n1) (ty := .array .int) (C := RX2) (T := TX2) (N := 10) hx hb hts hin_X2 tyX2 tyX2_ok nmX2 hown hK hP hD hS 0 rfl rfl 0 (by decide) (hts (.fieldLink RX2 9 "FallingPatterns$Memory" "patterns" "[I") (by decide +kernel)) (fun _ h9 => h9) rfl hin rfl (by decide +kernel) rfl rfl (Nat.le_of_ble_eq_true rfl) dX2_init_9 (fun H locs hP hD hS => ?_)
  have hP : va_P D vwCl [(a_this, .inr (2, [.ref n1, .null, .null, .int 0, .int 0, .int 0, .int 0, .int 0, .int 0, .int 0])), (n1, .inl (cI, 8, .inl (fun _ => 0)))] H := hP
  have hD : va_D A [(a_this, .inr (2, [.ref n1, .null, .null, .int 0, .int 0, .int 0, .int 0, .int 0, .int 0, .int 0])), (n1, .inl (cI, 8, .inl (fun _ => 0)))] := hD
  refine lv_aload_n hx hb dX2_init_12 rfl (lv_at hl 0 rfl) ?_
  refine lv_bipush (v := 8) hx hb dX2_init_13 (by decide) ?_
  refine m_newI (N' := 8) hx hb (hts (.arrayClass .int) (by decide +kernel)) hK hP hD hS hA (by decide) (by decide) (by decide) (Nat.le_of_ble_eq_true rfl) (Nat.le_of_ble_eq_true rfl) dX2_init_15 (fun n2 H hP hD hS => ?_)
  have hP : va_P D vwCl [(a_this, .inr (2, [.ref n1, .null, .null, .int 0, .int 0, .int 0, .int 0, .int 0, .int 0, .int 0])), (n1, .inl (cI, 8, .inl (fun _ => 0))), (n2, .inl (cI, 8, .inl (fun _ => 0)))] H := hP
  have hD : va_D A [(a_this, .inr (2, [.ref n1, .null, .null, .int 0, .int 0, .int 0, .int 0, .int 0, .int 0, .int 0])), (n1, .inl (cI, 8, .inl (fun _ => 0))), (n2, .inl (cI, 8, .inl (fun _ => 0)))] := hD
  refine W.widen (k := 2) (n := 16) (by omega) (by omega) ?_
  refine va_putF (D := D) (ci := 2) (v := .ref n2) (ty := .array .int) (C := RX2) (T := TX2) (N := 10) hx hb hts hin_X2 tyX2 tyX2_ok nmX2 hown hK hP hD hS 0 rfl rfl 1 (by decide) (hts (.fieldLink RX2 15 "FallingPatterns$Memory" "counted" "[I") (by decide +kernel)) (fun _ h9 => h9) rfl hin rfl (by decide +kernel) rfl rfl (Nat.le_of_ble_eq_true rfl) dX2_init_17 (fun H locs hP hD hS => ?_)
  have hP : va_P D vwCl [(a_this, .inr (2, [.ref n1, .ref n2, .null, .int 0, .int 0, .int 0, .int 0, .int 0, .int 0, .int 0])), (n1, .inl (cI, 8, .inl (fun _ => 0))), (n2, .inl (cI, 8, .inl (fun _ => 0)))] H := hP
  have hD : va_D A [(a_this, .inr (2, [.ref n1, .ref n2, .null, .int 0, .int 0, .int 0, .int 0, .int 0, .int 0, .int 0])), (n1, .inl (cI, 8, .inl (fun _ => 0))), (n2, .inl (cI, 8, .inl (fun _ => 0)))] := hD
  refine lv_aload_n hx hb dX2_init_20 rfl (lv_at hl 0 rfl) ?_
  refine lv_bipush (v := 8) hx hb dX2_init_21 (by decide) ?_
  refine m_newI (N' := 8) hx hb (hts (.arrayClass .int) (by decide +kernel)) hK hP hD hS hA (by decide) (by decide) (by decide) (Nat.le_of_ble_eq_true rfl) (Nat.le_of_ble_eq_true rfl) dX2_init_23 (fun n3 H hP hD hS => ?_)
  have hP : va_P D vwCl [(a_this, .inr (2, [.ref n1, .ref n2, .null, .int 0, .int 0, .int 0, .int 0, .int 0, .int 0, .int 0])), (n1, .inl (cI, 8, .inl (fun _ => 0))), (n2, .inl (cI, 8, .inl (fun _ => 0))), (n3, .inl (cI, 8, .inl (fun _ => 0)))] H := hP
  have hD : va_D A [(a_this, .inr (2, [.ref n1, .ref n2, .null, .int 0, .int 0, .int 0, .int 0, .int 0, .int 0, .int 0])), (n1, .inl (cI, 8, .inl (fun _ => 0))), (n2, .inl (cI, 8, .inl (fun _ => 0))), (n3, .inl (cI, 8, .inl (fun _ => 0)))] := hD
  refine W.widen (k := 3) (n := 24) (by omega) (by omega) ?_
  refine va_putF (D := D) (ci := 2) (v := .ref n3) (ty := .array .int) (C := RX2) (T := TX2) (N := 10) hx hb hts hin_X2 tyX2 tyX2_ok nmX2 hown hK hP hD hS 0 rfl rfl 2 (by decide) (hts (.fieldLink RX2 18 "FallingPatterns$Memory" "latest" "[I") (by decide +kernel)) (fun _ h9 => h9) rfl hin rfl (by decide +kernel) rfl rfl (Nat.le_of_ble_eq_true rfl) dX2_init_25 (fun H locs hP hD hS => ?_)
  have hP : va_P D vwCl [(a_this, .inr (2, [.ref n1, .ref n2, .ref n3, .int 0, .int 0, .int 0, .int 0, .int 0, .int 0, .int 0])), (n1, .inl (cI, 8, .inl (fun _ => 0))), (n2, .inl (cI, 8, .inl (fun _ => 0))), (n3, .inl (cI, 8, .inl (fun _ => 0)))] H := hP
  have hD : va_D A [(a_this, .inr (2, [.ref n1, .ref n2, .ref n3, .int 0, .int 0, .int 0, .int 0, .int 0, .int 0, .int 0])), (n1, .inl (cI, 8, .inl (fun _ => 0))), (n2, .inl (cI, 8, .inl (fun _ => 0))), (n3, .inl (cI, 8, .inl (fun _ => 0)))] := hD
  refine lv_iconst (v := 0) hx hb dX2_init_28 (by decide) ?_
  refine lv_istore_n (lv' := [(1, .int 0), (0, .ref a_this)]) hx hb dX2_init_29 rfl hl (by decide) rfl (fun ls hl => ?_)
  refine lv_iload_n hx hb dX2_init_30 rfl (lv_at hl 0 rfl) ?_
  refine lv_bipush (v := 8) hx hb dX2_init_31 (by decide) ?_
  refine lv_icmp_ge (tgt := 49) hx hb dX2_init_33 (by decide) (fun h9 => absurd h9 (by decide)) (fun _ => ?_)
  refine lv_aload_n hx hb dX2_init_36 rfl (lv_at hl 1 rfl) ?_
  refine va_get (D := D) (ci := 2) (v := .ref n3) (C := RX2) (T := TX2) (N := 10) hx hb hts hin_X2 hown hK hP 0 rfl rfl 2 (by decide) (hts (.fieldLink RX2 18 "FallingPatterns$Memory" "latest" "[I") (by decide +kernel)) (fun _ h9 => h9) rfl dX2_init_37 ?_
  refine lv_iload_n hx hb dX2_init_40 rfl (lv_at hl 0 rfl) ?_
  refine lv_iconst (v := (-1)) hx hb dX2_init_41 (by decide) ?_
  refine va_iast hx hb hK hP hD hS 3 0 rfl rfl (inb_in (show inb 0 8 = true by decide)) dX2_init_42 (fun H locs hP hD hS => ?_)
  have hP : va_P D vwCl [(a_this, .inr (2, [.ref n1, .ref n2, .ref n3, .int 0, .int 0, .int 0, .int 0, .int 0, .int 0, .int 0])), (n1, .inl (cI, 8, .inl (fun _ => 0))), (n2, .inl (cI, 8, .inl (fun _ => 0))), (n3, .inl (cI, 8, .inl (upd (fun _ => 0) 0 (-1))))] H := hP
  have hD : va_D A [(a_this, .inr (2, [.ref n1, .ref n2, .ref n3, .int 0, .int 0, .int 0, .int 0, .int 0, .int 0, .int 0])), (n1, .inl (cI, 8, .inl (fun _ => 0))), (n2, .inl (cI, 8, .inl (fun _ => 0))), (n3, .inl (cI, 8, .inl (upd (fun _ => 0) 0 (-1))))] := hD
  refine lv_iinc (v := 1) (lv' := [(1, .int 1), (0, .ref a_this)]) hx hb dX2_init_43 hl (k := 0) rfl (by decide) (by decide) rfl (fun ls hl => ?_)
  refine lv_goto (tgt := 30) hx hb dX2_init_46 (by decide) ?_
  refine lv_iload_n hx hb dX2_init_30 rfl (lv_at hl 0 rfl) ?_
  refine lv_bipush (v := 8) hx hb dX2_init_31 (by decide) ?_
  refine lv_icmp_ge (tgt := 49) hx hb dX2_init_33 (by decide) (fun h9 => absurd h9 (by decide)) (fun _ => ?_)
  refine lv_aload_n hx hb dX2_init_36 rfl (lv_at hl 1 rfl) ?_
  refine va_get (D := D) (ci := 2) (v := .ref n3) (C := RX2) (T := TX2) (N := 10) hx hb hts hin_X2 hown hK hP 0 rfl rfl 2 (by decide) (hts (.fieldLink RX2 18 "FallingPatterns$Memory" "latest" "[I") (by decide +kernel)) (fun _ h9 => h9) rfl dX2_init_37 ?_
  refine lv_iload_n hx hb dX2_init_40 rfl (lv_at hl 0 rfl) ?_
  refine lv_iconst (v := (-1)) hx hb dX2_init_41 (by decide) ?_
  refine va_iast hx hb hK hP hD hS 3 0 rfl rfl (inb_in (show inb 1 8 = true by decide)) dX2_init_42 (fun H locs hP hD hS => ?_)
  have hP : va_P D vwCl [(a_this, .inr (2, [.ref n1, .ref n2, .ref n3, .int 0, .int 0, .int 0, .int 0, .int 0, .int 0, .int 0])), (n1, .inl (cI, 8, .inl (fun _ => 0))), (n2, .inl (cI, 8, .inl (fun _ => 0))), (n3, .inl (cI, 8, .inl (upd (upd (fun _ => 0) 0 (-1)) 1 (-1))))] H := hP
  have hD : va_D A [(a_this, .inr (2, [.ref n1, .ref n2, .ref n3, .int 0, .int 0, .int 0, .int 0, .int 0, .int 0, .int 0])), (n1, .inl (cI, 8, .inl (fun _ => 0))), (n2, .inl (cI, 8, .inl (fun _ => 0))), (n3, .inl (cI, 8, .inl (upd (upd (fun _ => 0) 0 (-1)) 1 (-1))))] := hD
  refine lv_iinc (v := 2) (lv' := [(1, .int 2), (0, .ref a_this)]) hx hb dX2_init_43 hl (k := 0) rfl (by decide) (by decide) rfl (fun ls hl => ?_)
  refine lv_goto (tgt := 30) hx hb dX2_init_46 (by decide) ?_
  refine lv_iload_n hx hb dX2_init_30 rfl (lv_at hl 0 rfl) ?_
  refine lv_bipush (v := 8) hx hb dX2_init_31 (by decide) ?_
  refine lv_icmp_ge (tgt := 49) hx hb dX2_init_33 (by decide) (fun h9 => absurd h9 (by decide)) (fun _ => ?_)
  refine lv_aload_n hx hb dX2_init_36 rfl (lv_at hl 1 rfl) ?_
  refine va_get (D := D) (ci := 2) (v := .ref n3) (C := RX2) (T := TX2) (N := 10) hx hb hts hin_X2 hown hK hP 0 rfl rfl 2 (by decide) (hts (.fieldLink RX2 18 "FallingPatterns$Memory" "latest" "[I") (by decide +kernel)) (fun _ h9 => h9) rfl dX2_init_37 ?_
  refine lv_iload_n hx hb dX2_init_40 rfl (lv_at hl 0 rfl) ?_
  refine lv_iconst (v := (-1)) hx hb dX2_init_41 (by decide) ?_
  refine va_iast hx hb hK hP hD hS 3 0 rfl rfl (inb_in (show inb 2 8 = true by decide)) dX2_init_42 (fun H locs hP hD hS => ?_)
  have hP : va_P D vwCl [(a_this, .inr (2, [.ref n1, .ref n2, .ref n3, .int 0, .int 0, .int 0, .int 0, .int 0, .int 0, .int 0])), (n1, .inl (cI, 8, .inl (fun _ => 0))), (n2, .inl (cI, 8, .inl (fun _ => 0))), (n3, .inl (cI, 8, .inl (upd (upd (upd (fun _ => 0) 0 (-1)) 1 (-1)) 2 (-1))))] H := hP
  have hD : va_D A [(a_this, .inr (2, [.ref n1, .ref n2, .ref n3, .int 0, .int 0, .int 0, .int 0, .int 0, .int 0, .int 0])), (n1, .inl (cI, 8, .inl (fun _ => 0))), (n2, .inl (cI, 8, .inl (fun _ => 0))), (n3, .inl (cI, 8, .inl (upd (upd (upd (fun _ => 0) 0 (-1)) 1 (-1)) 2 (-1))))] := hD
  refine lv_iinc (v := 3) (lv' := [(1, .int 3), (0, .ref a_this)]) hx hb dX2_init_43 hl (k := 0) rfl (by decide) (by decide) rfl (fun ls hl => ?_)
  refine lv_goto (tgt := 30) hx hb dX2_init_46 (by decide) ?_
  refine lv_iload_n hx hb dX2_init_30 rfl (lv_at hl 0 rfl) ?_
  refine lv_bipush (v := 8) hx hb dX2_init_31 (by decide) ?_
  refine lv_icmp_ge (tgt := 49) hx hb dX2_init_33 (by decide) (fun h9 => absurd h9 (by decide)) (fun _ => ?_)
  refine lv_aload_n hx hb dX2_init_36 rfl (lv_at hl 1 rfl) ?_
  refine va_get (D := D) (ci := 2) (v := .ref n3) (C := RX2) (T := TX2) (N := 10) hx hb hts hin_X2 hown hK hP 0 rfl rfl 2 (by decide) (hts (.fieldLink RX2 18 "FallingPatterns$Memory" "latest" "[I") (by decide +kernel)) (fun _ h9 => h9) rfl dX2_init_37 ?_
  refine lv_iload_n hx hb dX2_init_40 rfl (lv_at hl 0 rfl) ?_
  refine lv_iconst (v := (-1)) hx hb dX2_init_41 (by decide) ?_
  refine va_iast hx hb hK hP hD hS 3 0 rfl rfl (inb_in (show inb 3 8 = true by decide)) dX2_init_42 (fun H locs hP hD hS => ?_)
  have hP : va_P D vwCl [(a_this, .inr (2, [.ref n1, .ref n2, .ref n3, .int 0, .int 0, .int 0, .int 0, .int 0, .int 0, .int 0])), (n1, .inl (cI, 8, .inl (fun _ => 0))), (n2, .inl (cI, 8, .inl (fun _ => 0))), (n3, .inl (cI, 8, .inl (upd (upd (upd (upd (fun _ => 0) 0 (-1)) 1 (-1)) 2 (-1)) 3 (-1))))] H := hP
  have hD : va_D A [(a_this, .inr (2, [.ref n1, .ref n2, .ref n3, .int 0, .int 0, .int 0, .int 0, .int 0, .int 0, .int 0])), (n1, .inl (cI, 8, .inl (fun _ => 0))), (n2, .inl (cI, 8, .inl (fun _ => 0))), (n3, .inl (cI, 8, .inl (upd (upd (upd (upd (fun _ => 0) 0 (-1)) 1 (-1)) 2 (-1)) 3 (-1))))] := hD
  refine lv_iinc (v := 4) (lv' := [(1, .int 4), (0, .ref a_this)]) hx hb dX2_init_43 hl (k := 0) rfl (by decide) (by decide) rfl (fun ls hl => ?_)
  refine lv_goto (tgt := 30) hx hb dX2_init_46 (by decide) ?_
  refine lv_iload_n hx hb dX2_init_30 rfl (lv_at hl 0 rfl) ?_
  refine lv_bipush (v := 8) hx hb dX2_init_31 (by decide) ?_
  refine lv_icmp_ge (tgt := 49) hx hb dX2_init_33 (by decide) (fun h9 => absurd h9 (by decide)) (fun _ => ?_)
  refine lv_aload_n hx hb dX2_init_36 rfl (lv_at hl 1 rfl) ?_
  refine va_get (D := D) (ci := 2) (v := .ref n3) (C := RX2) (T := TX2) (N := 10) hx hb hts hin_X2 hown hK hP 0 rfl rfl 2 (by decide) (hts (.fieldLink RX2 18 "FallingPatterns$Memory" "latest" "[I") (by decide +kernel)) (fun _ h9 => h9) rfl dX2_init_37 ?_
  refine lv_iload_n hx hb dX2_init_40 rfl (lv_at hl 0 rfl) ?_
  refine lv_iconst (v := (-1)) hx hb dX2_init_41 (by decide) ?_
  refine va_iast hx hb hK hP hD hS 3 0 rfl rfl (inb_in (show inb 4 8 = true by decide)) dX2_init_42 (fun H locs hP hD hS => ?_)
  have hP : va_P D vwCl [(a_this, .inr (2, [.ref n1, .ref n2, .ref n3, .int 0, .int 0, .int 0, .int 0, .int 0, .int 0, .int 0])), (n1, .inl (cI, 8, .inl (fun _ => 0))), (n2, .inl (cI, 8, .inl (fun _ => 0))), (n3, .inl (cI, 8, .inl (upd (upd (upd (upd (upd (fun _ => 0) 0 (-1)) 1 (-1)) 2 (-1)) 3 (-1)) 4 (-1))))] H := hP
  have hD : va_D A [(a_this, .inr (2, [.ref n1, .ref n2, .ref n3, .int 0, .int 0, .int 0, .int 0, .int 0, .int 0, .int 0])), (n1, .inl (cI, 8, .inl (fun _ => 0))), (n2, .inl (cI, 8, .inl (fun _ => 0))), (n3, .inl (cI, 8, .inl (upd (upd (upd (upd (upd (fun _ => 0) 0 (-1)) 1 (-1)) 2 (-1)) 3 (-1)) 4 (-1))))] := hD
  refine lv_iinc (v := 5) (lv' := [(1, .int 5), (0, .ref a_this)]) hx hb dX2_init_43 hl (k := 0) rfl (by decide) (by decide) rfl (fun ls hl => ?_)
  refine lv_goto (tgt := 30) hx hb dX2_init_46 (by decide) ?_
  refine lv_iload_n hx hb dX2_init_30 rfl (lv_at hl 0 rfl) ?_
  refine lv_bipush (v := 8) hx hb dX2_init_31 (by decide) ?_
  refine lv_icmp_ge (tgt := 49) hx hb dX2_init_33 (by decide) (fun h9 => absurd h9 (by decide)) (fun _ => ?_)
  refine lv_aload_n hx hb dX2_init_36 rfl (lv_at hl 1 rfl) ?_
  refine va_get (D := D) (ci := 2) (v := .ref n3) (C := RX2) (T := TX2) (N := 10) hx hb hts hin_X2 hown hK hP 0 rfl rfl 2 (by decide) (hts (.fieldLink RX2 18 "FallingPatterns$Memory" "latest" "[I") (by decide +kernel)) (fun _ h9 => h9) rfl dX2_init_37 ?_
  refine lv_iload_n hx hb dX2_init_40 rfl (lv_at hl 0 rfl) ?_
  refine lv_iconst (v := (-1)) hx hb dX2_init_41 (by decide) ?_
  refine va_iast hx hb hK hP hD hS 3 0 rfl rfl (inb_in (show inb 5 8 = true by decide)) dX2_init_42 (fun H locs hP hD hS => ?_)
  have hP : va_P D vwCl [(a_this, .inr (2, [.ref n1, .ref n2, .ref n3, .int 0, .int 0, .int 0, .int 0, .int 0, .int 0, .int 0])), (n1, .inl (cI, 8, .inl (fun _ => 0))), (n2, .inl (cI, 8, .inl (fun _ => 0))), (n3, .inl (cI, 8, .inl (upd (upd (upd (upd (upd (upd (fun _ => 0) 0 (-1)) 1 (-1)) 2 (-1)) 3 (-1)) 4 (-1)) 5 (-1))))] H := hP
  have hD : va_D A [(a_this, .inr (2, [.ref n1, .ref n2, .ref n3, .int 0, .int 0, .int 0, .int 0, .int 0, .int 0, .int 0])), (n1, .inl (cI, 8, .inl (fun _ => 0))), (n2, .inl (cI, 8, .inl (fun _ => 0))), (n3, .inl (cI, 8, .inl (upd (upd (upd (upd (upd (upd (fun _ => 0) 0 (-1)) 1 (-1)) 2 (-1)) 3 (-1)) 4 (-1)) 5 (-1))))] := hD
  refine lv_iinc (v := 6) (lv' := [(1, .int 6), (0, .ref a_this)]) hx hb dX2_init_43 hl (k := 0) rfl (by decide) (by decide) rfl (fun ls hl => ?_)
  refine lv_goto (tgt := 30) hx hb dX2_init_46 (by decide) ?_
  refine lv_iload_n hx hb dX2_init_30 rfl (lv_at hl 0 rfl) ?_
  refine lv_bipush (v := 8) hx hb dX2_init_31 (by decide) ?_
  refine lv_icmp_ge (tgt := 49) hx hb dX2_init_33 (by decide) (fun h9 => absurd h9 (by decide)) (fun _ => ?_)
  refine lv_aload_n hx hb dX2_init_36 rfl (lv_at hl 1 rfl) ?_
  refine va_get (D := D) (ci := 2) (v := .ref n3) (C := RX2) (T := TX2) (N := 10) hx hb hts hin_X2 hown hK hP 0 rfl rfl 2 (by decide) (hts (.fieldLink RX2 18 "FallingPatterns$Memory" "latest" "[I") (by decide +kernel)) (fun _ h9 => h9) rfl dX2_init_37 ?_
  refine lv_iload_n hx hb dX2_init_40 rfl (lv_at hl 0 rfl) ?_
  refine lv_iconst (v := (-1)) hx hb dX2_init_41 (by decide) ?_
  refine va_iast hx hb hK hP hD hS 3 0 rfl rfl (inb_in (show inb 6 8 = true by decide)) dX2_init_42 (fun H locs hP hD hS => ?_)
  have hP : va_P D vwCl [(a_this, .inr (2, [.ref n1, .ref n2, .ref n3, .int 0, .int 0, .int 0, .int 0, .int 0, .int 0, .int 0])), (n1, .inl (cI, 8, .inl (fun _ => 0))), (n2, .inl (cI, 8, .inl (fun _ => 0))), (n3, .inl (cI, 8, .inl (upd (upd (upd (upd (upd (upd (upd (fun _ => 0) 0 (-1)) 1 (-1)) 2 (-1)) 3 (-1)) 4 (-1)) 5 (-1)) 6 (-1))))] H := hP
  have hD : va_D A [(a_this, .inr (2, [.ref n1, .ref n2, .ref n3, .int 0, .int 0, .int 0, .int 0, .int 0, .int 0, .int 0])), (n1, .inl (cI, 8, .inl (fun _ => 0))), (n2, .inl (cI, 8, .inl (fun _ => 0))), (n3, .inl (cI, 8, .inl (upd (upd (upd (upd (upd (upd (upd (fun _ => 0) 0 (-1)) 1 (-1)) 2 (-1)) 3 (-1)) 4 (-1)) 5 (-1)) 6 (-1))))] := hD
  refine lv_iinc (v := 7) (lv' := [(1, .int 7), (0, .ref a_this)]) hx hb dX2_init_43 hl (k := 0) rfl (by decide) (by decide) rfl (fun ls hl => ?_)
  refine lv_goto (tgt := 30) hx hb dX2_init_46 (by decide) ?_
  refine lv_iload_n hx hb dX2_init_30 rfl (lv_at hl 0 rfl) ?_
  refine lv_bipush (v := 8) hx hb dX2_init_31 (by decide) ?_
  refine lv_icmp_ge (tgt := 49) hx hb dX2_init_33 (by decide) (fun h9 => absurd h9 (by decide)) (fun _ => ?_)
  refine lv_aload_n hx hb dX2_init_36 rfl (lv_at hl 1 rfl) ?_
  refine va_get (D := D) (ci := 2) (v := .ref n3) (C := RX2) (T := TX2) (N := 10) hx hb hts hin_X2 hown hK hP 0 rfl rfl 2 (by decide) (hts (.fieldLink RX2 18 "FallingPatterns$Memory" "latest" "[I") (by decide +kernel)) (fun _ h9 => h9) rfl dX2_init_37 ?_
  refine lv_iload_n hx hb dX2_init_40 rfl (lv_at hl 0 rfl) ?_
  refine lv_iconst (v := (-1)) hx hb dX2_init_41 (by decide) ?_
  refine va_iast hx hb hK hP hD hS 3 0 rfl rfl (inb_in (show inb 7 8 = true by decide)) dX2_init_42 (fun H locs hP hD hS => ?_)
  have hP : va_P D vwCl [(a_this, .inr (2, [.ref n1, .ref n2, .ref n3, .int 0, .int 0, .int 0, .int 0, .int 0, .int 0, .int 0])), (n1, .inl (cI, 8, .inl (fun _ => 0))), (n2, .inl (cI, 8, .inl (fun _ => 0))), (n3, .inl (cI, 8, .inl (upd (upd (upd (upd (upd (upd (upd (upd (fun _ => 0) 0 (-1)) 1 (-1)) 2 (-1)) 3 (-1)) 4 (-1)) 5 (-1)) 6 (-1)) 7 (-1))))] H := hP
  have hD : va_D A [(a_this, .inr (2, [.ref n1, .ref n2, .ref n3, .int 0, .int 0, .int 0, .int 0, .int 0, .int 0, .int 0])), (n1, .inl (cI, 8, .inl (fun _ => 0))), (n2, .inl (cI, 8, .inl (fun _ => 0))), (n3, .inl (cI, 8, .inl (upd (upd (upd (upd (upd (upd (upd (upd (fun _ => 0) 0 (-1)) 1 (-1)) 2 (-1)) 3 (-1)) 4 (-1)) 5 (-1)) 6 (-1)) 7 (-1))))] := hD
  refine lv_iinc (v := 8) (lv' := [(1, .int 8), (0, .ref a_this)]) hx hb dX2_init_43 hl (k := 0) rfl (by decide) (by decide) rfl (fun ls hl => ?_)
  refine lv_goto (tgt := 30) hx hb dX2_init_46 (by decide) ?_
  refine lv_iload_n hx hb dX2_init_30 rfl (lv_at hl 0 rfl) ?_
  refine lv_bipush (v := 8) hx hb dX2_init_31 (by decide) ?_
  refine lv_icmp_ge (tgt := 49) hx hb dX2_init_33 (by decide) (fun _ => ?_) (fun h9 => absurd (by decide) h9)
  refine lv_aload_n hx hb dX2_init_49 rfl (lv_at hl 1 rfl) ?_
  refine lv_iconst (v := 0) hx hb dX2_init_50 (by decide) ?_
  refine va_put (D := D) (ci := 2) (v := .int 0) (ty := .int) (C := RX2) (T := TX2) (N := 10) hx hb hts hin_X2 tyX2 tyX2_ok nmX2 hown hK hP hD hS 0 rfl rfl 3 (by decide) (hts (.fieldLink RX2 21 "FallingPatterns$Memory" "rule" "I") (by decide +kernel)) (fun _ h9 => h9) rfl (by decide +kernel) rfl rfl (Nat.le_of_ble_eq_true rfl) dX2_init_51 (fun H locs hP hD hS => ?_)
  have hP : va_P D vwCl [(a_this, .inr (2, [.ref n1, .ref n2, .ref n3, .int 0, .int 0, .int 0, .int 0, .int 0, .int 0, .int 0])), (n1, .inl (cI, 8, .inl (fun _ => 0))), (n2, .inl (cI, 8, .inl (fun _ => 0))), (n3, .inl (cI, 8, .inl (upd (upd (upd (upd (upd (upd (upd (upd (fun _ => 0) 0 (-1)) 1 (-1)) 2 (-1)) 3 (-1)) 4 (-1)) 5 (-1)) 6 (-1)) 7 (-1))))] H := hP
  have hD : va_D A [(a_this, .inr (2, [.ref n1, .ref n2, .ref n3, .int 0, .int 0, .int 0, .int 0, .int 0, .int 0, .int 0])), (n1, .inl (cI, 8, .inl (fun _ => 0))), (n2, .inl (cI, 8, .inl (fun _ => 0))), (n3, .inl (cI, 8, .inl (upd (upd (upd (upd (upd (upd (upd (upd (fun _ => 0) 0 (-1)) 1 (-1)) 2 (-1)) 3 (-1)) 4 (-1)) 5 (-1)) 6 (-1)) 7 (-1))))] := hD
  refine lv_aload_n hx hb dX2_init_54 rfl (lv_at hl 1 rfl) ?_
  refine lv_iconst (v := 1) hx hb dX2_init_55 (by decide) ?_
  refine va_put (D := D) (ci := 2) (v := .int 1) (ty := .int) (C := RX2) (T := TX2) (N := 10) hx hb hts hin_X2 tyX2 tyX2_ok nmX2 hown hK hP hD hS 0 rfl rfl 4 (by decide) (hts (.fieldLink RX2 25 "FallingPatterns$Memory" "recent" "I") (by decide +kernel)) (fun _ h9 => h9) rfl (by decide +kernel) rfl rfl (Nat.le_of_ble_eq_true rfl) dX2_init_56 (fun H locs hP hD hS => ?_)
  have hP : va_P D vwCl [(a_this, .inr (2, [.ref n1, .ref n2, .ref n3, .int 0, .int 1, .int 0, .int 0, .int 0, .int 0, .int 0])), (n1, .inl (cI, 8, .inl (fun _ => 0))), (n2, .inl (cI, 8, .inl (fun _ => 0))), (n3, .inl (cI, 8, .inl (upd (upd (upd (upd (upd (upd (upd (upd (fun _ => 0) 0 (-1)) 1 (-1)) 2 (-1)) 3 (-1)) 4 (-1)) 5 (-1)) 6 (-1)) 7 (-1))))] H := hP
  have hD : va_D A [(a_this, .inr (2, [.ref n1, .ref n2, .ref n3, .int 0, .int 1, .int 0, .int 0, .int 0, .int 0, .int 0])), (n1, .inl (cI, 8, .inl (fun _ => 0))), (n2, .inl (cI, 8, .inl (fun _ => 0))), (n3, .inl (cI, 8, .inl (upd (upd (upd (upd (upd (upd (upd (upd (fun _ => 0) 0 (-1)) 1 (-1)) 2 (-1)) 3 (-1)) 4 (-1)) 5 (-1)) 6 (-1)) 7 (-1))))] := hD
  refine lv_aload_n hx hb dX2_init_59 rfl (lv_at hl 1 rfl) ?_
  refine lv_iconst (v := (-1)) hx hb dX2_init_60 (by decide) ?_
  refine va_put (D := D) (ci := 2) (v := .int (-1)) (ty := .int) (C := RX2) (T := TX2) (N := 10) hx hb hts hin_X2 tyX2 tyX2_ok nmX2 hown hK hP hD hS 0 rfl rfl 7 (by decide) (hts (.fieldLink RX2 28 "FallingPatterns$Memory" "last" "I") (by decide +kernel)) (fun _ h9 => h9) rfl (by decide +kernel) rfl rfl (Nat.le_of_ble_eq_true rfl) dX2_init_61 (fun H locs hP hD hS => ?_)
  have hP : va_P D vwCl [(a_this, .inr (2, [.ref n1, .ref n2, .ref n3, .int 0, .int 1, .int 0, .int 0, .int (-1), .int 0, .int 0])), (n1, .inl (cI, 8, .inl (fun _ => 0))), (n2, .inl (cI, 8, .inl (fun _ => 0))), (n3, .inl (cI, 8, .inl (upd (upd (upd (upd (upd (upd (upd (upd (fun _ => 0) 0 (-1)) 1 (-1)) 2 (-1)) 3 (-1)) 4 (-1)) 5 (-1)) 6 (-1)) 7 (-1))))] H := hP
  have hD : va_D A [(a_this, .inr (2, [.ref n1, .ref n2, .ref n3, .int 0, .int 1, .int 0, .int 0, .int (-1), .int 0, .int 0])), (n1, .inl (cI, 8, .inl (fun _ => 0))), (n2, .inl (cI, 8, .inl (fun _ => 0))), (n3, .inl (cI, 8, .inl (upd (upd (upd (upd (upd (upd (upd (upd (fun _ => 0) 0 (-1)) 1 (-1)) 2 (-1)) 3 (-1)) 4 (-1)) 5 (-1)) 6 (-1)) 7 (-1))))] := hD
  exact m_rn (fun k => [n1, n2, n3].getD k 0) hx hb hr hP hD hS [0, 1, 2, 3] (by decide) rfl dX2_init_64 hlocks
