def L_X6_clear_2 (F : Nat) (k34 : (Nat → Int32) → Option ((Nat → Int32))) : Nat → Int32 → (Nat → Int32) → Option ((Nat → Int32))
  | 0, _, _ => none
  | n + 1, x1_1, v_s_2 => (if 8 ≤ x1_1 then k34 v_s_2 else grd (inb ((8 : Int32) + x1_1) 31) (nm (upd v_s_2 ((8 : Int32) + x1_1).toNatClampNeg 0) (fun v_s_4 => grd (inb ((16 : Int32) + x1_1) 31) (nm (upd v_s_4 ((16 : Int32) + x1_1).toNatClampNeg (-1)) (fun v_s_6 => nm (x1_1 + 1) (fun x1_7 => L_X6_clear_2 F k34 n x1_7 v_s_6))))))
def D_X6_clear (F : Nat) (v_s : (Nat → Int32)) : Option ((Nat → Int32)) := L_X6_clear_2 F (fun (v_s_11 : (Nat → Int32)) => grd (inb 25 31) (nm (upd v_s_11 (25 : Int32).toNatClampNeg 0) (fun v_s_20 => grd (inb 26 31) (nm (upd v_s_20 (26 : Int32).toNatClampNeg 0) (fun v_s_22 => grd (inb 27 31) (nm (upd v_s_22 (27 : Int32).toNatClampNeg 0) (fun v_s_24 => grd (inb 28 31) (nm (upd v_s_24 (28 : Int32).toNatClampNeg (-1)) (fun v_s_26 => grd (inb 29 31) (nm (upd v_s_26 (29 : Int32).toNatClampNeg 0) (fun v_s_28 => grd (inb 30 31) (nm (upd v_s_28 (30 : Int32).toNatClampNeg 0) (fun v_s_30 => some (v_s_30)))))))))))))) F 0 v_s
def rm_X6_clear : Room := { frames := 0, cells := 0, slots := 0, locals := 0 }
set_option maxHeartbeats 4000000 in
set_option maxRecDepth 100000 in
theorem c_X6_clear (l : Launch) (D : va_G) (cI cM cL : ClassId) (F : Nat) {a_this a_this_s a_this_aside a_this_saved a_this_text a_this_states a_this_rows : Nat} {sz : Nat} {v_thrown v_savedMany v_length v_many v_at v_isWrong v_letters v_matched v_manyRows : Int32} {v_digested : Int64} {v_s : Nat → Int32} {w_s : (Nat → Int32)} (hden : D_X6_clear F v_s = some (w_s)) : Met l yX6_clear wsX6_clear rm_X6_clear (va_Pc [.ref a_this] (mB D (mTy cI cM cL) sz [(a_this, .inr (5, [.int v_thrown, .ref a_this_s, .ref a_this_aside, .ref a_this_saved, .int v_savedMany, .ref a_this_text, .int v_length, .ref a_this_states, .int v_many, .int v_at, .int v_isWrong, .int v_letters, .int v_matched, .ref a_this_rows, .int v_manyRows, .long v_digested])), (a_this_s, .inl (cI, 31, .inl v_s))])) (mQv D (va_A [(a_this, .inr (5, [.int v_thrown, .ref a_this_s, .ref a_this_aside, .ref a_this_saved, .int v_savedMany, .ref a_this_text, .int v_length, .ref a_this_states, .int v_many, .int v_at, .int v_isWrong, .int v_letters, .int v_matched, .ref a_this_rows, .int v_manyRows, .long v_digested])), (a_this_s, .inl (cI, 31, .inl v_s))] sz) [(a_this, .inr (5, [.int v_thrown, .ref a_this_s, .ref a_this_aside, .ref a_this_saved, .int v_savedMany, .ref a_this_text, .int v_length, .ref a_this_states, .int v_many, .int v_at, .int v_isWrong, .int v_letters, .int v_matched, .ref a_this_rows, .int v_manyRows, .long v_digested])), (a_this_s, .inl (cI, 31, .inl w_s))]) 0 0 (va_A [(a_this, .inr (5, [.int v_thrown, .ref a_this_s, .ref a_this_aside, .ref a_this_saved, .int v_savedMany, .ref a_this_text, .int v_length, .ref a_this_states, .int v_many, .int v_at, .int v_isWrong, .int v_letters, .int v_matched, .ref a_this_rows, .int v_manyRows, .long v_digested])), (a_this_s, .inl (cI, 31, .inl v_s))] sz) := by
  refine Met.ofW (cc := cX6_clear) (maxL := 2) (ret := none) (by decide) rfl ?_
  intro p e s m args below meth c s₁ B hml hv
  obtain ⟨rfl, hsz, hP, hK, hN, hD0⟩ := hv
  have hx := B.exec
  have hb := B.bytes
  have hr := B.returns
  have hts := atoms_spec (ws := wsX6_clear) B.pre
  have hown : s.vm.findClass RX6 = some m.cls := findClass_of_methodNamed B.named
  have hlocks := B.notSynchronized
  subst hsz
  have hD := hD0.self (sz := s.heap.size)
  generalize hAe : va_A [(a_this, .inr (5, [.int v_thrown, .ref a_this_s, .ref a_this_aside, .ref a_this_saved, .int v_savedMany, .ref a_this_text, .int v_length, .ref a_this_states, .int v_many, .int v_at, .int v_isWrong, .int v_letters, .int v_matched, .ref a_this_rows, .int v_manyRows, .long v_digested])), (a_this_s, .inl (cI, 31, .inl v_s))] s.heap.size = A at hD ⊢
  have hA : ∀ q : Nat, s.heap.size ≤ q → A q := fun q h => by rw [← hAe]; exact Or.inr h
  have hS : va_S A s.heap s.heap [] := va_S.rf
  have hl := lv_entry ([.ref a_this]) (n := 2) (Nat.le_of_ble_eq_true rfl)
  rw [lg_entry_eq]
  generalize (lg_sl ([.ref a_this]) ++ List.replicate (2 - (lg_sl ([.ref a_this])).length) Slot.unset).toArray = ls at hl ⊢
  have hl : lv_has ls 2 [(0, .ref a_this)] := hl
  change W p l e rm_X6_clear s m (([.ref a_this] : List Value).toArray) below meth c s.heap [] 0 0 _ (F0 m 0 ls [])
  generalize hQe : MQ below (mQv D A [(a_this, .inr (5, [.int v_thrown, .ref a_this_s, .ref a_this_aside, .ref a_this_saved, .int v_savedMany, .ref a_this_text, .int v_length, .ref a_this_states, .int v_many, .int v_at, .int v_isWrong, .int v_letters, .int v_matched, .ref a_this_rows, .int v_manyRows, .long v_digested])), (a_this_s, .inl (cI, 31, .inl w_s))]) (([.ref a_this] : List Value).toArray) s 0 0 A = Q
  rw [D_X6_clear] at hden
  have hin_X6 : ∀ w ∈ wsX60, w ∈ wsX6_clear := by decide +kernel
  have w_7 := hts (.fieldLink RX6 7 "FallingPatternsModel" "s" "[I") (by decide +kernel)
  refine lv_iconst (v := 0) hx hb dX6_clear_0 (by decide) ?_
  refine lv_istore_n (lv' := [(1, .int 0), (0, .ref a_this)]) hx hb dX6_clear_1 rfl hl (by decide) rfl (fun ls hl => ?_)
  have hL2__12 : ∀ (k34 : (Nat → Int32) → Option ((Nat → Int32))), (∀ (v_s_11 : (Nat → Int32)) (H : Heap) (locs : List Loc), va_P D vwCl [(a_this, .inr (5, [.int v_thrown, .ref a_this_s, .ref a_this_aside, .ref a_this_saved, .int v_savedMany, .ref a_this_text, .int v_length, .ref a_this_states, .int v_many, .int v_at, .int v_isWrong, .int v_letters, .int v_matched, .ref a_this_rows, .int v_manyRows, .long v_digested])), (a_this_s, .inl (cI, 31, .inl v_s_11))] H → va_D A [(a_this, .inr (5, [.int v_thrown, .ref a_this_s, .ref a_this_aside, .ref a_this_saved, .int v_savedMany, .ref a_this_text, .int v_length, .ref a_this_states, .int v_many, .int v_at, .int v_isWrong, .int v_letters, .int v_matched, .ref a_this_rows, .int v_manyRows, .long v_digested])), (a_this_s, .inl (cI, 31, .inl v_s_11))] → va_S A s.heap H locs → ∀ ls : Array Slot, lv_has ls 2 [(0, .ref a_this)] → k34 v_s_11 = some (w_s) → W p l e rm_X6_clear s m (([.ref a_this] : List Value).toArray) below meth c H locs 0 0 Q (F0 m 34 ls [])) → ∀ (n : Nat) (x1_9 : Int32) (v_s_10 : (Nat → Int32)) (H : Heap) (locs : List Loc), va_P D vwCl [(a_this, .inr (5, [.int v_thrown, .ref a_this_s, .ref a_this_aside, .ref a_this_saved, .int v_savedMany, .ref a_this_text, .int v_length, .ref a_this_states, .int v_many, .int v_at, .int v_isWrong, .int v_letters, .int v_matched, .ref a_this_rows, .int v_manyRows, .long v_digested])), (a_this_s, .inl (cI, 31, .inl v_s_10))] H → va_D A [(a_this, .inr (5, [.int v_thrown, .ref a_this_s, .ref a_this_aside, .ref a_this_saved, .int v_savedMany, .ref a_this_text, .int v_length, .ref a_this_states, .int v_many, .int v_at, .int v_isWrong, .int v_letters, .int v_matched, .ref a_this_rows, .int v_manyRows, .long v_digested])), (a_this_s, .inl (cI, 31, .inl v_s_10))] → va_S A s.heap H locs → ∀ ls : Array Slot, lv_has ls 2 [(0, .ref a_this), (1, .int x1_9)] → L_X6_clear_2 F k34 n x1_9 v_s_10 = some (w_s) → W p l e rm_X6_clear s m (([.ref a_this] : List Value).toArray) below meth c H locs 0 0 Q (F0 m 2 ls []) := by
    intro k34 hk34 n
    induction n with
    | zero => intro x1_9 v_s_10 H locs hP hD hS ls hl hden; exact no_none hden
    | succ n ih =>
      intro x1_9 v_s_10 H locs hP hD hS ls hl hden
      rw [L_X6_clear_2] at hden
      refine lv_iload_n hx hb dX6_clear_2 rfl (lv_at hl 1 rfl) ?_
      refine lv_bipush (v := 8) hx hb dX6_clear_3 (by decide) ?_
      refine lv_icmp_ge (tgt := 34) hx hb dX6_clear_5 (by decide) (fun c_18 => ?_) (fun c_18 => ?_)
      · have hden := if_s hden c_18
        exact hk34 v_s_10 _ _ (mSubP hP [0, 1] rfl) (hD.sub [0, 1] (by decide) rfl) hS ls (lv_sub hl [0] rfl) hden
      · have hden := ifn_s hden c_18
        refine lv_aload_n hx hb dX6_clear_8 rfl (lv_at hl 0 rfl) ?_
        refine va_get (D := D) (ci := 5) (v := .ref a_this_s) (C := RX6) (T := TX6) (N := 16) hx hb hts hin_X6 hown hK hP 0 rfl rfl 1 (by decide) w_7 (fun _ h9 => h9) rfl dX6_clear_9 ?_
        refine lv_bipush (v := 8) hx hb dX6_clear_12 (by decide) ?_
        refine lv_iload_n hx hb dX6_clear_14 rfl (lv_at hl 1 rfl) ?_
        refine lv_iadd hx hb dX6_clear_15 ?_
        refine lv_iconst (v := 0) hx hb dX6_clear_16 (by decide) ?_
        obtain ⟨hg_13, hden⟩ := grd_s hden
        refine va_iast hx hb hK hP hD hS 1 0 rfl rfl (inb_in hg_13) dX6_clear_17 (fun H locs hP hD hS => ?_)
        obtain ⟨v_s_14, ev_s_14, hden⟩ := nm_x hden
        have hP : va_P D vwCl [(a_this, .inr (5, [.int v_thrown, .ref a_this_s, .ref a_this_aside, .ref a_this_saved, .int v_savedMany, .ref a_this_text, .int v_length, .ref a_this_states, .int v_many, .int v_at, .int v_isWrong, .int v_letters, .int v_matched, .ref a_this_rows, .int v_manyRows, .long v_digested])), (a_this_s, .inl (cI, 31, .inl v_s_14))] H := by rw [ev_s_14]; exact hP
        have hD : va_D A [(a_this, .inr (5, [.int v_thrown, .ref a_this_s, .ref a_this_aside, .ref a_this_saved, .int v_savedMany, .ref a_this_text, .int v_length, .ref a_this_states, .int v_many, .int v_at, .int v_isWrong, .int v_letters, .int v_matched, .ref a_this_rows, .int v_manyRows, .long v_digested])), (a_this_s, .inl (cI, 31, .inl v_s_14))] := by rw [ev_s_14]; exact hD
        refine lv_aload_n hx hb dX6_clear_18 rfl (lv_at hl 0 rfl) ?_
        refine va_get (D := D) (ci := 5) (v := .ref a_this_s) (C := RX6) (T := TX6) (N := 16) hx hb hts hin_X6 hown hK hP 0 rfl rfl 1 (by decide) w_7 (fun _ h9 => h9) rfl dX6_clear_19 ?_
        refine lv_bipush (v := 16) hx hb dX6_clear_22 (by decide) ?_
        refine lv_iload_n hx hb dX6_clear_24 rfl (lv_at hl 1 rfl) ?_
        refine lv_iadd hx hb dX6_clear_25 ?_
        refine lv_iconst (v := (-1)) hx hb dX6_clear_26 (by decide) ?_
        obtain ⟨hg_15, hden⟩ := grd_s hden
        refine va_iast hx hb hK hP hD hS 1 0 rfl rfl (inb_in hg_15) dX6_clear_27 (fun H locs hP hD hS => ?_)
        obtain ⟨v_s_16, ev_s_16, hden⟩ := nm_x hden
        have hP : va_P D vwCl [(a_this, .inr (5, [.int v_thrown, .ref a_this_s, .ref a_this_aside, .ref a_this_saved, .int v_savedMany, .ref a_this_text, .int v_length, .ref a_this_states, .int v_many, .int v_at, .int v_isWrong, .int v_letters, .int v_matched, .ref a_this_rows, .int v_manyRows, .long v_digested])), (a_this_s, .inl (cI, 31, .inl v_s_16))] H := by rw [ev_s_16]; exact hP
        have hD : va_D A [(a_this, .inr (5, [.int v_thrown, .ref a_this_s, .ref a_this_aside, .ref a_this_saved, .int v_savedMany, .ref a_this_text, .int v_length, .ref a_this_states, .int v_many, .int v_at, .int v_isWrong, .int v_letters, .int v_matched, .ref a_this_rows, .int v_manyRows, .long v_digested])), (a_this_s, .inl (cI, 31, .inl v_s_16))] := by rw [ev_s_16]; exact hD
        obtain ⟨x1_17, ex1_17, hden⟩ := nm_x hden
        refine lv_iinc (v := x1_17) (lv' := [(1, .int x1_17), (0, .ref a_this)]) hx hb dX6_clear_28 hl (k := 1) rfl (by rw [ex1_17]; rfl) (by decide) rfl (fun ls hl => ?_)
        refine lv_goto (tgt := 2) hx hb dX6_clear_31 (by decide) ?_
        exact ih x1_17 v_s_16 _ _ (mSubP hP [0, 1] rfl) (hD.sub [0, 1] (by decide) rfl) hS ls (lv_sub hl [1, 0] rfl) hden
  refine hL2__12 _ (fun v_s_11 H locs hP hD hS ls hl hden => ?_) F 0 v_s _ _ (mSubP hP [0, 1] rfl) (hD.sub [0, 1] (by decide) rfl) hS ls (lv_sub hl [1, 0] rfl) hden
  refine lv_aload_n hx hb dX6_clear_34 rfl (lv_at hl 0 rfl) ?_
  refine va_get (D := D) (ci := 5) (v := .ref a_this_s) (C := RX6) (T := TX6) (N := 16) hx hb hts hin_X6 hown hK hP 0 rfl rfl 1 (by decide) w_7 (fun _ h9 => h9) rfl dX6_clear_35 ?_
  refine lv_bipush (v := 25) hx hb dX6_clear_38 (by decide) ?_
  refine lv_iconst (v := 0) hx hb dX6_clear_40 (by decide) ?_
  obtain ⟨hg_19, hden⟩ := grd_s hden
  refine va_iast hx hb hK hP hD hS 1 0 rfl rfl (inb_in hg_19) dX6_clear_41 (fun H locs hP hD hS => ?_)
  obtain ⟨v_s_20, ev_s_20, hden⟩ := nm_x hden
  have hP : va_P D vwCl [(a_this, .inr (5, [.int v_thrown, .ref a_this_s, .ref a_this_aside, .ref a_this_saved, .int v_savedMany, .ref a_this_text, .int v_length, .ref a_this_states, .int v_many, .int v_at, .int v_isWrong, .int v_letters, .int v_matched, .ref a_this_rows, .int v_manyRows, .long v_digested])), (a_this_s, .inl (cI, 31, .inl v_s_20))] H := by rw [ev_s_20]; exact hP
  have hD : va_D A [(a_this, .inr (5, [.int v_thrown, .ref a_this_s, .ref a_this_aside, .ref a_this_saved, .int v_savedMany, .ref a_this_text, .int v_length, .ref a_this_states, .int v_many, .int v_at, .int v_isWrong, .int v_letters, .int v_matched, .ref a_this_rows, .int v_manyRows, .long v_digested])), (a_this_s, .inl (cI, 31, .inl v_s_20))] := by rw [ev_s_20]; exact hD
  refine lv_aload_n hx hb dX6_clear_42 rfl (lv_at hl 0 rfl) ?_
  refine va_get (D := D) (ci := 5) (v := .ref a_this_s) (C := RX6) (T := TX6) (N := 16) hx hb hts hin_X6 hown hK hP 0 rfl rfl 1 (by decide) w_7 (fun _ h9 => h9) rfl dX6_clear_43 ?_
  refine lv_bipush (v := 26) hx hb dX6_clear_46 (by decide) ?_
  refine lv_iconst (v := 0) hx hb dX6_clear_48 (by decide) ?_
  obtain ⟨hg_21, hden⟩ := grd_s hden
  refine va_iast hx hb hK hP hD hS 1 0 rfl rfl (inb_in hg_21) dX6_clear_49 (fun H locs hP hD hS => ?_)
  obtain ⟨v_s_22, ev_s_22, hden⟩ := nm_x hden
  have hP : va_P D vwCl [(a_this, .inr (5, [.int v_thrown, .ref a_this_s, .ref a_this_aside, .ref a_this_saved, .int v_savedMany, .ref a_this_text, .int v_length, .ref a_this_states, .int v_many, .int v_at, .int v_isWrong, .int v_letters, .int v_matched, .ref a_this_rows, .int v_manyRows, .long v_digested])), (a_this_s, .inl (cI, 31, .inl v_s_22))] H := by rw [ev_s_22]; exact hP
  have hD : va_D A [(a_this, .inr (5, [.int v_thrown, .ref a_this_s, .ref a_this_aside, .ref a_this_saved, .int v_savedMany, .ref a_this_text, .int v_length, .ref a_this_states, .int v_many, .int v_at, .int v_isWrong, .int v_letters, .int v_matched, .ref a_this_rows, .int v_manyRows, .long v_digested])), (a_this_s, .inl (cI, 31, .inl v_s_22))] := by rw [ev_s_22]; exact hD
  refine lv_aload_n hx hb dX6_clear_50 rfl (lv_at hl 0 rfl) ?_
  refine va_get (D := D) (ci := 5) (v := .ref a_this_s) (C := RX6) (T := TX6) (N := 16) hx hb hts hin_X6 hown hK hP 0 rfl rfl 1 (by decide) w_7 (fun _ h9 => h9) rfl dX6_clear_51 ?_
  refine lv_bipush (v := 27) hx hb dX6_clear_54 (by decide) ?_
  refine lv_iconst (v := 0) hx hb dX6_clear_56 (by decide) ?_
  obtain ⟨hg_23, hden⟩ := grd_s hden
  refine va_iast hx hb hK hP hD hS 1 0 rfl rfl (inb_in hg_23) dX6_clear_57 (fun H locs hP hD hS => ?_)
  obtain ⟨v_s_24, ev_s_24, hden⟩ := nm_x hden
  have hP : va_P D vwCl [(a_this, .inr (5, [.int v_thrown, .ref a_this_s, .ref a_this_aside, .ref a_this_saved, .int v_savedMany, .ref a_this_text, .int v_length, .ref a_this_states, .int v_many, .int v_at, .int v_isWrong, .int v_letters, .int v_matched, .ref a_this_rows, .int v_manyRows, .long v_digested])), (a_this_s, .inl (cI, 31, .inl v_s_24))] H := by rw [ev_s_24]; exact hP
  have hD : va_D A [(a_this, .inr (5, [.int v_thrown, .ref a_this_s, .ref a_this_aside, .ref a_this_saved, .int v_savedMany, .ref a_this_text, .int v_length, .ref a_this_states, .int v_many, .int v_at, .int v_isWrong, .int v_letters, .int v_matched, .ref a_this_rows, .int v_manyRows, .long v_digested])), (a_this_s, .inl (cI, 31, .inl v_s_24))] := by rw [ev_s_24]; exact hD
  refine lv_aload_n hx hb dX6_clear_58 rfl (lv_at hl 0 rfl) ?_
  refine va_get (D := D) (ci := 5) (v := .ref a_this_s) (C := RX6) (T := TX6) (N := 16) hx hb hts hin_X6 hown hK hP 0 rfl rfl 1 (by decide) w_7 (fun _ h9 => h9) rfl dX6_clear_59 ?_
  refine lv_bipush (v := 28) hx hb dX6_clear_62 (by decide) ?_
  refine lv_iconst (v := (-1)) hx hb dX6_clear_64 (by decide) ?_
  obtain ⟨hg_25, hden⟩ := grd_s hden
  refine va_iast hx hb hK hP hD hS 1 0 rfl rfl (inb_in hg_25) dX6_clear_65 (fun H locs hP hD hS => ?_)
  obtain ⟨v_s_26, ev_s_26, hden⟩ := nm_x hden
  have hP : va_P D vwCl [(a_this, .inr (5, [.int v_thrown, .ref a_this_s, .ref a_this_aside, .ref a_this_saved, .int v_savedMany, .ref a_this_text, .int v_length, .ref a_this_states, .int v_many, .int v_at, .int v_isWrong, .int v_letters, .int v_matched, .ref a_this_rows, .int v_manyRows, .long v_digested])), (a_this_s, .inl (cI, 31, .inl v_s_26))] H := by rw [ev_s_26]; exact hP
  have hD : va_D A [(a_this, .inr (5, [.int v_thrown, .ref a_this_s, .ref a_this_aside, .ref a_this_saved, .int v_savedMany, .ref a_this_text, .int v_length, .ref a_this_states, .int v_many, .int v_at, .int v_isWrong, .int v_letters, .int v_matched, .ref a_this_rows, .int v_manyRows, .long v_digested])), (a_this_s, .inl (cI, 31, .inl v_s_26))] := by rw [ev_s_26]; exact hD
  refine lv_aload_n hx hb dX6_clear_66 rfl (lv_at hl 0 rfl) ?_
  refine va_get (D := D) (ci := 5) (v := .ref a_this_s) (C := RX6) (T := TX6) (N := 16) hx hb hts hin_X6 hown hK hP 0 rfl rfl 1 (by decide) w_7 (fun _ h9 => h9) rfl dX6_clear_67 ?_
  refine lv_bipush (v := 29) hx hb dX6_clear_70 (by decide) ?_
  refine lv_iconst (v := 0) hx hb dX6_clear_72 (by decide) ?_
  obtain ⟨hg_27, hden⟩ := grd_s hden
  refine va_iast hx hb hK hP hD hS 1 0 rfl rfl (inb_in hg_27) dX6_clear_73 (fun H locs hP hD hS => ?_)
  obtain ⟨v_s_28, ev_s_28, hden⟩ := nm_x hden
  have hP : va_P D vwCl [(a_this, .inr (5, [.int v_thrown, .ref a_this_s, .ref a_this_aside, .ref a_this_saved, .int v_savedMany, .ref a_this_text, .int v_length, .ref a_this_states, .int v_many, .int v_at, .int v_isWrong, .int v_letters, .int v_matched, .ref a_this_rows, .int v_manyRows, .long v_digested])), (a_this_s, .inl (cI, 31, .inl v_s_28))] H := by rw [ev_s_28]; exact hP
  have hD : va_D A [(a_this, .inr (5, [.int v_thrown, .ref a_this_s, .ref a_this_aside, .ref a_this_saved, .int v_savedMany, .ref a_this_text, .int v_length, .ref a_this_states, .int v_many, .int v_at, .int v_isWrong, .int v_letters, .int v_matched, .ref a_this_rows, .int v_manyRows, .long v_digested])), (a_this_s, .inl (cI, 31, .inl v_s_28))] := by rw [ev_s_28]; exact hD
  refine lv_aload_n hx hb dX6_clear_74 rfl (lv_at hl 0 rfl) ?_
  refine va_get (D := D) (ci := 5) (v := .ref a_this_s) (C := RX6) (T := TX6) (N := 16) hx hb hts hin_X6 hown hK hP 0 rfl rfl 1 (by decide) w_7 (fun _ h9 => h9) rfl dX6_clear_75 ?_
  refine lv_bipush (v := 30) hx hb dX6_clear_78 (by decide) ?_
  refine lv_iconst (v := 0) hx hb dX6_clear_80 (by decide) ?_
  obtain ⟨hg_29, hden⟩ := grd_s hden
  refine va_iast hx hb hK hP hD hS 1 0 rfl rfl (inb_in hg_29) dX6_clear_81 (fun H locs hP hD hS => ?_)
  obtain ⟨v_s_30, ev_s_30, hden⟩ := nm_x hden
  have hP : va_P D vwCl [(a_this, .inr (5, [.int v_thrown, .ref a_this_s, .ref a_this_aside, .ref a_this_saved, .int v_savedMany, .ref a_this_text, .int v_length, .ref a_this_states, .int v_many, .int v_at, .int v_isWrong, .int v_letters, .int v_matched, .ref a_this_rows, .int v_manyRows, .long v_digested])), (a_this_s, .inl (cI, 31, .inl v_s_30))] H := by rw [ev_s_30]; exact hP
  have hD : va_D A [(a_this, .inr (5, [.int v_thrown, .ref a_this_s, .ref a_this_aside, .ref a_this_saved, .int v_savedMany, .ref a_this_text, .int v_length, .ref a_this_states, .int v_many, .int v_at, .int v_isWrong, .int v_letters, .int v_matched, .ref a_this_rows, .int v_manyRows, .long v_digested])), (a_this_s, .inl (cI, 31, .inl v_s_30))] := by rw [ev_s_30]; exact hD
  subst hQe
  cases hden
  exact m_rv hx hb hr hP hD hS [0, 1] (by decide) rfl dX6_clear_82 hlocks
def D_X6_thrown (F : Nat) (v_thrown : Int32) : Option (Int32) := some (v_thrown)
def rm_X6_thrown : Room := { frames := 0, cells := 0, slots := 0, locals := 0 }
set_option maxHeartbeats 4000000 in
set_option maxRecDepth 100000 in
theorem c_X6_thrown (l : Launch) (D : va_G) (cI cM cL : ClassId) (F : Nat) {a_this a_this_s a_this_aside a_this_saved a_this_text a_this_states a_this_rows : Nat} {sz : Nat} {v_thrown v_savedMany v_length v_many v_at v_isWrong v_letters v_matched v_manyRows : Int32} {v_digested : Int64} {r0 : Int32} (hden : D_X6_thrown F v_thrown = some (r0)) : Met l yX6_thrown wsX6_thrown rm_X6_thrown (va_Pc [.ref a_this] (mB D (mTy cI cM cL) sz [(a_this, .inr (5, [.int v_thrown, .ref a_this_s, .ref a_this_aside, .ref a_this_saved, .int v_savedMany, .ref a_this_text, .int v_length, .ref a_this_states, .int v_many, .int v_at, .int v_isWrong, .int v_letters, .int v_matched, .ref a_this_rows, .int v_manyRows, .long v_digested]))])) (mQi D (va_A [(a_this, .inr (5, [.int v_thrown, .ref a_this_s, .ref a_this_aside, .ref a_this_saved, .int v_savedMany, .ref a_this_text, .int v_length, .ref a_this_states, .int v_many, .int v_at, .int v_isWrong, .int v_letters, .int v_matched, .ref a_this_rows, .int v_manyRows, .long v_digested]))] sz) [(a_this, .inr (5, [.int v_thrown, .ref a_this_s, .ref a_this_aside, .ref a_this_saved, .int v_savedMany, .ref a_this_text, .int v_length, .ref a_this_states, .int v_many, .int v_at, .int v_isWrong, .int v_letters, .int v_matched, .ref a_this_rows, .int v_manyRows, .long v_digested]))] r0) 0 0 (va_A [(a_this, .inr (5, [.int v_thrown, .ref a_this_s, .ref a_this_aside, .ref a_this_saved, .int v_savedMany, .ref a_this_text, .int v_length, .ref a_this_states, .int v_many, .int v_at, .int v_isWrong, .int v_letters, .int v_matched, .ref a_this_rows, .int v_manyRows, .long v_digested]))] sz) := by
  refine Met.ofW (cc := cX6_thrown) (maxL := 1) (ret := (some .int)) (by decide) rfl ?_
  intro p e s m args below meth c s₁ B hml hv
  obtain ⟨rfl, hsz, hP, hK, hN, hD0⟩ := hv
  have hx := B.exec
  have hb := B.bytes
  have hr := B.returns
  have hts := atoms_spec (ws := wsX6_thrown) B.pre
  have hown : s.vm.findClass RX6 = some m.cls := findClass_of_methodNamed B.named
  have hlocks := B.notSynchronized
  subst hsz
  have hD := hD0.self (sz := s.heap.size)
  generalize hAe : va_A [(a_this, .inr (5, [.int v_thrown, .ref a_this_s, .ref a_this_aside, .ref a_this_saved, .int v_savedMany, .ref a_this_text, .int v_length, .ref a_this_states, .int v_many, .int v_at, .int v_isWrong, .int v_letters, .int v_matched, .ref a_this_rows, .int v_manyRows, .long v_digested]))] s.heap.size = A at hD ⊢
  have hA : ∀ q : Nat, s.heap.size ≤ q → A q := fun q h => by rw [← hAe]; exact Or.inr h
  have hS : va_S A s.heap s.heap [] := va_S.rf
  have hl := lv_entry ([.ref a_this]) (n := 1) (Nat.le_of_ble_eq_true rfl)
  rw [lg_entry_eq]
  generalize (lg_sl ([.ref a_this]) ++ List.replicate (1 - (lg_sl ([.ref a_this])).length) Slot.unset).toArray = ls at hl ⊢
  have hl : lv_has ls 1 [(0, .ref a_this)] := hl
  change W p l e rm_X6_thrown s m (([.ref a_this] : List Value).toArray) below meth c s.heap [] 0 0 _ (F0 m 0 ls [])
  generalize hQe : MQ below (mQi D A [(a_this, .inr (5, [.int v_thrown, .ref a_this_s, .ref a_this_aside, .ref a_this_saved, .int v_savedMany, .ref a_this_text, .int v_length, .ref a_this_states, .int v_many, .int v_at, .int v_isWrong, .int v_letters, .int v_matched, .ref a_this_rows, .int v_manyRows, .long v_digested]))] r0) (([.ref a_this] : List Value).toArray) s 0 0 A = Q
  rw [D_X6_thrown] at hden
  have hin_X6 : ∀ w ∈ wsX60, w ∈ wsX6_thrown := by decide +kernel
  have w_31 := hts (.fieldLink RX6 31 "FallingPatternsModel" "thrown" "I") (by decide +kernel)
  refine lv_aload_n hx hb dX6_thrown_0 rfl (lv_at hl 0 rfl) ?_
  refine va_get (D := D) (ci := 5) (v := .int v_thrown) (C := RX6) (T := TX6) (N := 16) hx hb hts hin_X6 hown hK hP 0 rfl rfl 0 (by decide) w_31 (fun _ h9 => h9) rfl dX6_thrown_1 ?_
  subst hQe
  cases hden
  exact m_ri hx hb hr hP hD hS [0] (by decide) rfl rfl dX6_thrown_4 hlocks
def D_X6_in (F : Nat) (p1 : Int32) (p2 : Int32) (p3 : Int32) : Option (Int32) := (if p1 < p2 then some (0) else (if p3 < p1 then some (0) else some (1)))
def rm_X6_in : Room := { frames := 0, cells := 0, slots := 0, locals := 0 }
set_option maxHeartbeats 4000000 in
set_option maxRecDepth 100000 in
theorem c_X6_in (l : Launch) (D : va_G) (cI cM cL : ClassId) (F : Nat) {sz : Nat} {p1 : Int32} {p2 : Int32} {p3 : Int32} {r0 : Int32} (hden : D_X6_in F p1 p2 p3 = some (r0)) : Met l yX6_in wsX6_in rm_X6_in (va_Pc [.int p1, .int p2, .int p3] (mB D (mTy cI cM cL) sz [])) (mQi D (va_A [] sz) [] r0) 0 0 (va_A [] sz) := by
  refine Met.ofW (cc := cX6_in) (maxL := 3) (ret := (some .boolean)) (by decide) rfl ?_
  intro p e s m args below meth c s₁ B hml hv
  obtain ⟨rfl, hsz, hP, hK, hN, hD0⟩ := hv
  have hx := B.exec
  have hb := B.bytes
  have hr := B.returns
  have hts := atoms_spec (ws := wsX6_in) B.pre
  have hown : s.vm.findClass RX6 = some m.cls := findClass_of_methodNamed B.named
  have hlocks := B.notSynchronized
  subst hsz
  have hD := hD0.self (sz := s.heap.size)
  generalize hAe : va_A [] s.heap.size = A at hD ⊢
  have hA : ∀ q : Nat, s.heap.size ≤ q → A q := fun q h => by rw [← hAe]; exact Or.inr h
  have hS : va_S A s.heap s.heap [] := va_S.rf
  have hl := lv_entry ([.int p1, .int p2, .int p3]) (n := 3) (Nat.le_of_ble_eq_true rfl)
  rw [lg_entry_eq]
  generalize (lg_sl ([.int p1, .int p2, .int p3]) ++ List.replicate (3 - (lg_sl ([.int p1, .int p2, .int p3])).length) Slot.unset).toArray = ls at hl ⊢
  have hl : lv_has ls 3 [(0, .int p1), (1, .int p2), (2, .int p3)] := hl
  change W p l e rm_X6_in s m (([.int p1, .int p2, .int p3] : List Value).toArray) below meth c s.heap [] 0 0 _ (F0 m 0 ls [])
  generalize hQe : MQ below (mQi D A [] r0) (([.int p1, .int p2, .int p3] : List Value).toArray) s 0 0 A = Q
  rw [D_X6_in] at hden
  refine lv_iload_n hx hb dX6_in_0 rfl (lv_at hl 0 rfl) ?_
  refine lv_iload_n hx hb dX6_in_1 rfl (lv_at hl 1 rfl) ?_
  refine lv_icmp_lt (tgt := 14) hx hb dX6_in_2 (by decide) (fun c_2 => ?_) (fun c_2 => ?_)
  · have hden := if_s hden c_2
    refine lv_iconst (v := 0) hx hb dX6_in_14 (by decide) ?_
    subst hQe
    cases hden
    exact m_rz hx hb hr hP hD hS [] (by decide) rfl rfl (by decide) dX6_in_15 hlocks
  · have hden := ifn_s hden c_2
    refine lv_iload_n hx hb dX6_in_5 rfl (lv_at hl 0 rfl) ?_
    refine lv_iload_n hx hb dX6_in_6 rfl (lv_at hl 2 rfl) ?_
    refine lv_icmp_gt (tgt := 14) hx hb dX6_in_7 (by decide) (fun c_1 => ?_) (fun c_1 => ?_)
    · have hden := if_s hden c_1
      refine lv_iconst (v := 0) hx hb dX6_in_14 (by decide) ?_
      subst hQe
      cases hden
      exact m_rz hx hb hr hP hD hS [] (by decide) rfl rfl (by decide) dX6_in_15 hlocks
    · have hden := ifn_s hden c_1
      refine lv_iconst (v := 1) hx hb dX6_in_10 (by decide) ?_
      refine lv_goto (tgt := 15) hx hb dX6_in_11 (by decide) ?_
      subst hQe
      cases hden
      exact m_rz hx hb hr hP hD hS [] (by decide) rfl rfl (by decide) dX6_in_15 hlocks
def D_X6_holds (F : Nat) (p1 : Int32) (v_thrown : Int32) : Option (Int32 × Int32) := (if p1 = 0 then some (1, p1) else some (0, p1))
def rm_X6_holds : Room := { frames := 0, cells := 0, slots := 0, locals := 0 }
set_option maxHeartbeats 4000000 in
set_option maxRecDepth 100000 in
theorem c_X6_holds (l : Launch) (D : va_G) (cI cM cL : ClassId) (F : Nat) {a_this a_this_s a_this_aside a_this_saved a_this_text a_this_states a_this_rows : Nat} {sz : Nat} {v_thrown v_savedMany v_length v_many v_at v_isWrong v_letters v_matched v_manyRows : Int32} {v_digested : Int64} {p1 : Int32} {r0 : Int32} {w_thrown : Int32} (hden : D_X6_holds F p1 v_thrown = some (r0, w_thrown)) : Met l yX6_holds wsX6_holds rm_X6_holds (va_Pc [.ref a_this, .int p1] (mB D (mTy cI cM cL) sz [(a_this, .inr (5, [.int v_thrown, .ref a_this_s, .ref a_this_aside, .ref a_this_saved, .int v_savedMany, .ref a_this_text, .int v_length, .ref a_this_states, .int v_many, .int v_at, .int v_isWrong, .int v_letters, .int v_matched, .ref a_this_rows, .int v_manyRows, .long v_digested]))])) (mQi D (va_A [(a_this, .inr (5, [.int v_thrown, .ref a_this_s, .ref a_this_aside, .ref a_this_saved, .int v_savedMany, .ref a_this_text, .int v_length, .ref a_this_states, .int v_many, .int v_at, .int v_isWrong, .int v_letters, .int v_matched, .ref a_this_rows, .int v_manyRows, .long v_digested]))] sz) [(a_this, .inr (5, [.int w_thrown, .ref a_this_s, .ref a_this_aside, .ref a_this_saved, .int v_savedMany, .ref a_this_text, .int v_length, .ref a_this_states, .int v_many, .int v_at, .int v_isWrong, .int v_letters, .int v_matched, .ref a_this_rows, .int v_manyRows, .long v_digested]))] r0) 0 0 (va_A [(a_this, .inr (5, [.int v_thrown, .ref a_this_s, .ref a_this_aside, .ref a_this_saved, .int v_savedMany, .ref a_this_text, .int v_length, .ref a_this_states, .int v_many, .int v_at, .int v_isWrong, .int v_letters, .int v_matched, .ref a_this_rows, .int v_manyRows, .long v_digested]))] sz) := by
  refine Met.ofW (cc := cX6_holds) (maxL := 2) (ret := (some .boolean)) (by decide) rfl ?_
  intro p e s m args below meth c s₁ B hml hv
  obtain ⟨rfl, hsz, hP, hK, hN, hD0⟩ := hv
  have hx := B.exec
  have hb := B.bytes
  have hr := B.returns
  have hts := atoms_spec (ws := wsX6_holds) B.pre
  have hown : s.vm.findClass RX6 = some m.cls := findClass_of_methodNamed B.named
  have hlocks := B.notSynchronized
  subst hsz
  have hD := hD0.self (sz := s.heap.size)
  generalize hAe : va_A [(a_this, .inr (5, [.int v_thrown, .ref a_this_s, .ref a_this_aside, .ref a_this_saved, .int v_savedMany, .ref a_this_text, .int v_length, .ref a_this_states, .int v_many, .int v_at, .int v_isWrong, .int v_letters, .int v_matched, .ref a_this_rows, .int v_manyRows, .long v_digested]))] s.heap.size = A at hD ⊢
  have hA : ∀ q : Nat, s.heap.size ≤ q → A q := fun q h => by rw [← hAe]; exact Or.inr h
  have hS : va_S A s.heap s.heap [] := va_S.rf
  have hl := lv_entry ([.ref a_this, .int p1]) (n := 2) (Nat.le_of_ble_eq_true rfl)
  rw [lg_entry_eq]
  generalize (lg_sl ([.ref a_this, .int p1]) ++ List.replicate (2 - (lg_sl ([.ref a_this, .int p1])).length) Slot.unset).toArray = ls at hl ⊢
  have hl : lv_has ls 2 [(0, .ref a_this), (1, .int p1)] := hl
  change W p l e rm_X6_holds s m (([.ref a_this, .int p1] : List Value).toArray) below meth c s.heap [] 0 0 _ (F0 m 0 ls [])
  generalize hQe : MQ below (mQi D A [(a_this, .inr (5, [.int w_thrown, .ref a_this_s, .ref a_this_aside, .ref a_this_saved, .int v_savedMany, .ref a_this_text, .int v_length, .ref a_this_states, .int v_many, .int v_at, .int v_isWrong, .int v_letters, .int v_matched, .ref a_this_rows, .int v_manyRows, .long v_digested]))] r0) (([.ref a_this, .int p1] : List Value).toArray) s 0 0 A = Q
  rw [D_X6_holds] at hden
  have hin_X6 : ∀ w ∈ wsX60, w ∈ wsX6_holds := by decide +kernel
  have w_31 := hts (.fieldLink RX6 31 "FallingPatternsModel" "thrown" "I") (by decide +kernel)
  refine lv_aload_n hx hb dX6_holds_0 rfl (lv_at hl 0 rfl) ?_
  refine lv_iload_n hx hb dX6_holds_1 rfl (lv_at hl 1 rfl) ?_
  refine va_put (D := D) (ci := 5) (v := .int p1) (ty := .int) (C := RX6) (T := TX6) (N := 16) hx hb hts hin_X6 tyX6 tyX6_ok nmX6 hown hK hP hD hS 0 rfl rfl 0 (by decide) w_31 (fun _ h9 => h9) rfl (by decide +kernel) rfl rfl (Nat.le_of_ble_eq_true rfl) dX6_holds_2 (fun H locs hP hD hS => ?_)
  have hP : va_P D vwCl [(a_this, .inr (5, [.int p1, .ref a_this_s, .ref a_this_aside, .ref a_this_saved, .int v_savedMany, .ref a_this_text, .int v_length, .ref a_this_states, .int v_many, .int v_at, .int v_isWrong, .int v_letters, .int v_matched, .ref a_this_rows, .int v_manyRows, .long v_digested]))] H := hP
  have hD : va_D A [(a_this, .inr (5, [.int p1, .ref a_this_s, .ref a_this_aside, .ref a_this_saved, .int v_savedMany, .ref a_this_text, .int v_length, .ref a_this_states, .int v_many, .int v_at, .int v_isWrong, .int v_letters, .int v_matched, .ref a_this_rows, .int v_manyRows, .long v_digested]))] := hD
  refine lv_iload_n hx hb dX6_holds_5 rfl (lv_at hl 1 rfl) ?_
  refine lv_if_ne (tgt := 13) hx hb dX6_holds_6 (by decide) (fun c_1 => ?_) (fun c_1 => ?_)
  · have hden := ifn_s hden c_1
    refine lv_iconst (v := 0) hx hb dX6_holds_13 (by decide) ?_
    subst hQe
    cases hden
    exact m_rz hx hb hr hP hD hS [0] (by decide) rfl rfl (by decide) dX6_holds_14 hlocks
  · have hden := if_s hden c_1
    refine lv_iconst (v := 1) hx hb dX6_holds_9 (by decide) ?_
    refine lv_goto (tgt := 14) hx hb dX6_holds_10 (by decide) ?_
    subst hQe
    cases hden
    exact m_rz hx hb hr hP hD hS [0] (by decide) rfl rfl (by decide) dX6_holds_14 hlocks
def L_X6_save_51 (F : Nat) (k83 : (Nat → Int32) → Option (Int32 × (Nat → Int32))) (v_savedMany : Int32) (v_s : (Nat → Int32)) : Nat → Int32 → (Nat → Int32) → Option (Int32 × (Nat → Int32))
  | 0, _, _ => none
  | n + 1, x1_3, v_saved_4 => (if 31 ≤ x1_3 then k83 v_saved_4 else grd (inb x1_3 31) (nm (v_s x1_3.toNatClampNeg) (fun y_6 => grd (inb (((31 : Int32) * v_savedMany) + x1_3) 186) (nm (upd v_saved_4 (((31 : Int32) * v_savedMany) + x1_3).toNatClampNeg y_6) (fun v_saved_8 => nm (x1_3 + 1) (fun x1_9 => L_X6_save_51 F k83 v_savedMany v_s n x1_9 v_saved_8))))))
def L_X6_save_11 (F : Nat) (k39 : (Nat → Int32) → Option (Int32 × (Nat → Int32))) : Nat → Int32 → (Nat → Int32) → Option (Int32 × (Nat → Int32))
  | 0, _, _ => none
  | n + 1, x1_22, v_saved_23 => (if 155 ≤ x1_22 then k39 v_saved_23 else grd (inb ((31 : Int32) + x1_22) 186) (nm (v_saved_23 ((31 : Int32) + x1_22).toNatClampNeg) (fun y_25 => grd (inb x1_22 186) (nm (upd v_saved_23 x1_22.toNatClampNeg y_25) (fun v_saved_27 => nm (x1_22 + 1) (fun x1_28 => L_X6_save_11 F k39 n x1_28 v_saved_27))))))
def D_X6_save (F : Nat) (v_savedMany : Int32) (v_s : (Nat → Int32)) (v_saved : (Nat → Int32)) : Option (Int32 × (Nat → Int32)) := jp (fun (v_savedMany_1 : Int32) (v_saved_2 : (Nat → Int32)) => L_X6_save_51 F (fun (v_saved_13 : (Nat → Int32)) => nm (v_savedMany_1 + 1) (fun f_savedMany_21 => some (f_savedMany_21, v_saved_13))) v_savedMany_1 v_s F 0 v_saved_2) (fun j49 => (if v_savedMany = 6 then L_X6_save_11 F (fun (v_saved_32 : (Nat → Int32)) => nm (v_savedMany - 1) (fun f_savedMany_40 => j49 f_savedMany_40 v_saved_32)) F 0 v_saved else j49 v_savedMany v_saved))
def rm_X6_save : Room := { frames := 0, cells := 0, slots := 0, locals := 0 }
set_option maxHeartbeats 4000000 in
set_option maxRecDepth 100000 in
theorem c_X6_save (l : Launch) (D : va_G) (cI cM cL : ClassId) (F : Nat) {a_this a_this_s a_this_aside a_this_saved a_this_text a_this_states a_this_rows : Nat} {sz : Nat} {v_thrown v_savedMany v_length v_many v_at v_isWrong v_letters v_matched v_manyRows : Int32} {v_digested : Int64} {v_s v_saved : Nat → Int32} {w_savedMany : Int32} {w_saved : (Nat → Int32)} (hden : D_X6_save F v_savedMany v_s v_saved = some (w_savedMany, w_saved)) : Met l yX6_save wsX6_save rm_X6_save (va_Pc [.ref a_this] (mB D (mTy cI cM cL) sz [(a_this, .inr (5, [.int v_thrown, .ref a_this_s, .ref a_this_aside, .ref a_this_saved, .int v_savedMany, .ref a_this_text, .int v_length, .ref a_this_states, .int v_many, .int v_at, .int v_isWrong, .int v_letters, .int v_matched, .ref a_this_rows, .int v_manyRows, .long v_digested])), (a_this_s, .inl (cI, 31, .inl v_s)), (a_this_saved, .inl (cI, 186, .inl v_saved))])) (mQv D (va_A [(a_this, .inr (5, [.int v_thrown, .ref a_this_s, .ref a_this_aside, .ref a_this_saved, .int v_savedMany, .ref a_this_text, .int v_length, .ref a_this_states, .int v_many, .int v_at, .int v_isWrong, .int v_letters, .int v_matched, .ref a_this_rows, .int v_manyRows, .long v_digested])), (a_this_s, .inl (cI, 31, .inl v_s)), (a_this_saved, .inl (cI, 186, .inl v_saved))] sz) [(a_this, .inr (5, [.int v_thrown, .ref a_this_s, .ref a_this_aside, .ref a_this_saved, .int w_savedMany, .ref a_this_text, .int v_length, .ref a_this_states, .int v_many, .int v_at, .int v_isWrong, .int v_letters, .int v_matched, .ref a_this_rows, .int v_manyRows, .long v_digested])), (a_this_s, .inl (cI, 31, .inl v_s)), (a_this_saved, .inl (cI, 186, .inl w_saved))]) 0 0 (va_A [(a_this, .inr (5, [.int v_thrown, .ref a_this_s, .ref a_this_aside, .ref a_this_saved, .int v_savedMany, .ref a_this_text, .int v_length, .ref a_this_states, .int v_many, .int v_at, .int v_isWrong, .int v_letters, .int v_matched, .ref a_this_rows, .int v_manyRows, .long v_digested])), (a_this_s, .inl (cI, 31, .inl v_s)), (a_this_saved, .inl (cI, 186, .inl v_saved))] sz) := by
  refine Met.ofW (cc := cX6_save) (maxL := 2) (ret := none) (by decide) rfl ?_
  intro p e s m args below meth c s₁ B hml hv
  obtain ⟨rfl, hsz, hP, hK, hN, hD0⟩ := hv
  have hx := B.exec
  have hb := B.bytes
  have hr := B.returns
  have hts := atoms_spec (ws := wsX6_save) B.pre
  have hown : s.vm.findClass RX6 = some m.cls := findClass_of_methodNamed B.named
  have hlocks := B.notSynchronized
  subst hsz
  have hD := hD0.self (sz := s.heap.size)
  generalize hAe : va_A [(a_this, .inr (5, [.int v_thrown, .ref a_this_s, .ref a_this_aside, .ref a_this_saved, .int v_savedMany, .ref a_this_text, .int v_length, .ref a_this_states, .int v_many, .int v_at, .int v_isWrong, .int v_letters, .int v_matched, .ref a_this_rows, .int v_manyRows, .long v_digested])), (a_this_s, .inl (cI, 31, .inl v_s)), (a_this_saved, .inl (cI, 186, .inl v_saved))] s.heap.size = A at hD ⊢
  have hA : ∀ q : Nat, s.heap.size ≤ q → A q := fun q h => by rw [← hAe]; exact Or.inr h
  have hS : va_S A s.heap s.heap [] := va_S.rf
  have hl := lv_entry ([.ref a_this]) (n := 2) (Nat.le_of_ble_eq_true rfl)
  rw [lg_entry_eq]
  generalize (lg_sl ([.ref a_this]) ++ List.replicate (2 - (lg_sl ([.ref a_this])).length) Slot.unset).toArray = ls at hl ⊢
  have hl : lv_has ls 2 [(0, .ref a_this)] := hl
  change W p l e rm_X6_save s m (([.ref a_this] : List Value).toArray) below meth c s.heap [] 0 0 _ (F0 m 0 ls [])
  generalize hQe : MQ below (mQv D A [(a_this, .inr (5, [.int v_thrown, .ref a_this_s, .ref a_this_aside, .ref a_this_saved, .int w_savedMany, .ref a_this_text, .int v_length, .ref a_this_states, .int v_many, .int v_at, .int v_isWrong, .int v_letters, .int v_matched, .ref a_this_rows, .int v_manyRows, .long v_digested])), (a_this_s, .inl (cI, 31, .inl v_s)), (a_this_saved, .inl (cI, 186, .inl w_saved))]) (([.ref a_this] : List Value).toArray) s 0 0 A = Q
  rw [D_X6_save] at hden
  have hin_X6 : ∀ w ∈ wsX60, w ∈ wsX6_save := by decide +kernel
  have w_35 := hts (.fieldLink RX6 35 "FallingPatternsModel" "savedMany" "I") (by decide +kernel)
  have w_16 := hts (.fieldLink RX6 16 "FallingPatternsModel" "saved" "[I") (by decide +kernel)
  have w_7 := hts (.fieldLink RX6 7 "FallingPatternsModel" "s" "[I") (by decide +kernel)
  refine lv_aload_n hx hb dX6_save_0 rfl (lv_at hl 0 rfl) ?_
  refine va_get (D := D) (ci := 5) (v := .int v_savedMany) (C := RX6) (T := TX6) (N := 16) hx hb hts hin_X6 hown hK hP 0 rfl rfl 4 (by decide) w_35 (fun _ h9 => h9) rfl dX6_save_1 ?_
  refine lv_bipush (v := 6) hx hb dX6_save_4 (by decide) ?_
  obtain ⟨j49, ej49, hden⟩ := jp_s hden
  have hj49 : ∀ (v_savedMany_1 : Int32) (v_saved_2 : (Nat → Int32)) (H : Heap) (locs : List Loc), va_P D vwCl [(a_this, .inr (5, [.int v_thrown, .ref a_this_s, .ref a_this_aside, .ref a_this_saved, .int v_savedMany_1, .ref a_this_text, .int v_length, .ref a_this_states, .int v_many, .int v_at, .int v_isWrong, .int v_letters, .int v_matched, .ref a_this_rows, .int v_manyRows, .long v_digested])), (a_this_s, .inl (cI, 31, .inl v_s)), (a_this_saved, .inl (cI, 186, .inl v_saved_2))] H → va_D A [(a_this, .inr (5, [.int v_thrown, .ref a_this_s, .ref a_this_aside, .ref a_this_saved, .int v_savedMany_1, .ref a_this_text, .int v_length, .ref a_this_states, .int v_many, .int v_at, .int v_isWrong, .int v_letters, .int v_matched, .ref a_this_rows, .int v_manyRows, .long v_digested])), (a_this_s, .inl (cI, 31, .inl v_s)), (a_this_saved, .inl (cI, 186, .inl v_saved_2))] → va_S A s.heap H locs → ∀ ls : Array Slot, lv_has ls 2 [(0, .ref a_this)] → j49 v_savedMany_1 v_saved_2 = some (w_savedMany, w_saved) → W p l e rm_X6_save s m (([.ref a_this] : List Value).toArray) below meth c H locs 0 0 Q (F0 m 49 ls []) := by
    intro v_savedMany_1 v_saved_2 H locs hP hD hS ls hl hden
    rw [ej49] at hden
    refine lv_iconst (v := 0) hx hb dX6_save_49 (by decide) ?_
    refine lv_istore_n (lv' := [(1, .int 0), (0, .ref a_this)]) hx hb dX6_save_50 rfl hl (by decide) rfl (fun ls hl => ?_)
    have hL51__14 : ∀ (k83 : (Nat → Int32) → Option (Int32 × (Nat → Int32))), (∀ (v_saved_13 : (Nat → Int32)) (H : Heap) (locs : List Loc), va_P D vwCl [(a_this, .inr (5, [.int v_thrown, .ref a_this_s, .ref a_this_aside, .ref a_this_saved, .int v_savedMany_1, .ref a_this_text, .int v_length, .ref a_this_states, .int v_many, .int v_at, .int v_isWrong, .int v_letters, .int v_matched, .ref a_this_rows, .int v_manyRows, .long v_digested])), (a_this_s, .inl (cI, 31, .inl v_s)), (a_this_saved, .inl (cI, 186, .inl v_saved_13))] H → va_D A [(a_this, .inr (5, [.int v_thrown, .ref a_this_s, .ref a_this_aside, .ref a_this_saved, .int v_savedMany_1, .ref a_this_text, .int v_length, .ref a_this_states, .int v_many, .int v_at, .int v_isWrong, .int v_letters, .int v_matched, .ref a_this_rows, .int v_manyRows, .long v_digested])), (a_this_s, .inl (cI, 31, .inl v_s)), (a_this_saved, .inl (cI, 186, .inl v_saved_13))] → va_S A s.heap H locs → ∀ ls : Array Slot, lv_has ls 2 [(0, .ref a_this)] → k83 v_saved_13 = some (w_savedMany, w_saved) → W p l e rm_X6_save s m (([.ref a_this] : List Value).toArray) below meth c H locs 0 0 Q (F0 m 83 ls [])) → ∀ (n : Nat) (x1_11 : Int32) (v_saved_12 : (Nat → Int32)) (H : Heap) (locs : List Loc), va_P D vwCl [(a_this, .inr (5, [.int v_thrown, .ref a_this_s, .ref a_this_aside, .ref a_this_saved, .int v_savedMany_1, .ref a_this_text, .int v_length, .ref a_this_states, .int v_many, .int v_at, .int v_isWrong, .int v_letters, .int v_matched, .ref a_this_rows, .int v_manyRows, .long v_digested])), (a_this_s, .inl (cI, 31, .inl v_s)), (a_this_saved, .inl (cI, 186, .inl v_saved_12))] H → va_D A [(a_this, .inr (5, [.int v_thrown, .ref a_this_s, .ref a_this_aside, .ref a_this_saved, .int v_savedMany_1, .ref a_this_text, .int v_length, .ref a_this_states, .int v_many, .int v_at, .int v_isWrong, .int v_letters, .int v_matched, .ref a_this_rows, .int v_manyRows, .long v_digested])), (a_this_s, .inl (cI, 31, .inl v_s)), (a_this_saved, .inl (cI, 186, .inl v_saved_12))] → va_S A s.heap H locs → ∀ ls : Array Slot, lv_has ls 2 [(0, .ref a_this), (1, .int x1_11)] → L_X6_save_51 F k83 v_savedMany_1 v_s n x1_11 v_saved_12 = some (w_savedMany, w_saved) → W p l e rm_X6_save s m (([.ref a_this] : List Value).toArray) below meth c H locs 0 0 Q (F0 m 51 ls []) := by
      intro k83 hk83 n
      induction n with
      | zero => intro x1_11 v_saved_12 H locs hP hD hS ls hl hden; exact no_none hden
      | succ n ih =>
        intro x1_11 v_saved_12 H locs hP hD hS ls hl hden
        rw [L_X6_save_51] at hden
        refine lv_iload_n hx hb dX6_save_51 rfl (lv_at hl 1 rfl) ?_
        refine lv_bipush (v := 31) hx hb dX6_save_52 (by decide) ?_
        refine lv_icmp_ge (tgt := 83) hx hb dX6_save_54 (by decide) (fun c_20 => ?_) (fun c_20 => ?_)
        · have hden := if_s hden c_20
          exact hk83 v_saved_12 _ _ (mSubP hP [0, 1, 2] rfl) (hD.sub [0, 1, 2] (by decide) rfl) hS ls (lv_sub hl [0] rfl) hden
        · have hden := ifn_s hden c_20
          refine lv_aload_n hx hb dX6_save_57 rfl (lv_at hl 0 rfl) ?_
          refine va_get (D := D) (ci := 5) (v := .ref a_this_saved) (C := RX6) (T := TX6) (N := 16) hx hb hts hin_X6 hown hK hP 0 rfl rfl 3 (by decide) w_16 (fun _ h9 => h9) rfl dX6_save_58 ?_
          refine lv_bipush (v := 31) hx hb dX6_save_61 (by decide) ?_
          refine lv_aload_n hx hb dX6_save_63 rfl (lv_at hl 0 rfl) ?_
          refine va_get (D := D) (ci := 5) (v := .int v_savedMany_1) (C := RX6) (T := TX6) (N := 16) hx hb hts hin_X6 hown hK hP 0 rfl rfl 4 (by decide) w_35 (fun _ h9 => h9) rfl dX6_save_64 ?_
          refine lv_imul hx hb dX6_save_67 ?_
          refine lv_iload_n hx hb dX6_save_68 rfl (lv_at hl 1 rfl) ?_
          refine lv_iadd hx hb dX6_save_69 ?_
          refine lv_aload_n hx hb dX6_save_70 rfl (lv_at hl 0 rfl) ?_
          refine va_get (D := D) (ci := 5) (v := .ref a_this_s) (C := RX6) (T := TX6) (N := 16) hx hb hts hin_X6 hown hK hP 0 rfl rfl 1 (by decide) w_7 (fun _ h9 => h9) rfl dX6_save_71 ?_
          refine lv_iload_n hx hb dX6_save_74 rfl (lv_at hl 1 rfl) ?_
          obtain ⟨hg_15, hden⟩ := grd_s hden
          refine va_iald hx hb hK hP 1 0 rfl rfl (inb_in hg_15) dX6_save_75 ?_
          refine lv_topi (fun y_16 ey_16 => ?_)
          have hden := nm_s hden ey_16
          obtain ⟨hg_17, hden⟩ := grd_s hden
          refine va_iast hx hb hK hP hD hS 2 0 rfl rfl (inb_in hg_17) dX6_save_76 (fun H locs hP hD hS => ?_)
          obtain ⟨v_saved_18, ev_saved_18, hden⟩ := nm_x hden
          have hP : va_P D vwCl [(a_this, .inr (5, [.int v_thrown, .ref a_this_s, .ref a_this_aside, .ref a_this_saved, .int v_savedMany_1, .ref a_this_text, .int v_length, .ref a_this_states, .int v_many, .int v_at, .int v_isWrong, .int v_letters, .int v_matched, .ref a_this_rows, .int v_manyRows, .long v_digested])), (a_this_s, .inl (cI, 31, .inl v_s)), (a_this_saved, .inl (cI, 186, .inl v_saved_18))] H := by rw [ev_saved_18]; exact hP
          have hD : va_D A [(a_this, .inr (5, [.int v_thrown, .ref a_this_s, .ref a_this_aside, .ref a_this_saved, .int v_savedMany_1, .ref a_this_text, .int v_length, .ref a_this_states, .int v_many, .int v_at, .int v_isWrong, .int v_letters, .int v_matched, .ref a_this_rows, .int v_manyRows, .long v_digested])), (a_this_s, .inl (cI, 31, .inl v_s)), (a_this_saved, .inl (cI, 186, .inl v_saved_18))] := by rw [ev_saved_18]; exact hD
          obtain ⟨x1_19, ex1_19, hden⟩ := nm_x hden
          refine lv_iinc (v := x1_19) (lv' := [(1, .int x1_19), (0, .ref a_this)]) hx hb dX6_save_77 hl (k := 1) rfl (by rw [ex1_19]; rfl) (by decide) rfl (fun ls hl => ?_)
          refine lv_goto (tgt := 51) hx hb dX6_save_80 (by decide) ?_
          exact ih x1_19 v_saved_18 _ _ (mSubP hP [0, 1, 2] rfl) (hD.sub [0, 1, 2] (by decide) rfl) hS ls (lv_sub hl [1, 0] rfl) hden
    refine hL51__14 _ (fun v_saved_13 H locs hP hD hS ls hl hden => ?_) F 0 v_saved_2 _ _ (mSubP hP [0, 1, 2] rfl) (hD.sub [0, 1, 2] (by decide) rfl) hS ls (lv_sub hl [1, 0] rfl) hden
    refine lv_aload_n hx hb dX6_save_83 rfl (lv_at hl 0 rfl) ?_
    refine lv_dup hx hb dX6_save_84 rfl ?_
    refine va_get (D := D) (ci := 5) (v := .int v_savedMany_1) (C := RX6) (T := TX6) (N := 16) hx hb hts hin_X6 hown hK hP 0 rfl rfl 4 (by decide) w_35 (fun _ h9 => h9) rfl dX6_save_85 ?_
    refine lv_iconst (v := 1) hx hb dX6_save_88 (by decide) ?_
    refine lv_iadd hx hb dX6_save_89 ?_
    refine lv_topi (fun f_savedMany_21 ef_savedMany_21 => ?_)
    have hden := nm_s hden ef_savedMany_21
    refine va_put (D := D) (ci := 5) (v := .int f_savedMany_21) (ty := .int) (C := RX6) (T := TX6) (N := 16) hx hb hts hin_X6 tyX6 tyX6_ok nmX6 hown hK hP hD hS 0 rfl rfl 4 (by decide) w_35 (fun _ h9 => h9) rfl (by decide +kernel) rfl rfl (Nat.le_of_ble_eq_true rfl) dX6_save_90 (fun H locs hP hD hS => ?_)
    have hP : va_P D vwCl [(a_this, .inr (5, [.int v_thrown, .ref a_this_s, .ref a_this_aside, .ref a_this_saved, .int f_savedMany_21, .ref a_this_text, .int v_length, .ref a_this_states, .int v_many, .int v_at, .int v_isWrong, .int v_letters, .int v_matched, .ref a_this_rows, .int v_manyRows, .long v_digested])), (a_this_s, .inl (cI, 31, .inl v_s)), (a_this_saved, .inl (cI, 186, .inl v_saved_13))] H := hP
    have hD : va_D A [(a_this, .inr (5, [.int v_thrown, .ref a_this_s, .ref a_this_aside, .ref a_this_saved, .int f_savedMany_21, .ref a_this_text, .int v_length, .ref a_this_states, .int v_many, .int v_at, .int v_isWrong, .int v_letters, .int v_matched, .ref a_this_rows, .int v_manyRows, .long v_digested])), (a_this_s, .inl (cI, 31, .inl v_s)), (a_this_saved, .inl (cI, 186, .inl v_saved_13))] := hD
    subst hQe
    cases hden
    exact m_rv hx hb hr hP hD hS [0, 1, 2] (by decide) rfl dX6_save_93 hlocks
  clear ej49
  refine lv_icmp_ne (tgt := 49) hx hb dX6_save_6 (by decide) (fun c_41 => ?_) (fun c_41 => ?_)
  · have hden := ifn_s hden c_41
    exact hj49 v_savedMany v_saved _ _ (mSubP hP [0, 1, 2] rfl) (hD.sub [0, 1, 2] (by decide) rfl) hS ls (lv_sub hl [0] rfl) hden
  · have hden := if_s hden c_41
    refine lv_iconst (v := 0) hx hb dX6_save_9 (by decide) ?_
    refine lv_istore_n (lv' := [(1, .int 0), (0, .ref a_this)]) hx hb dX6_save_10 rfl hl (by decide) rfl (fun ls hl => ?_)
    have hL11__33 : ∀ (k39 : (Nat → Int32) → Option (Int32 × (Nat → Int32))), (∀ (v_saved_32 : (Nat → Int32)) (H : Heap) (locs : List Loc), va_P D vwCl [(a_this, .inr (5, [.int v_thrown, .ref a_this_s, .ref a_this_aside, .ref a_this_saved, .int v_savedMany, .ref a_this_text, .int v_length, .ref a_this_states, .int v_many, .int v_at, .int v_isWrong, .int v_letters, .int v_matched, .ref a_this_rows, .int v_manyRows, .long v_digested])), (a_this_s, .inl (cI, 31, .inl v_s)), (a_this_saved, .inl (cI, 186, .inl v_saved_32))] H → va_D A [(a_this, .inr (5, [.int v_thrown, .ref a_this_s, .ref a_this_aside, .ref a_this_saved, .int v_savedMany, .ref a_this_text, .int v_length, .ref a_this_states, .int v_many, .int v_at, .int v_isWrong, .int v_letters, .int v_matched, .ref a_this_rows, .int v_manyRows, .long v_digested])), (a_this_s, .inl (cI, 31, .inl v_s)), (a_this_saved, .inl (cI, 186, .inl v_saved_32))] → va_S A s.heap H locs → ∀ ls : Array Slot, lv_has ls 2 [(0, .ref a_this)] → k39 v_saved_32 = some (w_savedMany, w_saved) → W p l e rm_X6_save s m (([.ref a_this] : List Value).toArray) below meth c H locs 0 0 Q (F0 m 39 ls [])) → ∀ (n : Nat) (x1_30 : Int32) (v_saved_31 : (Nat → Int32)) (H : Heap) (locs : List Loc), va_P D vwCl [(a_this, .inr (5, [.int v_thrown, .ref a_this_s, .ref a_this_aside, .ref a_this_saved, .int v_savedMany, .ref a_this_text, .int v_length, .ref a_this_states, .int v_many, .int v_at, .int v_isWrong, .int v_letters, .int v_matched, .ref a_this_rows, .int v_manyRows, .long v_digested])), (a_this_s, .inl (cI, 31, .inl v_s)), (a_this_saved, .inl (cI, 186, .inl v_saved_31))] H → va_D A [(a_this, .inr (5, [.int v_thrown, .ref a_this_s, .ref a_this_aside, .ref a_this_saved, .int v_savedMany, .ref a_this_text, .int v_length, .ref a_this_states, .int v_many, .int v_at, .int v_isWrong, .int v_letters, .int v_matched, .ref a_this_rows, .int v_manyRows, .long v_digested])), (a_this_s, .inl (cI, 31, .inl v_s)), (a_this_saved, .inl (cI, 186, .inl v_saved_31))] → va_S A s.heap H locs → ∀ ls : Array Slot, lv_has ls 2 [(0, .ref a_this), (1, .int x1_30)] → L_X6_save_11 F k39 n x1_30 v_saved_31 = some (w_savedMany, w_saved) → W p l e rm_X6_save s m (([.ref a_this] : List Value).toArray) below meth c H locs 0 0 Q (F0 m 11 ls []) := by
      intro k39 hk39 n
      induction n with
      | zero => intro x1_30 v_saved_31 H locs hP hD hS ls hl hden; exact no_none hden
      | succ n ih =>
        intro x1_30 v_saved_31 H locs hP hD hS ls hl hden
        rw [L_X6_save_11] at hden
        refine lv_iload_n hx hb dX6_save_11 rfl (lv_at hl 1 rfl) ?_
        refine lv_sipush (v := 155) hx hb dX6_save_12 (by decide) ?_
        refine lv_icmp_ge (tgt := 39) hx hb dX6_save_15 (by decide) (fun c_39 => ?_) (fun c_39 => ?_)
        · have hden := if_s hden c_39
          exact hk39 v_saved_31 _ _ (mSubP hP [0, 1, 2] rfl) (hD.sub [0, 1, 2] (by decide) rfl) hS ls (lv_sub hl [0] rfl) hden
        · have hden := ifn_s hden c_39
          refine lv_aload_n hx hb dX6_save_18 rfl (lv_at hl 0 rfl) ?_
          refine va_get (D := D) (ci := 5) (v := .ref a_this_saved) (C := RX6) (T := TX6) (N := 16) hx hb hts hin_X6 hown hK hP 0 rfl rfl 3 (by decide) w_16 (fun _ h9 => h9) rfl dX6_save_19 ?_
          refine lv_iload_n hx hb dX6_save_22 rfl (lv_at hl 1 rfl) ?_
          refine lv_aload_n hx hb dX6_save_23 rfl (lv_at hl 0 rfl) ?_
          refine va_get (D := D) (ci := 5) (v := .ref a_this_saved) (C := RX6) (T := TX6) (N := 16) hx hb hts hin_X6 hown hK hP 0 rfl rfl 3 (by decide) w_16 (fun _ h9 => h9) rfl dX6_save_24 ?_
          refine lv_bipush (v := 31) hx hb dX6_save_27 (by decide) ?_
          refine lv_iload_n hx hb dX6_save_29 rfl (lv_at hl 1 rfl) ?_
          refine lv_iadd hx hb dX6_save_30 ?_
          obtain ⟨hg_34, hden⟩ := grd_s hden
          refine va_iald hx hb hK hP 2 0 rfl rfl (inb_in hg_34) dX6_save_31 ?_
          refine lv_topi (fun y_35 ey_35 => ?_)
          have hden := nm_s hden ey_35
          obtain ⟨hg_36, hden⟩ := grd_s hden
          refine va_iast hx hb hK hP hD hS 2 0 rfl rfl (inb_in hg_36) dX6_save_32 (fun H locs hP hD hS => ?_)
          obtain ⟨v_saved_37, ev_saved_37, hden⟩ := nm_x hden
          have hP : va_P D vwCl [(a_this, .inr (5, [.int v_thrown, .ref a_this_s, .ref a_this_aside, .ref a_this_saved, .int v_savedMany, .ref a_this_text, .int v_length, .ref a_this_states, .int v_many, .int v_at, .int v_isWrong, .int v_letters, .int v_matched, .ref a_this_rows, .int v_manyRows, .long v_digested])), (a_this_s, .inl (cI, 31, .inl v_s)), (a_this_saved, .inl (cI, 186, .inl v_saved_37))] H := by rw [ev_saved_37]; exact hP
          have hD : va_D A [(a_this, .inr (5, [.int v_thrown, .ref a_this_s, .ref a_this_aside, .ref a_this_saved, .int v_savedMany, .ref a_this_text, .int v_length, .ref a_this_states, .int v_many, .int v_at, .int v_isWrong, .int v_letters, .int v_matched, .ref a_this_rows, .int v_manyRows, .long v_digested])), (a_this_s, .inl (cI, 31, .inl v_s)), (a_this_saved, .inl (cI, 186, .inl v_saved_37))] := by rw [ev_saved_37]; exact hD
          obtain ⟨x1_38, ex1_38, hden⟩ := nm_x hden
          refine lv_iinc (v := x1_38) (lv' := [(1, .int x1_38), (0, .ref a_this)]) hx hb dX6_save_33 hl (k := 1) rfl (by rw [ex1_38]; rfl) (by decide) rfl (fun ls hl => ?_)
          refine lv_goto (tgt := 11) hx hb dX6_save_36 (by decide) ?_
          exact ih x1_38 v_saved_37 _ _ (mSubP hP [0, 1, 2] rfl) (hD.sub [0, 1, 2] (by decide) rfl) hS ls (lv_sub hl [1, 0] rfl) hden
    refine hL11__33 _ (fun v_saved_32 H locs hP hD hS ls hl hden => ?_) F 0 v_saved _ _ (mSubP hP [0, 1, 2] rfl) (hD.sub [0, 1, 2] (by decide) rfl) hS ls (lv_sub hl [1, 0] rfl) hden
    refine lv_aload_n hx hb dX6_save_39 rfl (lv_at hl 0 rfl) ?_
    refine lv_dup hx hb dX6_save_40 rfl ?_
    refine va_get (D := D) (ci := 5) (v := .int v_savedMany) (C := RX6) (T := TX6) (N := 16) hx hb hts hin_X6 hown hK hP 0 rfl rfl 4 (by decide) w_35 (fun _ h9 => h9) rfl dX6_save_41 ?_
    refine lv_iconst (v := 1) hx hb dX6_save_44 (by decide) ?_
    refine lv_isub hx hb dX6_save_45 ?_
    refine lv_topi (fun f_savedMany_40 ef_savedMany_40 => ?_)
    have hden := nm_s hden ef_savedMany_40
    refine va_put (D := D) (ci := 5) (v := .int f_savedMany_40) (ty := .int) (C := RX6) (T := TX6) (N := 16) hx hb hts hin_X6 tyX6 tyX6_ok nmX6 hown hK hP hD hS 0 rfl rfl 4 (by decide) w_35 (fun _ h9 => h9) rfl (by decide +kernel) rfl rfl (Nat.le_of_ble_eq_true rfl) dX6_save_46 (fun H locs hP hD hS => ?_)
    have hP : va_P D vwCl [(a_this, .inr (5, [.int v_thrown, .ref a_this_s, .ref a_this_aside, .ref a_this_saved, .int f_savedMany_40, .ref a_this_text, .int v_length, .ref a_this_states, .int v_many, .int v_at, .int v_isWrong, .int v_letters, .int v_matched, .ref a_this_rows, .int v_manyRows, .long v_digested])), (a_this_s, .inl (cI, 31, .inl v_s)), (a_this_saved, .inl (cI, 186, .inl v_saved_32))] H := hP
    have hD : va_D A [(a_this, .inr (5, [.int v_thrown, .ref a_this_s, .ref a_this_aside, .ref a_this_saved, .int f_savedMany_40, .ref a_this_text, .int v_length, .ref a_this_states, .int v_many, .int v_at, .int v_isWrong, .int v_letters, .int v_matched, .ref a_this_rows, .int v_manyRows, .long v_digested])), (a_this_s, .inl (cI, 31, .inl v_s)), (a_this_saved, .inl (cI, 186, .inl v_saved_32))] := hD
    exact hj49 f_savedMany_40 v_saved_32 _ _ (mSubP hP [0, 1, 2] rfl) (hD.sub [0, 1, 2] (by decide) rfl) hS ls (lv_sub hl [0] rfl) hden
def L_X6_putAside_2 (F : Nat) (v_s : (Nat → Int32)) : Nat → Int32 → (Nat → Int32) → Option ((Nat → Int32))
  | 0, _, _ => none
  | n + 1, x1_1, v_aside_2 => (if 31 ≤ x1_1 then some (v_aside_2) else grd (inb x1_1 31) (nm (v_s x1_1.toNatClampNeg) (fun y_4 => grd (inb x1_1 31) (nm (upd v_aside_2 x1_1.toNatClampNeg y_4) (fun v_aside_6 => nm (x1_1 + 1) (fun x1_7 => L_X6_putAside_2 F v_s n x1_7 v_aside_6))))))
def D_X6_putAside (F : Nat) (v_s : (Nat → Int32)) (v_aside : (Nat → Int32)) : Option ((Nat → Int32)) := L_X6_putAside_2 F v_s F 0 v_aside
def rm_X6_putAside : Room := { frames := 0, cells := 0, slots := 0, locals := 0 }
set_option maxHeartbeats 4000000 in
set_option maxRecDepth 100000 in
theorem c_X6_putAside (l : Launch) (D : va_G) (cI cM cL : ClassId) (F : Nat) {a_this a_this_s a_this_aside a_this_saved a_this_text a_this_states a_this_rows : Nat} {sz : Nat} {v_thrown v_savedMany v_length v_many v_at v_isWrong v_letters v_matched v_manyRows : Int32} {v_digested : Int64} {v_s v_aside : Nat → Int32} {w_aside : (Nat → Int32)} (hden : D_X6_putAside F v_s v_aside = some (w_aside)) : Met l yX6_putAside wsX6_putAside rm_X6_putAside (va_Pc [.ref a_this] (mB D (mTy cI cM cL) sz [(a_this, .inr (5, [.int v_thrown, .ref a_this_s, .ref a_this_aside, .ref a_this_saved, .int v_savedMany, .ref a_this_text, .int v_length, .ref a_this_states, .int v_many, .int v_at, .int v_isWrong, .int v_letters, .int v_matched, .ref a_this_rows, .int v_manyRows, .long v_digested])), (a_this_s, .inl (cI, 31, .inl v_s)), (a_this_aside, .inl (cI, 31, .inl v_aside))])) (mQv D (va_A [(a_this, .inr (5, [.int v_thrown, .ref a_this_s, .ref a_this_aside, .ref a_this_saved, .int v_savedMany, .ref a_this_text, .int v_length, .ref a_this_states, .int v_many, .int v_at, .int v_isWrong, .int v_letters, .int v_matched, .ref a_this_rows, .int v_manyRows, .long v_digested])), (a_this_s, .inl (cI, 31, .inl v_s)), (a_this_aside, .inl (cI, 31, .inl v_aside))] sz) [(a_this, .inr (5, [.int v_thrown, .ref a_this_s, .ref a_this_aside, .ref a_this_saved, .int v_savedMany, .ref a_this_text, .int v_length, .ref a_this_states, .int v_many, .int v_at, .int v_isWrong, .int v_letters, .int v_matched, .ref a_this_rows, .int v_manyRows, .long v_digested])), (a_this_s, .inl (cI, 31, .inl v_s)), (a_this_aside, .inl (cI, 31, .inl w_aside))]) 0 0 (va_A [(a_this, .inr (5, [.int v_thrown, .ref a_this_s, .ref a_this_aside, .ref a_this_saved, .int v_savedMany, .ref a_this_text, .int v_length, .ref a_this_states, .int v_many, .int v_at, .int v_isWrong, .int v_letters, .int v_matched, .ref a_this_rows, .int v_manyRows, .long v_digested])), (a_this_s, .inl (cI, 31, .inl v_s)), (a_this_aside, .inl (cI, 31, .inl v_aside))] sz) := by
  refine Met.ofW (cc := cX6_putAside) (maxL := 2) (ret := none) (by decide) rfl ?_
  intro p e s m args below meth c s₁ B hml hv
  obtain ⟨rfl, hsz, hP, hK, hN, hD0⟩ := hv
  have hx := B.exec
  have hb := B.bytes
  have hr := B.returns
  have hts := atoms_spec (ws := wsX6_putAside) B.pre
  have hown : s.vm.findClass RX6 = some m.cls := findClass_of_methodNamed B.named
  have hlocks := B.notSynchronized
  subst hsz
  have hD := hD0.self (sz := s.heap.size)
  generalize hAe : va_A [(a_this, .inr (5, [.int v_thrown, .ref a_this_s, .ref a_this_aside, .ref a_this_saved, .int v_savedMany, .ref a_this_text, .int v_length, .ref a_this_states, .int v_many, .int v_at, .int v_isWrong, .int v_letters, .int v_matched, .ref a_this_rows, .int v_manyRows, .long v_digested])), (a_this_s, .inl (cI, 31, .inl v_s)), (a_this_aside, .inl (cI, 31, .inl v_aside))] s.heap.size = A at hD ⊢
  have hA : ∀ q : Nat, s.heap.size ≤ q → A q := fun q h => by rw [← hAe]; exact Or.inr h
  have hS : va_S A s.heap s.heap [] := va_S.rf
  have hl := lv_entry ([.ref a_this]) (n := 2) (Nat.le_of_ble_eq_true rfl)
  rw [lg_entry_eq]
  generalize (lg_sl ([.ref a_this]) ++ List.replicate (2 - (lg_sl ([.ref a_this])).length) Slot.unset).toArray = ls at hl ⊢
  have hl : lv_has ls 2 [(0, .ref a_this)] := hl
  change W p l e rm_X6_putAside s m (([.ref a_this] : List Value).toArray) below meth c s.heap [] 0 0 _ (F0 m 0 ls [])
  generalize hQe : MQ below (mQv D A [(a_this, .inr (5, [.int v_thrown, .ref a_this_s, .ref a_this_aside, .ref a_this_saved, .int v_savedMany, .ref a_this_text, .int v_length, .ref a_this_states, .int v_many, .int v_at, .int v_isWrong, .int v_letters, .int v_matched, .ref a_this_rows, .int v_manyRows, .long v_digested])), (a_this_s, .inl (cI, 31, .inl v_s)), (a_this_aside, .inl (cI, 31, .inl w_aside))]) (([.ref a_this] : List Value).toArray) s 0 0 A = Q
  rw [D_X6_putAside] at hden
  have hin_X6 : ∀ w ∈ wsX60, w ∈ wsX6_putAside := by decide +kernel
  have w_13 := hts (.fieldLink RX6 13 "FallingPatternsModel" "aside" "[I") (by decide +kernel)
  have w_7 := hts (.fieldLink RX6 7 "FallingPatternsModel" "s" "[I") (by decide +kernel)
  refine lv_iconst (v := 0) hx hb dX6_putAside_0 (by decide) ?_
  refine lv_istore_n (lv' := [(1, .int 0), (0, .ref a_this)]) hx hb dX6_putAside_1 rfl hl (by decide) rfl (fun ls hl => ?_)
  have hL2__11 : ∀ (n : Nat) (x1_9 : Int32) (v_aside_10 : (Nat → Int32)) (H : Heap) (locs : List Loc), va_P D vwCl [(a_this, .inr (5, [.int v_thrown, .ref a_this_s, .ref a_this_aside, .ref a_this_saved, .int v_savedMany, .ref a_this_text, .int v_length, .ref a_this_states, .int v_many, .int v_at, .int v_isWrong, .int v_letters, .int v_matched, .ref a_this_rows, .int v_manyRows, .long v_digested])), (a_this_s, .inl (cI, 31, .inl v_s)), (a_this_aside, .inl (cI, 31, .inl v_aside_10))] H → va_D A [(a_this, .inr (5, [.int v_thrown, .ref a_this_s, .ref a_this_aside, .ref a_this_saved, .int v_savedMany, .ref a_this_text, .int v_length, .ref a_this_states, .int v_many, .int v_at, .int v_isWrong, .int v_letters, .int v_matched, .ref a_this_rows, .int v_manyRows, .long v_digested])), (a_this_s, .inl (cI, 31, .inl v_s)), (a_this_aside, .inl (cI, 31, .inl v_aside_10))] → va_S A s.heap H locs → ∀ ls : Array Slot, lv_has ls 2 [(0, .ref a_this), (1, .int x1_9)] → L_X6_putAside_2 F v_s n x1_9 v_aside_10 = some (w_aside) → W p l e rm_X6_putAside s m (([.ref a_this] : List Value).toArray) below meth c H locs 0 0 Q (F0 m 2 ls []) := by
    intro n
    induction n with
    | zero => intro x1_9 v_aside_10 H locs hP hD hS ls hl hden; exact no_none hden
    | succ n ih =>
      intro x1_9 v_aside_10 H locs hP hD hS ls hl hden
      rw [L_X6_putAside_2] at hden
      refine lv_iload_n hx hb dX6_putAside_2 rfl (lv_at hl 1 rfl) ?_
      refine lv_bipush (v := 31) hx hb dX6_putAside_3 (by decide) ?_
      refine lv_icmp_ge (tgt := 26) hx hb dX6_putAside_5 (by decide) (fun c_17 => ?_) (fun c_17 => ?_)
      · have hden := if_s hden c_17
        subst hQe
        cases hden
        exact m_rv hx hb hr hP hD hS [0, 1, 2] (by decide) rfl dX6_putAside_26 hlocks
      · have hden := ifn_s hden c_17
        refine lv_aload_n hx hb dX6_putAside_8 rfl (lv_at hl 0 rfl) ?_
        refine va_get (D := D) (ci := 5) (v := .ref a_this_aside) (C := RX6) (T := TX6) (N := 16) hx hb hts hin_X6 hown hK hP 0 rfl rfl 2 (by decide) w_13 (fun _ h9 => h9) rfl dX6_putAside_9 ?_
        refine lv_iload_n hx hb dX6_putAside_12 rfl (lv_at hl 1 rfl) ?_
        refine lv_aload_n hx hb dX6_putAside_13 rfl (lv_at hl 0 rfl) ?_
        refine va_get (D := D) (ci := 5) (v := .ref a_this_s) (C := RX6) (T := TX6) (N := 16) hx hb hts hin_X6 hown hK hP 0 rfl rfl 1 (by decide) w_7 (fun _ h9 => h9) rfl dX6_putAside_14 ?_
        refine lv_iload_n hx hb dX6_putAside_17 rfl (lv_at hl 1 rfl) ?_
        obtain ⟨hg_12, hden⟩ := grd_s hden
        refine va_iald hx hb hK hP 1 0 rfl rfl (inb_in hg_12) dX6_putAside_18 ?_
        refine lv_topi (fun y_13 ey_13 => ?_)
        have hden := nm_s hden ey_13
        obtain ⟨hg_14, hden⟩ := grd_s hden
        refine va_iast hx hb hK hP hD hS 2 0 rfl rfl (inb_in hg_14) dX6_putAside_19 (fun H locs hP hD hS => ?_)
        obtain ⟨v_aside_15, ev_aside_15, hden⟩ := nm_x hden
        have hP : va_P D vwCl [(a_this, .inr (5, [.int v_thrown, .ref a_this_s, .ref a_this_aside, .ref a_this_saved, .int v_savedMany, .ref a_this_text, .int v_length, .ref a_this_states, .int v_many, .int v_at, .int v_isWrong, .int v_letters, .int v_matched, .ref a_this_rows, .int v_manyRows, .long v_digested])), (a_this_s, .inl (cI, 31, .inl v_s)), (a_this_aside, .inl (cI, 31, .inl v_aside_15))] H := by rw [ev_aside_15]; exact hP
        have hD : va_D A [(a_this, .inr (5, [.int v_thrown, .ref a_this_s, .ref a_this_aside, .ref a_this_saved, .int v_savedMany, .ref a_this_text, .int v_length, .ref a_this_states, .int v_many, .int v_at, .int v_isWrong, .int v_letters, .int v_matched, .ref a_this_rows, .int v_manyRows, .long v_digested])), (a_this_s, .inl (cI, 31, .inl v_s)), (a_this_aside, .inl (cI, 31, .inl v_aside_15))] := by rw [ev_aside_15]; exact hD
        obtain ⟨x1_16, ex1_16, hden⟩ := nm_x hden
        refine lv_iinc (v := x1_16) (lv' := [(1, .int x1_16), (0, .ref a_this)]) hx hb dX6_putAside_20 hl (k := 1) rfl (by rw [ex1_16]; rfl) (by decide) rfl (fun ls hl => ?_)
        refine lv_goto (tgt := 2) hx hb dX6_putAside_23 (by decide) ?_
        exact ih x1_16 v_aside_15 _ _ (mSubP hP [0, 1, 2] rfl) (hD.sub [0, 1, 2] (by decide) rfl) hS ls (lv_sub hl [1, 0] rfl) hden
  exact hL2__11 F 0 v_aside _ _ (mSubP hP [0, 1, 2] rfl) (hD.sub [0, 1, 2] (by decide) rfl) hS ls (lv_sub hl [1, 0] rfl) hden
def L_X6_putBack_2 (F : Nat) (v_aside : (Nat → Int32)) : Nat → Int32 → (Nat → Int32) → Option ((Nat → Int32))
  | 0, _, _ => none
  | n + 1, x1_1, v_s_2 => (if 31 ≤ x1_1 then some (v_s_2) else grd (inb x1_1 31) (nm (v_aside x1_1.toNatClampNeg) (fun y_4 => grd (inb x1_1 31) (nm (upd v_s_2 x1_1.toNatClampNeg y_4) (fun v_s_6 => nm (x1_1 + 1) (fun x1_7 => L_X6_putBack_2 F v_aside n x1_7 v_s_6))))))
def D_X6_putBack (F : Nat) (v_aside : (Nat → Int32)) (v_s : (Nat → Int32)) : Option ((Nat → Int32)) := L_X6_putBack_2 F v_aside F 0 v_s
def rm_X6_putBack : Room := { frames := 0, cells := 0, slots := 0, locals := 0 }
set_option maxHeartbeats 4000000 in
set_option maxRecDepth 100000 in
theorem c_X6_putBack (l : Launch) (D : va_G) (cI cM cL : ClassId) (F : Nat) {a_this a_this_s a_this_aside a_this_saved a_this_text a_this_states a_this_rows : Nat} {sz : Nat} {v_thrown v_savedMany v_length v_many v_at v_isWrong v_letters v_matched v_manyRows : Int32} {v_digested : Int64} {v_aside v_s : Nat → Int32} {w_s : (Nat → Int32)} (hden : D_X6_putBack F v_aside v_s = some (w_s)) : Met l yX6_putBack wsX6_putBack rm_X6_putBack (va_Pc [.ref a_this] (mB D (mTy cI cM cL) sz [(a_this, .inr (5, [.int v_thrown, .ref a_this_s, .ref a_this_aside, .ref a_this_saved, .int v_savedMany, .ref a_this_text, .int v_length, .ref a_this_states, .int v_many, .int v_at, .int v_isWrong, .int v_letters, .int v_matched, .ref a_this_rows, .int v_manyRows, .long v_digested])), (a_this_aside, .inl (cI, 31, .inl v_aside)), (a_this_s, .inl (cI, 31, .inl v_s))])) (mQv D (va_A [(a_this, .inr (5, [.int v_thrown, .ref a_this_s, .ref a_this_aside, .ref a_this_saved, .int v_savedMany, .ref a_this_text, .int v_length, .ref a_this_states, .int v_many, .int v_at, .int v_isWrong, .int v_letters, .int v_matched, .ref a_this_rows, .int v_manyRows, .long v_digested])), (a_this_aside, .inl (cI, 31, .inl v_aside)), (a_this_s, .inl (cI, 31, .inl v_s))] sz) [(a_this, .inr (5, [.int v_thrown, .ref a_this_s, .ref a_this_aside, .ref a_this_saved, .int v_savedMany, .ref a_this_text, .int v_length, .ref a_this_states, .int v_many, .int v_at, .int v_isWrong, .int v_letters, .int v_matched, .ref a_this_rows, .int v_manyRows, .long v_digested])), (a_this_aside, .inl (cI, 31, .inl v_aside)), (a_this_s, .inl (cI, 31, .inl w_s))]) 0 0 (va_A [(a_this, .inr (5, [.int v_thrown, .ref a_this_s, .ref a_this_aside, .ref a_this_saved, .int v_savedMany, .ref a_this_text, .int v_length, .ref a_this_states, .int v_many, .int v_at, .int v_isWrong, .int v_letters, .int v_matched, .ref a_this_rows, .int v_manyRows, .long v_digested])), (a_this_aside, .inl (cI, 31, .inl v_aside)), (a_this_s, .inl (cI, 31, .inl v_s))] sz) := by
  refine Met.ofW (cc := cX6_putBack) (maxL := 2) (ret := none) (by decide) rfl ?_
  intro p e s m args below meth c s₁ B hml hv
  obtain ⟨rfl, hsz, hP, hK, hN, hD0⟩ := hv
  have hx := B.exec
  have hb := B.bytes
  have hr := B.returns
  have hts := atoms_spec (ws := wsX6_putBack) B.pre
  have hown : s.vm.findClass RX6 = some m.cls := findClass_of_methodNamed B.named
  have hlocks := B.notSynchronized
  subst hsz
  have hD := hD0.self (sz := s.heap.size)
  generalize hAe : va_A [(a_this, .inr (5, [.int v_thrown, .ref a_this_s, .ref a_this_aside, .ref a_this_saved, .int v_savedMany, .ref a_this_text, .int v_length, .ref a_this_states, .int v_many, .int v_at, .int v_isWrong, .int v_letters, .int v_matched, .ref a_this_rows, .int v_manyRows, .long v_digested])), (a_this_aside, .inl (cI, 31, .inl v_aside)), (a_this_s, .inl (cI, 31, .inl v_s))] s.heap.size = A at hD ⊢
  have hA : ∀ q : Nat, s.heap.size ≤ q → A q := fun q h => by rw [← hAe]; exact Or.inr h
  have hS : va_S A s.heap s.heap [] := va_S.rf
  have hl := lv_entry ([.ref a_this]) (n := 2) (Nat.le_of_ble_eq_true rfl)
  rw [lg_entry_eq]
  generalize (lg_sl ([.ref a_this]) ++ List.replicate (2 - (lg_sl ([.ref a_this])).length) Slot.unset).toArray = ls at hl ⊢
  have hl : lv_has ls 2 [(0, .ref a_this)] := hl
  change W p l e rm_X6_putBack s m (([.ref a_this] : List Value).toArray) below meth c s.heap [] 0 0 _ (F0 m 0 ls [])
  generalize hQe : MQ below (mQv D A [(a_this, .inr (5, [.int v_thrown, .ref a_this_s, .ref a_this_aside, .ref a_this_saved, .int v_savedMany, .ref a_this_text, .int v_length, .ref a_this_states, .int v_many, .int v_at, .int v_isWrong, .int v_letters, .int v_matched, .ref a_this_rows, .int v_manyRows, .long v_digested])), (a_this_aside, .inl (cI, 31, .inl v_aside)), (a_this_s, .inl (cI, 31, .inl w_s))]) (([.ref a_this] : List Value).toArray) s 0 0 A = Q
  rw [D_X6_putBack] at hden
  have hin_X6 : ∀ w ∈ wsX60, w ∈ wsX6_putBack := by decide +kernel
  have w_7 := hts (.fieldLink RX6 7 "FallingPatternsModel" "s" "[I") (by decide +kernel)
  have w_13 := hts (.fieldLink RX6 13 "FallingPatternsModel" "aside" "[I") (by decide +kernel)
  refine lv_iconst (v := 0) hx hb dX6_putBack_0 (by decide) ?_
  refine lv_istore_n (lv' := [(1, .int 0), (0, .ref a_this)]) hx hb dX6_putBack_1 rfl hl (by decide) rfl (fun ls hl => ?_)
  have hL2__11 : ∀ (n : Nat) (x1_9 : Int32) (v_s_10 : (Nat → Int32)) (H : Heap) (locs : List Loc), va_P D vwCl [(a_this, .inr (5, [.int v_thrown, .ref a_this_s, .ref a_this_aside, .ref a_this_saved, .int v_savedMany, .ref a_this_text, .int v_length, .ref a_this_states, .int v_many, .int v_at, .int v_isWrong, .int v_letters, .int v_matched, .ref a_this_rows, .int v_manyRows, .long v_digested])), (a_this_aside, .inl (cI, 31, .inl v_aside)), (a_this_s, .inl (cI, 31, .inl v_s_10))] H → va_D A [(a_this, .inr (5, [.int v_thrown, .ref a_this_s, .ref a_this_aside, .ref a_this_saved, .int v_savedMany, .ref a_this_text, .int v_length, .ref a_this_states, .int v_many, .int v_at, .int v_isWrong, .int v_letters, .int v_matched, .ref a_this_rows, .int v_manyRows, .long v_digested])), (a_this_aside, .inl (cI, 31, .inl v_aside)), (a_this_s, .inl (cI, 31, .inl v_s_10))] → va_S A s.heap H locs → ∀ ls : Array Slot, lv_has ls 2 [(0, .ref a_this), (1, .int x1_9)] → L_X6_putBack_2 F v_aside n x1_9 v_s_10 = some (w_s) → W p l e rm_X6_putBack s m (([.ref a_this] : List Value).toArray) below meth c H locs 0 0 Q (F0 m 2 ls []) := by
    intro n
    induction n with
    | zero => intro x1_9 v_s_10 H locs hP hD hS ls hl hden; exact no_none hden
    | succ n ih =>
      intro x1_9 v_s_10 H locs hP hD hS ls hl hden
      rw [L_X6_putBack_2] at hden
      refine lv_iload_n hx hb dX6_putBack_2 rfl (lv_at hl 1 rfl) ?_
      refine lv_bipush (v := 31) hx hb dX6_putBack_3 (by decide) ?_
      refine lv_icmp_ge (tgt := 26) hx hb dX6_putBack_5 (by decide) (fun c_17 => ?_) (fun c_17 => ?_)
      · have hden := if_s hden c_17
        subst hQe
        cases hden
        exact m_rv hx hb hr hP hD hS [0, 1, 2] (by decide) rfl dX6_putBack_26 hlocks
      · have hden := ifn_s hden c_17
        refine lv_aload_n hx hb dX6_putBack_8 rfl (lv_at hl 0 rfl) ?_
        refine va_get (D := D) (ci := 5) (v := .ref a_this_s) (C := RX6) (T := TX6) (N := 16) hx hb hts hin_X6 hown hK hP 0 rfl rfl 1 (by decide) w_7 (fun _ h9 => h9) rfl dX6_putBack_9 ?_
        refine lv_iload_n hx hb dX6_putBack_12 rfl (lv_at hl 1 rfl) ?_
        refine lv_aload_n hx hb dX6_putBack_13 rfl (lv_at hl 0 rfl) ?_
        refine va_get (D := D) (ci := 5) (v := .ref a_this_aside) (C := RX6) (T := TX6) (N := 16) hx hb hts hin_X6 hown hK hP 0 rfl rfl 2 (by decide) w_13 (fun _ h9 => h9) rfl dX6_putBack_14 ?_
        refine lv_iload_n hx hb dX6_putBack_17 rfl (lv_at hl 1 rfl) ?_
        obtain ⟨hg_12, hden⟩ := grd_s hden
        refine va_iald hx hb hK hP 1 0 rfl rfl (inb_in hg_12) dX6_putBack_18 ?_
        refine lv_topi (fun y_13 ey_13 => ?_)
        have hden := nm_s hden ey_13
        obtain ⟨hg_14, hden⟩ := grd_s hden
        refine va_iast hx hb hK hP hD hS 2 0 rfl rfl (inb_in hg_14) dX6_putBack_19 (fun H locs hP hD hS => ?_)
        obtain ⟨v_s_15, ev_s_15, hden⟩ := nm_x hden
        have hP : va_P D vwCl [(a_this, .inr (5, [.int v_thrown, .ref a_this_s, .ref a_this_aside, .ref a_this_saved, .int v_savedMany, .ref a_this_text, .int v_length, .ref a_this_states, .int v_many, .int v_at, .int v_isWrong, .int v_letters, .int v_matched, .ref a_this_rows, .int v_manyRows, .long v_digested])), (a_this_aside, .inl (cI, 31, .inl v_aside)), (a_this_s, .inl (cI, 31, .inl v_s_15))] H := by rw [ev_s_15]; exact hP
        have hD : va_D A [(a_this, .inr (5, [.int v_thrown, .ref a_this_s, .ref a_this_aside, .ref a_this_saved, .int v_savedMany, .ref a_this_text, .int v_length, .ref a_this_states, .int v_many, .int v_at, .int v_isWrong, .int v_letters, .int v_matched, .ref a_this_rows, .int v_manyRows, .long v_digested])), (a_this_aside, .inl (cI, 31, .inl v_aside)), (a_this_s, .inl (cI, 31, .inl v_s_15))] := by rw [ev_s_15]; exact hD
        obtain ⟨x1_16, ex1_16, hden⟩ := nm_x hden
        refine lv_iinc (v := x1_16) (lv' := [(1, .int x1_16), (0, .ref a_this)]) hx hb dX6_putBack_20 hl (k := 1) rfl (by rw [ex1_16]; rfl) (by decide) rfl (fun ls hl => ?_)
        refine lv_goto (tgt := 2) hx hb dX6_putBack_23 (by decide) ?_
        exact ih x1_16 v_s_15 _ _ (mSubP hP [0, 1, 2] rfl) (hD.sub [0, 1, 2] (by decide) rfl) hS ls (lv_sub hl [1, 0] rfl) hden
  exact hL2__11 F 0 v_s _ _ (mSubP hP [0, 1, 2] rfl) (hD.sub [0, 1, 2] (by decide) rfl) hS ls (lv_sub hl [1, 0] rfl) hden
def L_X6_lengthOf_2 (F : Nat) (y0 : Int32) : Nat → Int32 → Option (Int32)
  | 0, _ => none
  | n + 1, x1_1 => (if (y0 >>> (((2 : Int32) * x1_1) &&& 31)) ≤ 1 then some (x1_1) else nm (x1_1 + 1) (fun x1_2 => L_X6_lengthOf_2 F y0 n x1_2))
def D_X6_lengthOf (F : Nat) (p1 : Int32) : Option (Int32) := L_X6_lengthOf_2 F p1 F 0
def rm_X6_lengthOf : Room := { frames := 0, cells := 0, slots := 0, locals := 0 }
set_option maxHeartbeats 4000000 in
set_option maxRecDepth 100000 in
theorem c_X6_lengthOf (l : Launch) (D : va_G) (cI cM cL : ClassId) (F : Nat) {sz : Nat} {p1 : Int32} {r0 : Int32} (hden : D_X6_lengthOf F p1 = some (r0)) : Met l yX6_lengthOf wsX6_lengthOf rm_X6_lengthOf (va_Pc [.int p1] (mB D (mTy cI cM cL) sz [])) (mQi D (va_A [] sz) [] r0) 0 0 (va_A [] sz) := by
  refine Met.ofW (cc := cX6_lengthOf) (maxL := 2) (ret := (some .int)) (by decide) rfl ?_
  intro p e s m args below meth c s₁ B hml hv
  obtain ⟨rfl, hsz, hP, hK, hN, hD0⟩ := hv
  have hx := B.exec
  have hb := B.bytes
  have hr := B.returns
  have hts := atoms_spec (ws := wsX6_lengthOf) B.pre
  have hown : s.vm.findClass RX6 = some m.cls := findClass_of_methodNamed B.named
  have hlocks := B.notSynchronized
  subst hsz
  have hD := hD0.self (sz := s.heap.size)
  generalize hAe : va_A [] s.heap.size = A at hD ⊢
  have hA : ∀ q : Nat, s.heap.size ≤ q → A q := fun q h => by rw [← hAe]; exact Or.inr h
  have hS : va_S A s.heap s.heap [] := va_S.rf
  have hl := lv_entry ([.int p1]) (n := 2) (Nat.le_of_ble_eq_true rfl)
  rw [lg_entry_eq]
  generalize (lg_sl ([.int p1]) ++ List.replicate (2 - (lg_sl ([.int p1])).length) Slot.unset).toArray = ls at hl ⊢
  have hl : lv_has ls 2 [(0, .int p1)] := hl
  change W p l e rm_X6_lengthOf s m (([.int p1] : List Value).toArray) below meth c s.heap [] 0 0 _ (F0 m 0 ls [])
  generalize hQe : MQ below (mQi D A [] r0) (([.int p1] : List Value).toArray) s 0 0 A = Q
  rw [D_X6_lengthOf] at hden
  refine lv_iconst (v := 0) hx hb dX6_lengthOf_0 (by decide) ?_
  refine lv_istore_n (lv' := [(1, .int 0), (0, .int p1)]) hx hb dX6_lengthOf_1 rfl hl (by decide) rfl (fun ls hl => ?_)
  have hL2__5 : ∀ (n : Nat) (x1_4 : Int32) (H : Heap) (locs : List Loc), va_P D vwCl [] H → va_D A [] → va_S A s.heap H locs → ∀ ls : Array Slot, lv_has ls 2 [(0, .int p1), (1, .int x1_4)] → L_X6_lengthOf_2 F p1 n x1_4 = some (r0) → W p l e rm_X6_lengthOf s m (([.int p1] : List Value).toArray) below meth c H locs 0 0 Q (F0 m 2 ls []) := by
    intro n
    induction n with
    | zero => intro x1_4 H locs hP hD hS ls hl hden; exact no_none hden
    | succ n ih =>
      intro x1_4 H locs hP hD hS ls hl hden
      rw [L_X6_lengthOf_2] at hden
      refine lv_iload_n hx hb dX6_lengthOf_2 rfl (lv_at hl 0 rfl) ?_
      refine lv_iconst (v := 2) hx hb dX6_lengthOf_3 (by decide) ?_
      refine lv_iload_n hx hb dX6_lengthOf_4 rfl (lv_at hl 1 rfl) ?_
      refine lv_imul hx hb dX6_lengthOf_5 ?_
      refine lv_ishr hx hb dX6_lengthOf_6 ?_
      refine lv_iconst (v := 1) hx hb dX6_lengthOf_7 (by decide) ?_
      refine lv_icmp_le (tgt := 17) hx hb dX6_lengthOf_8 (by decide) (fun c_7 => ?_) (fun c_7 => ?_)
      · have hden := if_s hden c_7
        refine lv_iload_n hx hb dX6_lengthOf_17 rfl (lv_at hl 1 rfl) ?_
        subst hQe
        cases hden
        exact m_ri hx hb hr hP hD hS [] (by decide) rfl rfl dX6_lengthOf_18 hlocks
      · have hden := ifn_s hden c_7
        obtain ⟨x1_6, ex1_6, hden⟩ := nm_x hden
        refine lv_iinc (v := x1_6) (lv' := [(1, .int x1_6), (0, .int p1)]) hx hb dX6_lengthOf_11 hl (k := 1) rfl (by rw [ex1_6]; rfl) (by decide) rfl (fun ls hl => ?_)
        refine lv_goto (tgt := 2) hx hb dX6_lengthOf_14 (by decide) ?_
        exact ih x1_6 _ _ (mSubP hP [] rfl) (hD.sub [] (by decide) rfl) hS ls (lv_sub hl [1, 0] rfl) hden
  exact hL2__5 F 0 _ _ (mSubP hP [] rfl) (hD.sub [] (by decide) rfl) hS ls (lv_sub hl [1, 0] rfl) hden
def D_X6_endOf (F : Nat) (p1 : Int32) (p2 : Int32) : Option (Int32) := grd (!decide (((1 : Int32) <<< (((2 : Int32) * p2) &&& 31)) = 0)) (some ((((1 : Int32) <<< (((2 : Int32) * p2) &&& 31)) + (p1 - p1 / ((1 : Int32) <<< (((2 : Int32) * p2) &&& 31)) * ((1 : Int32) <<< (((2 : Int32) * p2) &&& 31))))))
def rm_X6_endOf : Room := { frames := 0, cells := 0, slots := 0, locals := 0 }
set_option maxHeartbeats 4000000 in
set_option maxRecDepth 100000 in
theorem c_X6_endOf (l : Launch) (D : va_G) (cI cM cL : ClassId) (F : Nat) {sz : Nat} {p1 : Int32} {p2 : Int32} {r0 : Int32} (hden : D_X6_endOf F p1 p2 = some (r0)) : Met l yX6_endOf wsX6_endOf rm_X6_endOf (va_Pc [.int p1, .int p2] (mB D (mTy cI cM cL) sz [])) (mQi D (va_A [] sz) [] r0) 0 0 (va_A [] sz) := by
  refine Met.ofW (cc := cX6_endOf) (maxL := 2) (ret := (some .int)) (by decide) rfl ?_
  intro p e s m args below meth c s₁ B hml hv
  obtain ⟨rfl, hsz, hP, hK, hN, hD0⟩ := hv
  have hx := B.exec
  have hb := B.bytes
  have hr := B.returns
  have hts := atoms_spec (ws := wsX6_endOf) B.pre
  have hown : s.vm.findClass RX6 = some m.cls := findClass_of_methodNamed B.named
  have hlocks := B.notSynchronized
  subst hsz
  have hD := hD0.self (sz := s.heap.size)
  generalize hAe : va_A [] s.heap.size = A at hD ⊢
  have hA : ∀ q : Nat, s.heap.size ≤ q → A q := fun q h => by rw [← hAe]; exact Or.inr h
  have hS : va_S A s.heap s.heap [] := va_S.rf
  have hl := lv_entry ([.int p1, .int p2]) (n := 2) (Nat.le_of_ble_eq_true rfl)
  rw [lg_entry_eq]
  generalize (lg_sl ([.int p1, .int p2]) ++ List.replicate (2 - (lg_sl ([.int p1, .int p2])).length) Slot.unset).toArray = ls at hl ⊢
  have hl : lv_has ls 2 [(0, .int p1), (1, .int p2)] := hl
  change W p l e rm_X6_endOf s m (([.int p1, .int p2] : List Value).toArray) below meth c s.heap [] 0 0 _ (F0 m 0 ls [])
  generalize hQe : MQ below (mQi D A [] r0) (([.int p1, .int p2] : List Value).toArray) s 0 0 A = Q
  rw [D_X6_endOf] at hden
  refine lv_iconst (v := 1) hx hb dX6_endOf_0 (by decide) ?_
  refine lv_iconst (v := 2) hx hb dX6_endOf_1 (by decide) ?_
  refine lv_iload_n hx hb dX6_endOf_2 rfl (lv_at hl 1 rfl) ?_
  refine lv_imul hx hb dX6_endOf_3 ?_
  refine lv_ishl hx hb dX6_endOf_4 ?_
  refine lv_iload_n hx hb dX6_endOf_5 rfl (lv_at hl 0 rfl) ?_
  refine lv_iconst (v := 1) hx hb dX6_endOf_6 (by decide) ?_
  refine lv_iconst (v := 2) hx hb dX6_endOf_7 (by decide) ?_
  refine lv_iload_n hx hb dX6_endOf_8 rfl (lv_at hl 1 rfl) ?_
  refine lv_imul hx hb dX6_endOf_9 ?_
  refine lv_ishl hx hb dX6_endOf_10 ?_
  obtain ⟨hg_1, hden⟩ := grd_s hden
  refine lv_irem hx hb dX6_endOf_11 (ne0_s hg_1) ?_
  refine lv_iadd hx hb dX6_endOf_12 ?_
  subst hQe
  cases hden
  exact m_ri hx hb hr hP hD hS [] (by decide) rfl rfl dX6_endOf_13 hlocks
def D_X6_beginOf (F : Nat) (p1 : Int32) (p2 : Int32) : Option (Int32) := bnd (D_X6_lengthOf F p1) (fun r_1 => some ((p1 >>> (((2 : Int32) * (r_1 - p2)) &&& 31))))
def rm_X6_beginOf : Room := { frames := 1, cells := 0, slots := 0, locals := 21 }
set_option maxHeartbeats 4000000 in
set_option maxRecDepth 100000 in
theorem c_X6_beginOf (l : Launch) (D : va_G) (cI cM cL : ClassId) (F : Nat) {sz : Nat} {p1 : Int32} {p2 : Int32} {r0 : Int32} (hden : D_X6_beginOf F p1 p2 = some (r0)) : Met l yX6_beginOf wsX6_beginOf rm_X6_beginOf (va_Pc [.int p1, .int p2] (mB D (mTy cI cM cL) sz [])) (mQi D (va_A [] sz) [] r0) 0 0 (va_A [] sz) := by
  refine Met.ofW (cc := cX6_beginOf) (maxL := 2) (ret := (some .int)) (by decide) rfl ?_
  intro p e s m args below meth c s₁ B hml hv
  obtain ⟨rfl, hsz, hP, hK, hN, hD0⟩ := hv
  have hx := B.exec
  have hb := B.bytes
  have hr := B.returns
  have hts := atoms_spec (ws := wsX6_beginOf) B.pre
  have hown : s.vm.findClass RX6 = some m.cls := findClass_of_methodNamed B.named
  have hlocks := B.notSynchronized
  subst hsz
  have hD := hD0.self (sz := s.heap.size)
  generalize hAe : va_A [] s.heap.size = A at hD ⊢
  have hA : ∀ q : Nat, s.heap.size ≤ q → A q := fun q h => by rw [← hAe]; exact Or.inr h
  have hS : va_S A s.heap s.heap [] := va_S.rf
  have hl := lv_entry ([.int p1, .int p2]) (n := 2) (Nat.le_of_ble_eq_true rfl)
  rw [lg_entry_eq]
  generalize (lg_sl ([.int p1, .int p2]) ++ List.replicate (2 - (lg_sl ([.int p1, .int p2])).length) Slot.unset).toArray = ls at hl ⊢
  have hl : lv_has ls 2 [(0, .int p1), (1, .int p2)] := hl
  change W p l e rm_X6_beginOf s m (([.int p1, .int p2] : List Value).toArray) below meth c s.heap [] 0 0 _ (F0 m 0 ls [])
  generalize hQe : MQ below (mQi D A [] r0) (([.int p1, .int p2] : List Value).toArray) s 0 0 A = Q
  rw [D_X6_beginOf] at hden
  refine lv_iload_n hx hb dX6_beginOf_0 rfl (lv_at hl 0 rfl) ?_
  refine lv_iconst (v := 2) hx hb dX6_beginOf_1 (by decide) ?_
  refine lv_iload_n hx hb dX6_beginOf_2 rfl (lv_at hl 0 rfl) ?_
  obtain ⟨r_1, hc_2, hden⟩ := bnd_s hden
  refine m_ci (wc := []) (wr := []) (wc' := []) (va_runS (As := [.int p1]) (rest := [.int 2, .int p1]) ⟨hx, hb, hml, hown, hts⟩ (c_X6_lengthOf l D cI cM cL F hc_2) (va_cwS 1 hts gX6_beginOf_X6_lengthOf rfl rfl rfl (by decide +kernel) ⟨Nat.le_of_ble_eq_true rfl, Nat.le_of_ble_eq_true rfl⟩) (mPreS hP hD hK hN [] (by decide) rfl) rfl rfl hl.1 rfl (lv_room (Nat.le_of_ble_eq_true rfl)) dX6_beginOf_3 ⟨Nat.le_of_ble_eq_true rfl, Nat.le_of_ble_eq_true rfl⟩) hP hD hS hA [] [] rfl rfl (by decide) (by decide) (fun H locs hP hD hS => ?_)
  have hP : va_P D vwCl [] H := hP
  have hD : va_D A [] := hD
  refine lv_iload_n hx hb dX6_beginOf_6 rfl (lv_at hl 1 rfl) ?_
  refine lv_isub hx hb dX6_beginOf_7 ?_
  refine lv_imul hx hb dX6_beginOf_8 ?_
  refine lv_ishr hx hb dX6_beginOf_9 ?_
  subst hQe
  cases hden
  exact m_ri hx hb hr hP hD hS [] (by decide) rfl rfl dX6_beginOf_10 hlocks
def D_X6_isEnd (F : Nat) (p1 : Int32) (p2 : Int32) : Option (Int32) := bnd (D_X6_lengthOf F p2) (fun r_1 => bnd (D_X6_lengthOf F p1) (fun r_3 => (if r_3 < r_1 then some (0) else bnd (D_X6_lengthOf F p2) (fun r_5 => bnd (D_X6_endOf F p1 r_5) (fun r_7 => (if r_7 = p2 then some (1) else some (0)))))))
def rm_X6_isEnd : Room := { frames := 1, cells := 0, slots := 0, locals := 21 }
set_option maxHeartbeats 4000000 in
set_option maxRecDepth 100000 in
theorem c_X6_isEnd (l : Launch) (D : va_G) (cI cM cL : ClassId) (F : Nat) {sz : Nat} {p1 : Int32} {p2 : Int32} {r0 : Int32} (hden : D_X6_isEnd F p1 p2 = some (r0)) : Met l yX6_isEnd wsX6_isEnd rm_X6_isEnd (va_Pc [.int p1, .int p2] (mB D (mTy cI cM cL) sz [])) (mQi D (va_A [] sz) [] r0) 0 0 (va_A [] sz) := by
  refine Met.ofW (cc := cX6_isEnd) (maxL := 2) (ret := (some .boolean)) (by decide) rfl ?_
  intro p e s m args below meth c s₁ B hml hv
  obtain ⟨rfl, hsz, hP, hK, hN, hD0⟩ := hv
  have hx := B.exec
  have hb := B.bytes
  have hr := B.returns
  have hts := atoms_spec (ws := wsX6_isEnd) B.pre
  have hown : s.vm.findClass RX6 = some m.cls := findClass_of_methodNamed B.named
  have hlocks := B.notSynchronized
  subst hsz
  have hD := hD0.self (sz := s.heap.size)
  generalize hAe : va_A [] s.heap.size = A at hD ⊢
  have hA : ∀ q : Nat, s.heap.size ≤ q → A q := fun q h => by rw [← hAe]; exact Or.inr h
  have hS : va_S A s.heap s.heap [] := va_S.rf
  have hl := lv_entry ([.int p1, .int p2]) (n := 2) (Nat.le_of_ble_eq_true rfl)
  rw [lg_entry_eq]
  generalize (lg_sl ([.int p1, .int p2]) ++ List.replicate (2 - (lg_sl ([.int p1, .int p2])).length) Slot.unset).toArray = ls at hl ⊢
  have hl : lv_has ls 2 [(0, .int p1), (1, .int p2)] := hl
  change W p l e rm_X6_isEnd s m (([.int p1, .int p2] : List Value).toArray) below meth c s.heap [] 0 0 _ (F0 m 0 ls [])
  generalize hQe : MQ below (mQi D A [] r0) (([.int p1, .int p2] : List Value).toArray) s 0 0 A = Q
  rw [D_X6_isEnd] at hden
  refine lv_iload_n hx hb dX6_isEnd_0 rfl (lv_at hl 1 rfl) ?_
  obtain ⟨r_1, hc_2, hden⟩ := bnd_s hden
  refine m_ci (wc := []) (wr := []) (wc' := []) (va_runS (As := [.int p2]) (rest := []) ⟨hx, hb, hml, hown, hts⟩ (c_X6_lengthOf l D cI cM cL F hc_2) (va_cwS 1 hts gX6_isEnd_X6_lengthOf rfl rfl rfl (by decide +kernel) ⟨Nat.le_of_ble_eq_true rfl, Nat.le_of_ble_eq_true rfl⟩) (mPreS hP hD hK hN [] (by decide) rfl) rfl rfl hl.1 rfl (lv_room (Nat.le_of_ble_eq_true rfl)) dX6_isEnd_1 ⟨Nat.le_of_ble_eq_true rfl, Nat.le_of_ble_eq_true rfl⟩) hP hD hS hA [] [] rfl rfl (by decide) (by decide) (fun H locs hP hD hS => ?_)
  have hP : va_P D vwCl [] H := hP
  have hD : va_D A [] := hD
  refine lv_iload_n hx hb dX6_isEnd_4 rfl (lv_at hl 0 rfl) ?_
  obtain ⟨r_3, hc_4, hden⟩ := bnd_s hden
  refine m_ci (wc := []) (wr := []) (wc' := []) (va_runS (As := [.int p1]) (rest := [.int r_1]) ⟨hx, hb, hml, hown, hts⟩ (c_X6_lengthOf l D cI cM cL F hc_4) (va_cwS 1 hts gX6_isEnd_X6_lengthOf rfl rfl rfl (by decide +kernel) ⟨Nat.le_of_ble_eq_true rfl, Nat.le_of_ble_eq_true rfl⟩) (mPreS hP hD hK hN [] (by decide) rfl) rfl rfl hl.1 rfl (lv_room (Nat.le_of_ble_eq_true rfl)) dX6_isEnd_5 ⟨Nat.le_of_ble_eq_true rfl, Nat.le_of_ble_eq_true rfl⟩) hP hD hS hA [] [] rfl rfl (by decide) (by decide) (fun H locs hP hD hS => ?_)
  have hP : va_P D vwCl [] H := hP
  have hD : va_D A [] := hD
  refine lv_icmp_gt (tgt := 27) hx hb dX6_isEnd_8 (by decide) (fun c_10 => ?_) (fun c_10 => ?_)
  · have hden := if_s hden c_10
    refine lv_iconst (v := 0) hx hb dX6_isEnd_27 (by decide) ?_
    subst hQe
    cases hden
    exact m_rz hx hb hr hP hD hS [] (by decide) rfl rfl (by decide) dX6_isEnd_28 hlocks
  · have hden := ifn_s hden c_10
    refine lv_iload_n hx hb dX6_isEnd_11 rfl (lv_at hl 0 rfl) ?_
    refine lv_iload_n hx hb dX6_isEnd_12 rfl (lv_at hl 1 rfl) ?_
    obtain ⟨r_5, hc_6, hden⟩ := bnd_s hden
    refine m_ci (wc := []) (wr := []) (wc' := []) (va_runS (As := [.int p2]) (rest := [.int p1]) ⟨hx, hb, hml, hown, hts⟩ (c_X6_lengthOf l D cI cM cL F hc_6) (va_cwS 1 hts gX6_isEnd_X6_lengthOf rfl rfl rfl (by decide +kernel) ⟨Nat.le_of_ble_eq_true rfl, Nat.le_of_ble_eq_true rfl⟩) (mPreS hP hD hK hN [] (by decide) rfl) rfl rfl hl.1 rfl (lv_room (Nat.le_of_ble_eq_true rfl)) dX6_isEnd_13 ⟨Nat.le_of_ble_eq_true rfl, Nat.le_of_ble_eq_true rfl⟩) hP hD hS hA [] [] rfl rfl (by decide) (by decide) (fun H locs hP hD hS => ?_)
    have hP : va_P D vwCl [] H := hP
    have hD : va_D A [] := hD
    obtain ⟨r_7, hc_8, hden⟩ := bnd_s hden
    refine m_ci (wc := []) (wr := []) (wc' := []) (va_runS (As := [.int p1, .int r_5]) (rest := []) ⟨hx, hb, hml, hown, hts⟩ (c_X6_endOf l D cI cM cL F hc_8) (va_cwS 2 hts gX6_isEnd_X6_endOf rfl rfl rfl (by decide +kernel) ⟨Nat.le_of_ble_eq_true rfl, Nat.le_of_ble_eq_true rfl⟩) (mPreS hP hD hK hN [] (by decide) rfl) rfl rfl hl.1 rfl (lv_room (Nat.le_of_ble_eq_true rfl)) dX6_isEnd_16 ⟨Nat.le_of_ble_eq_true rfl, Nat.le_of_ble_eq_true rfl⟩) hP hD hS hA [] [] rfl rfl (by decide) (by decide) (fun H locs hP hD hS => ?_)
    have hP : va_P D vwCl [] H := hP
    have hD : va_D A [] := hD
    refine lv_iload_n hx hb dX6_isEnd_19 rfl (lv_at hl 1 rfl) ?_
    refine lv_icmp_ne (tgt := 27) hx hb dX6_isEnd_20 (by decide) (fun c_9 => ?_) (fun c_9 => ?_)
    · have hden := ifn_s hden c_9
      refine lv_iconst (v := 0) hx hb dX6_isEnd_27 (by decide) ?_
      subst hQe
      cases hden
      exact m_rz hx hb hr hP hD hS [] (by decide) rfl rfl (by decide) dX6_isEnd_28 hlocks
    · have hden := if_s hden c_9
      refine lv_iconst (v := 1) hx hb dX6_isEnd_23 (by decide) ?_
      refine lv_goto (tgt := 28) hx hb dX6_isEnd_24 (by decide) ?_
      subst hQe
      cases hden
      exact m_rz hx hb hr hP hD hS [] (by decide) rfl rfl (by decide) dX6_isEnd_28 hlocks
def D_X6_isBegin (F : Nat) (p1 : Int32) (p2 : Int32) : Option (Int32) := bnd (D_X6_lengthOf F p2) (fun r_1 => bnd (D_X6_lengthOf F p1) (fun r_3 => (if r_3 < r_1 then some (0) else bnd (D_X6_lengthOf F p2) (fun r_5 => bnd (D_X6_beginOf F p1 r_5) (fun r_7 => (if r_7 = p2 then some (1) else some (0)))))))
def rm_X6_isBegin : Room := { frames := 2, cells := 0, slots := 0, locals := 42 }
set_option maxHeartbeats 4000000 in
set_option maxRecDepth 100000 in
theorem c_X6_isBegin (l : Launch) (D : va_G) (cI cM cL : ClassId) (F : Nat) {sz : Nat} {p1 : Int32} {p2 : Int32} {r0 : Int32} (hden : D_X6_isBegin F p1 p2 = some (r0)) : Met l yX6_isBegin wsX6_isBegin rm_X6_isBegin (va_Pc [.int p1, .int p2] (mB D (mTy cI cM cL) sz [])) (mQi D (va_A [] sz) [] r0) 0 0 (va_A [] sz) := by
  refine Met.ofW (cc := cX6_isBegin) (maxL := 2) (ret := (some .boolean)) (by decide) rfl ?_
  intro p e s m args below meth c s₁ B hml hv
  obtain ⟨rfl, hsz, hP, hK, hN, hD0⟩ := hv
  have hx := B.exec
  have hb := B.bytes
  have hr := B.returns
  have hts := atoms_spec (ws := wsX6_isBegin) B.pre
  have hown : s.vm.findClass RX6 = some m.cls := findClass_of_methodNamed B.named
  have hlocks := B.notSynchronized
  subst hsz
  have hD := hD0.self (sz := s.heap.size)
  generalize hAe : va_A [] s.heap.size = A at hD ⊢
  have hA : ∀ q : Nat, s.heap.size ≤ q → A q := fun q h => by rw [← hAe]; exact Or.inr h
  have hS : va_S A s.heap s.heap [] := va_S.rf
  have hl := lv_entry ([.int p1, .int p2]) (n := 2) (Nat.le_of_ble_eq_true rfl)
  rw [lg_entry_eq]
  generalize (lg_sl ([.int p1, .int p2]) ++ List.replicate (2 - (lg_sl ([.int p1, .int p2])).length) Slot.unset).toArray = ls at hl ⊢
  have hl : lv_has ls 2 [(0, .int p1), (1, .int p2)] := hl
  change W p l e rm_X6_isBegin s m (([.int p1, .int p2] : List Value).toArray) below meth c s.heap [] 0 0 _ (F0 m 0 ls [])
  generalize hQe : MQ below (mQi D A [] r0) (([.int p1, .int p2] : List Value).toArray) s 0 0 A = Q
  rw [D_X6_isBegin] at hden
  refine lv_iload_n hx hb dX6_isBegin_0 rfl (lv_at hl 1 rfl) ?_
  obtain ⟨r_1, hc_2, hden⟩ := bnd_s hden
  refine m_ci (wc := []) (wr := []) (wc' := []) (va_runS (As := [.int p2]) (rest := []) ⟨hx, hb, hml, hown, hts⟩ (c_X6_lengthOf l D cI cM cL F hc_2) (va_cwS 1 hts gX6_isBegin_X6_lengthOf rfl rfl rfl (by decide +kernel) ⟨Nat.le_of_ble_eq_true rfl, Nat.le_of_ble_eq_true rfl⟩) (mPreS hP hD hK hN [] (by decide) rfl) rfl rfl hl.1 rfl (lv_room (Nat.le_of_ble_eq_true rfl)) dX6_isBegin_1 ⟨Nat.le_of_ble_eq_true rfl, Nat.le_of_ble_eq_true rfl⟩) hP hD hS hA [] [] rfl rfl (by decide) (by decide) (fun H locs hP hD hS => ?_)
  have hP : va_P D vwCl [] H := hP
  have hD : va_D A [] := hD
  refine lv_iload_n hx hb dX6_isBegin_4 rfl (lv_at hl 0 rfl) ?_
  obtain ⟨r_3, hc_4, hden⟩ := bnd_s hden
  refine m_ci (wc := []) (wr := []) (wc' := []) (va_runS (As := [.int p1]) (rest := [.int r_1]) ⟨hx, hb, hml, hown, hts⟩ (c_X6_lengthOf l D cI cM cL F hc_4) (va_cwS 1 hts gX6_isBegin_X6_lengthOf rfl rfl rfl (by decide +kernel) ⟨Nat.le_of_ble_eq_true rfl, Nat.le_of_ble_eq_true rfl⟩) (mPreS hP hD hK hN [] (by decide) rfl) rfl rfl hl.1 rfl (lv_room (Nat.le_of_ble_eq_true rfl)) dX6_isBegin_5 ⟨Nat.le_of_ble_eq_true rfl, Nat.le_of_ble_eq_true rfl⟩) hP hD hS hA [] [] rfl rfl (by decide) (by decide) (fun H locs hP hD hS => ?_)
  have hP : va_P D vwCl [] H := hP
  have hD : va_D A [] := hD
  refine lv_icmp_gt (tgt := 27) hx hb dX6_isBegin_8 (by decide) (fun c_10 => ?_) (fun c_10 => ?_)
  · have hden := if_s hden c_10
    refine lv_iconst (v := 0) hx hb dX6_isBegin_27 (by decide) ?_
    subst hQe
    cases hden
    exact m_rz hx hb hr hP hD hS [] (by decide) rfl rfl (by decide) dX6_isBegin_28 hlocks
  · have hden := ifn_s hden c_10
    refine lv_iload_n hx hb dX6_isBegin_11 rfl (lv_at hl 0 rfl) ?_
    refine lv_iload_n hx hb dX6_isBegin_12 rfl (lv_at hl 1 rfl) ?_
    obtain ⟨r_5, hc_6, hden⟩ := bnd_s hden
    refine m_ci (wc := []) (wr := []) (wc' := []) (va_runS (As := [.int p2]) (rest := [.int p1]) ⟨hx, hb, hml, hown, hts⟩ (c_X6_lengthOf l D cI cM cL F hc_6) (va_cwS 1 hts gX6_isBegin_X6_lengthOf rfl rfl rfl (by decide +kernel) ⟨Nat.le_of_ble_eq_true rfl, Nat.le_of_ble_eq_true rfl⟩) (mPreS hP hD hK hN [] (by decide) rfl) rfl rfl hl.1 rfl (lv_room (Nat.le_of_ble_eq_true rfl)) dX6_isBegin_13 ⟨Nat.le_of_ble_eq_true rfl, Nat.le_of_ble_eq_true rfl⟩) hP hD hS hA [] [] rfl rfl (by decide) (by decide) (fun H locs hP hD hS => ?_)
    have hP : va_P D vwCl [] H := hP
    have hD : va_D A [] := hD
    obtain ⟨r_7, hc_8, hden⟩ := bnd_s hden
    refine m_ci (wc := []) (wr := []) (wc' := []) (va_runS (As := [.int p1, .int r_5]) (rest := []) ⟨hx, hb, hml, hown, hts⟩ (c_X6_beginOf l D cI cM cL F hc_8) (va_cwS 2 hts gX6_isBegin_X6_beginOf rfl rfl rfl (by decide +kernel) ⟨Nat.le_of_ble_eq_true rfl, Nat.le_of_ble_eq_true rfl⟩) (mPreS hP hD hK hN [] (by decide) rfl) rfl rfl hl.1 rfl (lv_room (Nat.le_of_ble_eq_true rfl)) dX6_isBegin_16 ⟨Nat.le_of_ble_eq_true rfl, Nat.le_of_ble_eq_true rfl⟩) hP hD hS hA [] [] rfl rfl (by decide) (by decide) (fun H locs hP hD hS => ?_)
    have hP : va_P D vwCl [] H := hP
    have hD : va_D A [] := hD
    refine lv_iload_n hx hb dX6_isBegin_19 rfl (lv_at hl 1 rfl) ?_
    refine lv_icmp_ne (tgt := 27) hx hb dX6_isBegin_20 (by decide) (fun c_9 => ?_) (fun c_9 => ?_)
    · have hden := ifn_s hden c_9
      refine lv_iconst (v := 0) hx hb dX6_isBegin_27 (by decide) ?_
      subst hQe
      cases hden
      exact m_rz hx hb hr hP hD hS [] (by decide) rfl rfl (by decide) dX6_isBegin_28 hlocks
    · have hden := if_s hden c_9
      refine lv_iconst (v := 1) hx hb dX6_isBegin_23 (by decide) ?_
      refine lv_goto (tgt := 28) hx hb dX6_isBegin_24 (by decide) ?_
      subst hQe
      cases hden
      exact m_rz hx hb hr hP hD hS [] (by decide) rfl rfl (by decide) dX6_isBegin_28 hlocks
def L_X6_isPart_7 (F : Nat) (y0 : Int32) (y1 : Int32) : Nat → Int32 → Int32 → Option (Int32)
  | 0, _, _ => none
  | n + 1, x2_3, x3_4 => bnd (D_X6_lengthOf F y0) (fun r_5 => (if r_5 < x3_4 then grd (bo x2_3) (some (x2_3)) else (if x2_3 = 0 then bnd (D_X6_beginOf F y0 x3_4) (fun r_9 => bnd (D_X6_isEnd F r_9 y1) (fun r_11 => (if r_11 = 0 then nm (x3_4 + 1) (fun x3_13 => L_X6_isPart_7 F y0 y1 n 0 x3_13) else nm (x3_4 + 1) (fun x3_14 => L_X6_isPart_7 F y0 y1 n 1 x3_14)))) else nm (x3_4 + 1) (fun x3_8 => L_X6_isPart_7 F y0 y1 n 1 x3_8))))
def D_X6_isPart (F : Nat) (p1 : Int32) (p2 : Int32) : Option (Int32) := bnd (D_X6_lengthOf F p2) (fun r_1 => L_X6_isPart_7 F p1 p2 F 0 r_1)
def rm_X6_isPart : Room := { frames := 2, cells := 0, slots := 0, locals := 42 }
set_option maxHeartbeats 4000000 in
set_option maxRecDepth 100000 in
theorem c_X6_isPart (l : Launch) (D : va_G) (cI cM cL : ClassId) (F : Nat) {sz : Nat} {p1 : Int32} {p2 : Int32} {r0 : Int32} (hden : D_X6_isPart F p1 p2 = some (r0)) : Met l yX6_isPart wsX6_isPart rm_X6_isPart (va_Pc [.int p1, .int p2] (mB D (mTy cI cM cL) sz [])) (mQi D (va_A [] sz) [] r0) 0 0 (va_A [] sz) := by
  refine Met.ofW (cc := cX6_isPart) (maxL := 4) (ret := (some .boolean)) (by decide) rfl ?_
  intro p e s m args below meth c s₁ B hml hv
  obtain ⟨rfl, hsz, hP, hK, hN, hD0⟩ := hv
  have hx := B.exec
  have hb := B.bytes
  have hr := B.returns
  have hts := atoms_spec (ws := wsX6_isPart) B.pre
  have hown : s.vm.findClass RX6 = some m.cls := findClass_of_methodNamed B.named
  have hlocks := B.notSynchronized
  subst hsz
  have hD := hD0.self (sz := s.heap.size)
  generalize hAe : va_A [] s.heap.size = A at hD ⊢
  have hA : ∀ q : Nat, s.heap.size ≤ q → A q := fun q h => by rw [← hAe]; exact Or.inr h
  have hS : va_S A s.heap s.heap [] := va_S.rf
  have hl := lv_entry ([.int p1, .int p2]) (n := 4) (Nat.le_of_ble_eq_true rfl)
  rw [lg_entry_eq]
  generalize (lg_sl ([.int p1, .int p2]) ++ List.replicate (4 - (lg_sl ([.int p1, .int p2])).length) Slot.unset).toArray = ls at hl ⊢
  have hl : lv_has ls 4 [(0, .int p1), (1, .int p2)] := hl
  change W p l e rm_X6_isPart s m (([.int p1, .int p2] : List Value).toArray) below meth c s.heap [] 0 0 _ (F0 m 0 ls [])
  generalize hQe : MQ below (mQi D A [] r0) (([.int p1, .int p2] : List Value).toArray) s 0 0 A = Q
  rw [D_X6_isPart] at hden
  refine lv_iconst (v := 0) hx hb dX6_isPart_0 (by decide) ?_
  refine lv_istore_n (lv' := [(2, .int 0), (0, .int p1), (1, .int p2)]) hx hb dX6_isPart_1 rfl hl (by decide) rfl (fun ls hl => ?_)
  refine lv_iload_n hx hb dX6_isPart_2 rfl (lv_at hl 2 rfl) ?_
  obtain ⟨r_1, hc_2, hden⟩ := bnd_s hden
  refine m_ci (wc := []) (wr := []) (wc' := []) (va_runS (As := [.int p2]) (rest := []) ⟨hx, hb, hml, hown, hts⟩ (c_X6_lengthOf l D cI cM cL F hc_2) (va_cwS 1 hts gX6_isPart_X6_lengthOf rfl rfl rfl (by decide +kernel) ⟨Nat.le_of_ble_eq_true rfl, Nat.le_of_ble_eq_true rfl⟩) (mPreS hP hD hK hN [] (by decide) rfl) rfl rfl hl.1 rfl (lv_room (Nat.le_of_ble_eq_true rfl)) dX6_isPart_3 ⟨Nat.le_of_ble_eq_true rfl, Nat.le_of_ble_eq_true rfl⟩) hP hD hS hA [] [] rfl rfl (by decide) (by decide) (fun H locs hP hD hS => ?_)
  have hP : va_P D vwCl [] H := hP
  have hD : va_D A [] := hD
  refine lv_istore_n (lv' := [(3, .int r_1), (2, .int 0), (0, .int p1), (1, .int p2)]) hx hb dX6_isPart_6 rfl hl (by decide) rfl (fun ls hl => ?_)
  have hL7__20 : ∀ (n : Nat) (x2_18 : Int32) (x3_19 : Int32) (H : Heap) (locs : List Loc), va_P D vwCl [] H → va_D A [] → va_S A s.heap H locs → ∀ ls : Array Slot, lv_has ls 4 [(0, .int p1), (1, .int p2), (2, .int x2_18), (3, .int x3_19)] → L_X6_isPart_7 F p1 p2 n x2_18 x3_19 = some (r0) → W p l e rm_X6_isPart s m (([.int p1, .int p2] : List Value).toArray) below meth c H locs 0 0 Q (F0 m 7 ls []) := by
    intro n
    induction n with
    | zero => intro x2_18 x3_19 H locs hP hD hS ls hl hden; exact no_none hden
    | succ n ih =>
      intro x2_18 x3_19 H locs hP hD hS ls hl hden
      rw [L_X6_isPart_7] at hden
      refine lv_iload_n hx hb dX6_isPart_7 rfl (lv_at hl 3 rfl) ?_
      refine lv_iload_n hx hb dX6_isPart_8 rfl (lv_at hl 0 rfl) ?_
      obtain ⟨r_21, hc_22, hden⟩ := bnd_s hden
      refine m_ci (wc := []) (wr := []) (wc' := []) (va_runS (As := [.int p1]) (rest := [.int x3_19]) ⟨hx, hb, hml, hown, hts⟩ (c_X6_lengthOf l D cI cM cL F hc_22) (va_cwS 1 hts gX6_isPart_X6_lengthOf rfl rfl rfl (by decide +kernel) ⟨Nat.le_of_ble_eq_true rfl, Nat.le_of_ble_eq_true rfl⟩) (mPreS hP hD hK hN [] (by decide) rfl) rfl rfl hl.1 rfl (lv_room (Nat.le_of_ble_eq_true rfl)) dX6_isPart_9 ⟨Nat.le_of_ble_eq_true rfl, Nat.le_of_ble_eq_true rfl⟩) hP hD hS hA [] [] rfl rfl (by decide) (by decide) (fun H locs hP hD hS => ?_)
      have hP : va_P D vwCl [] H := hP
      have hD : va_D A [] := hD
      refine lv_icmp_gt (tgt := 43) hx hb dX6_isPart_12 (by decide) (fun c_33 => ?_) (fun c_33 => ?_)
      · have hden := if_s hden c_33
        refine lv_iload_n hx hb dX6_isPart_43 rfl (lv_at hl 2 rfl) ?_
        obtain ⟨hg_23, hden⟩ := grd_s hden
        subst hQe
        cases hden
        exact m_rz hx hb hr hP hD hS [] (by decide) rfl rfl hg_23 dX6_isPart_44 hlocks
      · have hden := ifn_s hden c_33
        refine lv_iload_n hx hb dX6_isPart_15 rfl (lv_at hl 2 rfl) ?_
        refine lv_if_ne (tgt := 31) hx hb dX6_isPart_16 (by decide) (fun c_32 => ?_) (fun c_32 => ?_)
        · have hden := ifn_s hden c_32
          refine lv_iconst (v := 1) hx hb dX6_isPart_31 (by decide) ?_
          refine lv_goto (tgt := 36) hx hb dX6_isPart_32 (by decide) ?_
          refine lv_istore_n (lv' := [(2, .int 1), (0, .int p1), (1, .int p2), (3, .int x3_19)]) hx hb dX6_isPart_36 rfl hl (by decide) rfl (fun ls hl => ?_)
          obtain ⟨x3_24, ex3_24, hden⟩ := nm_x hden
          refine lv_iinc (v := x3_24) (lv' := [(3, .int x3_24), (2, .int 1), (0, .int p1), (1, .int p2)]) hx hb dX6_isPart_37 hl (k := 3) rfl (by rw [ex3_24]; rfl) (by decide) rfl (fun ls hl => ?_)
          refine lv_goto (tgt := 7) hx hb dX6_isPart_40 (by decide) ?_
          exact ih 1 x3_24 _ _ (mSubP hP [] rfl) (hD.sub [] (by decide) rfl) hS ls (lv_sub hl [2, 3, 1, 0] rfl) hden
        · have hden := if_s hden c_32
          refine lv_iload_n hx hb dX6_isPart_19 rfl (lv_at hl 0 rfl) ?_
          refine lv_iload_n hx hb dX6_isPart_20 rfl (lv_at hl 3 rfl) ?_
          obtain ⟨r_25, hc_26, hden⟩ := bnd_s hden
          refine m_ci (wc := []) (wr := []) (wc' := []) (va_runS (As := [.int p1, .int x3_19]) (rest := []) ⟨hx, hb, hml, hown, hts⟩ (c_X6_beginOf l D cI cM cL F hc_26) (va_cwS 2 hts gX6_isPart_X6_beginOf rfl rfl rfl (by decide +kernel) ⟨Nat.le_of_ble_eq_true rfl, Nat.le_of_ble_eq_true rfl⟩) (mPreS hP hD hK hN [] (by decide) rfl) rfl rfl hl.1 rfl (lv_room (Nat.le_of_ble_eq_true rfl)) dX6_isPart_21 ⟨Nat.le_of_ble_eq_true rfl, Nat.le_of_ble_eq_true rfl⟩) hP hD hS hA [] [] rfl rfl (by decide) (by decide) (fun H locs hP hD hS => ?_)
          have hP : va_P D vwCl [] H := hP
          have hD : va_D A [] := hD
          refine lv_iload_n hx hb dX6_isPart_24 rfl (lv_at hl 1 rfl) ?_
          obtain ⟨r_27, hc_28, hden⟩ := bnd_s hden
          refine m_ci (wc := []) (wr := []) (wc' := []) (va_runS (As := [.int r_25, .int p2]) (rest := []) ⟨hx, hb, hml, hown, hts⟩ (c_X6_isEnd l D cI cM cL F hc_28) (va_cwS 2 hts gX6_isPart_X6_isEnd rfl rfl rfl (by decide +kernel) ⟨Nat.le_of_ble_eq_true rfl, Nat.le_of_ble_eq_true rfl⟩) (mPreS hP hD hK hN [] (by decide) rfl) rfl rfl hl.1 rfl (lv_room (Nat.le_of_ble_eq_true rfl)) dX6_isPart_25 ⟨Nat.le_of_ble_eq_true rfl, Nat.le_of_ble_eq_true rfl⟩) hP hD hS hA [] [] rfl rfl (by decide) (by decide) (fun H locs hP hD hS => ?_)
          have hP : va_P D vwCl [] H := hP
          have hD : va_D A [] := hD
          refine lv_if_eq (tgt := 35) hx hb dX6_isPart_28 (by decide) (fun c_31 => ?_) (fun c_31 => ?_)
          · have hden := if_s hden c_31
            refine lv_iconst (v := 0) hx hb dX6_isPart_35 (by decide) ?_
            refine lv_istore_n (lv' := [(2, .int 0), (0, .int p1), (1, .int p2), (3, .int x3_19)]) hx hb dX6_isPart_36 rfl hl (by decide) rfl (fun ls hl => ?_)
            obtain ⟨x3_29, ex3_29, hden⟩ := nm_x hden
            refine lv_iinc (v := x3_29) (lv' := [(3, .int x3_29), (2, .int 0), (0, .int p1), (1, .int p2)]) hx hb dX6_isPart_37 hl (k := 3) rfl (by rw [ex3_29]; rfl) (by decide) rfl (fun ls hl => ?_)
            refine lv_goto (tgt := 7) hx hb dX6_isPart_40 (by decide) ?_
            exact ih 0 x3_29 _ _ (mSubP hP [] rfl) (hD.sub [] (by decide) rfl) hS ls (lv_sub hl [2, 3, 1, 0] rfl) hden
          · have hden := ifn_s hden c_31
            refine lv_iconst (v := 1) hx hb dX6_isPart_31 (by decide) ?_
            refine lv_goto (tgt := 36) hx hb dX6_isPart_32 (by decide) ?_
            refine lv_istore_n (lv' := [(2, .int 1), (0, .int p1), (1, .int p2), (3, .int x3_19)]) hx hb dX6_isPart_36 rfl hl (by decide) rfl (fun ls hl => ?_)
            obtain ⟨x3_30, ex3_30, hden⟩ := nm_x hden
            refine lv_iinc (v := x3_30) (lv' := [(3, .int x3_30), (2, .int 1), (0, .int p1), (1, .int p2)]) hx hb dX6_isPart_37 hl (k := 3) rfl (by rw [ex3_30]; rfl) (by decide) rfl (fun ls hl => ?_)
            refine lv_goto (tgt := 7) hx hb dX6_isPart_40 (by decide) ?_
            exact ih 1 x3_30 _ _ (mSubP hP [] rfl) (hD.sub [] (by decide) rfl) hS ls (lv_sub hl [2, 3, 1, 0] rfl) hden
  exact hL7__20 F 0 r_1 _ _ (mSubP hP [] rfl) (hD.sub [] (by decide) rfl) hS ls (lv_sub hl [2, 3, 1, 0] rfl) hden
def D_X6_isThere (F : Nat) (p1 : Int32) (v_s : (Nat → Int32)) : Option (Int32) := grd (inb ((0 : Int32) + p1) 31) ((if (v_s ((0 : Int32) + p1).toNatClampNeg) ≤ 0 then some (0) else some (1)))
def rm_X6_isThere : Room := { frames := 0, cells := 0, slots := 0, locals := 0 }
set_option maxHeartbeats 4000000 in
set_option maxRecDepth 100000 in
theorem c_X6_isThere (l : Launch) (D : va_G) (cI cM cL : ClassId) (F : Nat) {a_this a_this_s a_this_aside a_this_saved a_this_text a_this_states a_this_rows : Nat} {sz : Nat} {v_thrown v_savedMany v_length v_many v_at v_isWrong v_letters v_matched v_manyRows : Int32} {v_digested : Int64} {v_s : Nat → Int32} {p1 : Int32} {r0 : Int32} (hden : D_X6_isThere F p1 v_s = some (r0)) : Met l yX6_isThere wsX6_isThere rm_X6_isThere (va_Pc [.ref a_this, .int p1] (mB D (mTy cI cM cL) sz [(a_this, .inr (5, [.int v_thrown, .ref a_this_s, .ref a_this_aside, .ref a_this_saved, .int v_savedMany, .ref a_this_text, .int v_length, .ref a_this_states, .int v_many, .int v_at, .int v_isWrong, .int v_letters, .int v_matched, .ref a_this_rows, .int v_manyRows, .long v_digested])), (a_this_s, .inl (cI, 31, .inl v_s))])) (mQi D (va_A [(a_this, .inr (5, [.int v_thrown, .ref a_this_s, .ref a_this_aside, .ref a_this_saved, .int v_savedMany, .ref a_this_text, .int v_length, .ref a_this_states, .int v_many, .int v_at, .int v_isWrong, .int v_letters, .int v_matched, .ref a_this_rows, .int v_manyRows, .long v_digested])), (a_this_s, .inl (cI, 31, .inl v_s))] sz) [(a_this, .inr (5, [.int v_thrown, .ref a_this_s, .ref a_this_aside, .ref a_this_saved, .int v_savedMany, .ref a_this_text, .int v_length, .ref a_this_states, .int v_many, .int v_at, .int v_isWrong, .int v_letters, .int v_matched, .ref a_this_rows, .int v_manyRows, .long v_digested])), (a_this_s, .inl (cI, 31, .inl v_s))] r0) 0 0 (va_A [(a_this, .inr (5, [.int v_thrown, .ref a_this_s, .ref a_this_aside, .ref a_this_saved, .int v_savedMany, .ref a_this_text, .int v_length, .ref a_this_states, .int v_many, .int v_at, .int v_isWrong, .int v_letters, .int v_matched, .ref a_this_rows, .int v_manyRows, .long v_digested])), (a_this_s, .inl (cI, 31, .inl v_s))] sz) := by
  refine Met.ofW (cc := cX6_isThere) (maxL := 2) (ret := (some .boolean)) (by decide) rfl ?_
  intro p e s m args below meth c s₁ B hml hv
  obtain ⟨rfl, hsz, hP, hK, hN, hD0⟩ := hv
  have hx := B.exec
  have hb := B.bytes
  have hr := B.returns
  have hts := atoms_spec (ws := wsX6_isThere) B.pre
  have hown : s.vm.findClass RX6 = some m.cls := findClass_of_methodNamed B.named
  have hlocks := B.notSynchronized
  subst hsz
  have hD := hD0.self (sz := s.heap.size)
  generalize hAe : va_A [(a_this, .inr (5, [.int v_thrown, .ref a_this_s, .ref a_this_aside, .ref a_this_saved, .int v_savedMany, .ref a_this_text, .int v_length, .ref a_this_states, .int v_many, .int v_at, .int v_isWrong, .int v_letters, .int v_matched, .ref a_this_rows, .int v_manyRows, .long v_digested])), (a_this_s, .inl (cI, 31, .inl v_s))] s.heap.size = A at hD ⊢
  have hA : ∀ q : Nat, s.heap.size ≤ q → A q := fun q h => by rw [← hAe]; exact Or.inr h
  have hS : va_S A s.heap s.heap [] := va_S.rf
  have hl := lv_entry ([.ref a_this, .int p1]) (n := 2) (Nat.le_of_ble_eq_true rfl)
  rw [lg_entry_eq]
  generalize (lg_sl ([.ref a_this, .int p1]) ++ List.replicate (2 - (lg_sl ([.ref a_this, .int p1])).length) Slot.unset).toArray = ls at hl ⊢
  have hl : lv_has ls 2 [(0, .ref a_this), (1, .int p1)] := hl
  change W p l e rm_X6_isThere s m (([.ref a_this, .int p1] : List Value).toArray) below meth c s.heap [] 0 0 _ (F0 m 0 ls [])
  generalize hQe : MQ below (mQi D A [(a_this, .inr (5, [.int v_thrown, .ref a_this_s, .ref a_this_aside, .ref a_this_saved, .int v_savedMany, .ref a_this_text, .int v_length, .ref a_this_states, .int v_many, .int v_at, .int v_isWrong, .int v_letters, .int v_matched, .ref a_this_rows, .int v_manyRows, .long v_digested])), (a_this_s, .inl (cI, 31, .inl v_s))] r0) (([.ref a_this, .int p1] : List Value).toArray) s 0 0 A = Q
  rw [D_X6_isThere] at hden
  have hin_X6 : ∀ w ∈ wsX60, w ∈ wsX6_isThere := by decide +kernel
  have w_7 := hts (.fieldLink RX6 7 "FallingPatternsModel" "s" "[I") (by decide +kernel)
  refine lv_aload_n hx hb dX6_isThere_0 rfl (lv_at hl 0 rfl) ?_
  refine va_get (D := D) (ci := 5) (v := .ref a_this_s) (C := RX6) (T := TX6) (N := 16) hx hb hts hin_X6 hown hK hP 0 rfl rfl 1 (by decide) w_7 (fun _ h9 => h9) rfl dX6_isThere_1 ?_
  refine lv_iconst (v := 0) hx hb dX6_isThere_4 (by decide) ?_
  refine lv_iload_n hx hb dX6_isThere_5 rfl (lv_at hl 1 rfl) ?_
  refine lv_iadd hx hb dX6_isThere_6 ?_
  obtain ⟨hg_1, hden⟩ := grd_s hden
  refine va_iald hx hb hK hP 1 0 rfl rfl (inb_in hg_1) dX6_isThere_7 ?_
  refine lv_if_le (tgt := 15) hx hb dX6_isThere_8 (by decide) (fun c_2 => ?_) (fun c_2 => ?_)
  · have hden := if_s hden c_2
    refine lv_iconst (v := 0) hx hb dX6_isThere_15 (by decide) ?_
    subst hQe
    cases hden
    exact m_rz hx hb hr hP hD hS [0, 1] (by decide) rfl rfl (by decide) dX6_isThere_16 hlocks
  · have hden := ifn_s hden c_2
    refine lv_iconst (v := 1) hx hb dX6_isThere_11 (by decide) ?_
    refine lv_goto (tgt := 16) hx hb dX6_isThere_12 (by decide) ?_
    subst hQe
    cases hden
    exact m_rz hx hb hr hP hD hS [0, 1] (by decide) rfl rfl (by decide) dX6_isThere_16 hlocks
def L_X6_beginning_4 (F : Nat) (y1 : Int32) (v_s : (Nat → Int32)) : Nat → Int32 → Int32 → Option (Int32)
  | 0, _, _ => none
  | n + 1, x2_1, x3_2 => (if 8 ≤ x3_2 then some (x2_1) else bnd (D_X6_isThere F x3_2 v_s) (fun r_3 => (if r_3 = 0 then nm (x2_1 + 0) (fun x2_5 => nm (x3_2 + 1) (fun x3_6 => L_X6_beginning_4 F y1 v_s n x2_5 x3_6)) else grd (inb ((0 : Int32) + x3_2) 31) (bnd (D_X6_isBegin F (v_s ((0 : Int32) + x3_2).toNatClampNeg) y1) (fun r_8 => (if r_8 = 0 then nm (x2_1 + 0) (fun x2_10 => nm (x3_2 + 1) (fun x3_11 => L_X6_beginning_4 F y1 v_s n x2_10 x3_11)) else nm (x2_1 + 1) (fun x2_12 => nm (x3_2 + 1) (fun x3_13 => L_X6_beginning_4 F y1 v_s n x2_12 x3_13))))))))
def D_X6_beginning (F : Nat) (p1 : Int32) (v_s : (Nat → Int32)) : Option (Int32) := L_X6_beginning_4 F p1 v_s F 0 0
def rm_X6_beginning : Room := { frames := 3, cells := 0, slots := 0, locals := 63 }
set_option maxHeartbeats 4000000 in
set_option maxRecDepth 100000 in
theorem c_X6_beginning (l : Launch) (D : va_G) (cI cM cL : ClassId) (F : Nat) {a_this a_this_s a_this_aside a_this_saved a_this_text a_this_states a_this_rows : Nat} {sz : Nat} {v_thrown v_savedMany v_length v_many v_at v_isWrong v_letters v_matched v_manyRows : Int32} {v_digested : Int64} {v_s : Nat → Int32} {p1 : Int32} {r0 : Int32} (hden : D_X6_beginning F p1 v_s = some (r0)) : Met l yX6_beginning wsX6_beginning rm_X6_beginning (va_Pc [.ref a_this, .int p1] (mB D (mTy cI cM cL) sz [(a_this, .inr (5, [.int v_thrown, .ref a_this_s, .ref a_this_aside, .ref a_this_saved, .int v_savedMany, .ref a_this_text, .int v_length, .ref a_this_states, .int v_many, .int v_at, .int v_isWrong, .int v_letters, .int v_matched, .ref a_this_rows, .int v_manyRows, .long v_digested])), (a_this_s, .inl (cI, 31, .inl v_s))])) (mQi D (va_A [(a_this, .inr (5, [.int v_thrown, .ref a_this_s, .ref a_this_aside, .ref a_this_saved, .int v_savedMany, .ref a_this_text, .int v_length, .ref a_this_states, .int v_many, .int v_at, .int v_isWrong, .int v_letters, .int v_matched, .ref a_this_rows, .int v_manyRows, .long v_digested])), (a_this_s, .inl (cI, 31, .inl v_s))] sz) [(a_this, .inr (5, [.int v_thrown, .ref a_this_s, .ref a_this_aside, .ref a_this_saved, .int v_savedMany, .ref a_this_text, .int v_length, .ref a_this_states, .int v_many, .int v_at, .int v_isWrong, .int v_letters, .int v_matched, .ref a_this_rows, .int v_manyRows, .long v_digested])), (a_this_s, .inl (cI, 31, .inl v_s))] r0) 0 0 (va_A [(a_this, .inr (5, [.int v_thrown, .ref a_this_s, .ref a_this_aside, .ref a_this_saved, .int v_savedMany, .ref a_this_text, .int v_length, .ref a_this_states, .int v_many, .int v_at, .int v_isWrong, .int v_letters, .int v_matched, .ref a_this_rows, .int v_manyRows, .long v_digested])), (a_this_s, .inl (cI, 31, .inl v_s))] sz) := by
  refine Met.ofW (cc := cX6_beginning) (maxL := 4) (ret := (some .int)) (by decide) rfl ?_
  intro p e s m args below meth c s₁ B hml hv
  obtain ⟨rfl, hsz, hP, hK, hN, hD0⟩ := hv
  have hx := B.exec
  have hb := B.bytes
  have hr := B.returns
  have hts := atoms_spec (ws := wsX6_beginning) B.pre
  have hown : s.vm.findClass RX6 = some m.cls := findClass_of_methodNamed B.named
  have hlocks := B.notSynchronized
  subst hsz
  have hD := hD0.self (sz := s.heap.size)
  generalize hAe : va_A [(a_this, .inr (5, [.int v_thrown, .ref a_this_s, .ref a_this_aside, .ref a_this_saved, .int v_savedMany, .ref a_this_text, .int v_length, .ref a_this_states, .int v_many, .int v_at, .int v_isWrong, .int v_letters, .int v_matched, .ref a_this_rows, .int v_manyRows, .long v_digested])), (a_this_s, .inl (cI, 31, .inl v_s))] s.heap.size = A at hD ⊢
  have hA : ∀ q : Nat, s.heap.size ≤ q → A q := fun q h => by rw [← hAe]; exact Or.inr h
  have hS : va_S A s.heap s.heap [] := va_S.rf
  have hl := lv_entry ([.ref a_this, .int p1]) (n := 4) (Nat.le_of_ble_eq_true rfl)
  rw [lg_entry_eq]
  generalize (lg_sl ([.ref a_this, .int p1]) ++ List.replicate (4 - (lg_sl ([.ref a_this, .int p1])).length) Slot.unset).toArray = ls at hl ⊢
  have hl : lv_has ls 4 [(0, .ref a_this), (1, .int p1)] := hl
  change W p l e rm_X6_beginning s m (([.ref a_this, .int p1] : List Value).toArray) below meth c s.heap [] 0 0 _ (F0 m 0 ls [])
  generalize hQe : MQ below (mQi D A [(a_this, .inr (5, [.int v_thrown, .ref a_this_s, .ref a_this_aside, .ref a_this_saved, .int v_savedMany, .ref a_this_text, .int v_length, .ref a_this_states, .int v_many, .int v_at, .int v_isWrong, .int v_letters, .int v_matched, .ref a_this_rows, .int v_manyRows, .long v_digested])), (a_this_s, .inl (cI, 31, .inl v_s))] r0) (([.ref a_this, .int p1] : List Value).toArray) s 0 0 A = Q
  rw [D_X6_beginning] at hden
  have hin_X6 : ∀ w ∈ wsX60, w ∈ wsX6_beginning := by decide +kernel
  have w_7 := hts (.fieldLink RX6 7 "FallingPatternsModel" "s" "[I") (by decide +kernel)
  refine lv_iconst (v := 0) hx hb dX6_beginning_0 (by decide) ?_
  refine lv_istore_n (lv' := [(2, .int 0), (0, .ref a_this), (1, .int p1)]) hx hb dX6_beginning_1 rfl hl (by decide) rfl (fun ls hl => ?_)
  refine lv_iconst (v := 0) hx hb dX6_beginning_2 (by decide) ?_
  refine lv_istore_n (lv' := [(3, .int 0), (2, .int 0), (0, .ref a_this), (1, .int p1)]) hx hb dX6_beginning_3 rfl hl (by decide) rfl (fun ls hl => ?_)
  have hL4__19 : ∀ (n : Nat) (x2_17 : Int32) (x3_18 : Int32) (H : Heap) (locs : List Loc), va_P D vwCl [(a_this, .inr (5, [.int v_thrown, .ref a_this_s, .ref a_this_aside, .ref a_this_saved, .int v_savedMany, .ref a_this_text, .int v_length, .ref a_this_states, .int v_many, .int v_at, .int v_isWrong, .int v_letters, .int v_matched, .ref a_this_rows, .int v_manyRows, .long v_digested])), (a_this_s, .inl (cI, 31, .inl v_s))] H → va_D A [(a_this, .inr (5, [.int v_thrown, .ref a_this_s, .ref a_this_aside, .ref a_this_saved, .int v_savedMany, .ref a_this_text, .int v_length, .ref a_this_states, .int v_many, .int v_at, .int v_isWrong, .int v_letters, .int v_matched, .ref a_this_rows, .int v_manyRows, .long v_digested])), (a_this_s, .inl (cI, 31, .inl v_s))] → va_S A s.heap H locs → ∀ ls : Array Slot, lv_has ls 4 [(0, .ref a_this), (1, .int p1), (2, .int x2_17), (3, .int x3_18)] → L_X6_beginning_4 F p1 v_s n x2_17 x3_18 = some (r0) → W p l e rm_X6_beginning s m (([.ref a_this, .int p1] : List Value).toArray) below meth c H locs 0 0 Q (F0 m 4 ls []) := by
    intro n
    induction n with
    | zero => intro x2_17 x3_18 H locs hP hD hS ls hl hden; exact no_none hden
    | succ n ih =>
      intro x2_17 x3_18 H locs hP hD hS ls hl hden
      rw [L_X6_beginning_4] at hden
      refine lv_iload_n hx hb dX6_beginning_4 rfl (lv_at hl 3 rfl) ?_
      refine lv_bipush (v := 8) hx hb dX6_beginning_5 (by decide) ?_
      refine lv_icmp_ge (tgt := 47) hx hb dX6_beginning_7 (by decide) (fun c_33 => ?_) (fun c_33 => ?_)
      · have hden := if_s hden c_33
        refine lv_iload_n hx hb dX6_beginning_47 rfl (lv_at hl 2 rfl) ?_
        subst hQe
        cases hden
        exact m_ri hx hb hr hP hD hS [0, 1] (by decide) rfl rfl dX6_beginning_48 hlocks
      · have hden := ifn_s hden c_33
        refine lv_iload_n hx hb dX6_beginning_10 rfl (lv_at hl 2 rfl) ?_
        refine lv_aload_n hx hb dX6_beginning_11 rfl (lv_at hl 0 rfl) ?_
        refine lv_iload_n hx hb dX6_beginning_12 rfl (lv_at hl 3 rfl) ?_
        obtain ⟨r_20, hc_21, hden⟩ := bnd_s hden
        refine m_ci (wc := [(a_this, .inr (5, [.int v_thrown, .ref a_this_s, .ref a_this_aside, .ref a_this_saved, .int v_savedMany, .ref a_this_text, .int v_length, .ref a_this_states, .int v_many, .int v_at, .int v_isWrong, .int v_letters, .int v_matched, .ref a_this_rows, .int v_manyRows, .long v_digested])), (a_this_s, .inl (cI, 31, .inl v_s))]) (wr := []) (wc' := [(a_this, .inr (5, [.int v_thrown, .ref a_this_s, .ref a_this_aside, .ref a_this_saved, .int v_savedMany, .ref a_this_text, .int v_length, .ref a_this_states, .int v_many, .int v_at, .int v_isWrong, .int v_letters, .int v_matched, .ref a_this_rows, .int v_manyRows, .long v_digested])), (a_this_s, .inl (cI, 31, .inl v_s))]) (va_runV (As := [.int x3_18]) (rest := [.int x2_17]) ⟨hx, hb, hml, hown, hts⟩ (c_X6_isThere l D cI cM cL F hc_21) (cwV 1 hts gX6_beginning_X6_isThere rfl rfl rfl (by decide +kernel) ⟨Nat.le_of_ble_eq_true rfl, Nat.le_of_ble_eq_true rfl⟩) (mPreV (ci := 5) (q0 := 0) (r := (RX6, TX6, 16)) hP hD hK hN [0, 1] (by decide) rfl rfl rfl) rfl rfl hl.1 rfl (lv_room (Nat.le_of_ble_eq_true rfl)) dX6_beginning_13 ⟨Nat.le_of_ble_eq_true rfl, Nat.le_of_ble_eq_true rfl⟩) hP hD hS hA [0, 1] [] rfl rfl (by decide) (by decide) (fun H locs hP hD hS => ?_)
        have hP : va_P D vwCl [(a_this, .inr (5, [.int v_thrown, .ref a_this_s, .ref a_this_aside, .ref a_this_saved, .int v_savedMany, .ref a_this_text, .int v_length, .ref a_this_states, .int v_many, .int v_at, .int v_isWrong, .int v_letters, .int v_matched, .ref a_this_rows, .int v_manyRows, .long v_digested])), (a_this_s, .inl (cI, 31, .inl v_s))] H := hP
        have hD : va_D A [(a_this, .inr (5, [.int v_thrown, .ref a_this_s, .ref a_this_aside, .ref a_this_saved, .int v_savedMany, .ref a_this_text, .int v_length, .ref a_this_states, .int v_many, .int v_at, .int v_isWrong, .int v_letters, .int v_matched, .ref a_this_rows, .int v_manyRows, .long v_digested])), (a_this_s, .inl (cI, 31, .inl v_s))] := hD
        refine lv_if_eq (tgt := 38) hx hb dX6_beginning_16 (by decide) (fun c_32 => ?_) (fun c_32 => ?_)
        · have hden := if_s hden c_32
          refine lv_iconst (v := 0) hx hb dX6_beginning_38 (by decide) ?_
          refine lv_iadd hx hb dX6_beginning_39 ?_
          refine lv_topi (fun x2_22 ex2_22 => ?_)
          have hden := nm_s hden ex2_22
          refine lv_istore_n (lv' := [(2, .int x2_22), (0, .ref a_this), (1, .int p1), (3, .int x3_18)]) hx hb dX6_beginning_40 rfl hl (by decide) rfl (fun ls hl => ?_)
          obtain ⟨x3_23, ex3_23, hden⟩ := nm_x hden
          refine lv_iinc (v := x3_23) (lv' := [(3, .int x3_23), (2, .int x2_22), (0, .ref a_this), (1, .int p1)]) hx hb dX6_beginning_41 hl (k := 3) rfl (by rw [ex3_23]; rfl) (by decide) rfl (fun ls hl => ?_)
          refine lv_goto (tgt := 4) hx hb dX6_beginning_44 (by decide) ?_
          exact ih x2_22 x3_23 _ _ (mSubP hP [0, 1] rfl) (hD.sub [0, 1] (by decide) rfl) hS ls (lv_sub hl [2, 3, 1, 0] rfl) hden
        · have hden := ifn_s hden c_32
          refine lv_aload_n hx hb dX6_beginning_19 rfl (lv_at hl 0 rfl) ?_
          refine va_get (D := D) (ci := 5) (v := .ref a_this_s) (C := RX6) (T := TX6) (N := 16) hx hb hts hin_X6 hown hK hP 0 rfl rfl 1 (by decide) w_7 (fun _ h9 => h9) rfl dX6_beginning_20 ?_
          refine lv_iconst (v := 0) hx hb dX6_beginning_23 (by decide) ?_
          refine lv_iload_n hx hb dX6_beginning_24 rfl (lv_at hl 3 rfl) ?_
          refine lv_iadd hx hb dX6_beginning_25 ?_
          obtain ⟨hg_24, hden⟩ := grd_s hden
          refine va_iald hx hb hK hP 1 0 rfl rfl (inb_in hg_24) dX6_beginning_26 ?_
          refine lv_iload_n hx hb dX6_beginning_27 rfl (lv_at hl 1 rfl) ?_
          obtain ⟨r_25, hc_26, hden⟩ := bnd_s hden
          refine m_ci (wc := []) (wr := [(a_this, .inr (5, [.int v_thrown, .ref a_this_s, .ref a_this_aside, .ref a_this_saved, .int v_savedMany, .ref a_this_text, .int v_length, .ref a_this_states, .int v_many, .int v_at, .int v_isWrong, .int v_letters, .int v_matched, .ref a_this_rows, .int v_manyRows, .long v_digested])), (a_this_s, .inl (cI, 31, .inl v_s))]) (wc' := []) (va_runS (As := [.int (v_s ((0 : Int32) + x3_18).toNatClampNeg), .int p1]) (rest := [.int x2_17]) ⟨hx, hb, hml, hown, hts⟩ (c_X6_isBegin l D cI cM cL F hc_26) (va_cwS 2 hts gX6_beginning_X6_isBegin rfl rfl rfl (by decide +kernel) ⟨Nat.le_of_ble_eq_true rfl, Nat.le_of_ble_eq_true rfl⟩) (mPreS hP hD hK hN [] (by decide) rfl) rfl rfl hl.1 rfl (lv_room (Nat.le_of_ble_eq_true rfl)) dX6_beginning_28 ⟨Nat.le_of_ble_eq_true rfl, Nat.le_of_ble_eq_true rfl⟩) hP hD hS hA [] [0, 1] rfl rfl (by decide) (by decide) (fun H locs hP hD hS => ?_)
          have hP : va_P D vwCl [(a_this, .inr (5, [.int v_thrown, .ref a_this_s, .ref a_this_aside, .ref a_this_saved, .int v_savedMany, .ref a_this_text, .int v_length, .ref a_this_states, .int v_many, .int v_at, .int v_isWrong, .int v_letters, .int v_matched, .ref a_this_rows, .int v_manyRows, .long v_digested])), (a_this_s, .inl (cI, 31, .inl v_s))] H := hP
          have hD : va_D A [(a_this, .inr (5, [.int v_thrown, .ref a_this_s, .ref a_this_aside, .ref a_this_saved, .int v_savedMany, .ref a_this_text, .int v_length, .ref a_this_states, .int v_many, .int v_at, .int v_isWrong, .int v_letters, .int v_matched, .ref a_this_rows, .int v_manyRows, .long v_digested])), (a_this_s, .inl (cI, 31, .inl v_s))] := hD
          refine lv_if_eq (tgt := 38) hx hb dX6_beginning_31 (by decide) (fun c_31 => ?_) (fun c_31 => ?_)
          · have hden := if_s hden c_31
            refine lv_iconst (v := 0) hx hb dX6_beginning_38 (by decide) ?_
            refine lv_iadd hx hb dX6_beginning_39 ?_
            refine lv_topi (fun x2_27 ex2_27 => ?_)
            have hden := nm_s hden ex2_27
            refine lv_istore_n (lv' := [(2, .int x2_27), (0, .ref a_this), (1, .int p1), (3, .int x3_18)]) hx hb dX6_beginning_40 rfl hl (by decide) rfl (fun ls hl => ?_)
            obtain ⟨x3_28, ex3_28, hden⟩ := nm_x hden
            refine lv_iinc (v := x3_28) (lv' := [(3, .int x3_28), (2, .int x2_27), (0, .ref a_this), (1, .int p1)]) hx hb dX6_beginning_41 hl (k := 3) rfl (by rw [ex3_28]; rfl) (by decide) rfl (fun ls hl => ?_)
            refine lv_goto (tgt := 4) hx hb dX6_beginning_44 (by decide) ?_
            exact ih x2_27 x3_28 _ _ (mSubP hP [0, 1] rfl) (hD.sub [0, 1] (by decide) rfl) hS ls (lv_sub hl [2, 3, 1, 0] rfl) hden
          · have hden := ifn_s hden c_31
            refine lv_iconst (v := 1) hx hb dX6_beginning_34 (by decide) ?_
            refine lv_goto (tgt := 39) hx hb dX6_beginning_35 (by decide) ?_
            refine lv_iadd hx hb dX6_beginning_39 ?_
            refine lv_topi (fun x2_29 ex2_29 => ?_)
            have hden := nm_s hden ex2_29
            refine lv_istore_n (lv' := [(2, .int x2_29), (0, .ref a_this), (1, .int p1), (3, .int x3_18)]) hx hb dX6_beginning_40 rfl hl (by decide) rfl (fun ls hl => ?_)
            obtain ⟨x3_30, ex3_30, hden⟩ := nm_x hden
            refine lv_iinc (v := x3_30) (lv' := [(3, .int x3_30), (2, .int x2_29), (0, .ref a_this), (1, .int p1)]) hx hb dX6_beginning_41 hl (k := 3) rfl (by rw [ex3_30]; rfl) (by decide) rfl (fun ls hl => ?_)
            refine lv_goto (tgt := 4) hx hb dX6_beginning_44 (by decide) ?_
            exact ih x2_29 x3_30 _ _ (mSubP hP [0, 1] rfl) (hD.sub [0, 1] (by decide) rfl) hS ls (lv_sub hl [2, 3, 1, 0] rfl) hden
  exact hL4__19 F 0 0 _ _ (mSubP hP [0, 1] rfl) (hD.sub [0, 1] (by decide) rfl) hS ls (lv_sub hl [2, 3, 1, 0] rfl) hden
def D_X6_isState (F : Nat) (p1 : Int32) (v_s : (Nat → Int32)) : Option (Int32) := (if p1 = 1 then some (1) else bnd (D_X6_beginning F p1 v_s) (fun r_1 => (if r_1 ≤ 0 then some (0) else some (1))))
def rm_X6_isState : Room := { frames := 4, cells := 0, slots := 0, locals := 86 }
set_option maxHeartbeats 4000000 in
set_option maxRecDepth 100000 in
theorem c_X6_isState (l : Launch) (D : va_G) (cI cM cL : ClassId) (F : Nat) {a_this a_this_s a_this_aside a_this_saved a_this_text a_this_states a_this_rows : Nat} {sz : Nat} {v_thrown v_savedMany v_length v_many v_at v_isWrong v_letters v_matched v_manyRows : Int32} {v_digested : Int64} {v_s : Nat → Int32} {p1 : Int32} {r0 : Int32} (hden : D_X6_isState F p1 v_s = some (r0)) : Met l yX6_isState wsX6_isState rm_X6_isState (va_Pc [.ref a_this, .int p1] (mB D (mTy cI cM cL) sz [(a_this, .inr (5, [.int v_thrown, .ref a_this_s, .ref a_this_aside, .ref a_this_saved, .int v_savedMany, .ref a_this_text, .int v_length, .ref a_this_states, .int v_many, .int v_at, .int v_isWrong, .int v_letters, .int v_matched, .ref a_this_rows, .int v_manyRows, .long v_digested])), (a_this_s, .inl (cI, 31, .inl v_s))])) (mQi D (va_A [(a_this, .inr (5, [.int v_thrown, .ref a_this_s, .ref a_this_aside, .ref a_this_saved, .int v_savedMany, .ref a_this_text, .int v_length, .ref a_this_states, .int v_many, .int v_at, .int v_isWrong, .int v_letters, .int v_matched, .ref a_this_rows, .int v_manyRows, .long v_digested])), (a_this_s, .inl (cI, 31, .inl v_s))] sz) [(a_this, .inr (5, [.int v_thrown, .ref a_this_s, .ref a_this_aside, .ref a_this_saved, .int v_savedMany, .ref a_this_text, .int v_length, .ref a_this_states, .int v_many, .int v_at, .int v_isWrong, .int v_letters, .int v_matched, .ref a_this_rows, .int v_manyRows, .long v_digested])), (a_this_s, .inl (cI, 31, .inl v_s))] r0) 0 0 (va_A [(a_this, .inr (5, [.int v_thrown, .ref a_this_s, .ref a_this_aside, .ref a_this_saved, .int v_savedMany, .ref a_this_text, .int v_length, .ref a_this_states, .int v_many, .int v_at, .int v_isWrong, .int v_letters, .int v_matched, .ref a_this_rows, .int v_manyRows, .long v_digested])), (a_this_s, .inl (cI, 31, .inl v_s))] sz) := by
  refine Met.ofW (cc := cX6_isState) (maxL := 2) (ret := (some .boolean)) (by decide) rfl ?_
  intro p e s m args below meth c s₁ B hml hv
  obtain ⟨rfl, hsz, hP, hK, hN, hD0⟩ := hv
  have hx := B.exec
  have hb := B.bytes
  have hr := B.returns
  have hts := atoms_spec (ws := wsX6_isState) B.pre
  have hown : s.vm.findClass RX6 = some m.cls := findClass_of_methodNamed B.named
  have hlocks := B.notSynchronized
  subst hsz
  have hD := hD0.self (sz := s.heap.size)
  generalize hAe : va_A [(a_this, .inr (5, [.int v_thrown, .ref a_this_s, .ref a_this_aside, .ref a_this_saved, .int v_savedMany, .ref a_this_text, .int v_length, .ref a_this_states, .int v_many, .int v_at, .int v_isWrong, .int v_letters, .int v_matched, .ref a_this_rows, .int v_manyRows, .long v_digested])), (a_this_s, .inl (cI, 31, .inl v_s))] s.heap.size = A at hD ⊢
  have hA : ∀ q : Nat, s.heap.size ≤ q → A q := fun q h => by rw [← hAe]; exact Or.inr h
  have hS : va_S A s.heap s.heap [] := va_S.rf
  have hl := lv_entry ([.ref a_this, .int p1]) (n := 2) (Nat.le_of_ble_eq_true rfl)
  rw [lg_entry_eq]
  generalize (lg_sl ([.ref a_this, .int p1]) ++ List.replicate (2 - (lg_sl ([.ref a_this, .int p1])).length) Slot.unset).toArray = ls at hl ⊢
  have hl : lv_has ls 2 [(0, .ref a_this), (1, .int p1)] := hl
  change W p l e rm_X6_isState s m (([.ref a_this, .int p1] : List Value).toArray) below meth c s.heap [] 0 0 _ (F0 m 0 ls [])
  generalize hQe : MQ below (mQi D A [(a_this, .inr (5, [.int v_thrown, .ref a_this_s, .ref a_this_aside, .ref a_this_saved, .int v_savedMany, .ref a_this_text, .int v_length, .ref a_this_states, .int v_many, .int v_at, .int v_isWrong, .int v_letters, .int v_matched, .ref a_this_rows, .int v_manyRows, .long v_digested])), (a_this_s, .inl (cI, 31, .inl v_s))] r0) (([.ref a_this, .int p1] : List Value).toArray) s 0 0 A = Q
  rw [D_X6_isState] at hden
  refine lv_iload_n hx hb dX6_isState_0 rfl (lv_at hl 1 rfl) ?_
  refine lv_iconst (v := 1) hx hb dX6_isState_1 (by decide) ?_
  refine lv_icmp_eq (tgt := 13) hx hb dX6_isState_2 (by decide) (fun c_4 => ?_) (fun c_4 => ?_)
  · have hden := if_s hden c_4
    refine lv_iconst (v := 1) hx hb dX6_isState_13 (by decide) ?_
    refine lv_goto (tgt := 18) hx hb dX6_isState_14 (by decide) ?_
    subst hQe
    cases hden
    exact m_rz hx hb hr hP hD hS [0, 1] (by decide) rfl rfl (by decide) dX6_isState_18 hlocks
  · have hden := ifn_s hden c_4
    refine lv_aload_n hx hb dX6_isState_5 rfl (lv_at hl 0 rfl) ?_
    refine lv_iload_n hx hb dX6_isState_6 rfl (lv_at hl 1 rfl) ?_
    obtain ⟨r_1, hc_2, hden⟩ := bnd_s hden
    refine m_ci (wc := [(a_this, .inr (5, [.int v_thrown, .ref a_this_s, .ref a_this_aside, .ref a_this_saved, .int v_savedMany, .ref a_this_text, .int v_length, .ref a_this_states, .int v_many, .int v_at, .int v_isWrong, .int v_letters, .int v_matched, .ref a_this_rows, .int v_manyRows, .long v_digested])), (a_this_s, .inl (cI, 31, .inl v_s))]) (wr := []) (wc' := [(a_this, .inr (5, [.int v_thrown, .ref a_this_s, .ref a_this_aside, .ref a_this_saved, .int v_savedMany, .ref a_this_text, .int v_length, .ref a_this_states, .int v_many, .int v_at, .int v_isWrong, .int v_letters, .int v_matched, .ref a_this_rows, .int v_manyRows, .long v_digested])), (a_this_s, .inl (cI, 31, .inl v_s))]) (va_runV (As := [.int p1]) (rest := []) ⟨hx, hb, hml, hown, hts⟩ (c_X6_beginning l D cI cM cL F hc_2) (cwV 1 hts gX6_isState_X6_beginning rfl rfl rfl (by decide +kernel) ⟨Nat.le_of_ble_eq_true rfl, Nat.le_of_ble_eq_true rfl⟩) (mPreV (ci := 5) (q0 := 0) (r := (RX6, TX6, 16)) hP hD hK hN [0, 1] (by decide) rfl rfl rfl) rfl rfl hl.1 rfl (lv_room (Nat.le_of_ble_eq_true rfl)) dX6_isState_7 ⟨Nat.le_of_ble_eq_true rfl, Nat.le_of_ble_eq_true rfl⟩) hP hD hS hA [0, 1] [] rfl rfl (by decide) (by decide) (fun H locs hP hD hS => ?_)
    have hP : va_P D vwCl [(a_this, .inr (5, [.int v_thrown, .ref a_this_s, .ref a_this_aside, .ref a_this_saved, .int v_savedMany, .ref a_this_text, .int v_length, .ref a_this_states, .int v_many, .int v_at, .int v_isWrong, .int v_letters, .int v_matched, .ref a_this_rows, .int v_manyRows, .long v_digested])), (a_this_s, .inl (cI, 31, .inl v_s))] H := hP
    have hD : va_D A [(a_this, .inr (5, [.int v_thrown, .ref a_this_s, .ref a_this_aside, .ref a_this_saved, .int v_savedMany, .ref a_this_text, .int v_length, .ref a_this_states, .int v_many, .int v_at, .int v_isWrong, .int v_letters, .int v_matched, .ref a_this_rows, .int v_manyRows, .long v_digested])), (a_this_s, .inl (cI, 31, .inl v_s))] := hD
    refine lv_if_le (tgt := 17) hx hb dX6_isState_10 (by decide) (fun c_3 => ?_) (fun c_3 => ?_)
    · have hden := if_s hden c_3
      refine lv_iconst (v := 0) hx hb dX6_isState_17 (by decide) ?_
      subst hQe
      cases hden
      exact m_rz hx hb hr hP hD hS [0, 1] (by decide) rfl rfl (by decide) dX6_isState_18 hlocks
    · have hden := ifn_s hden c_3
      refine lv_iconst (v := 1) hx hb dX6_isState_13 (by decide) ?_
      refine lv_goto (tgt := 18) hx hb dX6_isState_14 (by decide) ?_
      subst hQe
      cases hden
      exact m_rz hx hb hr hP hD hS [0, 1] (by decide) rfl rfl (by decide) dX6_isState_18 hlocks
def L_X6_stateAt_2 (F : Nat) (k20 : Int32 → Option (Int32)) (y1 : Int32) (v_s : (Nat → Int32)) : Nat → Int32 → Option (Int32)
  | 0, _ => none
  | n + 1, x3_1 => bnd (D_X6_endOf F y1 x3_1) (fun r_2 => bnd (D_X6_isState F r_2 v_s) (fun r_4 => (if r_4 = 0 then nm (x3_1 + (-1)) (fun x3_6 => L_X6_stateAt_2 F k20 y1 v_s n x3_6) else k20 x3_1)))
def D_X6_stateAt (F : Nat) (p1 : Int32) (p2 : Int32) (v_s : (Nat → Int32)) : Option (Int32) := L_X6_stateAt_2 F (fun (x3_9 : Int32) => bnd (D_X6_endOf F p1 x3_9) (fun r_17 => some (r_17))) p1 v_s F p2
def rm_X6_stateAt : Room := { frames := 5, cells := 0, slots := 0, locals := 107 }
set_option maxHeartbeats 4000000 in
set_option maxRecDepth 100000 in
theorem c_X6_stateAt (l : Launch) (D : va_G) (cI cM cL : ClassId) (F : Nat) {a_this a_this_s a_this_aside a_this_saved a_this_text a_this_states a_this_rows : Nat} {sz : Nat} {v_thrown v_savedMany v_length v_many v_at v_isWrong v_letters v_matched v_manyRows : Int32} {v_digested : Int64} {v_s : Nat → Int32} {p1 : Int32} {p2 : Int32} {r0 : Int32} (hden : D_X6_stateAt F p1 p2 v_s = some (r0)) : Met l yX6_stateAt wsX6_stateAt rm_X6_stateAt (va_Pc [.ref a_this, .int p1, .int p2] (mB D (mTy cI cM cL) sz [(a_this, .inr (5, [.int v_thrown, .ref a_this_s, .ref a_this_aside, .ref a_this_saved, .int v_savedMany, .ref a_this_text, .int v_length, .ref a_this_states, .int v_many, .int v_at, .int v_isWrong, .int v_letters, .int v_matched, .ref a_this_rows, .int v_manyRows, .long v_digested])), (a_this_s, .inl (cI, 31, .inl v_s))])) (mQi D (va_A [(a_this, .inr (5, [.int v_thrown, .ref a_this_s, .ref a_this_aside, .ref a_this_saved, .int v_savedMany, .ref a_this_text, .int v_length, .ref a_this_states, .int v_many, .int v_at, .int v_isWrong, .int v_letters, .int v_matched, .ref a_this_rows, .int v_manyRows, .long v_digested])), (a_this_s, .inl (cI, 31, .inl v_s))] sz) [(a_this, .inr (5, [.int v_thrown, .ref a_this_s, .ref a_this_aside, .ref a_this_saved, .int v_savedMany, .ref a_this_text, .int v_length, .ref a_this_states, .int v_many, .int v_at, .int v_isWrong, .int v_letters, .int v_matched, .ref a_this_rows, .int v_manyRows, .long v_digested])), (a_this_s, .inl (cI, 31, .inl v_s))] r0) 0 0 (va_A [(a_this, .inr (5, [.int v_thrown, .ref a_this_s, .ref a_this_aside, .ref a_this_saved, .int v_savedMany, .ref a_this_text, .int v_length, .ref a_this_states, .int v_many, .int v_at, .int v_isWrong, .int v_letters, .int v_matched, .ref a_this_rows, .int v_manyRows, .long v_digested])), (a_this_s, .inl (cI, 31, .inl v_s))] sz) := by
  refine Met.ofW (cc := cX6_stateAt) (maxL := 4) (ret := (some .int)) (by decide) rfl ?_
  intro p e s m args below meth c s₁ B hml hv
  obtain ⟨rfl, hsz, hP, hK, hN, hD0⟩ := hv
  have hx := B.exec
  have hb := B.bytes
  have hr := B.returns
  have hts := atoms_spec (ws := wsX6_stateAt) B.pre
  have hown : s.vm.findClass RX6 = some m.cls := findClass_of_methodNamed B.named
  have hlocks := B.notSynchronized
  subst hsz
  have hD := hD0.self (sz := s.heap.size)
  generalize hAe : va_A [(a_this, .inr (5, [.int v_thrown, .ref a_this_s, .ref a_this_aside, .ref a_this_saved, .int v_savedMany, .ref a_this_text, .int v_length, .ref a_this_states, .int v_many, .int v_at, .int v_isWrong, .int v_letters, .int v_matched, .ref a_this_rows, .int v_manyRows, .long v_digested])), (a_this_s, .inl (cI, 31, .inl v_s))] s.heap.size = A at hD ⊢
  have hA : ∀ q : Nat, s.heap.size ≤ q → A q := fun q h => by rw [← hAe]; exact Or.inr h
  have hS : va_S A s.heap s.heap [] := va_S.rf
  have hl := lv_entry ([.ref a_this, .int p1, .int p2]) (n := 4) (Nat.le_of_ble_eq_true rfl)
  rw [lg_entry_eq]
  generalize (lg_sl ([.ref a_this, .int p1, .int p2]) ++ List.replicate (4 - (lg_sl ([.ref a_this, .int p1, .int p2])).length) Slot.unset).toArray = ls at hl ⊢
  have hl : lv_has ls 4 [(0, .ref a_this), (1, .int p1), (2, .int p2)] := hl
  change W p l e rm_X6_stateAt s m (([.ref a_this, .int p1, .int p2] : List Value).toArray) below meth c s.heap [] 0 0 _ (F0 m 0 ls [])
  generalize hQe : MQ below (mQi D A [(a_this, .inr (5, [.int v_thrown, .ref a_this_s, .ref a_this_aside, .ref a_this_saved, .int v_savedMany, .ref a_this_text, .int v_length, .ref a_this_states, .int v_many, .int v_at, .int v_isWrong, .int v_letters, .int v_matched, .ref a_this_rows, .int v_manyRows, .long v_digested])), (a_this_s, .inl (cI, 31, .inl v_s))] r0) (([.ref a_this, .int p1, .int p2] : List Value).toArray) s 0 0 A = Q
  rw [D_X6_stateAt] at hden
  refine lv_iload_n hx hb dX6_stateAt_0 rfl (lv_at hl 2 rfl) ?_
  refine lv_istore_n (lv' := [(3, .int p2), (0, .ref a_this), (1, .int p1), (2, .int p2)]) hx hb dX6_stateAt_1 rfl hl (by decide) rfl (fun ls hl => ?_)
  have hL2__10 : ∀ (k20 : Int32 → Option (Int32)), (∀ (x3_9 : Int32) (H : Heap) (locs : List Loc), va_P D vwCl [(a_this, .inr (5, [.int v_thrown, .ref a_this_s, .ref a_this_aside, .ref a_this_saved, .int v_savedMany, .ref a_this_text, .int v_length, .ref a_this_states, .int v_many, .int v_at, .int v_isWrong, .int v_letters, .int v_matched, .ref a_this_rows, .int v_manyRows, .long v_digested])), (a_this_s, .inl (cI, 31, .inl v_s))] H → va_D A [(a_this, .inr (5, [.int v_thrown, .ref a_this_s, .ref a_this_aside, .ref a_this_saved, .int v_savedMany, .ref a_this_text, .int v_length, .ref a_this_states, .int v_many, .int v_at, .int v_isWrong, .int v_letters, .int v_matched, .ref a_this_rows, .int v_manyRows, .long v_digested])), (a_this_s, .inl (cI, 31, .inl v_s))] → va_S A s.heap H locs → ∀ ls : Array Slot, lv_has ls 4 [(1, .int p1), (3, .int x3_9)] → k20 x3_9 = some (r0) → W p l e rm_X6_stateAt s m (([.ref a_this, .int p1, .int p2] : List Value).toArray) below meth c H locs 0 0 Q (F0 m 20 ls [])) → ∀ (n : Nat) (x3_8 : Int32) (H : Heap) (locs : List Loc), va_P D vwCl [(a_this, .inr (5, [.int v_thrown, .ref a_this_s, .ref a_this_aside, .ref a_this_saved, .int v_savedMany, .ref a_this_text, .int v_length, .ref a_this_states, .int v_many, .int v_at, .int v_isWrong, .int v_letters, .int v_matched, .ref a_this_rows, .int v_manyRows, .long v_digested])), (a_this_s, .inl (cI, 31, .inl v_s))] H → va_D A [(a_this, .inr (5, [.int v_thrown, .ref a_this_s, .ref a_this_aside, .ref a_this_saved, .int v_savedMany, .ref a_this_text, .int v_length, .ref a_this_states, .int v_many, .int v_at, .int v_isWrong, .int v_letters, .int v_matched, .ref a_this_rows, .int v_manyRows, .long v_digested])), (a_this_s, .inl (cI, 31, .inl v_s))] → va_S A s.heap H locs → ∀ ls : Array Slot, lv_has ls 4 [(0, .ref a_this), (1, .int p1), (3, .int x3_8)] → L_X6_stateAt_2 F k20 p1 v_s n x3_8 = some (r0) → W p l e rm_X6_stateAt s m (([.ref a_this, .int p1, .int p2] : List Value).toArray) below meth c H locs 0 0 Q (F0 m 2 ls []) := by
    intro k20 hk20 n
    induction n with
    | zero => intro x3_8 H locs hP hD hS ls hl hden; exact no_none hden
    | succ n ih =>
      intro x3_8 H locs hP hD hS ls hl hden
      rw [L_X6_stateAt_2] at hden
      refine lv_aload_n hx hb dX6_stateAt_2 rfl (lv_at hl 0 rfl) ?_
      refine lv_iload_n hx hb dX6_stateAt_3 rfl (lv_at hl 1 rfl) ?_
      refine lv_iload_n hx hb dX6_stateAt_4 rfl (lv_at hl 2 rfl) ?_
      obtain ⟨r_11, hc_12, hden⟩ := bnd_s hden
      refine m_ci (wc := []) (wr := [(a_this, .inr (5, [.int v_thrown, .ref a_this_s, .ref a_this_aside, .ref a_this_saved, .int v_savedMany, .ref a_this_text, .int v_length, .ref a_this_states, .int v_many, .int v_at, .int v_isWrong, .int v_letters, .int v_matched, .ref a_this_rows, .int v_manyRows, .long v_digested])), (a_this_s, .inl (cI, 31, .inl v_s))]) (wc' := []) (va_runS (As := [.int p1, .int x3_8]) (rest := [.ref a_this]) ⟨hx, hb, hml, hown, hts⟩ (c_X6_endOf l D cI cM cL F hc_12) (va_cwS 2 hts gX6_stateAt_X6_endOf rfl rfl rfl (by decide +kernel) ⟨Nat.le_of_ble_eq_true rfl, Nat.le_of_ble_eq_true rfl⟩) (mPreS hP hD hK hN [] (by decide) rfl) rfl rfl hl.1 rfl (lv_room (Nat.le_of_ble_eq_true rfl)) dX6_stateAt_5 ⟨Nat.le_of_ble_eq_true rfl, Nat.le_of_ble_eq_true rfl⟩) hP hD hS hA [] [0, 1] rfl rfl (by decide) (by decide) (fun H locs hP hD hS => ?_)
      have hP : va_P D vwCl [(a_this, .inr (5, [.int v_thrown, .ref a_this_s, .ref a_this_aside, .ref a_this_saved, .int v_savedMany, .ref a_this_text, .int v_length, .ref a_this_states, .int v_many, .int v_at, .int v_isWrong, .int v_letters, .int v_matched, .ref a_this_rows, .int v_manyRows, .long v_digested])), (a_this_s, .inl (cI, 31, .inl v_s))] H := hP
      have hD : va_D A [(a_this, .inr (5, [.int v_thrown, .ref a_this_s, .ref a_this_aside, .ref a_this_saved, .int v_savedMany, .ref a_this_text, .int v_length, .ref a_this_states, .int v_many, .int v_at, .int v_isWrong, .int v_letters, .int v_matched, .ref a_this_rows, .int v_manyRows, .long v_digested])), (a_this_s, .inl (cI, 31, .inl v_s))] := hD
      obtain ⟨r_13, hc_14, hden⟩ := bnd_s hden
      refine m_ci (wc := [(a_this, .inr (5, [.int v_thrown, .ref a_this_s, .ref a_this_aside, .ref a_this_saved, .int v_savedMany, .ref a_this_text, .int v_length, .ref a_this_states, .int v_many, .int v_at, .int v_isWrong, .int v_letters, .int v_matched, .ref a_this_rows, .int v_manyRows, .long v_digested])), (a_this_s, .inl (cI, 31, .inl v_s))]) (wr := []) (wc' := [(a_this, .inr (5, [.int v_thrown, .ref a_this_s, .ref a_this_aside, .ref a_this_saved, .int v_savedMany, .ref a_this_text, .int v_length, .ref a_this_states, .int v_many, .int v_at, .int v_isWrong, .int v_letters, .int v_matched, .ref a_this_rows, .int v_manyRows, .long v_digested])), (a_this_s, .inl (cI, 31, .inl v_s))]) (va_runV (As := [.int r_11]) (rest := []) ⟨hx, hb, hml, hown, hts⟩ (c_X6_isState l D cI cM cL F hc_14) (cwV 1 hts gX6_stateAt_X6_isState rfl rfl rfl (by decide +kernel) ⟨Nat.le_of_ble_eq_true rfl, Nat.le_of_ble_eq_true rfl⟩) (mPreV (ci := 5) (q0 := 0) (r := (RX6, TX6, 16)) hP hD hK hN [0, 1] (by decide) rfl rfl rfl) rfl rfl hl.1 rfl (lv_room (Nat.le_of_ble_eq_true rfl)) dX6_stateAt_8 ⟨Nat.le_of_ble_eq_true rfl, Nat.le_of_ble_eq_true rfl⟩) hP hD hS hA [0, 1] [] rfl rfl (by decide) (by decide) (fun H locs hP hD hS => ?_)
      have hP : va_P D vwCl [(a_this, .inr (5, [.int v_thrown, .ref a_this_s, .ref a_this_aside, .ref a_this_saved, .int v_savedMany, .ref a_this_text, .int v_length, .ref a_this_states, .int v_many, .int v_at, .int v_isWrong, .int v_letters, .int v_matched, .ref a_this_rows, .int v_manyRows, .long v_digested])), (a_this_s, .inl (cI, 31, .inl v_s))] H := hP
      have hD : va_D A [(a_this, .inr (5, [.int v_thrown, .ref a_this_s, .ref a_this_aside, .ref a_this_saved, .int v_savedMany, .ref a_this_text, .int v_length, .ref a_this_states, .int v_many, .int v_at, .int v_isWrong, .int v_letters, .int v_matched, .ref a_this_rows, .int v_manyRows, .long v_digested])), (a_this_s, .inl (cI, 31, .inl v_s))] := hD
      refine lv_if_ne (tgt := 20) hx hb dX6_stateAt_11 (by decide) (fun c_16 => ?_) (fun c_16 => ?_)
      · have hden := ifn_s hden c_16
        exact hk20 x3_8 _ _ (mSubP hP [0, 1] rfl) (hD.sub [0, 1] (by decide) rfl) hS ls (lv_sub hl [1, 2] rfl) hden
      · have hden := if_s hden c_16
        obtain ⟨x3_15, ex3_15, hden⟩ := nm_x hden
        refine lv_iinc (v := x3_15) (lv' := [(3, .int x3_15), (0, .ref a_this), (1, .int p1)]) hx hb dX6_stateAt_14 hl (k := 2) rfl (by rw [ex3_15]; rfl) (by decide) rfl (fun ls hl => ?_)
        refine lv_goto (tgt := 2) hx hb dX6_stateAt_17 (by decide) ?_
        exact ih x3_15 _ _ (mSubP hP [0, 1] rfl) (hD.sub [0, 1] (by decide) rfl) hS ls (lv_sub hl [1, 2, 0] rfl) hden
  refine hL2__10 _ (fun x3_9 H locs hP hD hS ls hl hden => ?_) F p2 _ _ (mSubP hP [0, 1] rfl) (hD.sub [0, 1] (by decide) rfl) hS ls (lv_sub hl [1, 2, 0] rfl) hden
  refine lv_iload_n hx hb dX6_stateAt_20 rfl (lv_at hl 0 rfl) ?_
  refine lv_iload_n hx hb dX6_stateAt_21 rfl (lv_at hl 1 rfl) ?_
  obtain ⟨r_17, hc_18, hden⟩ := bnd_s hden
  refine m_ci (wc := []) (wr := [(a_this, .inr (5, [.int v_thrown, .ref a_this_s, .ref a_this_aside, .ref a_this_saved, .int v_savedMany, .ref a_this_text, .int v_length, .ref a_this_states, .int v_many, .int v_at, .int v_isWrong, .int v_letters, .int v_matched, .ref a_this_rows, .int v_manyRows, .long v_digested])), (a_this_s, .inl (cI, 31, .inl v_s))]) (wc' := []) (va_runS (As := [.int p1, .int x3_9]) (rest := []) ⟨hx, hb, hml, hown, hts⟩ (c_X6_endOf l D cI cM cL F hc_18) (va_cwS 2 hts gX6_stateAt_X6_endOf rfl rfl rfl (by decide +kernel) ⟨Nat.le_of_ble_eq_true rfl, Nat.le_of_ble_eq_true rfl⟩) (mPreS hP hD hK hN [] (by decide) rfl) rfl rfl hl.1 rfl (lv_room (Nat.le_of_ble_eq_true rfl)) dX6_stateAt_22 ⟨Nat.le_of_ble_eq_true rfl, Nat.le_of_ble_eq_true rfl⟩) hP hD hS hA [] [0, 1] rfl rfl (by decide) (by decide) (fun H locs hP hD hS => ?_)
  have hP : va_P D vwCl [(a_this, .inr (5, [.int v_thrown, .ref a_this_s, .ref a_this_aside, .ref a_this_saved, .int v_savedMany, .ref a_this_text, .int v_length, .ref a_this_states, .int v_many, .int v_at, .int v_isWrong, .int v_letters, .int v_matched, .ref a_this_rows, .int v_manyRows, .long v_digested])), (a_this_s, .inl (cI, 31, .inl v_s))] H := hP
  have hD : va_D A [(a_this, .inr (5, [.int v_thrown, .ref a_this_s, .ref a_this_aside, .ref a_this_saved, .int v_savedMany, .ref a_this_text, .int v_length, .ref a_this_states, .int v_many, .int v_at, .int v_isWrong, .int v_letters, .int v_matched, .ref a_this_rows, .int v_manyRows, .long v_digested])), (a_this_s, .inl (cI, 31, .inl v_s))] := hD
  subst hQe
  cases hden
  exact m_ri hx hb hr hP hD hS [0, 1] (by decide) rfl rfl dX6_stateAt_25 hlocks
def D_X6_tail (F : Nat) (v_s : (Nat → Int32)) : Option (Int32) := grd (inb 25 31) (jp (fun (t_2 : Int32) => grd (inb 26 31) (some ((((1 : Int32) <<< (((2 : Int32) * t_2) &&& 31)) + (v_s (26 : Int32).toNatClampNeg))))) (fun j24 => (if 8 ≤ (v_s (25 : Int32).toNatClampNeg) then j24 8 else grd (inb 25 31) (j24 (v_s (25 : Int32).toNatClampNeg)))))
def rm_X6_tail : Room := { frames := 0, cells := 0, slots := 0, locals := 0 }
set_option maxHeartbeats 4000000 in
set_option maxRecDepth 100000 in
theorem c_X6_tail (l : Launch) (D : va_G) (cI cM cL : ClassId) (F : Nat) {a_this a_this_s a_this_aside a_this_saved a_this_text a_this_states a_this_rows : Nat} {sz : Nat} {v_thrown v_savedMany v_length v_many v_at v_isWrong v_letters v_matched v_manyRows : Int32} {v_digested : Int64} {v_s : Nat → Int32} {r0 : Int32} (hden : D_X6_tail F v_s = some (r0)) : Met l yX6_tail wsX6_tail rm_X6_tail (va_Pc [.ref a_this] (mB D (mTy cI cM cL) sz [(a_this, .inr (5, [.int v_thrown, .ref a_this_s, .ref a_this_aside, .ref a_this_saved, .int v_savedMany, .ref a_this_text, .int v_length, .ref a_this_states, .int v_many, .int v_at, .int v_isWrong, .int v_letters, .int v_matched, .ref a_this_rows, .int v_manyRows, .long v_digested])), (a_this_s, .inl (cI, 31, .inl v_s))])) (mQi D (va_A [(a_this, .inr (5, [.int v_thrown, .ref a_this_s, .ref a_this_aside, .ref a_this_saved, .int v_savedMany, .ref a_this_text, .int v_length, .ref a_this_states, .int v_many, .int v_at, .int v_isWrong, .int v_letters, .int v_matched, .ref a_this_rows, .int v_manyRows, .long v_digested])), (a_this_s, .inl (cI, 31, .inl v_s))] sz) [(a_this, .inr (5, [.int v_thrown, .ref a_this_s, .ref a_this_aside, .ref a_this_saved, .int v_savedMany, .ref a_this_text, .int v_length, .ref a_this_states, .int v_many, .int v_at, .int v_isWrong, .int v_letters, .int v_matched, .ref a_this_rows, .int v_manyRows, .long v_digested])), (a_this_s, .inl (cI, 31, .inl v_s))] r0) 0 0 (va_A [(a_this, .inr (5, [.int v_thrown, .ref a_this_s, .ref a_this_aside, .ref a_this_saved, .int v_savedMany, .ref a_this_text, .int v_length, .ref a_this_states, .int v_many, .int v_at, .int v_isWrong, .int v_letters, .int v_matched, .ref a_this_rows, .int v_manyRows, .long v_digested])), (a_this_s, .inl (cI, 31, .inl v_s))] sz) := by
  refine Met.ofW (cc := cX6_tail) (maxL := 2) (ret := (some .int)) (by decide) rfl ?_
  intro p e s m args below meth c s₁ B hml hv
  obtain ⟨rfl, hsz, hP, hK, hN, hD0⟩ := hv
  have hx := B.exec
  have hb := B.bytes
  have hr := B.returns
  have hts := atoms_spec (ws := wsX6_tail) B.pre
  have hown : s.vm.findClass RX6 = some m.cls := findClass_of_methodNamed B.named
  have hlocks := B.notSynchronized
  subst hsz
  have hD := hD0.self (sz := s.heap.size)
  generalize hAe : va_A [(a_this, .inr (5, [.int v_thrown, .ref a_this_s, .ref a_this_aside, .ref a_this_saved, .int v_savedMany, .ref a_this_text, .int v_length, .ref a_this_states, .int v_many, .int v_at, .int v_isWrong, .int v_letters, .int v_matched, .ref a_this_rows, .int v_manyRows, .long v_digested])), (a_this_s, .inl (cI, 31, .inl v_s))] s.heap.size = A at hD ⊢
  have hA : ∀ q : Nat, s.heap.size ≤ q → A q := fun q h => by rw [← hAe]; exact Or.inr h
  have hS : va_S A s.heap s.heap [] := va_S.rf
  have hl := lv_entry ([.ref a_this]) (n := 2) (Nat.le_of_ble_eq_true rfl)
  rw [lg_entry_eq]
  generalize (lg_sl ([.ref a_this]) ++ List.replicate (2 - (lg_sl ([.ref a_this])).length) Slot.unset).toArray = ls at hl ⊢
  have hl : lv_has ls 2 [(0, .ref a_this)] := hl
  change W p l e rm_X6_tail s m (([.ref a_this] : List Value).toArray) below meth c s.heap [] 0 0 _ (F0 m 0 ls [])
  generalize hQe : MQ below (mQi D A [(a_this, .inr (5, [.int v_thrown, .ref a_this_s, .ref a_this_aside, .ref a_this_saved, .int v_savedMany, .ref a_this_text, .int v_length, .ref a_this_states, .int v_many, .int v_at, .int v_isWrong, .int v_letters, .int v_matched, .ref a_this_rows, .int v_manyRows, .long v_digested])), (a_this_s, .inl (cI, 31, .inl v_s))] r0) (([.ref a_this] : List Value).toArray) s 0 0 A = Q
  rw [D_X6_tail] at hden
  have hin_X6 : ∀ w ∈ wsX60, w ∈ wsX6_tail := by decide +kernel
  have w_7 := hts (.fieldLink RX6 7 "FallingPatternsModel" "s" "[I") (by decide +kernel)
  refine lv_aload_n hx hb dX6_tail_0 rfl (lv_at hl 0 rfl) ?_
  refine va_get (D := D) (ci := 5) (v := .ref a_this_s) (C := RX6) (T := TX6) (N := 16) hx hb hts hin_X6 hown hK hP 0 rfl rfl 1 (by decide) w_7 (fun _ h9 => h9) rfl dX6_tail_1 ?_
  refine lv_bipush (v := 25) hx hb dX6_tail_4 (by decide) ?_
  obtain ⟨hg_1, hden⟩ := grd_s hden
  refine va_iald hx hb hK hP 1 0 rfl rfl (inb_in hg_1) dX6_tail_6 ?_
  refine lv_bipush (v := 8) hx hb dX6_tail_7 (by decide) ?_
  obtain ⟨j24, ej24, hden⟩ := jp_s hden
  have hj24 : ∀ (t_2 : Int32) (H : Heap) (locs : List Loc), va_P D vwCl [(a_this, .inr (5, [.int v_thrown, .ref a_this_s, .ref a_this_aside, .ref a_this_saved, .int v_savedMany, .ref a_this_text, .int v_length, .ref a_this_states, .int v_many, .int v_at, .int v_isWrong, .int v_letters, .int v_matched, .ref a_this_rows, .int v_manyRows, .long v_digested])), (a_this_s, .inl (cI, 31, .inl v_s))] H → va_D A [(a_this, .inr (5, [.int v_thrown, .ref a_this_s, .ref a_this_aside, .ref a_this_saved, .int v_savedMany, .ref a_this_text, .int v_length, .ref a_this_states, .int v_many, .int v_at, .int v_isWrong, .int v_letters, .int v_matched, .ref a_this_rows, .int v_manyRows, .long v_digested])), (a_this_s, .inl (cI, 31, .inl v_s))] → va_S A s.heap H locs → ∀ ls : Array Slot, lv_has ls 2 [(0, .ref a_this)] → j24 t_2 = some (r0) → W p l e rm_X6_tail s m (([.ref a_this] : List Value).toArray) below meth c H locs 0 0 Q (F0 m 24 ls [.int t_2]) := by
    intro t_2 H locs hP hD hS ls hl hden
    rw [ej24] at hden
    refine lv_istore_n (lv' := [(1, .int t_2), (0, .ref a_this)]) hx hb dX6_tail_24 rfl hl (by decide) rfl (fun ls hl => ?_)
    refine lv_iconst (v := 1) hx hb dX6_tail_25 (by decide) ?_
    refine lv_iconst (v := 2) hx hb dX6_tail_26 (by decide) ?_
    refine lv_iload_n hx hb dX6_tail_27 rfl (lv_at hl 0 rfl) ?_
    refine lv_imul hx hb dX6_tail_28 ?_
    refine lv_ishl hx hb dX6_tail_29 ?_
    refine lv_aload_n hx hb dX6_tail_30 rfl (lv_at hl 1 rfl) ?_
    refine va_get (D := D) (ci := 5) (v := .ref a_this_s) (C := RX6) (T := TX6) (N := 16) hx hb hts hin_X6 hown hK hP 0 rfl rfl 1 (by decide) w_7 (fun _ h9 => h9) rfl dX6_tail_31 ?_
    refine lv_bipush (v := 26) hx hb dX6_tail_34 (by decide) ?_
    obtain ⟨hg_3, hden⟩ := grd_s hden
    refine va_iald hx hb hK hP 1 0 rfl rfl (inb_in hg_3) dX6_tail_36 ?_
    refine lv_iadd hx hb dX6_tail_37 ?_
    subst hQe
    cases hden
    exact m_ri hx hb hr hP hD hS [0, 1] (by decide) rfl rfl dX6_tail_38 hlocks
  clear ej24
  refine lv_icmp_ge (tgt := 22) hx hb dX6_tail_9 (by decide) (fun c_5 => ?_) (fun c_5 => ?_)
  · have hden := if_s hden c_5
    refine lv_bipush (v := 8) hx hb dX6_tail_22 (by decide) ?_
    exact hj24 8 _ _ (mSubP hP [0, 1] rfl) (hD.sub [0, 1] (by decide) rfl) hS ls (lv_sub hl [0] rfl) hden
  · have hden := ifn_s hden c_5
    refine lv_aload_n hx hb dX6_tail_12 rfl (lv_at hl 0 rfl) ?_
    refine va_get (D := D) (ci := 5) (v := .ref a_this_s) (C := RX6) (T := TX6) (N := 16) hx hb hts hin_X6 hown hK hP 0 rfl rfl 1 (by decide) w_7 (fun _ h9 => h9) rfl dX6_tail_13 ?_
    refine lv_bipush (v := 25) hx hb dX6_tail_16 (by decide) ?_
    obtain ⟨hg_4, hden⟩ := grd_s hden
    refine va_iald hx hb hK hP 1 0 rfl rfl (inb_in hg_4) dX6_tail_18 ?_
    refine lv_goto (tgt := 24) hx hb dX6_tail_19 (by decide) ?_
    exact hj24 (v_s (25 : Int32).toNatClampNeg) _ _ (mSubP hP [0, 1] rfl) (hD.sub [0, 1] (by decide) rfl) hS ls (lv_sub hl [0] rfl) hden
def D_X6_state (F : Nat) (v_s : (Nat → Int32)) : Option (Int32) := bnd (D_X6_tail F v_s) (fun r_1 => bnd (D_X6_tail F v_s) (fun r_3 => bnd (D_X6_lengthOf F r_3) (fun r_5 => bnd (D_X6_stateAt F r_1 r_5 v_s) (fun r_7 => some (r_7)))))
def rm_X6_state : Room := { frames := 6, cells := 0, slots := 0, locals := 130 }
set_option maxHeartbeats 4000000 in
set_option maxRecDepth 100000 in
theorem c_X6_state (l : Launch) (D : va_G) (cI cM cL : ClassId) (F : Nat) {a_this a_this_s a_this_aside a_this_saved a_this_text a_this_states a_this_rows : Nat} {sz : Nat} {v_thrown v_savedMany v_length v_many v_at v_isWrong v_letters v_matched v_manyRows : Int32} {v_digested : Int64} {v_s : Nat → Int32} {r0 : Int32} (hden : D_X6_state F v_s = some (r0)) : Met l yX6_state wsX6_state rm_X6_state (va_Pc [.ref a_this] (mB D (mTy cI cM cL) sz [(a_this, .inr (5, [.int v_thrown, .ref a_this_s, .ref a_this_aside, .ref a_this_saved, .int v_savedMany, .ref a_this_text, .int v_length, .ref a_this_states, .int v_many, .int v_at, .int v_isWrong, .int v_letters, .int v_matched, .ref a_this_rows, .int v_manyRows, .long v_digested])), (a_this_s, .inl (cI, 31, .inl v_s))])) (mQi D (va_A [(a_this, .inr (5, [.int v_thrown, .ref a_this_s, .ref a_this_aside, .ref a_this_saved, .int v_savedMany, .ref a_this_text, .int v_length, .ref a_this_states, .int v_many, .int v_at, .int v_isWrong, .int v_letters, .int v_matched, .ref a_this_rows, .int v_manyRows, .long v_digested])), (a_this_s, .inl (cI, 31, .inl v_s))] sz) [(a_this, .inr (5, [.int v_thrown, .ref a_this_s, .ref a_this_aside, .ref a_this_saved, .int v_savedMany, .ref a_this_text, .int v_length, .ref a_this_states, .int v_many, .int v_at, .int v_isWrong, .int v_letters, .int v_matched, .ref a_this_rows, .int v_manyRows, .long v_digested])), (a_this_s, .inl (cI, 31, .inl v_s))] r0) 0 0 (va_A [(a_this, .inr (5, [.int v_thrown, .ref a_this_s, .ref a_this_aside, .ref a_this_saved, .int v_savedMany, .ref a_this_text, .int v_length, .ref a_this_states, .int v_many, .int v_at, .int v_isWrong, .int v_letters, .int v_matched, .ref a_this_rows, .int v_manyRows, .long v_digested])), (a_this_s, .inl (cI, 31, .inl v_s))] sz) := by
  refine Met.ofW (cc := cX6_state) (maxL := 1) (ret := (some .int)) (by decide) rfl ?_
  intro p e s m args below meth c s₁ B hml hv
  obtain ⟨rfl, hsz, hP, hK, hN, hD0⟩ := hv
  have hx := B.exec
  have hb := B.bytes
  have hr := B.returns
  have hts := atoms_spec (ws := wsX6_state) B.pre
  have hown : s.vm.findClass RX6 = some m.cls := findClass_of_methodNamed B.named
  have hlocks := B.notSynchronized
  subst hsz
  have hD := hD0.self (sz := s.heap.size)
  generalize hAe : va_A [(a_this, .inr (5, [.int v_thrown, .ref a_this_s, .ref a_this_aside, .ref a_this_saved, .int v_savedMany, .ref a_this_text, .int v_length, .ref a_this_states, .int v_many, .int v_at, .int v_isWrong, .int v_letters, .int v_matched, .ref a_this_rows, .int v_manyRows, .long v_digested])), (a_this_s, .inl (cI, 31, .inl v_s))] s.heap.size = A at hD ⊢
  have hA : ∀ q : Nat, s.heap.size ≤ q → A q := fun q h => by rw [← hAe]; exact Or.inr h
  have hS : va_S A s.heap s.heap [] := va_S.rf
  have hl := lv_entry ([.ref a_this]) (n := 1) (Nat.le_of_ble_eq_true rfl)
  rw [lg_entry_eq]
  generalize (lg_sl ([.ref a_this]) ++ List.replicate (1 - (lg_sl ([.ref a_this])).length) Slot.unset).toArray = ls at hl ⊢
  have hl : lv_has ls 1 [(0, .ref a_this)] := hl
  change W p l e rm_X6_state s m (([.ref a_this] : List Value).toArray) below meth c s.heap [] 0 0 _ (F0 m 0 ls [])
  generalize hQe : MQ below (mQi D A [(a_this, .inr (5, [.int v_thrown, .ref a_this_s, .ref a_this_aside, .ref a_this_saved, .int v_savedMany, .ref a_this_text, .int v_length, .ref a_this_states, .int v_many, .int v_at, .int v_isWrong, .int v_letters, .int v_matched, .ref a_this_rows, .int v_manyRows, .long v_digested])), (a_this_s, .inl (cI, 31, .inl v_s))] r0) (([.ref a_this] : List Value).toArray) s 0 0 A = Q
  rw [D_X6_state] at hden
  refine lv_aload_n hx hb dX6_state_0 rfl (lv_at hl 0 rfl) ?_
  refine lv_aload_n hx hb dX6_state_1 rfl (lv_at hl 0 rfl) ?_
  obtain ⟨r_1, hc_2, hden⟩ := bnd_s hden
  refine m_ci (wc := [(a_this, .inr (5, [.int v_thrown, .ref a_this_s, .ref a_this_aside, .ref a_this_saved, .int v_savedMany, .ref a_this_text, .int v_length, .ref a_this_states, .int v_many, .int v_at, .int v_isWrong, .int v_letters, .int v_matched, .ref a_this_rows, .int v_manyRows, .long v_digested])), (a_this_s, .inl (cI, 31, .inl v_s))]) (wr := []) (wc' := [(a_this, .inr (5, [.int v_thrown, .ref a_this_s, .ref a_this_aside, .ref a_this_saved, .int v_savedMany, .ref a_this_text, .int v_length, .ref a_this_states, .int v_many, .int v_at, .int v_isWrong, .int v_letters, .int v_matched, .ref a_this_rows, .int v_manyRows, .long v_digested])), (a_this_s, .inl (cI, 31, .inl v_s))]) (va_runV (As := []) (rest := [.ref a_this]) ⟨hx, hb, hml, hown, hts⟩ (c_X6_tail l D cI cM cL F hc_2) (cwV 0 hts gX6_state_X6_tail rfl rfl rfl (by decide +kernel) ⟨Nat.le_of_ble_eq_true rfl, Nat.le_of_ble_eq_true rfl⟩) (mPreV (ci := 5) (q0 := 0) (r := (RX6, TX6, 16)) hP hD hK hN [0, 1] (by decide) rfl rfl rfl) rfl rfl hl.1 rfl (lv_room (Nat.le_of_ble_eq_true rfl)) dX6_state_2 ⟨Nat.le_of_ble_eq_true rfl, Nat.le_of_ble_eq_true rfl⟩) hP hD hS hA [0, 1] [] rfl rfl (by decide) (by decide) (fun H locs hP hD hS => ?_)
  have hP : va_P D vwCl [(a_this, .inr (5, [.int v_thrown, .ref a_this_s, .ref a_this_aside, .ref a_this_saved, .int v_savedMany, .ref a_this_text, .int v_length, .ref a_this_states, .int v_many, .int v_at, .int v_isWrong, .int v_letters, .int v_matched, .ref a_this_rows, .int v_manyRows, .long v_digested])), (a_this_s, .inl (cI, 31, .inl v_s))] H := hP
  have hD : va_D A [(a_this, .inr (5, [.int v_thrown, .ref a_this_s, .ref a_this_aside, .ref a_this_saved, .int v_savedMany, .ref a_this_text, .int v_length, .ref a_this_states, .int v_many, .int v_at, .int v_isWrong, .int v_letters, .int v_matched, .ref a_this_rows, .int v_manyRows, .long v_digested])), (a_this_s, .inl (cI, 31, .inl v_s))] := hD
  refine lv_aload_n hx hb dX6_state_5 rfl (lv_at hl 0 rfl) ?_
  obtain ⟨r_3, hc_4, hden⟩ := bnd_s hden
  refine m_ci (wc := [(a_this, .inr (5, [.int v_thrown, .ref a_this_s, .ref a_this_aside, .ref a_this_saved, .int v_savedMany, .ref a_this_text, .int v_length, .ref a_this_states, .int v_many, .int v_at, .int v_isWrong, .int v_letters, .int v_matched, .ref a_this_rows, .int v_manyRows, .long v_digested])), (a_this_s, .inl (cI, 31, .inl v_s))]) (wr := []) (wc' := [(a_this, .inr (5, [.int v_thrown, .ref a_this_s, .ref a_this_aside, .ref a_this_saved, .int v_savedMany, .ref a_this_text, .int v_length, .ref a_this_states, .int v_many, .int v_at, .int v_isWrong, .int v_letters, .int v_matched, .ref a_this_rows, .int v_manyRows, .long v_digested])), (a_this_s, .inl (cI, 31, .inl v_s))]) (va_runV (As := []) (rest := [.int r_1, .ref a_this]) ⟨hx, hb, hml, hown, hts⟩ (c_X6_tail l D cI cM cL F hc_4) (cwV 0 hts gX6_state_X6_tail rfl rfl rfl (by decide +kernel) ⟨Nat.le_of_ble_eq_true rfl, Nat.le_of_ble_eq_true rfl⟩) (mPreV (ci := 5) (q0 := 0) (r := (RX6, TX6, 16)) hP hD hK hN [0, 1] (by decide) rfl rfl rfl) rfl rfl hl.1 rfl (lv_room (Nat.le_of_ble_eq_true rfl)) dX6_state_6 ⟨Nat.le_of_ble_eq_true rfl, Nat.le_of_ble_eq_true rfl⟩) hP hD hS hA [0, 1] [] rfl rfl (by decide) (by decide) (fun H locs hP hD hS => ?_)
  have hP : va_P D vwCl [(a_this, .inr (5, [.int v_thrown, .ref a_this_s, .ref a_this_aside, .ref a_this_saved, .int v_savedMany, .ref a_this_text, .int v_length, .ref a_this_states, .int v_many, .int v_at, .int v_isWrong, .int v_letters, .int v_matched, .ref a_this_rows, .int v_manyRows, .long v_digested])), (a_this_s, .inl (cI, 31, .inl v_s))] H := hP
  have hD : va_D A [(a_this, .inr (5, [.int v_thrown, .ref a_this_s, .ref a_this_aside, .ref a_this_saved, .int v_savedMany, .ref a_this_text, .int v_length, .ref a_this_states, .int v_many, .int v_at, .int v_isWrong, .int v_letters, .int v_matched, .ref a_this_rows, .int v_manyRows, .long v_digested])), (a_this_s, .inl (cI, 31, .inl v_s))] := hD
  obtain ⟨r_5, hc_6, hden⟩ := bnd_s hden
  refine m_ci (wc := []) (wr := [(a_this, .inr (5, [.int v_thrown, .ref a_this_s, .ref a_this_aside, .ref a_this_saved, .int v_savedMany, .ref a_this_text, .int v_length, .ref a_this_states, .int v_many, .int v_at, .int v_isWrong, .int v_letters, .int v_matched, .ref a_this_rows, .int v_manyRows, .long v_digested])), (a_this_s, .inl (cI, 31, .inl v_s))]) (wc' := []) (va_runS (As := [.int r_3]) (rest := [.int r_1, .ref a_this]) ⟨hx, hb, hml, hown, hts⟩ (c_X6_lengthOf l D cI cM cL F hc_6) (va_cwS 1 hts gX6_state_X6_lengthOf rfl rfl rfl (by decide +kernel) ⟨Nat.le_of_ble_eq_true rfl, Nat.le_of_ble_eq_true rfl⟩) (mPreS hP hD hK hN [] (by decide) rfl) rfl rfl hl.1 rfl (lv_room (Nat.le_of_ble_eq_true rfl)) dX6_state_9 ⟨Nat.le_of_ble_eq_true rfl, Nat.le_of_ble_eq_true rfl⟩) hP hD hS hA [] [0, 1] rfl rfl (by decide) (by decide) (fun H locs hP hD hS => ?_)
  have hP : va_P D vwCl [(a_this, .inr (5, [.int v_thrown, .ref a_this_s, .ref a_this_aside, .ref a_this_saved, .int v_savedMany, .ref a_this_text, .int v_length, .ref a_this_states, .int v_many, .int v_at, .int v_isWrong, .int v_letters, .int v_matched, .ref a_this_rows, .int v_manyRows, .long v_digested])), (a_this_s, .inl (cI, 31, .inl v_s))] H := hP
  have hD : va_D A [(a_this, .inr (5, [.int v_thrown, .ref a_this_s, .ref a_this_aside, .ref a_this_saved, .int v_savedMany, .ref a_this_text, .int v_length, .ref a_this_states, .int v_many, .int v_at, .int v_isWrong, .int v_letters, .int v_matched, .ref a_this_rows, .int v_manyRows, .long v_digested])), (a_this_s, .inl (cI, 31, .inl v_s))] := hD
  obtain ⟨r_7, hc_8, hden⟩ := bnd_s hden
  refine m_ci (wc := [(a_this, .inr (5, [.int v_thrown, .ref a_this_s, .ref a_this_aside, .ref a_this_saved, .int v_savedMany, .ref a_this_text, .int v_length, .ref a_this_states, .int v_many, .int v_at, .int v_isWrong, .int v_letters, .int v_matched, .ref a_this_rows, .int v_manyRows, .long v_digested])), (a_this_s, .inl (cI, 31, .inl v_s))]) (wr := []) (wc' := [(a_this, .inr (5, [.int v_thrown, .ref a_this_s, .ref a_this_aside, .ref a_this_saved, .int v_savedMany, .ref a_this_text, .int v_length, .ref a_this_states, .int v_many, .int v_at, .int v_isWrong, .int v_letters, .int v_matched, .ref a_this_rows, .int v_manyRows, .long v_digested])), (a_this_s, .inl (cI, 31, .inl v_s))]) (va_runV (As := [.int r_1, .int r_5]) (rest := []) ⟨hx, hb, hml, hown, hts⟩ (c_X6_stateAt l D cI cM cL F hc_8) (cwV 2 hts gX6_state_X6_stateAt rfl rfl rfl (by decide +kernel) ⟨Nat.le_of_ble_eq_true rfl, Nat.le_of_ble_eq_true rfl⟩) (mPreV (ci := 5) (q0 := 0) (r := (RX6, TX6, 16)) hP hD hK hN [0, 1] (by decide) rfl rfl rfl) rfl rfl hl.1 rfl (lv_room (Nat.le_of_ble_eq_true rfl)) dX6_state_12 ⟨Nat.le_of_ble_eq_true rfl, Nat.le_of_ble_eq_true rfl⟩) hP hD hS hA [0, 1] [] rfl rfl (by decide) (by decide) (fun H locs hP hD hS => ?_)
  have hP : va_P D vwCl [(a_this, .inr (5, [.int v_thrown, .ref a_this_s, .ref a_this_aside, .ref a_this_saved, .int v_savedMany, .ref a_this_text, .int v_length, .ref a_this_states, .int v_many, .int v_at, .int v_isWrong, .int v_letters, .int v_matched, .ref a_this_rows, .int v_manyRows, .long v_digested])), (a_this_s, .inl (cI, 31, .inl v_s))] H := hP
  have hD : va_D A [(a_this, .inr (5, [.int v_thrown, .ref a_this_s, .ref a_this_aside, .ref a_this_saved, .int v_savedMany, .ref a_this_text, .int v_length, .ref a_this_states, .int v_many, .int v_at, .int v_isWrong, .int v_letters, .int v_matched, .ref a_this_rows, .int v_manyRows, .long v_digested])), (a_this_s, .inl (cI, 31, .inl v_s))] := hD
  subst hQe
  cases hden
  exact m_ri hx hb hr hP hD hS [0, 1] (by decide) rfl rfl dX6_state_15 hlocks
def D_X6_behind (F : Nat) (p1 : Int32) (p2 : Int32) (v_s : (Nat → Int32)) : Option (Int32) := bnd (D_X6_lengthOf F p1) (fun r_1 => bnd (D_X6_stateAt F (((4 : Int32) * p1) + p2) (r_1 + 1) v_s) (fun r_3 => some (r_3)))
def rm_X6_behind : Room := { frames := 6, cells := 0, slots := 0, locals := 130 }
set_option maxHeartbeats 4000000 in
set_option maxRecDepth 100000 in
theorem c_X6_behind (l : Launch) (D : va_G) (cI cM cL : ClassId) (F : Nat) {a_this a_this_s a_this_aside a_this_saved a_this_text a_this_states a_this_rows : Nat} {sz : Nat} {v_thrown v_savedMany v_length v_many v_at v_isWrong v_letters v_matched v_manyRows : Int32} {v_digested : Int64} {v_s : Nat → Int32} {p1 : Int32} {p2 : Int32} {r0 : Int32} (hden : D_X6_behind F p1 p2 v_s = some (r0)) : Met l yX6_behind wsX6_behind rm_X6_behind (va_Pc [.ref a_this, .int p1, .int p2] (mB D (mTy cI cM cL) sz [(a_this, .inr (5, [.int v_thrown, .ref a_this_s, .ref a_this_aside, .ref a_this_saved, .int v_savedMany, .ref a_this_text, .int v_length, .ref a_this_states, .int v_many, .int v_at, .int v_isWrong, .int v_letters, .int v_matched, .ref a_this_rows, .int v_manyRows, .long v_digested])), (a_this_s, .inl (cI, 31, .inl v_s))])) (mQi D (va_A [(a_this, .inr (5, [.int v_thrown, .ref a_this_s, .ref a_this_aside, .ref a_this_saved, .int v_savedMany, .ref a_this_text, .int v_length, .ref a_this_states, .int v_many, .int v_at, .int v_isWrong, .int v_letters, .int v_matched, .ref a_this_rows, .int v_manyRows, .long v_digested])), (a_this_s, .inl (cI, 31, .inl v_s))] sz) [(a_this, .inr (5, [.int v_thrown, .ref a_this_s, .ref a_this_aside, .ref a_this_saved, .int v_savedMany, .ref a_this_text, .int v_length, .ref a_this_states, .int v_many, .int v_at, .int v_isWrong, .int v_letters, .int v_matched, .ref a_this_rows, .int v_manyRows, .long v_digested])), (a_this_s, .inl (cI, 31, .inl v_s))] r0) 0 0 (va_A [(a_this, .inr (5, [.int v_thrown, .ref a_this_s, .ref a_this_aside, .ref a_this_saved, .int v_savedMany, .ref a_this_text, .int v_length, .ref a_this_states, .int v_many, .int v_at, .int v_isWrong, .int v_letters, .int v_matched, .ref a_this_rows, .int v_manyRows, .long v_digested])), (a_this_s, .inl (cI, 31, .inl v_s))] sz) := by
  refine Met.ofW (cc := cX6_behind) (maxL := 3) (ret := (some .int)) (by decide) rfl ?_
  intro p e s m args below meth c s₁ B hml hv
  obtain ⟨rfl, hsz, hP, hK, hN, hD0⟩ := hv
  have hx := B.exec
  have hb := B.bytes
  have hr := B.returns
  have hts := atoms_spec (ws := wsX6_behind) B.pre
  have hown : s.vm.findClass RX6 = some m.cls := findClass_of_methodNamed B.named
  have hlocks := B.notSynchronized
  subst hsz
  have hD := hD0.self (sz := s.heap.size)
  generalize hAe : va_A [(a_this, .inr (5, [.int v_thrown, .ref a_this_s, .ref a_this_aside, .ref a_this_saved, .int v_savedMany, .ref a_this_text, .int v_length, .ref a_this_states, .int v_many, .int v_at, .int v_isWrong, .int v_letters, .int v_matched, .ref a_this_rows, .int v_manyRows, .long v_digested])), (a_this_s, .inl (cI, 31, .inl v_s))] s.heap.size = A at hD ⊢
  have hA : ∀ q : Nat, s.heap.size ≤ q → A q := fun q h => by rw [← hAe]; exact Or.inr h
  have hS : va_S A s.heap s.heap [] := va_S.rf
  have hl := lv_entry ([.ref a_this, .int p1, .int p2]) (n := 3) (Nat.le_of_ble_eq_true rfl)
  rw [lg_entry_eq]
  generalize (lg_sl ([.ref a_this, .int p1, .int p2]) ++ List.replicate (3 - (lg_sl ([.ref a_this, .int p1, .int p2])).length) Slot.unset).toArray = ls at hl ⊢
  have hl : lv_has ls 3 [(0, .ref a_this), (1, .int p1), (2, .int p2)] := hl
  change W p l e rm_X6_behind s m (([.ref a_this, .int p1, .int p2] : List Value).toArray) below meth c s.heap [] 0 0 _ (F0 m 0 ls [])
  generalize hQe : MQ below (mQi D A [(a_this, .inr (5, [.int v_thrown, .ref a_this_s, .ref a_this_aside, .ref a_this_saved, .int v_savedMany, .ref a_this_text, .int v_length, .ref a_this_states, .int v_many, .int v_at, .int v_isWrong, .int v_letters, .int v_matched, .ref a_this_rows, .int v_manyRows, .long v_digested])), (a_this_s, .inl (cI, 31, .inl v_s))] r0) (([.ref a_this, .int p1, .int p2] : List Value).toArray) s 0 0 A = Q
  rw [D_X6_behind] at hden
  refine lv_aload_n hx hb dX6_behind_0 rfl (lv_at hl 0 rfl) ?_
  refine lv_iconst (v := 4) hx hb dX6_behind_1 (by decide) ?_
  refine lv_iload_n hx hb dX6_behind_2 rfl (lv_at hl 1 rfl) ?_
  refine lv_imul hx hb dX6_behind_3 ?_
  refine lv_iload_n hx hb dX6_behind_4 rfl (lv_at hl 2 rfl) ?_
  refine lv_iadd hx hb dX6_behind_5 ?_
  refine lv_iload_n hx hb dX6_behind_6 rfl (lv_at hl 1 rfl) ?_
  obtain ⟨r_1, hc_2, hden⟩ := bnd_s hden
  refine m_ci (wc := []) (wr := [(a_this, .inr (5, [.int v_thrown, .ref a_this_s, .ref a_this_aside, .ref a_this_saved, .int v_savedMany, .ref a_this_text, .int v_length, .ref a_this_states, .int v_many, .int v_at, .int v_isWrong, .int v_letters, .int v_matched, .ref a_this_rows, .int v_manyRows, .long v_digested])), (a_this_s, .inl (cI, 31, .inl v_s))]) (wc' := []) (va_runS (As := [.int p1]) (rest := [.int (((4 : Int32) * p1) + p2), .ref a_this]) ⟨hx, hb, hml, hown, hts⟩ (c_X6_lengthOf l D cI cM cL F hc_2) (va_cwS 1 hts gX6_behind_X6_lengthOf rfl rfl rfl (by decide +kernel) ⟨Nat.le_of_ble_eq_true rfl, Nat.le_of_ble_eq_true rfl⟩) (mPreS hP hD hK hN [] (by decide) rfl) rfl rfl hl.1 rfl (lv_room (Nat.le_of_ble_eq_true rfl)) dX6_behind_7 ⟨Nat.le_of_ble_eq_true rfl, Nat.le_of_ble_eq_true rfl⟩) hP hD hS hA [] [0, 1] rfl rfl (by decide) (by decide) (fun H locs hP hD hS => ?_)
  have hP : va_P D vwCl [(a_this, .inr (5, [.int v_thrown, .ref a_this_s, .ref a_this_aside, .ref a_this_saved, .int v_savedMany, .ref a_this_text, .int v_length, .ref a_this_states, .int v_many, .int v_at, .int v_isWrong, .int v_letters, .int v_matched, .ref a_this_rows, .int v_manyRows, .long v_digested])), (a_this_s, .inl (cI, 31, .inl v_s))] H := hP
  have hD : va_D A [(a_this, .inr (5, [.int v_thrown, .ref a_this_s, .ref a_this_aside, .ref a_this_saved, .int v_savedMany, .ref a_this_text, .int v_length, .ref a_this_states, .int v_many, .int v_at, .int v_isWrong, .int v_letters, .int v_matched, .ref a_this_rows, .int v_manyRows, .long v_digested])), (a_this_s, .inl (cI, 31, .inl v_s))] := hD
  refine lv_iconst (v := 1) hx hb dX6_behind_10 (by decide) ?_
  refine lv_iadd hx hb dX6_behind_11 ?_
  obtain ⟨r_3, hc_4, hden⟩ := bnd_s hden
  refine m_ci (wc := [(a_this, .inr (5, [.int v_thrown, .ref a_this_s, .ref a_this_aside, .ref a_this_saved, .int v_savedMany, .ref a_this_text, .int v_length, .ref a_this_states, .int v_many, .int v_at, .int v_isWrong, .int v_letters, .int v_matched, .ref a_this_rows, .int v_manyRows, .long v_digested])), (a_this_s, .inl (cI, 31, .inl v_s))]) (wr := []) (wc' := [(a_this, .inr (5, [.int v_thrown, .ref a_this_s, .ref a_this_aside, .ref a_this_saved, .int v_savedMany, .ref a_this_text, .int v_length, .ref a_this_states, .int v_many, .int v_at, .int v_isWrong, .int v_letters, .int v_matched, .ref a_this_rows, .int v_manyRows, .long v_digested])), (a_this_s, .inl (cI, 31, .inl v_s))]) (va_runV (As := [.int (((4 : Int32) * p1) + p2), .int (r_1 + 1)]) (rest := []) ⟨hx, hb, hml, hown, hts⟩ (c_X6_stateAt l D cI cM cL F hc_4) (cwV 2 hts gX6_behind_X6_stateAt rfl rfl rfl (by decide +kernel) ⟨Nat.le_of_ble_eq_true rfl, Nat.le_of_ble_eq_true rfl⟩) (mPreV (ci := 5) (q0 := 0) (r := (RX6, TX6, 16)) hP hD hK hN [0, 1] (by decide) rfl rfl rfl) rfl rfl hl.1 rfl (lv_room (Nat.le_of_ble_eq_true rfl)) dX6_behind_12 ⟨Nat.le_of_ble_eq_true rfl, Nat.le_of_ble_eq_true rfl⟩) hP hD hS hA [0, 1] [] rfl rfl (by decide) (by decide) (fun H locs hP hD hS => ?_)
  have hP : va_P D vwCl [(a_this, .inr (5, [.int v_thrown, .ref a_this_s, .ref a_this_aside, .ref a_this_saved, .int v_savedMany, .ref a_this_text, .int v_length, .ref a_this_states, .int v_many, .int v_at, .int v_isWrong, .int v_letters, .int v_matched, .ref a_this_rows, .int v_manyRows, .long v_digested])), (a_this_s, .inl (cI, 31, .inl v_s))] H := hP
  have hD : va_D A [(a_this, .inr (5, [.int v_thrown, .ref a_this_s, .ref a_this_aside, .ref a_this_saved, .int v_savedMany, .ref a_this_text, .int v_length, .ref a_this_states, .int v_many, .int v_at, .int v_isWrong, .int v_letters, .int v_matched, .ref a_this_rows, .int v_manyRows, .long v_digested])), (a_this_s, .inl (cI, 31, .inl v_s))] := hD
  subst hQe
  cases hden
  exact m_ri hx hb hr hP hD hS [0, 1] (by decide) rfl rfl dX6_behind_15 hlocks
def D_X6_back (F : Nat) (p1 : Int32) (v_s : (Nat → Int32)) : Option (Int32) := bnd (D_X6_lengthOf F p1) (fun r_1 => bnd (D_X6_stateAt F p1 (r_1 - 1) v_s) (fun r_3 => some (r_3)))
def rm_X6_back : Room := { frames := 6, cells := 0, slots := 0, locals := 130 }
set_option maxHeartbeats 4000000 in
set_option maxRecDepth 100000 in
theorem c_X6_back (l : Launch) (D : va_G) (cI cM cL : ClassId) (F : Nat) {a_this a_this_s a_this_aside a_this_saved a_this_text a_this_states a_this_rows : Nat} {sz : Nat} {v_thrown v_savedMany v_length v_many v_at v_isWrong v_letters v_matched v_manyRows : Int32} {v_digested : Int64} {v_s : Nat → Int32} {p1 : Int32} {r0 : Int32} (hden : D_X6_back F p1 v_s = some (r0)) : Met l yX6_back wsX6_back rm_X6_back (va_Pc [.ref a_this, .int p1] (mB D (mTy cI cM cL) sz [(a_this, .inr (5, [.int v_thrown, .ref a_this_s, .ref a_this_aside, .ref a_this_saved, .int v_savedMany, .ref a_this_text, .int v_length, .ref a_this_states, .int v_many, .int v_at, .int v_isWrong, .int v_letters, .int v_matched, .ref a_this_rows, .int v_manyRows, .long v_digested])), (a_this_s, .inl (cI, 31, .inl v_s))])) (mQi D (va_A [(a_this, .inr (5, [.int v_thrown, .ref a_this_s, .ref a_this_aside, .ref a_this_saved, .int v_savedMany, .ref a_this_text, .int v_length, .ref a_this_states, .int v_many, .int v_at, .int v_isWrong, .int v_letters, .int v_matched, .ref a_this_rows, .int v_manyRows, .long v_digested])), (a_this_s, .inl (cI, 31, .inl v_s))] sz) [(a_this, .inr (5, [.int v_thrown, .ref a_this_s, .ref a_this_aside, .ref a_this_saved, .int v_savedMany, .ref a_this_text, .int v_length, .ref a_this_states, .int v_many, .int v_at, .int v_isWrong, .int v_letters, .int v_matched, .ref a_this_rows, .int v_manyRows, .long v_digested])), (a_this_s, .inl (cI, 31, .inl v_s))] r0) 0 0 (va_A [(a_this, .inr (5, [.int v_thrown, .ref a_this_s, .ref a_this_aside, .ref a_this_saved, .int v_savedMany, .ref a_this_text, .int v_length, .ref a_this_states, .int v_many, .int v_at, .int v_isWrong, .int v_letters, .int v_matched, .ref a_this_rows, .int v_manyRows, .long v_digested])), (a_this_s, .inl (cI, 31, .inl v_s))] sz) := by
  refine Met.ofW (cc := cX6_back) (maxL := 2) (ret := (some .int)) (by decide) rfl ?_
  intro p e s m args below meth c s₁ B hml hv
  obtain ⟨rfl, hsz, hP, hK, hN, hD0⟩ := hv
  have hx := B.exec
  have hb := B.bytes
  have hr := B.returns
  have hts := atoms_spec (ws := wsX6_back) B.pre
  have hown : s.vm.findClass RX6 = some m.cls := findClass_of_methodNamed B.named
  have hlocks := B.notSynchronized
  subst hsz
  have hD := hD0.self (sz := s.heap.size)
  generalize hAe : va_A [(a_this, .inr (5, [.int v_thrown, .ref a_this_s, .ref a_this_aside, .ref a_this_saved, .int v_savedMany, .ref a_this_text, .int v_length, .ref a_this_states, .int v_many, .int v_at, .int v_isWrong, .int v_letters, .int v_matched, .ref a_this_rows, .int v_manyRows, .long v_digested])), (a_this_s, .inl (cI, 31, .inl v_s))] s.heap.size = A at hD ⊢
  have hA : ∀ q : Nat, s.heap.size ≤ q → A q := fun q h => by rw [← hAe]; exact Or.inr h
  have hS : va_S A s.heap s.heap [] := va_S.rf
  have hl := lv_entry ([.ref a_this, .int p1]) (n := 2) (Nat.le_of_ble_eq_true rfl)
  rw [lg_entry_eq]
  generalize (lg_sl ([.ref a_this, .int p1]) ++ List.replicate (2 - (lg_sl ([.ref a_this, .int p1])).length) Slot.unset).toArray = ls at hl ⊢
  have hl : lv_has ls 2 [(0, .ref a_this), (1, .int p1)] := hl
  change W p l e rm_X6_back s m (([.ref a_this, .int p1] : List Value).toArray) below meth c s.heap [] 0 0 _ (F0 m 0 ls [])
  generalize hQe : MQ below (mQi D A [(a_this, .inr (5, [.int v_thrown, .ref a_this_s, .ref a_this_aside, .ref a_this_saved, .int v_savedMany, .ref a_this_text, .int v_length, .ref a_this_states, .int v_many, .int v_at, .int v_isWrong, .int v_letters, .int v_matched, .ref a_this_rows, .int v_manyRows, .long v_digested])), (a_this_s, .inl (cI, 31, .inl v_s))] r0) (([.ref a_this, .int p1] : List Value).toArray) s 0 0 A = Q
  rw [D_X6_back] at hden
  refine lv_aload_n hx hb dX6_back_0 rfl (lv_at hl 0 rfl) ?_
  refine lv_iload_n hx hb dX6_back_1 rfl (lv_at hl 1 rfl) ?_
  refine lv_iload_n hx hb dX6_back_2 rfl (lv_at hl 1 rfl) ?_
  obtain ⟨r_1, hc_2, hden⟩ := bnd_s hden
  refine m_ci (wc := []) (wr := [(a_this, .inr (5, [.int v_thrown, .ref a_this_s, .ref a_this_aside, .ref a_this_saved, .int v_savedMany, .ref a_this_text, .int v_length, .ref a_this_states, .int v_many, .int v_at, .int v_isWrong, .int v_letters, .int v_matched, .ref a_this_rows, .int v_manyRows, .long v_digested])), (a_this_s, .inl (cI, 31, .inl v_s))]) (wc' := []) (va_runS (As := [.int p1]) (rest := [.int p1, .ref a_this]) ⟨hx, hb, hml, hown, hts⟩ (c_X6_lengthOf l D cI cM cL F hc_2) (va_cwS 1 hts gX6_back_X6_lengthOf rfl rfl rfl (by decide +kernel) ⟨Nat.le_of_ble_eq_true rfl, Nat.le_of_ble_eq_true rfl⟩) (mPreS hP hD hK hN [] (by decide) rfl) rfl rfl hl.1 rfl (lv_room (Nat.le_of_ble_eq_true rfl)) dX6_back_3 ⟨Nat.le_of_ble_eq_true rfl, Nat.le_of_ble_eq_true rfl⟩) hP hD hS hA [] [0, 1] rfl rfl (by decide) (by decide) (fun H locs hP hD hS => ?_)
  have hP : va_P D vwCl [(a_this, .inr (5, [.int v_thrown, .ref a_this_s, .ref a_this_aside, .ref a_this_saved, .int v_savedMany, .ref a_this_text, .int v_length, .ref a_this_states, .int v_many, .int v_at, .int v_isWrong, .int v_letters, .int v_matched, .ref a_this_rows, .int v_manyRows, .long v_digested])), (a_this_s, .inl (cI, 31, .inl v_s))] H := hP
  have hD : va_D A [(a_this, .inr (5, [.int v_thrown, .ref a_this_s, .ref a_this_aside, .ref a_this_saved, .int v_savedMany, .ref a_this_text, .int v_length, .ref a_this_states, .int v_many, .int v_at, .int v_isWrong, .int v_letters, .int v_matched, .ref a_this_rows, .int v_manyRows, .long v_digested])), (a_this_s, .inl (cI, 31, .inl v_s))] := hD
  refine lv_iconst (v := 1) hx hb dX6_back_6 (by decide) ?_
  refine lv_isub hx hb dX6_back_7 ?_
  obtain ⟨r_3, hc_4, hden⟩ := bnd_s hden
  refine m_ci (wc := [(a_this, .inr (5, [.int v_thrown, .ref a_this_s, .ref a_this_aside, .ref a_this_saved, .int v_savedMany, .ref a_this_text, .int v_length, .ref a_this_states, .int v_many, .int v_at, .int v_isWrong, .int v_letters, .int v_matched, .ref a_this_rows, .int v_manyRows, .long v_digested])), (a_this_s, .inl (cI, 31, .inl v_s))]) (wr := []) (wc' := [(a_this, .inr (5, [.int v_thrown, .ref a_this_s, .ref a_this_aside, .ref a_this_saved, .int v_savedMany, .ref a_this_text, .int v_length, .ref a_this_states, .int v_many, .int v_at, .int v_isWrong, .int v_letters, .int v_matched, .ref a_this_rows, .int v_manyRows, .long v_digested])), (a_this_s, .inl (cI, 31, .inl v_s))]) (va_runV (As := [.int p1, .int (r_1 - 1)]) (rest := []) ⟨hx, hb, hml, hown, hts⟩ (c_X6_stateAt l D cI cM cL F hc_4) (cwV 2 hts gX6_back_X6_stateAt rfl rfl rfl (by decide +kernel) ⟨Nat.le_of_ble_eq_true rfl, Nat.le_of_ble_eq_true rfl⟩) (mPreV (ci := 5) (q0 := 0) (r := (RX6, TX6, 16)) hP hD hK hN [0, 1] (by decide) rfl rfl rfl) rfl rfl hl.1 rfl (lv_room (Nat.le_of_ble_eq_true rfl)) dX6_back_8 ⟨Nat.le_of_ble_eq_true rfl, Nat.le_of_ble_eq_true rfl⟩) hP hD hS hA [0, 1] [] rfl rfl (by decide) (by decide) (fun H locs hP hD hS => ?_)
  have hP : va_P D vwCl [(a_this, .inr (5, [.int v_thrown, .ref a_this_s, .ref a_this_aside, .ref a_this_saved, .int v_savedMany, .ref a_this_text, .int v_length, .ref a_this_states, .int v_many, .int v_at, .int v_isWrong, .int v_letters, .int v_matched, .ref a_this_rows, .int v_manyRows, .long v_digested])), (a_this_s, .inl (cI, 31, .inl v_s))] H := hP
  have hD : va_D A [(a_this, .inr (5, [.int v_thrown, .ref a_this_s, .ref a_this_aside, .ref a_this_saved, .int v_savedMany, .ref a_this_text, .int v_length, .ref a_this_states, .int v_many, .int v_at, .int v_isWrong, .int v_letters, .int v_matched, .ref a_this_rows, .int v_manyRows, .long v_digested])), (a_this_s, .inl (cI, 31, .inl v_s))] := hD
  subst hQe
  cases hden
  exact m_ri hx hb hr hP hD hS [0, 1] (by decide) rfl rfl dX6_back_11 hlocks
def L_X6_fallsOf_5 (F : Nat) (y2 : Int32) (v_s : (Nat → Int32)) : Nat → Int32 → Int32 → Option (Int32)
  | 0, _, _ => none
  | n + 1, x3_1, x4_2 => bnd (D_X6_isState F (((4 : Int32) * x4_2) + y2) v_s) (fun r_3 => (if r_3 = 0 then nm (x3_1 + 1) (fun x3_5 => (if x4_2 = 1 then some (x3_5) else bnd (D_X6_back F x4_2 v_s) (fun r_6 => L_X6_fallsOf_5 F y2 v_s n x3_5 r_6))) else some (x3_1)))
def D_X6_fallsOf (F : Nat) (p1 : Int32) (p2 : Int32) (v_s : (Nat → Int32)) : Option (Int32) := L_X6_fallsOf_5 F p2 v_s F 0 p1
def rm_X6_fallsOf : Room := { frames := 7, cells := 0, slots := 0, locals := 151 }
set_option maxHeartbeats 4000000 in
set_option maxRecDepth 100000 in
theorem c_X6_fallsOf (l : Launch) (D : va_G) (cI cM cL : ClassId) (F : Nat) {a_this a_this_s a_this_aside a_this_saved a_this_text a_this_states a_this_rows : Nat} {sz : Nat} {v_thrown v_savedMany v_length v_many v_at v_isWrong v_letters v_matched v_manyRows : Int32} {v_digested : Int64} {v_s : Nat → Int32} {p1 : Int32} {p2 : Int32} {r0 : Int32} (hden : D_X6_fallsOf F p1 p2 v_s = some (r0)) : Met l yX6_fallsOf wsX6_fallsOf rm_X6_fallsOf (va_Pc [.ref a_this, .int p1, .int p2] (mB D (mTy cI cM cL) sz [(a_this, .inr (5, [.int v_thrown, .ref a_this_s, .ref a_this_aside, .ref a_this_saved, .int v_savedMany, .ref a_this_text, .int v_length, .ref a_this_states, .int v_many, .int v_at, .int v_isWrong, .int v_letters, .int v_matched, .ref a_this_rows, .int v_manyRows, .long v_digested])), (a_this_s, .inl (cI, 31, .inl v_s))])) (mQi D (va_A [(a_this, .inr (5, [.int v_thrown, .ref a_this_s, .ref a_this_aside, .ref a_this_saved, .int v_savedMany, .ref a_this_text, .int v_length, .ref a_this_states, .int v_many, .int v_at, .int v_isWrong, .int v_letters, .int v_matched, .ref a_this_rows, .int v_manyRows, .long v_digested])), (a_this_s, .inl (cI, 31, .inl v_s))] sz) [(a_this, .inr (5, [.int v_thrown, .ref a_this_s, .ref a_this_aside, .ref a_this_saved, .int v_savedMany, .ref a_this_text, .int v_length, .ref a_this_states, .int v_many, .int v_at, .int v_isWrong, .int v_letters, .int v_matched, .ref a_this_rows, .int v_manyRows, .long v_digested])), (a_this_s, .inl (cI, 31, .inl v_s))] r0) 0 0 (va_A [(a_this, .inr (5, [.int v_thrown, .ref a_this_s, .ref a_this_aside, .ref a_this_saved, .int v_savedMany, .ref a_this_text, .int v_length, .ref a_this_states, .int v_many, .int v_at, .int v_isWrong, .int v_letters, .int v_matched, .ref a_this_rows, .int v_manyRows, .long v_digested])), (a_this_s, .inl (cI, 31, .inl v_s))] sz) := by
  refine Met.ofW (cc := cX6_fallsOf) (maxL := 5) (ret := (some .int)) (by decide) rfl ?_
  intro p e s m args below meth c s₁ B hml hv
  obtain ⟨rfl, hsz, hP, hK, hN, hD0⟩ := hv
  have hx := B.exec
  have hb := B.bytes
  have hr := B.returns
  have hts := atoms_spec (ws := wsX6_fallsOf) B.pre
  have hown : s.vm.findClass RX6 = some m.cls := findClass_of_methodNamed B.named
  have hlocks := B.notSynchronized
  subst hsz
  have hD := hD0.self (sz := s.heap.size)
  generalize hAe : va_A [(a_this, .inr (5, [.int v_thrown, .ref a_this_s, .ref a_this_aside, .ref a_this_saved, .int v_savedMany, .ref a_this_text, .int v_length, .ref a_this_states, .int v_many, .int v_at, .int v_isWrong, .int v_letters, .int v_matched, .ref a_this_rows, .int v_manyRows, .long v_digested])), (a_this_s, .inl (cI, 31, .inl v_s))] s.heap.size = A at hD ⊢
  have hA : ∀ q : Nat, s.heap.size ≤ q → A q := fun q h => by rw [← hAe]; exact Or.inr h
  have hS : va_S A s.heap s.heap [] := va_S.rf
  have hl := lv_entry ([.ref a_this, .int p1, .int p2]) (n := 5) (Nat.le_of_ble_eq_true rfl)
  rw [lg_entry_eq]
  generalize (lg_sl ([.ref a_this, .int p1, .int p2]) ++ List.replicate (5 - (lg_sl ([.ref a_this, .int p1, .int p2])).length) Slot.unset).toArray = ls at hl ⊢
  have hl : lv_has ls 5 [(0, .ref a_this), (1, .int p1), (2, .int p2)] := hl
  change W p l e rm_X6_fallsOf s m (([.ref a_this, .int p1, .int p2] : List Value).toArray) below meth c s.heap [] 0 0 _ (F0 m 0 ls [])
  generalize hQe : MQ below (mQi D A [(a_this, .inr (5, [.int v_thrown, .ref a_this_s, .ref a_this_aside, .ref a_this_saved, .int v_savedMany, .ref a_this_text, .int v_length, .ref a_this_states, .int v_many, .int v_at, .int v_isWrong, .int v_letters, .int v_matched, .ref a_this_rows, .int v_manyRows, .long v_digested])), (a_this_s, .inl (cI, 31, .inl v_s))] r0) (([.ref a_this, .int p1, .int p2] : List Value).toArray) s 0 0 A = Q
  rw [D_X6_fallsOf] at hden
  refine lv_iconst (v := 0) hx hb dX6_fallsOf_0 (by decide) ?_
  refine lv_istore_n (lv' := [(3, .int 0), (0, .ref a_this), (1, .int p1), (2, .int p2)]) hx hb dX6_fallsOf_1 rfl hl (by decide) rfl (fun ls hl => ?_)
  refine lv_iload_n hx hb dX6_fallsOf_2 rfl (lv_at hl 2 rfl) ?_
  refine lv_istore (lv' := [(4, .int p1), (3, .int 0), (0, .ref a_this), (1, .int p1), (2, .int p2)]) hx hb dX6_fallsOf_3 hl (by decide) rfl (fun ls hl => ?_)
  have hL5__12 : ∀ (n : Nat) (x3_10 : Int32) (x4_11 : Int32) (H : Heap) (locs : List Loc), va_P D vwCl [(a_this, .inr (5, [.int v_thrown, .ref a_this_s, .ref a_this_aside, .ref a_this_saved, .int v_savedMany, .ref a_this_text, .int v_length, .ref a_this_states, .int v_many, .int v_at, .int v_isWrong, .int v_letters, .int v_matched, .ref a_this_rows, .int v_manyRows, .long v_digested])), (a_this_s, .inl (cI, 31, .inl v_s))] H → va_D A [(a_this, .inr (5, [.int v_thrown, .ref a_this_s, .ref a_this_aside, .ref a_this_saved, .int v_savedMany, .ref a_this_text, .int v_length, .ref a_this_states, .int v_many, .int v_at, .int v_isWrong, .int v_letters, .int v_matched, .ref a_this_rows, .int v_manyRows, .long v_digested])), (a_this_s, .inl (cI, 31, .inl v_s))] → va_S A s.heap H locs → ∀ ls : Array Slot, lv_has ls 5 [(0, .ref a_this), (2, .int p2), (3, .int x3_10), (4, .int x4_11)] → L_X6_fallsOf_5 F p2 v_s n x3_10 x4_11 = some (r0) → W p l e rm_X6_fallsOf s m (([.ref a_this, .int p1, .int p2] : List Value).toArray) below meth c H locs 0 0 Q (F0 m 5 ls []) := by
    intro n
    induction n with
    | zero => intro x3_10 x4_11 H locs hP hD hS ls hl hden; exact no_none hden
    | succ n ih =>
      intro x3_10 x4_11 H locs hP hD hS ls hl hden
      rw [L_X6_fallsOf_5] at hden
      refine lv_aload_n hx hb dX6_fallsOf_5 rfl (lv_at hl 0 rfl) ?_
      refine lv_iconst (v := 4) hx hb dX6_fallsOf_6 (by decide) ?_
      refine lv_iload hx hb dX6_fallsOf_7 (lv_at hl 3 rfl) ?_
      refine lv_imul hx hb dX6_fallsOf_9 ?_
      refine lv_iload_n hx hb dX6_fallsOf_10 rfl (lv_at hl 1 rfl) ?_
      refine lv_iadd hx hb dX6_fallsOf_11 ?_
      obtain ⟨r_13, hc_14, hden⟩ := bnd_s hden
      refine m_ci (wc := [(a_this, .inr (5, [.int v_thrown, .ref a_this_s, .ref a_this_aside, .ref a_this_saved, .int v_savedMany, .ref a_this_text, .int v_length, .ref a_this_states, .int v_many, .int v_at, .int v_isWrong, .int v_letters, .int v_matched, .ref a_this_rows, .int v_manyRows, .long v_digested])), (a_this_s, .inl (cI, 31, .inl v_s))]) (wr := []) (wc' := [(a_this, .inr (5, [.int v_thrown, .ref a_this_s, .ref a_this_aside, .ref a_this_saved, .int v_savedMany, .ref a_this_text, .int v_length, .ref a_this_states, .int v_many, .int v_at, .int v_isWrong, .int v_letters, .int v_matched, .ref a_this_rows, .int v_manyRows, .long v_digested])), (a_this_s, .inl (cI, 31, .inl v_s))]) (va_runV (As := [.int (((4 : Int32) * x4_11) + p2)]) (rest := []) ⟨hx, hb, hml, hown, hts⟩ (c_X6_isState l D cI cM cL F hc_14) (cwV 1 hts gX6_fallsOf_X6_isState rfl rfl rfl (by decide +kernel) ⟨Nat.le_of_ble_eq_true rfl, Nat.le_of_ble_eq_true rfl⟩) (mPreV (ci := 5) (q0 := 0) (r := (RX6, TX6, 16)) hP hD hK hN [0, 1] (by decide) rfl rfl rfl) rfl rfl hl.1 rfl (lv_room (Nat.le_of_ble_eq_true rfl)) dX6_fallsOf_12 ⟨Nat.le_of_ble_eq_true rfl, Nat.le_of_ble_eq_true rfl⟩) hP hD hS hA [0, 1] [] rfl rfl (by decide) (by decide) (fun H locs hP hD hS => ?_)
      have hP : va_P D vwCl [(a_this, .inr (5, [.int v_thrown, .ref a_this_s, .ref a_this_aside, .ref a_this_saved, .int v_savedMany, .ref a_this_text, .int v_length, .ref a_this_states, .int v_many, .int v_at, .int v_isWrong, .int v_letters, .int v_matched, .ref a_this_rows, .int v_manyRows, .long v_digested])), (a_this_s, .inl (cI, 31, .inl v_s))] H := hP
      have hD : va_D A [(a_this, .inr (5, [.int v_thrown, .ref a_this_s, .ref a_this_aside, .ref a_this_saved, .int v_savedMany, .ref a_this_text, .int v_length, .ref a_this_states, .int v_many, .int v_at, .int v_isWrong, .int v_letters, .int v_matched, .ref a_this_rows, .int v_manyRows, .long v_digested])), (a_this_s, .inl (cI, 31, .inl v_s))] := hD
      refine lv_if_ne (tgt := 40) hx hb dX6_fallsOf_15 (by decide) (fun c_19 => ?_) (fun c_19 => ?_)
      · have hden := ifn_s hden c_19
        refine lv_iload_n hx hb dX6_fallsOf_40 rfl (lv_at hl 2 rfl) ?_
        subst hQe
        cases hden
        exact m_ri hx hb hr hP hD hS [0, 1] (by decide) rfl rfl dX6_fallsOf_41 hlocks
      · have hden := if_s hden c_19
        obtain ⟨x3_15, ex3_15, hden⟩ := nm_x hden
        refine lv_iinc (v := x3_15) (lv' := [(3, .int x3_15), (0, .ref a_this), (2, .int p2), (4, .int x4_11)]) hx hb dX6_fallsOf_18 hl (k := 2) rfl (by rw [ex3_15]; rfl) (by decide) rfl (fun ls hl => ?_)
        refine lv_iload hx hb dX6_fallsOf_21 (lv_at hl 3 rfl) ?_
        refine lv_iconst (v := 1) hx hb dX6_fallsOf_23 (by decide) ?_
        refine lv_icmp_ne (tgt := 29) hx hb dX6_fallsOf_24 (by decide) (fun c_18 => ?_) (fun c_18 => ?_)
        · have hden := ifn_s hden c_18
          refine lv_aload_n hx hb dX6_fallsOf_29 rfl (lv_at hl 1 rfl) ?_
          refine lv_iload hx hb dX6_fallsOf_30 (lv_at hl 3 rfl) ?_
          obtain ⟨r_16, hc_17, hden⟩ := bnd_s hden
          refine m_ci (wc := [(a_this, .inr (5, [.int v_thrown, .ref a_this_s, .ref a_this_aside, .ref a_this_saved, .int v_savedMany, .ref a_this_text, .int v_length, .ref a_this_states, .int v_many, .int v_at, .int v_isWrong, .int v_letters, .int v_matched, .ref a_this_rows, .int v_manyRows, .long v_digested])), (a_this_s, .inl (cI, 31, .inl v_s))]) (wr := []) (wc' := [(a_this, .inr (5, [.int v_thrown, .ref a_this_s, .ref a_this_aside, .ref a_this_saved, .int v_savedMany, .ref a_this_text, .int v_length, .ref a_this_states, .int v_many, .int v_at, .int v_isWrong, .int v_letters, .int v_matched, .ref a_this_rows, .int v_manyRows, .long v_digested])), (a_this_s, .inl (cI, 31, .inl v_s))]) (va_runV (As := [.int x4_11]) (rest := []) ⟨hx, hb, hml, hown, hts⟩ (c_X6_back l D cI cM cL F hc_17) (cwV 1 hts gX6_fallsOf_X6_back rfl rfl rfl (by decide +kernel) ⟨Nat.le_of_ble_eq_true rfl, Nat.le_of_ble_eq_true rfl⟩) (mPreV (ci := 5) (q0 := 0) (r := (RX6, TX6, 16)) hP hD hK hN [0, 1] (by decide) rfl rfl rfl) rfl rfl hl.1 rfl (lv_room (Nat.le_of_ble_eq_true rfl)) dX6_fallsOf_32 ⟨Nat.le_of_ble_eq_true rfl, Nat.le_of_ble_eq_true rfl⟩) hP hD hS hA [0, 1] [] rfl rfl (by decide) (by decide) (fun H locs hP hD hS => ?_)
          have hP : va_P D vwCl [(a_this, .inr (5, [.int v_thrown, .ref a_this_s, .ref a_this_aside, .ref a_this_saved, .int v_savedMany, .ref a_this_text, .int v_length, .ref a_this_states, .int v_many, .int v_at, .int v_isWrong, .int v_letters, .int v_matched, .ref a_this_rows, .int v_manyRows, .long v_digested])), (a_this_s, .inl (cI, 31, .inl v_s))] H := hP
          have hD : va_D A [(a_this, .inr (5, [.int v_thrown, .ref a_this_s, .ref a_this_aside, .ref a_this_saved, .int v_savedMany, .ref a_this_text, .int v_length, .ref a_this_states, .int v_many, .int v_at, .int v_isWrong, .int v_letters, .int v_matched, .ref a_this_rows, .int v_manyRows, .long v_digested])), (a_this_s, .inl (cI, 31, .inl v_s))] := hD
          refine lv_istore (lv' := [(4, .int r_16), (3, .int x3_15), (0, .ref a_this), (2, .int p2)]) hx hb dX6_fallsOf_35 hl (by decide) rfl (fun ls hl => ?_)
          refine lv_goto (tgt := 5) hx hb dX6_fallsOf_37 (by decide) ?_
          exact ih x3_15 r_16 _ _ (mSubP hP [0, 1] rfl) (hD.sub [0, 1] (by decide) rfl) hS ls (lv_sub hl [2, 3, 1, 0] rfl) hden
        · have hden := if_s hden c_18
          refine lv_iload_n hx hb dX6_fallsOf_27 rfl (lv_at hl 0 rfl) ?_
          subst hQe
          cases hden
          exact m_ri hx hb hr hP hD hS [0, 1] (by decide) rfl rfl dX6_fallsOf_28 hlocks
  exact hL5__12 F 0 p1 _ _ (mSubP hP [0, 1] rfl) (hD.sub [0, 1] (by decide) rfl) hS ls (lv_sub hl [2, 4, 1, 0] rfl) hden
def L_X6_insert_5 (F : Nat) (k23 : Int32 → Option ((Nat → Int32) × Int32)) (y1 : Int32) (v_states : (Nat → Int32)) : Nat → Int32 → Option ((Nat → Int32) × Int32)
  | 0, _ => none
  | n + 1, x2_1 => grd (inb (x2_1 - 1) 66) ((if (v_states (x2_1 - 1).toNatClampNeg) ≤ y1 then k23 x2_1 else nm (x2_1 + (-1)) (fun x2_3 => L_X6_insert_5 F k23 y1 v_states n x2_3)))
def L_X6_insert_41 (F : Nat) (k66 : (Nat → Int32) → Option ((Nat → Int32) × Int32)) (y1 : Int32) (y2 : Int32) : Nat → Int32 → (Nat → Int32) → Option ((Nat → Int32) × Int32)
  | 0, _, _ => none
  | n + 1, x3_12, v_states_13 => (if x3_12 ≤ y2 then k66 v_states_13 else grd (inb (x3_12 - 1) 66) (nm (v_states_13 (x3_12 - 1).toNatClampNeg) (fun y_15 => grd (inb x3_12 66) (nm (upd v_states_13 x3_12.toNatClampNeg y_15) (fun v_states_17 => nm (x3_12 + (-1)) (fun x3_18 => L_X6_insert_41 F k66 y1 y2 n x3_18 v_states_17))))))
def D_X6_insert (F : Nat) (p1 : Int32) (v_many : Int32) (v_states : (Nat → Int32)) : Option ((Nat → Int32) × Int32) := L_X6_insert_5 F (fun (x2_6 : Int32) => grd (inb (x2_6 - 1) 66) ((if (v_states (x2_6 - 1).toNatClampNeg) = p1 then some (v_states, v_many) else L_X6_insert_41 F (fun (v_states_22 : (Nat → Int32)) => grd (inb x2_6 66) (nm (upd v_states_22 x2_6.toNatClampNeg p1) (fun v_states_31 => nm (v_many + 1) (fun f_many_32 => some (v_states_31, f_many_32))))) p1 x2_6 F v_many v_states))) p1 v_states F v_many
def rm_X6_insert : Room := { frames := 0, cells := 0, slots := 0, locals := 0 }
set_option maxHeartbeats 4000000 in
set_option maxRecDepth 100000 in
theorem c_X6_insert (l : Launch) (D : va_G) (cI cM cL : ClassId) (F : Nat) {a_this a_this_s a_this_aside a_this_saved a_this_text a_this_states a_this_rows : Nat} {sz : Nat} {v_thrown v_savedMany v_length v_many v_at v_isWrong v_letters v_matched v_manyRows : Int32} {v_digested : Int64} {v_states : Nat → Int32} {p1 : Int32} {w_states : (Nat → Int32)} {w_many : Int32} (hden : D_X6_insert F p1 v_many v_states = some (w_states, w_many)) : Met l yX6_insert wsX6_insert rm_X6_insert (va_Pc [.ref a_this, .int p1] (mB D (mTy cI cM cL) sz [(a_this, .inr (5, [.int v_thrown, .ref a_this_s, .ref a_this_aside, .ref a_this_saved, .int v_savedMany, .ref a_this_text, .int v_length, .ref a_this_states, .int v_many, .int v_at, .int v_isWrong, .int v_letters, .int v_matched, .ref a_this_rows, .int v_manyRows, .long v_digested])), (a_this_states, .inl (cI, 66, .inl v_states))])) (mQv D (va_A [(a_this, .inr (5, [.int v_thrown, .ref a_this_s, .ref a_this_aside, .ref a_this_saved, .int v_savedMany, .ref a_this_text, .int v_length, .ref a_this_states, .int v_many, .int v_at, .int v_isWrong, .int v_letters, .int v_matched, .ref a_this_rows, .int v_manyRows, .long v_digested])), (a_this_states, .inl (cI, 66, .inl v_states))] sz) [(a_this, .inr (5, [.int v_thrown, .ref a_this_s, .ref a_this_aside, .ref a_this_saved, .int v_savedMany, .ref a_this_text, .int v_length, .ref a_this_states, .int w_many, .int v_at, .int v_isWrong, .int v_letters, .int v_matched, .ref a_this_rows, .int v_manyRows, .long v_digested])), (a_this_states, .inl (cI, 66, .inl w_states))]) 0 0 (va_A [(a_this, .inr (5, [.int v_thrown, .ref a_this_s, .ref a_this_aside, .ref a_this_saved, .int v_savedMany, .ref a_this_text, .int v_length, .ref a_this_states, .int v_many, .int v_at, .int v_isWrong, .int v_letters, .int v_matched, .ref a_this_rows, .int v_manyRows, .long v_digested])), (a_this_states, .inl (cI, 66, .inl v_states))] sz) := by
  refine Met.ofW (cc := cX6_insert) (maxL := 4) (ret := none) (by decide) rfl ?_
  intro p e s m args below meth c s₁ B hml hv
  obtain ⟨rfl, hsz, hP, hK, hN, hD0⟩ := hv
  have hx := B.exec
  have hb := B.bytes
  have hr := B.returns
  have hts := atoms_spec (ws := wsX6_insert) B.pre
  have hown : s.vm.findClass RX6 = some m.cls := findClass_of_methodNamed B.named
  have hlocks := B.notSynchronized
  subst hsz
  have hD := hD0.self (sz := s.heap.size)
  generalize hAe : va_A [(a_this, .inr (5, [.int v_thrown, .ref a_this_s, .ref a_this_aside, .ref a_this_saved, .int v_savedMany, .ref a_this_text, .int v_length, .ref a_this_states, .int v_many, .int v_at, .int v_isWrong, .int v_letters, .int v_matched, .ref a_this_rows, .int v_manyRows, .long v_digested])), (a_this_states, .inl (cI, 66, .inl v_states))] s.heap.size = A at hD ⊢
  have hA : ∀ q : Nat, s.heap.size ≤ q → A q := fun q h => by rw [← hAe]; exact Or.inr h
  have hS : va_S A s.heap s.heap [] := va_S.rf
  have hl := lv_entry ([.ref a_this, .int p1]) (n := 4) (Nat.le_of_ble_eq_true rfl)
  rw [lg_entry_eq]
  generalize (lg_sl ([.ref a_this, .int p1]) ++ List.replicate (4 - (lg_sl ([.ref a_this, .int p1])).length) Slot.unset).toArray = ls at hl ⊢
  have hl : lv_has ls 4 [(0, .ref a_this), (1, .int p1)] := hl
  change W p l e rm_X6_insert s m (([.ref a_this, .int p1] : List Value).toArray) below meth c s.heap [] 0 0 _ (F0 m 0 ls [])
  generalize hQe : MQ below (mQv D A [(a_this, .inr (5, [.int v_thrown, .ref a_this_s, .ref a_this_aside, .ref a_this_saved, .int v_savedMany, .ref a_this_text, .int v_length, .ref a_this_states, .int w_many, .int v_at, .int v_isWrong, .int v_letters, .int v_matched, .ref a_this_rows, .int v_manyRows, .long v_digested])), (a_this_states, .inl (cI, 66, .inl w_states))]) (([.ref a_this, .int p1] : List Value).toArray) s 0 0 A = Q
  rw [D_X6_insert] at hden
  have hin_X6 : ∀ w ∈ wsX60, w ∈ wsX6_insert := by decide +kernel
  have w_76 := hts (.fieldLink RX6 76 "FallingPatternsModel" "many" "I") (by decide +kernel)
  have w_22 := hts (.fieldLink RX6 22 "FallingPatternsModel" "states" "[I") (by decide +kernel)
  refine lv_aload_n hx hb dX6_insert_0 rfl (lv_at hl 0 rfl) ?_
  refine va_get (D := D) (ci := 5) (v := .int v_many) (C := RX6) (T := TX6) (N := 16) hx hb hts hin_X6 hown hK hP 0 rfl rfl 8 (by decide) w_76 (fun _ h9 => h9) rfl dX6_insert_1 ?_
  refine lv_istore_n (lv' := [(2, .int v_many), (0, .ref a_this), (1, .int p1)]) hx hb dX6_insert_4 rfl hl (by decide) rfl (fun ls hl => ?_)
  have hL5__7 : ∀ (k23 : Int32 → Option ((Nat → Int32) × Int32)), (∀ (x2_6 : Int32) (H : Heap) (locs : List Loc), va_P D vwCl [(a_this, .inr (5, [.int v_thrown, .ref a_this_s, .ref a_this_aside, .ref a_this_saved, .int v_savedMany, .ref a_this_text, .int v_length, .ref a_this_states, .int v_many, .int v_at, .int v_isWrong, .int v_letters, .int v_matched, .ref a_this_rows, .int v_manyRows, .long v_digested])), (a_this_states, .inl (cI, 66, .inl v_states))] H → va_D A [(a_this, .inr (5, [.int v_thrown, .ref a_this_s, .ref a_this_aside, .ref a_this_saved, .int v_savedMany, .ref a_this_text, .int v_length, .ref a_this_states, .int v_many, .int v_at, .int v_isWrong, .int v_letters, .int v_matched, .ref a_this_rows, .int v_manyRows, .long v_digested])), (a_this_states, .inl (cI, 66, .inl v_states))] → va_S A s.heap H locs → ∀ ls : Array Slot, lv_has ls 4 [(0, .ref a_this), (1, .int p1), (2, .int x2_6)] → k23 x2_6 = some (w_states, w_many) → W p l e rm_X6_insert s m (([.ref a_this, .int p1] : List Value).toArray) below meth c H locs 0 0 Q (F0 m 23 ls [])) → ∀ (n : Nat) (x2_5 : Int32) (H : Heap) (locs : List Loc), va_P D vwCl [(a_this, .inr (5, [.int v_thrown, .ref a_this_s, .ref a_this_aside, .ref a_this_saved, .int v_savedMany, .ref a_this_text, .int v_length, .ref a_this_states, .int v_many, .int v_at, .int v_isWrong, .int v_letters, .int v_matched, .ref a_this_rows, .int v_manyRows, .long v_digested])), (a_this_states, .inl (cI, 66, .inl v_states))] H → va_D A [(a_this, .inr (5, [.int v_thrown, .ref a_this_s, .ref a_this_aside, .ref a_this_saved, .int v_savedMany, .ref a_this_text, .int v_length, .ref a_this_states, .int v_many, .int v_at, .int v_isWrong, .int v_letters, .int v_matched, .ref a_this_rows, .int v_manyRows, .long v_digested])), (a_this_states, .inl (cI, 66, .inl v_states))] → va_S A s.heap H locs → ∀ ls : Array Slot, lv_has ls 4 [(0, .ref a_this), (1, .int p1), (2, .int x2_5)] → L_X6_insert_5 F k23 p1 v_states n x2_5 = some (w_states, w_many) → W p l e rm_X6_insert s m (([.ref a_this, .int p1] : List Value).toArray) below meth c H locs 0 0 Q (F0 m 5 ls []) := by
    intro k23 hk23 n
    induction n with
    | zero => intro x2_5 H locs hP hD hS ls hl hden; exact no_none hden
    | succ n ih =>
      intro x2_5 H locs hP hD hS ls hl hden
      rw [L_X6_insert_5] at hden
      refine lv_aload_n hx hb dX6_insert_5 rfl (lv_at hl 0 rfl) ?_
      refine va_get (D := D) (ci := 5) (v := .ref a_this_states) (C := RX6) (T := TX6) (N := 16) hx hb hts hin_X6 hown hK hP 0 rfl rfl 7 (by decide) w_22 (fun _ h9 => h9) rfl dX6_insert_6 ?_
      refine lv_iload_n hx hb dX6_insert_9 rfl (lv_at hl 2 rfl) ?_
      refine lv_iconst (v := 1) hx hb dX6_insert_10 (by decide) ?_
      refine lv_isub hx hb dX6_insert_11 ?_
      obtain ⟨hg_8, hden⟩ := grd_s hden
      refine va_iald hx hb hK hP 1 0 rfl rfl (inb_in hg_8) dX6_insert_12 ?_
      refine lv_iload_n hx hb dX6_insert_13 rfl (lv_at hl 1 rfl) ?_
      refine lv_icmp_le (tgt := 23) hx hb dX6_insert_14 (by decide) (fun c_10 => ?_) (fun c_10 => ?_)
      · have hden := if_s hden c_10
        exact hk23 x2_5 _ _ (mSubP hP [0, 1] rfl) (hD.sub [0, 1] (by decide) rfl) hS ls (lv_sub hl [0, 1, 2] rfl) hden
      · have hden := ifn_s hden c_10
        obtain ⟨x2_9, ex2_9, hden⟩ := nm_x hden
        refine lv_iinc (v := x2_9) (lv' := [(2, .int x2_9), (0, .ref a_this), (1, .int p1)]) hx hb dX6_insert_17 hl (k := 2) rfl (by rw [ex2_9]; rfl) (by decide) rfl (fun ls hl => ?_)
        refine lv_goto (tgt := 5) hx hb dX6_insert_20 (by decide) ?_
        exact ih x2_9 _ _ (mSubP hP [0, 1] rfl) (hD.sub [0, 1] (by decide) rfl) hS ls (lv_sub hl [1, 2, 0] rfl) hden
  refine hL5__7 _ (fun x2_6 H locs hP hD hS ls hl hden => ?_) F v_many _ _ (mSubP hP [0, 1] rfl) (hD.sub [0, 1] (by decide) rfl) hS ls (lv_sub hl [1, 2, 0] rfl) hden
  refine lv_aload_n hx hb dX6_insert_23 rfl (lv_at hl 0 rfl) ?_
  refine va_get (D := D) (ci := 5) (v := .ref a_this_states) (C := RX6) (T := TX6) (N := 16) hx hb hts hin_X6 hown hK hP 0 rfl rfl 7 (by decide) w_22 (fun _ h9 => h9) rfl dX6_insert_24 ?_
  refine lv_iload_n hx hb dX6_insert_27 rfl (lv_at hl 2 rfl) ?_
  refine lv_iconst (v := 1) hx hb dX6_insert_28 (by decide) ?_
  refine lv_isub hx hb dX6_insert_29 ?_
  obtain ⟨hg_11, hden⟩ := grd_s hden
  refine va_iald hx hb hK hP 1 0 rfl rfl (inb_in hg_11) dX6_insert_30 ?_
  refine lv_iload_n hx hb dX6_insert_31 rfl (lv_at hl 1 rfl) ?_
  refine lv_icmp_ne (tgt := 36) hx hb dX6_insert_32 (by decide) (fun c_33 => ?_) (fun c_33 => ?_)
  · have hden := ifn_s hden c_33
    refine lv_aload_n hx hb dX6_insert_36 rfl (lv_at hl 0 rfl) ?_
    refine va_get (D := D) (ci := 5) (v := .int v_many) (C := RX6) (T := TX6) (N := 16) hx hb hts hin_X6 hown hK hP 0 rfl rfl 8 (by decide) w_76 (fun _ h9 => h9) rfl dX6_insert_37 ?_
    refine lv_istore_n (lv' := [(3, .int v_many), (0, .ref a_this), (1, .int p1), (2, .int x2_6)]) hx hb dX6_insert_40 rfl hl (by decide) rfl (fun ls hl => ?_)
    have hL41__23 : ∀ (k66 : (Nat → Int32) → Option ((Nat → Int32) × Int32)), (∀ (v_states_22 : (Nat → Int32)) (H : Heap) (locs : List Loc), va_P D vwCl [(a_this, .inr (5, [.int v_thrown, .ref a_this_s, .ref a_this_aside, .ref a_this_saved, .int v_savedMany, .ref a_this_text, .int v_length, .ref a_this_states, .int v_many, .int v_at, .int v_isWrong, .int v_letters, .int v_matched, .ref a_this_rows, .int v_manyRows, .long v_digested])), (a_this_states, .inl (cI, 66, .inl v_states_22))] H → va_D A [(a_this, .inr (5, [.int v_thrown, .ref a_this_s, .ref a_this_aside, .ref a_this_saved, .int v_savedMany, .ref a_this_text, .int v_length, .ref a_this_states, .int v_many, .int v_at, .int v_isWrong, .int v_letters, .int v_matched, .ref a_this_rows, .int v_manyRows, .long v_digested])), (a_this_states, .inl (cI, 66, .inl v_states_22))] → va_S A s.heap H locs → ∀ ls : Array Slot, lv_has ls 4 [(0, .ref a_this), (1, .int p1), (2, .int x2_6)] → k66 v_states_22 = some (w_states, w_many) → W p l e rm_X6_insert s m (([.ref a_this, .int p1] : List Value).toArray) below meth c H locs 0 0 Q (F0 m 66 ls [])) → ∀ (n : Nat) (x3_20 : Int32) (v_states_21 : (Nat → Int32)) (H : Heap) (locs : List Loc), va_P D vwCl [(a_this, .inr (5, [.int v_thrown, .ref a_this_s, .ref a_this_aside, .ref a_this_saved, .int v_savedMany, .ref a_this_text, .int v_length, .ref a_this_states, .int v_many, .int v_at, .int v_isWrong, .int v_letters, .int v_matched, .ref a_this_rows, .int v_manyRows, .long v_digested])), (a_this_states, .inl (cI, 66, .inl v_states_21))] H → va_D A [(a_this, .inr (5, [.int v_thrown, .ref a_this_s, .ref a_this_aside, .ref a_this_saved, .int v_savedMany, .ref a_this_text, .int v_length, .ref a_this_states, .int v_many, .int v_at, .int v_isWrong, .int v_letters, .int v_matched, .ref a_this_rows, .int v_manyRows, .long v_digested])), (a_this_states, .inl (cI, 66, .inl v_states_21))] → va_S A s.heap H locs → ∀ ls : Array Slot, lv_has ls 4 [(0, .ref a_this), (1, .int p1), (2, .int x2_6), (3, .int x3_20)] → L_X6_insert_41 F k66 p1 x2_6 n x3_20 v_states_21 = some (w_states, w_many) → W p l e rm_X6_insert s m (([.ref a_this, .int p1] : List Value).toArray) below meth c H locs 0 0 Q (F0 m 41 ls []) := by
      intro k66 hk66 n
      induction n with
      | zero => intro x3_20 v_states_21 H locs hP hD hS ls hl hden; exact no_none hden
      | succ n ih =>
        intro x3_20 v_states_21 H locs hP hD hS ls hl hden
        rw [L_X6_insert_41] at hden
        refine lv_iload_n hx hb dX6_insert_41 rfl (lv_at hl 3 rfl) ?_
        refine lv_iload_n hx hb dX6_insert_42 rfl (lv_at hl 2 rfl) ?_
        refine lv_icmp_le (tgt := 66) hx hb dX6_insert_43 (by decide) (fun c_29 => ?_) (fun c_29 => ?_)
        · have hden := if_s hden c_29
          exact hk66 v_states_21 _ _ (mSubP hP [0, 1] rfl) (hD.sub [0, 1] (by decide) rfl) hS ls (lv_sub hl [0, 1, 2] rfl) hden
        · have hden := ifn_s hden c_29
          refine lv_aload_n hx hb dX6_insert_46 rfl (lv_at hl 0 rfl) ?_
          refine va_get (D := D) (ci := 5) (v := .ref a_this_states) (C := RX6) (T := TX6) (N := 16) hx hb hts hin_X6 hown hK hP 0 rfl rfl 7 (by decide) w_22 (fun _ h9 => h9) rfl dX6_insert_47 ?_
          refine lv_iload_n hx hb dX6_insert_50 rfl (lv_at hl 3 rfl) ?_
          refine lv_aload_n hx hb dX6_insert_51 rfl (lv_at hl 0 rfl) ?_
          refine va_get (D := D) (ci := 5) (v := .ref a_this_states) (C := RX6) (T := TX6) (N := 16) hx hb hts hin_X6 hown hK hP 0 rfl rfl 7 (by decide) w_22 (fun _ h9 => h9) rfl dX6_insert_52 ?_
          refine lv_iload_n hx hb dX6_insert_55 rfl (lv_at hl 3 rfl) ?_
          refine lv_iconst (v := 1) hx hb dX6_insert_56 (by decide) ?_
          refine lv_isub hx hb dX6_insert_57 ?_
          obtain ⟨hg_24, hden⟩ := grd_s hden
          refine va_iald hx hb hK hP 1 0 rfl rfl (inb_in hg_24) dX6_insert_58 ?_
          refine lv_topi (fun y_25 ey_25 => ?_)
          have hden := nm_s hden ey_25
          obtain ⟨hg_26, hden⟩ := grd_s hden
          refine va_iast hx hb hK hP hD hS 1 0 rfl rfl (inb_in hg_26) dX6_insert_59 (fun H locs hP hD hS => ?_)
          obtain ⟨v_states_27, ev_states_27, hden⟩ := nm_x hden
          have hP : va_P D vwCl [(a_this, .inr (5, [.int v_thrown, .ref a_this_s, .ref a_this_aside, .ref a_this_saved, .int v_savedMany, .ref a_this_text, .int v_length, .ref a_this_states, .int v_many, .int v_at, .int v_isWrong, .int v_letters, .int v_matched, .ref a_this_rows, .int v_manyRows, .long v_digested])), (a_this_states, .inl (cI, 66, .inl v_states_27))] H := by rw [ev_states_27]; exact hP
          have hD : va_D A [(a_this, .inr (5, [.int v_thrown, .ref a_this_s, .ref a_this_aside, .ref a_this_saved, .int v_savedMany, .ref a_this_text, .int v_length, .ref a_this_states, .int v_many, .int v_at, .int v_isWrong, .int v_letters, .int v_matched, .ref a_this_rows, .int v_manyRows, .long v_digested])), (a_this_states, .inl (cI, 66, .inl v_states_27))] := by rw [ev_states_27]; exact hD
          obtain ⟨x3_28, ex3_28, hden⟩ := nm_x hden
          refine lv_iinc (v := x3_28) (lv' := [(3, .int x3_28), (0, .ref a_this), (1, .int p1), (2, .int x2_6)]) hx hb dX6_insert_60 hl (k := 3) rfl (by rw [ex3_28]; rfl) (by decide) rfl (fun ls hl => ?_)
          refine lv_goto (tgt := 41) hx hb dX6_insert_63 (by decide) ?_
          exact ih x3_28 v_states_27 _ _ (mSubP hP [0, 1] rfl) (hD.sub [0, 1] (by decide) rfl) hS ls (lv_sub hl [1, 2, 3, 0] rfl) hden
    refine hL41__23 _ (fun v_states_22 H locs hP hD hS ls hl hden => ?_) F v_many v_states _ _ (mSubP hP [0, 1] rfl) (hD.sub [0, 1] (by decide) rfl) hS ls (lv_sub hl [1, 2, 3, 0] rfl) hden
    refine lv_aload_n hx hb dX6_insert_66 rfl (lv_at hl 0 rfl) ?_
    refine va_get (D := D) (ci := 5) (v := .ref a_this_states) (C := RX6) (T := TX6) (N := 16) hx hb hts hin_X6 hown hK hP 0 rfl rfl 7 (by decide) w_22 (fun _ h9 => h9) rfl dX6_insert_67 ?_
    refine lv_iload_n hx hb dX6_insert_70 rfl (lv_at hl 2 rfl) ?_
    refine lv_iload_n hx hb dX6_insert_71 rfl (lv_at hl 1 rfl) ?_
    obtain ⟨hg_30, hden⟩ := grd_s hden
    refine va_iast hx hb hK hP hD hS 1 0 rfl rfl (inb_in hg_30) dX6_insert_72 (fun H locs hP hD hS => ?_)
    obtain ⟨v_states_31, ev_states_31, hden⟩ := nm_x hden
    have hP : va_P D vwCl [(a_this, .inr (5, [.int v_thrown, .ref a_this_s, .ref a_this_aside, .ref a_this_saved, .int v_savedMany, .ref a_this_text, .int v_length, .ref a_this_states, .int v_many, .int v_at, .int v_isWrong, .int v_letters, .int v_matched, .ref a_this_rows, .int v_manyRows, .long v_digested])), (a_this_states, .inl (cI, 66, .inl v_states_31))] H := by rw [ev_states_31]; exact hP
    have hD : va_D A [(a_this, .inr (5, [.int v_thrown, .ref a_this_s, .ref a_this_aside, .ref a_this_saved, .int v_savedMany, .ref a_this_text, .int v_length, .ref a_this_states, .int v_many, .int v_at, .int v_isWrong, .int v_letters, .int v_matched, .ref a_this_rows, .int v_manyRows, .long v_digested])), (a_this_states, .inl (cI, 66, .inl v_states_31))] := by rw [ev_states_31]; exact hD
    refine lv_aload_n hx hb dX6_insert_73 rfl (lv_at hl 0 rfl) ?_
    refine lv_dup hx hb dX6_insert_74 rfl ?_
    refine va_get (D := D) (ci := 5) (v := .int v_many) (C := RX6) (T := TX6) (N := 16) hx hb hts hin_X6 hown hK hP 0 rfl rfl 8 (by decide) w_76 (fun _ h9 => h9) rfl dX6_insert_75 ?_
    refine lv_iconst (v := 1) hx hb dX6_insert_78 (by decide) ?_
    refine lv_iadd hx hb dX6_insert_79 ?_
    refine lv_topi (fun f_many_32 ef_many_32 => ?_)
    have hden := nm_s hden ef_many_32
    refine va_put (D := D) (ci := 5) (v := .int f_many_32) (ty := .int) (C := RX6) (T := TX6) (N := 16) hx hb hts hin_X6 tyX6 tyX6_ok nmX6 hown hK hP hD hS 0 rfl rfl 8 (by decide) w_76 (fun _ h9 => h9) rfl (by decide +kernel) rfl rfl (Nat.le_of_ble_eq_true rfl) dX6_insert_80 (fun H locs hP hD hS => ?_)
    have hP : va_P D vwCl [(a_this, .inr (5, [.int v_thrown, .ref a_this_s, .ref a_this_aside, .ref a_this_saved, .int v_savedMany, .ref a_this_text, .int v_length, .ref a_this_states, .int f_many_32, .int v_at, .int v_isWrong, .int v_letters, .int v_matched, .ref a_this_rows, .int v_manyRows, .long v_digested])), (a_this_states, .inl (cI, 66, .inl v_states_31))] H := hP
    have hD : va_D A [(a_this, .inr (5, [.int v_thrown, .ref a_this_s, .ref a_this_aside, .ref a_this_saved, .int v_savedMany, .ref a_this_text, .int v_length, .ref a_this_states, .int f_many_32, .int v_at, .int v_isWrong, .int v_letters, .int v_matched, .ref a_this_rows, .int v_manyRows, .long v_digested])), (a_this_states, .inl (cI, 66, .inl v_states_31))] := hD
    subst hQe
    cases hden
    exact m_rv hx hb hr hP hD hS [0, 1] (by decide) rfl dX6_insert_83 hlocks
  · have hden := if_s hden c_33
    subst hQe
    cases hden
    exact m_rv hx hb hr hP hD hS [0, 1] (by decide) rfl dX6_insert_35 hlocks
def L_X6_list_22 (F : Nat) (k67 : (Nat → Int32) → Int32 → Option ((Nat → Int32) × Int32)) (y1 : Int32) (v_s : (Nat → Int32)) : Nat → Int32 → (Nat → Int32) → Int32 → Option ((Nat → Int32) × Int32)
  | 0, _, _, _ => none
  | n + 1, x2_6, v_states_7, v_many_8 => bnd (D_X6_isThere F y1 v_s) (fun r_9 => (if r_9 = 0 then k67 v_states_7 v_many_8 else grd (inb ((0 : Int32) + y1) 31) (bnd (D_X6_lengthOf F (v_s ((0 : Int32) + y1).toNatClampNeg)) (fun r_12 => (if r_12 < x2_6 then k67 v_states_7 v_many_8 else grd (inb ((0 : Int32) + y1) 31) (bnd (D_X6_beginOf F (v_s ((0 : Int32) + y1).toNatClampNeg) x2_6) (fun r_15 => bnd (D_X6_insert F r_15 v_many_8 v_states_7) (fun (v_states_17, v_many_18) => nm (x2_6 + 1) (fun x2_20 => L_X6_list_22 F k67 y1 v_s n x2_20 v_states_17 v_many_18)))))))))
def L_X6_list_14 (F : Nat) (v_s : (Nat → Int32)) : Nat → Int32 → (Nat → Int32) → Int32 → Option ((Nat → Int32) × Int32)
  | 0, _, _, _ => none
  | n + 1, x1_3, v_states_4, v_many_5 => (if 8 ≤ x1_3 then some (v_states_4, v_many_5) else L_X6_list_22 F (fun (v_states_26 : (Nat → Int32)) (v_many_27 : Int32) => nm (x1_3 + 1) (fun x1_43 => L_X6_list_14 F v_s n x1_43 v_states_26 v_many_27)) x1_3 v_s F 1 v_states_4 v_many_5)
def D_X6_list (F : Nat) (v_states : (Nat → Int32)) (v_many : Int32) (v_s : (Nat → Int32)) : Option ((Nat → Int32) × Int32) := grd (inb 0 66) (nm (upd v_states (0 : Int32).toNatClampNeg 1) (fun v_states_2 => L_X6_list_14 F v_s F 0 v_states_2 1))
def rm_X6_list : Room := { frames := 2, cells := 0, slots := 0, locals := 42 }
set_option maxHeartbeats 4000000 in
set_option maxRecDepth 100000 in
theorem c_X6_list (l : Launch) (D : va_G) (cI cM cL : ClassId) (F : Nat) {a_this a_this_s a_this_aside a_this_saved a_this_text a_this_states a_this_rows : Nat} {sz : Nat} {v_thrown v_savedMany v_length v_many v_at v_isWrong v_letters v_matched v_manyRows : Int32} {v_digested : Int64} {v_states v_s : Nat → Int32} {w_states : (Nat → Int32)} {w_many : Int32} (hden : D_X6_list F v_states v_many v_s = some (w_states, w_many)) : Met l yX6_list wsX6_list rm_X6_list (va_Pc [.ref a_this] (mB D (mTy cI cM cL) sz [(a_this, .inr (5, [.int v_thrown, .ref a_this_s, .ref a_this_aside, .ref a_this_saved, .int v_savedMany, .ref a_this_text, .int v_length, .ref a_this_states, .int v_many, .int v_at, .int v_isWrong, .int v_letters, .int v_matched, .ref a_this_rows, .int v_manyRows, .long v_digested])), (a_this_states, .inl (cI, 66, .inl v_states)), (a_this_s, .inl (cI, 31, .inl v_s))])) (mQv D (va_A [(a_this, .inr (5, [.int v_thrown, .ref a_this_s, .ref a_this_aside, .ref a_this_saved, .int v_savedMany, .ref a_this_text, .int v_length, .ref a_this_states, .int v_many, .int v_at, .int v_isWrong, .int v_letters, .int v_matched, .ref a_this_rows, .int v_manyRows, .long v_digested])), (a_this_states, .inl (cI, 66, .inl v_states)), (a_this_s, .inl (cI, 31, .inl v_s))] sz) [(a_this, .inr (5, [.int v_thrown, .ref a_this_s, .ref a_this_aside, .ref a_this_saved, .int v_savedMany, .ref a_this_text, .int v_length, .ref a_this_states, .int w_many, .int v_at, .int v_isWrong, .int v_letters, .int v_matched, .ref a_this_rows, .int v_manyRows, .long v_digested])), (a_this_states, .inl (cI, 66, .inl w_states)), (a_this_s, .inl (cI, 31, .inl v_s))]) 0 0 (va_A [(a_this, .inr (5, [.int v_thrown, .ref a_this_s, .ref a_this_aside, .ref a_this_saved, .int v_savedMany, .ref a_this_text, .int v_length, .ref a_this_states, .int v_many, .int v_at, .int v_isWrong, .int v_letters, .int v_matched, .ref a_this_rows, .int v_manyRows, .long v_digested])), (a_this_states, .inl (cI, 66, .inl v_states)), (a_this_s, .inl (cI, 31, .inl v_s))] sz) := by
  refine Met.ofW (cc := cX6_list) (maxL := 3) (ret := none) (by decide) rfl ?_
  intro p e s m args below meth c s₁ B hml hv
  obtain ⟨rfl, hsz, hP, hK, hN, hD0⟩ := hv
  have hx := B.exec
  have hb := B.bytes
  have hr := B.returns
  have hts := atoms_spec (ws := wsX6_list) B.pre
  have hown : s.vm.findClass RX6 = some m.cls := findClass_of_methodNamed B.named
  have hlocks := B.notSynchronized
  subst hsz
  have hD := hD0.self (sz := s.heap.size)
  generalize hAe : va_A [(a_this, .inr (5, [.int v_thrown, .ref a_this_s, .ref a_this_aside, .ref a_this_saved, .int v_savedMany, .ref a_this_text, .int v_length, .ref a_this_states, .int v_many, .int v_at, .int v_isWrong, .int v_letters, .int v_matched, .ref a_this_rows, .int v_manyRows, .long v_digested])), (a_this_states, .inl (cI, 66, .inl v_states)), (a_this_s, .inl (cI, 31, .inl v_s))] s.heap.size = A at hD ⊢
  have hA : ∀ q : Nat, s.heap.size ≤ q → A q := fun q h => by rw [← hAe]; exact Or.inr h
  have hS : va_S A s.heap s.heap [] := va_S.rf
  have hl := lv_entry ([.ref a_this]) (n := 3) (Nat.le_of_ble_eq_true rfl)
  rw [lg_entry_eq]
  generalize (lg_sl ([.ref a_this]) ++ List.replicate (3 - (lg_sl ([.ref a_this])).length) Slot.unset).toArray = ls at hl ⊢
  have hl : lv_has ls 3 [(0, .ref a_this)] := hl
  change W p l e rm_X6_list s m (([.ref a_this] : List Value).toArray) below meth c s.heap [] 0 0 _ (F0 m 0 ls [])
  generalize hQe : MQ below (mQv D A [(a_this, .inr (5, [.int v_thrown, .ref a_this_s, .ref a_this_aside, .ref a_this_saved, .int v_savedMany, .ref a_this_text, .int v_length, .ref a_this_states, .int w_many, .int v_at, .int v_isWrong, .int v_letters, .int v_matched, .ref a_this_rows, .int v_manyRows, .long v_digested])), (a_this_states, .inl (cI, 66, .inl w_states)), (a_this_s, .inl (cI, 31, .inl v_s))]) (([.ref a_this] : List Value).toArray) s 0 0 A = Q
  rw [D_X6_list] at hden
  have hin_X6 : ∀ w ∈ wsX60, w ∈ wsX6_list := by decide +kernel
  have w_22 := hts (.fieldLink RX6 22 "FallingPatternsModel" "states" "[I") (by decide +kernel)
  have w_76 := hts (.fieldLink RX6 76 "FallingPatternsModel" "many" "I") (by decide +kernel)
  have w_7 := hts (.fieldLink RX6 7 "FallingPatternsModel" "s" "[I") (by decide +kernel)
  refine lv_aload_n hx hb dX6_list_0 rfl (lv_at hl 0 rfl) ?_
  refine va_get (D := D) (ci := 5) (v := .ref a_this_states) (C := RX6) (T := TX6) (N := 16) hx hb hts hin_X6 hown hK hP 0 rfl rfl 7 (by decide) w_22 (fun _ h9 => h9) rfl dX6_list_1 ?_
  refine lv_iconst (v := 0) hx hb dX6_list_4 (by decide) ?_
  refine lv_iconst (v := 1) hx hb dX6_list_5 (by decide) ?_
  obtain ⟨hg_1, hden⟩ := grd_s hden
  refine va_iast hx hb hK hP hD hS 1 0 rfl rfl (inb_in hg_1) dX6_list_6 (fun H locs hP hD hS => ?_)
  obtain ⟨v_states_2, ev_states_2, hden⟩ := nm_x hden
  have hP : va_P D vwCl [(a_this, .inr (5, [.int v_thrown, .ref a_this_s, .ref a_this_aside, .ref a_this_saved, .int v_savedMany, .ref a_this_text, .int v_length, .ref a_this_states, .int v_many, .int v_at, .int v_isWrong, .int v_letters, .int v_matched, .ref a_this_rows, .int v_manyRows, .long v_digested])), (a_this_states, .inl (cI, 66, .inl v_states_2)), (a_this_s, .inl (cI, 31, .inl v_s))] H := by rw [ev_states_2]; exact hP
  have hD : va_D A [(a_this, .inr (5, [.int v_thrown, .ref a_this_s, .ref a_this_aside, .ref a_this_saved, .int v_savedMany, .ref a_this_text, .int v_length, .ref a_this_states, .int v_many, .int v_at, .int v_isWrong, .int v_letters, .int v_matched, .ref a_this_rows, .int v_manyRows, .long v_digested])), (a_this_states, .inl (cI, 66, .inl v_states_2)), (a_this_s, .inl (cI, 31, .inl v_s))] := by rw [ev_states_2]; exact hD
  refine lv_aload_n hx hb dX6_list_7 rfl (lv_at hl 0 rfl) ?_
  refine lv_iconst (v := 1) hx hb dX6_list_8 (by decide) ?_
  refine va_put (D := D) (ci := 5) (v := .int 1) (ty := .int) (C := RX6) (T := TX6) (N := 16) hx hb hts hin_X6 tyX6 tyX6_ok nmX6 hown hK hP hD hS 0 rfl rfl 8 (by decide) w_76 (fun _ h9 => h9) rfl (by decide +kernel) rfl rfl (Nat.le_of_ble_eq_true rfl) dX6_list_9 (fun H locs hP hD hS => ?_)
  have hP : va_P D vwCl [(a_this, .inr (5, [.int v_thrown, .ref a_this_s, .ref a_this_aside, .ref a_this_saved, .int v_savedMany, .ref a_this_text, .int v_length, .ref a_this_states, .int 1, .int v_at, .int v_isWrong, .int v_letters, .int v_matched, .ref a_this_rows, .int v_manyRows, .long v_digested])), (a_this_states, .inl (cI, 66, .inl v_states_2)), (a_this_s, .inl (cI, 31, .inl v_s))] H := hP
  have hD : va_D A [(a_this, .inr (5, [.int v_thrown, .ref a_this_s, .ref a_this_aside, .ref a_this_saved, .int v_savedMany, .ref a_this_text, .int v_length, .ref a_this_states, .int 1, .int v_at, .int v_isWrong, .int v_letters, .int v_matched, .ref a_this_rows, .int v_manyRows, .long v_digested])), (a_this_states, .inl (cI, 66, .inl v_states_2)), (a_this_s, .inl (cI, 31, .inl v_s))] := hD
  refine lv_iconst (v := 0) hx hb dX6_list_12 (by decide) ?_
  refine lv_istore_n (lv' := [(1, .int 0), (0, .ref a_this)]) hx hb dX6_list_13 rfl hl (by decide) rfl (fun ls hl => ?_)
  have hL14__48 : ∀ (n : Nat) (x1_45 : Int32) (v_states_46 : (Nat → Int32)) (v_many_47 : Int32) (H : Heap) (locs : List Loc), va_P D vwCl [(a_this, .inr (5, [.int v_thrown, .ref a_this_s, .ref a_this_aside, .ref a_this_saved, .int v_savedMany, .ref a_this_text, .int v_length, .ref a_this_states, .int v_many_47, .int v_at, .int v_isWrong, .int v_letters, .int v_matched, .ref a_this_rows, .int v_manyRows, .long v_digested])), (a_this_states, .inl (cI, 66, .inl v_states_46)), (a_this_s, .inl (cI, 31, .inl v_s))] H → va_D A [(a_this, .inr (5, [.int v_thrown, .ref a_this_s, .ref a_this_aside, .ref a_this_saved, .int v_savedMany, .ref a_this_text, .int v_length, .ref a_this_states, .int v_many_47, .int v_at, .int v_isWrong, .int v_letters, .int v_matched, .ref a_this_rows, .int v_manyRows, .long v_digested])), (a_this_states, .inl (cI, 66, .inl v_states_46)), (a_this_s, .inl (cI, 31, .inl v_s))] → va_S A s.heap H locs → ∀ ls : Array Slot, lv_has ls 3 [(0, .ref a_this), (1, .int x1_45)] → L_X6_list_14 F v_s n x1_45 v_states_46 v_many_47 = some (w_states, w_many) → W p l e rm_X6_list s m (([.ref a_this] : List Value).toArray) below meth c H locs 0 0 Q (F0 m 14 ls []) := by
    intro n
    induction n with
    | zero => intro x1_45 v_states_46 v_many_47 H locs hP hD hS ls hl hden; exact no_none hden
    | succ n ih =>
      intro x1_45 v_states_46 v_many_47 H locs hP hD hS ls hl hden
      rw [L_X6_list_14] at hden
      refine lv_iload_n hx hb dX6_list_14 rfl (lv_at hl 1 rfl) ?_
      refine lv_bipush (v := 8) hx hb dX6_list_15 (by decide) ?_
      refine lv_icmp_ge (tgt := 73) hx hb dX6_list_17 (by decide) (fun c_70 => ?_) (fun c_70 => ?_)
      · have hden := if_s hden c_70
        subst hQe
        cases hden
        exact m_rv hx hb hr hP hD hS [0, 1, 2] (by decide) rfl dX6_list_73 hlocks
      · have hden := ifn_s hden c_70
        refine lv_iconst (v := 1) hx hb dX6_list_20 (by decide) ?_
        refine lv_istore_n (lv' := [(2, .int 1), (0, .ref a_this), (1, .int x1_45)]) hx hb dX6_list_21 rfl hl (by decide) rfl (fun ls hl => ?_)
        have hL22__54 : ∀ (k67 : (Nat → Int32) → Int32 → Option ((Nat → Int32) × Int32)), (∀ (v_states_52 : (Nat → Int32)) (v_many_53 : Int32) (H : Heap) (locs : List Loc), va_P D vwCl [(a_this, .inr (5, [.int v_thrown, .ref a_this_s, .ref a_this_aside, .ref a_this_saved, .int v_savedMany, .ref a_this_text, .int v_length, .ref a_this_states, .int v_many_53, .int v_at, .int v_isWrong, .int v_letters, .int v_matched, .ref a_this_rows, .int v_manyRows, .long v_digested])), (a_this_states, .inl (cI, 66, .inl v_states_52)), (a_this_s, .inl (cI, 31, .inl v_s))] H → va_D A [(a_this, .inr (5, [.int v_thrown, .ref a_this_s, .ref a_this_aside, .ref a_this_saved, .int v_savedMany, .ref a_this_text, .int v_length, .ref a_this_states, .int v_many_53, .int v_at, .int v_isWrong, .int v_letters, .int v_matched, .ref a_this_rows, .int v_manyRows, .long v_digested])), (a_this_states, .inl (cI, 66, .inl v_states_52)), (a_this_s, .inl (cI, 31, .inl v_s))] → va_S A s.heap H locs → ∀ ls : Array Slot, lv_has ls 3 [(0, .ref a_this), (1, .int x1_45)] → k67 v_states_52 v_many_53 = some (w_states, w_many) → W p l e rm_X6_list s m (([.ref a_this] : List Value).toArray) below meth c H locs 0 0 Q (F0 m 67 ls [])) → ∀ (n : Nat) (x2_49 : Int32) (v_states_50 : (Nat → Int32)) (v_many_51 : Int32) (H : Heap) (locs : List Loc), va_P D vwCl [(a_this, .inr (5, [.int v_thrown, .ref a_this_s, .ref a_this_aside, .ref a_this_saved, .int v_savedMany, .ref a_this_text, .int v_length, .ref a_this_states, .int v_many_51, .int v_at, .int v_isWrong, .int v_letters, .int v_matched, .ref a_this_rows, .int v_manyRows, .long v_digested])), (a_this_states, .inl (cI, 66, .inl v_states_50)), (a_this_s, .inl (cI, 31, .inl v_s))] H → va_D A [(a_this, .inr (5, [.int v_thrown, .ref a_this_s, .ref a_this_aside, .ref a_this_saved, .int v_savedMany, .ref a_this_text, .int v_length, .ref a_this_states, .int v_many_51, .int v_at, .int v_isWrong, .int v_letters, .int v_matched, .ref a_this_rows, .int v_manyRows, .long v_digested])), (a_this_states, .inl (cI, 66, .inl v_states_50)), (a_this_s, .inl (cI, 31, .inl v_s))] → va_S A s.heap H locs → ∀ ls : Array Slot, lv_has ls 3 [(0, .ref a_this), (1, .int x1_45), (2, .int x2_49)] → L_X6_list_22 F k67 x1_45 v_s n x2_49 v_states_50 v_many_51 = some (w_states, w_many) → W p l e rm_X6_list s m (([.ref a_this] : List Value).toArray) below meth c H locs 0 0 Q (F0 m 22 ls []) := by
          intro k67 hk67 n
          induction n with
          | zero => intro x2_49 v_states_50 v_many_51 H locs hP hD hS ls hl hden; exact no_none hden
          | succ n ih =>
            intro x2_49 v_states_50 v_many_51 H locs hP hD hS ls hl hden
            rw [L_X6_list_22] at hden
            refine lv_aload_n hx hb dX6_list_22 rfl (lv_at hl 0 rfl) ?_
            refine lv_iload_n hx hb dX6_list_23 rfl (lv_at hl 1 rfl) ?_
            obtain ⟨r_55, hc_56, hden⟩ := bnd_s hden
            refine m_ci (wc := [(a_this, .inr (5, [.int v_thrown, .ref a_this_s, .ref a_this_aside, .ref a_this_saved, .int v_savedMany, .ref a_this_text, .int v_length, .ref a_this_states, .int v_many_51, .int v_at, .int v_isWrong, .int v_letters, .int v_matched, .ref a_this_rows, .int v_manyRows, .long v_digested])), (a_this_s, .inl (cI, 31, .inl v_s))]) (wr := [(a_this_states, .inl (cI, 66, .inl v_states_50))]) (wc' := [(a_this, .inr (5, [.int v_thrown, .ref a_this_s, .ref a_this_aside, .ref a_this_saved, .int v_savedMany, .ref a_this_text, .int v_length, .ref a_this_states, .int v_many_51, .int v_at, .int v_isWrong, .int v_letters, .int v_matched, .ref a_this_rows, .int v_manyRows, .long v_digested])), (a_this_s, .inl (cI, 31, .inl v_s))]) (va_runV (As := [.int x1_45]) (rest := []) ⟨hx, hb, hml, hown, hts⟩ (c_X6_isThere l D cI cM cL F hc_56) (cwV 1 hts gX6_list_X6_isThere rfl rfl rfl (by decide +kernel) ⟨Nat.le_of_ble_eq_true rfl, Nat.le_of_ble_eq_true rfl⟩) (mPreV (ci := 5) (q0 := 0) (r := (RX6, TX6, 16)) hP hD hK hN [0, 2] (by decide) rfl rfl rfl) rfl rfl hl.1 rfl (lv_room (Nat.le_of_ble_eq_true rfl)) dX6_list_24 ⟨Nat.le_of_ble_eq_true rfl, Nat.le_of_ble_eq_true rfl⟩) hP hD hS hA [0, 2] [1] rfl rfl (by decide) (by decide) (fun H locs hP hD hS => ?_)
            have hP : va_P D vwCl [(a_this_states, .inl (cI, 66, .inl v_states_50)), (a_this, .inr (5, [.int v_thrown, .ref a_this_s, .ref a_this_aside, .ref a_this_saved, .int v_savedMany, .ref a_this_text, .int v_length, .ref a_this_states, .int v_many_51, .int v_at, .int v_isWrong, .int v_letters, .int v_matched, .ref a_this_rows, .int v_manyRows, .long v_digested])), (a_this_s, .inl (cI, 31, .inl v_s))] H := hP
            have hD : va_D A [(a_this_states, .inl (cI, 66, .inl v_states_50)), (a_this, .inr (5, [.int v_thrown, .ref a_this_s, .ref a_this_aside, .ref a_this_saved, .int v_savedMany, .ref a_this_text, .int v_length, .ref a_this_states, .int v_many_51, .int v_at, .int v_isWrong, .int v_letters, .int v_matched, .ref a_this_rows, .int v_manyRows, .long v_digested])), (a_this_s, .inl (cI, 31, .inl v_s))] := hD
            refine lv_if_eq (tgt := 67) hx hb dX6_list_27 (by decide) (fun c_68 => ?_) (fun c_68 => ?_)
            · have hden := if_s hden c_68
              exact hk67 v_states_50 v_many_51 _ _ (mSubP hP [1, 0, 2] rfl) (hD.sub [1, 0, 2] (by decide) rfl) hS ls (lv_sub hl [0, 1] rfl) hden
            · have hden := ifn_s hden c_68
              refine lv_iload_n hx hb dX6_list_30 rfl (lv_at hl 2 rfl) ?_
              refine lv_aload_n hx hb dX6_list_31 rfl (lv_at hl 0 rfl) ?_
              refine va_get (D := D) (ci := 5) (v := .ref a_this_s) (C := RX6) (T := TX6) (N := 16) hx hb hts hin_X6 hown hK hP 1 rfl rfl 1 (by decide) w_7 (fun _ h9 => h9) rfl dX6_list_32 ?_
              refine lv_iconst (v := 0) hx hb dX6_list_35 (by decide) ?_
              refine lv_iload_n hx hb dX6_list_36 rfl (lv_at hl 1 rfl) ?_
              refine lv_iadd hx hb dX6_list_37 ?_
              obtain ⟨hg_57, hden⟩ := grd_s hden
              refine va_iald hx hb hK hP 2 0 rfl rfl (inb_in hg_57) dX6_list_38 ?_
              obtain ⟨r_58, hc_59, hden⟩ := bnd_s hden
              refine m_ci (wc := []) (wr := [(a_this_states, .inl (cI, 66, .inl v_states_50)), (a_this, .inr (5, [.int v_thrown, .ref a_this_s, .ref a_this_aside, .ref a_this_saved, .int v_savedMany, .ref a_this_text, .int v_length, .ref a_this_states, .int v_many_51, .int v_at, .int v_isWrong, .int v_letters, .int v_matched, .ref a_this_rows, .int v_manyRows, .long v_digested])), (a_this_s, .inl (cI, 31, .inl v_s))]) (wc' := []) (va_runS (As := [.int (v_s ((0 : Int32) + x1_45).toNatClampNeg)]) (rest := [.int x2_49]) ⟨hx, hb, hml, hown, hts⟩ (c_X6_lengthOf l D cI cM cL F hc_59) (va_cwS 1 hts gX6_list_X6_lengthOf rfl rfl rfl (by decide +kernel) ⟨Nat.le_of_ble_eq_true rfl, Nat.le_of_ble_eq_true rfl⟩) (mPreS hP hD hK hN [] (by decide) rfl) rfl rfl hl.1 rfl (lv_room (Nat.le_of_ble_eq_true rfl)) dX6_list_39 ⟨Nat.le_of_ble_eq_true rfl, Nat.le_of_ble_eq_true rfl⟩) hP hD hS hA [] [0, 1, 2] rfl rfl (by decide) (by decide) (fun H locs hP hD hS => ?_)
              have hP : va_P D vwCl [(a_this_states, .inl (cI, 66, .inl v_states_50)), (a_this, .inr (5, [.int v_thrown, .ref a_this_s, .ref a_this_aside, .ref a_this_saved, .int v_savedMany, .ref a_this_text, .int v_length, .ref a_this_states, .int v_many_51, .int v_at, .int v_isWrong, .int v_letters, .int v_matched, .ref a_this_rows, .int v_manyRows, .long v_digested])), (a_this_s, .inl (cI, 31, .inl v_s))] H := hP
              have hD : va_D A [(a_this_states, .inl (cI, 66, .inl v_states_50)), (a_this, .inr (5, [.int v_thrown, .ref a_this_s, .ref a_this_aside, .ref a_this_saved, .int v_savedMany, .ref a_this_text, .int v_length, .ref a_this_states, .int v_many_51, .int v_at, .int v_isWrong, .int v_letters, .int v_matched, .ref a_this_rows, .int v_manyRows, .long v_digested])), (a_this_s, .inl (cI, 31, .inl v_s))] := hD
              refine lv_icmp_gt (tgt := 67) hx hb dX6_list_42 (by decide) (fun c_67 => ?_) (fun c_67 => ?_)
              · have hden := if_s hden c_67
                exact hk67 v_states_50 v_many_51 _ _ (mSubP hP [1, 0, 2] rfl) (hD.sub [1, 0, 2] (by decide) rfl) hS ls (lv_sub hl [0, 1] rfl) hden
              · have hden := ifn_s hden c_67
                refine lv_aload_n hx hb dX6_list_45 rfl (lv_at hl 0 rfl) ?_
                refine lv_aload_n hx hb dX6_list_46 rfl (lv_at hl 0 rfl) ?_
                refine va_get (D := D) (ci := 5) (v := .ref a_this_s) (C := RX6) (T := TX6) (N := 16) hx hb hts hin_X6 hown hK hP 1 rfl rfl 1 (by decide) w_7 (fun _ h9 => h9) rfl dX6_list_47 ?_
                refine lv_iconst (v := 0) hx hb dX6_list_50 (by decide) ?_
                refine lv_iload_n hx hb dX6_list_51 rfl (lv_at hl 1 rfl) ?_
                refine lv_iadd hx hb dX6_list_52 ?_
                obtain ⟨hg_60, hden⟩ := grd_s hden
                refine va_iald hx hb hK hP 2 0 rfl rfl (inb_in hg_60) dX6_list_53 ?_
                refine lv_iload_n hx hb dX6_list_54 rfl (lv_at hl 2 rfl) ?_
                obtain ⟨r_61, hc_62, hden⟩ := bnd_s hden
                refine m_ci (wc := []) (wr := [(a_this_states, .inl (cI, 66, .inl v_states_50)), (a_this, .inr (5, [.int v_thrown, .ref a_this_s, .ref a_this_aside, .ref a_this_saved, .int v_savedMany, .ref a_this_text, .int v_length, .ref a_this_states, .int v_many_51, .int v_at, .int v_isWrong, .int v_letters, .int v_matched, .ref a_this_rows, .int v_manyRows, .long v_digested])), (a_this_s, .inl (cI, 31, .inl v_s))]) (wc' := []) (va_runS (As := [.int (v_s ((0 : Int32) + x1_45).toNatClampNeg), .int x2_49]) (rest := [.ref a_this]) ⟨hx, hb, hml, hown, hts⟩ (c_X6_beginOf l D cI cM cL F hc_62) (va_cwS 2 hts gX6_list_X6_beginOf rfl rfl rfl (by decide +kernel) ⟨Nat.le_of_ble_eq_true rfl, Nat.le_of_ble_eq_true rfl⟩) (mPreS hP hD hK hN [] (by decide) rfl) rfl rfl hl.1 rfl (lv_room (Nat.le_of_ble_eq_true rfl)) dX6_list_55 ⟨Nat.le_of_ble_eq_true rfl, Nat.le_of_ble_eq_true rfl⟩) hP hD hS hA [] [0, 1, 2] rfl rfl (by decide) (by decide) (fun H locs hP hD hS => ?_)
                have hP : va_P D vwCl [(a_this_states, .inl (cI, 66, .inl v_states_50)), (a_this, .inr (5, [.int v_thrown, .ref a_this_s, .ref a_this_aside, .ref a_this_saved, .int v_savedMany, .ref a_this_text, .int v_length, .ref a_this_states, .int v_many_51, .int v_at, .int v_isWrong, .int v_letters, .int v_matched, .ref a_this_rows, .int v_manyRows, .long v_digested])), (a_this_s, .inl (cI, 31, .inl v_s))] H := hP
                have hD : va_D A [(a_this_states, .inl (cI, 66, .inl v_states_50)), (a_this, .inr (5, [.int v_thrown, .ref a_this_s, .ref a_this_aside, .ref a_this_saved, .int v_savedMany, .ref a_this_text, .int v_length, .ref a_this_states, .int v_many_51, .int v_at, .int v_isWrong, .int v_letters, .int v_matched, .ref a_this_rows, .int v_manyRows, .long v_digested])), (a_this_s, .inl (cI, 31, .inl v_s))] := hD
                obtain ⟨⟨v_states_63, v_many_64⟩, hc_65, hden⟩ := bnd_s hden
                refine m_cv (wc := [(a_this, .inr (5, [.int v_thrown, .ref a_this_s, .ref a_this_aside, .ref a_this_saved, .int v_savedMany, .ref a_this_text, .int v_length, .ref a_this_states, .int v_many_51, .int v_at, .int v_isWrong, .int v_letters, .int v_matched, .ref a_this_rows, .int v_manyRows, .long v_digested])), (a_this_states, .inl (cI, 66, .inl v_states_50))]) (wr := [(a_this_s, .inl (cI, 31, .inl v_s))]) (wc' := [(a_this, .inr (5, [.int v_thrown, .ref a_this_s, .ref a_this_aside, .ref a_this_saved, .int v_savedMany, .ref a_this_text, .int v_length, .ref a_this_states, .int v_many_64, .int v_at, .int v_isWrong, .int v_letters, .int v_matched, .ref a_this_rows, .int v_manyRows, .long v_digested])), (a_this_states, .inl (cI, 66, .inl v_states_63))]) (va_runV (As := [.int r_61]) (rest := []) ⟨hx, hb, hml, hown, hts⟩ (c_X6_insert l D cI cM cL F hc_65) (cwV 1 hts gX6_list_X6_insert rfl rfl rfl (by decide +kernel) ⟨Nat.le_of_ble_eq_true rfl, Nat.le_of_ble_eq_true rfl⟩) (mPreV (ci := 5) (q0 := 0) (r := (RX6, TX6, 16)) hP hD hK hN [1, 0] (by decide) rfl rfl rfl) rfl rfl hl.1 rfl (lv_room (Nat.le_of_ble_eq_true rfl)) dX6_list_58 ⟨Nat.le_of_ble_eq_true rfl, Nat.le_of_ble_eq_true rfl⟩) hP hD hS hA [1, 0] [2] rfl rfl (by decide) (by decide) (fun H locs hP hD hS => ?_)
                have hP : va_P D vwCl [(a_this_s, .inl (cI, 31, .inl v_s)), (a_this, .inr (5, [.int v_thrown, .ref a_this_s, .ref a_this_aside, .ref a_this_saved, .int v_savedMany, .ref a_this_text, .int v_length, .ref a_this_states, .int v_many_64, .int v_at, .int v_isWrong, .int v_letters, .int v_matched, .ref a_this_rows, .int v_manyRows, .long v_digested])), (a_this_states, .inl (cI, 66, .inl v_states_63))] H := hP
                have hD : va_D A [(a_this_s, .inl (cI, 31, .inl v_s)), (a_this, .inr (5, [.int v_thrown, .ref a_this_s, .ref a_this_aside, .ref a_this_saved, .int v_savedMany, .ref a_this_text, .int v_length, .ref a_this_states, .int v_many_64, .int v_at, .int v_isWrong, .int v_letters, .int v_matched, .ref a_this_rows, .int v_manyRows, .long v_digested])), (a_this_states, .inl (cI, 66, .inl v_states_63))] := hD
                obtain ⟨x2_66, ex2_66, hden⟩ := nm_x hden
                refine lv_iinc (v := x2_66) (lv' := [(2, .int x2_66), (0, .ref a_this), (1, .int x1_45)]) hx hb dX6_list_61 hl (k := 2) rfl (by rw [ex2_66]; rfl) (by decide) rfl (fun ls hl => ?_)
                refine lv_goto (tgt := 22) hx hb dX6_list_64 (by decide) ?_
                exact ih x2_66 v_states_63 v_many_64 _ _ (mSubP hP [1, 2, 0] rfl) (hD.sub [1, 2, 0] (by decide) rfl) hS ls (lv_sub hl [1, 2, 0] rfl) hden
        refine hL22__54 _ (fun v_states_52 v_many_53 H locs hP hD hS ls hl hden => ?_) F 1 v_states_46 v_many_47 _ _ (mSubP hP [0, 1, 2] rfl) (hD.sub [0, 1, 2] (by decide) rfl) hS ls (lv_sub hl [1, 2, 0] rfl) hden
        obtain ⟨x1_69, ex1_69, hden⟩ := nm_x hden
        refine lv_iinc (v := x1_69) (lv' := [(1, .int x1_69), (0, .ref a_this)]) hx hb dX6_list_67 hl (k := 1) rfl (by rw [ex1_69]; rfl) (by decide) rfl (fun ls hl => ?_)
        refine lv_goto (tgt := 14) hx hb dX6_list_70 (by decide) ?_
        exact ih x1_69 v_states_52 v_many_53 _ _ (mSubP hP [0, 1, 2] rfl) (hD.sub [0, 1, 2] (by decide) rfl) hS ls (lv_sub hl [1, 0] rfl) hden
  exact hL14__48 F 0 v_states_2 1 _ _ (mSubP hP [0, 1, 2] rfl) (hD.sub [0, 1, 2] (by decide) rfl) hS ls (lv_sub hl [1, 0] rfl) hden
def L_X6_numberOf_2 (F : Nat) (y1 : Int32) (v_states : (Nat → Int32)) : Nat → Int32 → Option (Int32)
  | 0, _ => none
  | n + 1, x2_1 => grd (inb x2_1 66) ((if (v_states x2_1.toNatClampNeg) = y1 then some (x2_1) else nm (x2_1 + 1) (fun x2_3 => L_X6_numberOf_2 F y1 v_states n x2_3)))
def D_X6_numberOf (F : Nat) (p1 : Int32) (v_states : (Nat → Int32)) : Option (Int32) := L_X6_numberOf_2 F p1 v_states F 0
def rm_X6_numberOf : Room := { frames := 0, cells := 0, slots := 0, locals := 0 }
set_option maxHeartbeats 4000000 in
set_option maxRecDepth 100000 in
theorem c_X6_numberOf (l : Launch) (D : va_G) (cI cM cL : ClassId) (F : Nat) {a_this a_this_s a_this_aside a_this_saved a_this_text a_this_states a_this_rows : Nat} {sz : Nat} {v_thrown v_savedMany v_length v_many v_at v_isWrong v_letters v_matched v_manyRows : Int32} {v_digested : Int64} {v_states : Nat → Int32} {p1 : Int32} {r0 : Int32} (hden : D_X6_numberOf F p1 v_states = some (r0)) : Met l yX6_numberOf wsX6_numberOf rm_X6_numberOf (va_Pc [.ref a_this, .int p1] (mB D (mTy cI cM cL) sz [(a_this, .inr (5, [.int v_thrown, .ref a_this_s, .ref a_this_aside, .ref a_this_saved, .int v_savedMany, .ref a_this_text, .int v_length, .ref a_this_states, .int v_many, .int v_at, .int v_isWrong, .int v_letters, .int v_matched, .ref a_this_rows, .int v_manyRows, .long v_digested])), (a_this_states, .inl (cI, 66, .inl v_states))])) (mQi D (va_A [(a_this, .inr (5, [.int v_thrown, .ref a_this_s, .ref a_this_aside, .ref a_this_saved, .int v_savedMany, .ref a_this_text, .int v_length, .ref a_this_states, .int v_many, .int v_at, .int v_isWrong, .int v_letters, .int v_matched, .ref a_this_rows, .int v_manyRows, .long v_digested])), (a_this_states, .inl (cI, 66, .inl v_states))] sz) [(a_this, .inr (5, [.int v_thrown, .ref a_this_s, .ref a_this_aside, .ref a_this_saved, .int v_savedMany, .ref a_this_text, .int v_length, .ref a_this_states, .int v_many, .int v_at, .int v_isWrong, .int v_letters, .int v_matched, .ref a_this_rows, .int v_manyRows, .long v_digested])), (a_this_states, .inl (cI, 66, .inl v_states))] r0) 0 0 (va_A [(a_this, .inr (5, [.int v_thrown, .ref a_this_s, .ref a_this_aside, .ref a_this_saved, .int v_savedMany, .ref a_this_text, .int v_length, .ref a_this_states, .int v_many, .int v_at, .int v_isWrong, .int v_letters, .int v_matched, .ref a_this_rows, .int v_manyRows, .long v_digested])), (a_this_states, .inl (cI, 66, .inl v_states))] sz) := by
  refine Met.ofW (cc := cX6_numberOf) (maxL := 3) (ret := (some .int)) (by decide) rfl ?_
  intro p e s m args below meth c s₁ B hml hv
  obtain ⟨rfl, hsz, hP, hK, hN, hD0⟩ := hv
  have hx := B.exec
  have hb := B.bytes
  have hr := B.returns
  have hts := atoms_spec (ws := wsX6_numberOf) B.pre
  have hown : s.vm.findClass RX6 = some m.cls := findClass_of_methodNamed B.named
  have hlocks := B.notSynchronized
  subst hsz
  have hD := hD0.self (sz := s.heap.size)
  generalize hAe : va_A [(a_this, .inr (5, [.int v_thrown, .ref a_this_s, .ref a_this_aside, .ref a_this_saved, .int v_savedMany, .ref a_this_text, .int v_length, .ref a_this_states, .int v_many, .int v_at, .int v_isWrong, .int v_letters, .int v_matched, .ref a_this_rows, .int v_manyRows, .long v_digested])), (a_this_states, .inl (cI, 66, .inl v_states))] s.heap.size = A at hD ⊢
  have hA : ∀ q : Nat, s.heap.size ≤ q → A q := fun q h => by rw [← hAe]; exact Or.inr h
  have hS : va_S A s.heap s.heap [] := va_S.rf
  have hl := lv_entry ([.ref a_this, .int p1]) (n := 3) (Nat.le_of_ble_eq_true rfl)
  rw [lg_entry_eq]
  generalize (lg_sl ([.ref a_this, .int p1]) ++ List.replicate (3 - (lg_sl ([.ref a_this, .int p1])).length) Slot.unset).toArray = ls at hl ⊢
  have hl : lv_has ls 3 [(0, .ref a_this), (1, .int p1)] := hl
  change W p l e rm_X6_numberOf s m (([.ref a_this, .int p1] : List Value).toArray) below meth c s.heap [] 0 0 _ (F0 m 0 ls [])
  generalize hQe : MQ below (mQi D A [(a_this, .inr (5, [.int v_thrown, .ref a_this_s, .ref a_this_aside, .ref a_this_saved, .int v_savedMany, .ref a_this_text, .int v_length, .ref a_this_states, .int v_many, .int v_at, .int v_isWrong, .int v_letters, .int v_matched, .ref a_this_rows, .int v_manyRows, .long v_digested])), (a_this_states, .inl (cI, 66, .inl v_states))] r0) (([.ref a_this, .int p1] : List Value).toArray) s 0 0 A = Q
  rw [D_X6_numberOf] at hden
  have hin_X6 : ∀ w ∈ wsX60, w ∈ wsX6_numberOf := by decide +kernel
  have w_22 := hts (.fieldLink RX6 22 "FallingPatternsModel" "states" "[I") (by decide +kernel)
  refine lv_iconst (v := 0) hx hb dX6_numberOf_0 (by decide) ?_
  refine lv_istore_n (lv' := [(2, .int 0), (0, .ref a_this), (1, .int p1)]) hx hb dX6_numberOf_1 rfl hl (by decide) rfl (fun ls hl => ?_)
  have hL2__6 : ∀ (n : Nat) (x2_5 : Int32) (H : Heap) (locs : List Loc), va_P D vwCl [(a_this, .inr (5, [.int v_thrown, .ref a_this_s, .ref a_this_aside, .ref a_this_saved, .int v_savedMany, .ref a_this_text, .int v_length, .ref a_this_states, .int v_many, .int v_at, .int v_isWrong, .int v_letters, .int v_matched, .ref a_this_rows, .int v_manyRows, .long v_digested])), (a_this_states, .inl (cI, 66, .inl v_states))] H → va_D A [(a_this, .inr (5, [.int v_thrown, .ref a_this_s, .ref a_this_aside, .ref a_this_saved, .int v_savedMany, .ref a_this_text, .int v_length, .ref a_this_states, .int v_many, .int v_at, .int v_isWrong, .int v_letters, .int v_matched, .ref a_this_rows, .int v_manyRows, .long v_digested])), (a_this_states, .inl (cI, 66, .inl v_states))] → va_S A s.heap H locs → ∀ ls : Array Slot, lv_has ls 3 [(0, .ref a_this), (1, .int p1), (2, .int x2_5)] → L_X6_numberOf_2 F p1 v_states n x2_5 = some (r0) → W p l e rm_X6_numberOf s m (([.ref a_this, .int p1] : List Value).toArray) below meth c H locs 0 0 Q (F0 m 2 ls []) := by
    intro n
    induction n with
    | zero => intro x2_5 H locs hP hD hS ls hl hden; exact no_none hden
    | succ n ih =>
      intro x2_5 H locs hP hD hS ls hl hden
      rw [L_X6_numberOf_2] at hden
      refine lv_aload_n hx hb dX6_numberOf_2 rfl (lv_at hl 0 rfl) ?_
      refine va_get (D := D) (ci := 5) (v := .ref a_this_states) (C := RX6) (T := TX6) (N := 16) hx hb hts hin_X6 hown hK hP 0 rfl rfl 7 (by decide) w_22 (fun _ h9 => h9) rfl dX6_numberOf_3 ?_
      refine lv_iload_n hx hb dX6_numberOf_6 rfl (lv_at hl 2 rfl) ?_
      obtain ⟨hg_7, hden⟩ := grd_s hden
      refine va_iald hx hb hK hP 1 0 rfl rfl (inb_in hg_7) dX6_numberOf_7 ?_
      refine lv_iload_n hx hb dX6_numberOf_8 rfl (lv_at hl 1 rfl) ?_
      refine lv_icmp_eq (tgt := 18) hx hb dX6_numberOf_9 (by decide) (fun c_9 => ?_) (fun c_9 => ?_)
      · have hden := if_s hden c_9
        refine lv_iload_n hx hb dX6_numberOf_18 rfl (lv_at hl 2 rfl) ?_
        subst hQe
        cases hden
        exact m_ri hx hb hr hP hD hS [0, 1] (by decide) rfl rfl dX6_numberOf_19 hlocks
      · have hden := ifn_s hden c_9
        obtain ⟨x2_8, ex2_8, hden⟩ := nm_x hden
        refine lv_iinc (v := x2_8) (lv' := [(2, .int x2_8), (0, .ref a_this), (1, .int p1)]) hx hb dX6_numberOf_12 hl (k := 2) rfl (by rw [ex2_8]; rfl) (by decide) rfl (fun ls hl => ?_)
        refine lv_goto (tgt := 2) hx hb dX6_numberOf_15 (by decide) ?_
        exact ih x2_8 _ _ (mSubP hP [0, 1] rfl) (hD.sub [0, 1] (by decide) rfl) hS ls (lv_sub hl [1, 2, 0] rfl) hden
  exact hL2__6 F 0 _ _ (mSubP hP [0, 1] rfl) (hD.sub [0, 1] (by decide) rfl) hS ls (lv_sub hl [1, 2, 0] rfl) hden
def D_X6_manyStates (F : Nat) (v_states : (Nat → Int32)) (v_many : Int32) (v_s : (Nat → Int32)) : Option (Int32 × (Nat → Int32) × Int32) := bnd (D_X6_list F v_states v_many v_s) (fun (v_states_1, v_many_2) => some (v_many_2, v_states_1, v_many_2))
def rm_X6_manyStates : Room := { frames := 3, cells := 0, slots := 0, locals := 64 }
set_option maxHeartbeats 4000000 in
set_option maxRecDepth 100000 in
theorem c_X6_manyStates (l : Launch) (D : va_G) (cI cM cL : ClassId) (F : Nat) {a_this a_this_s a_this_aside a_this_saved a_this_text a_this_states a_this_rows : Nat} {sz : Nat} {v_thrown v_savedMany v_length v_many v_at v_isWrong v_letters v_matched v_manyRows : Int32} {v_digested : Int64} {v_states v_s : Nat → Int32} {r0 : Int32} {w_states : (Nat → Int32)} {w_many : Int32} (hden : D_X6_manyStates F v_states v_many v_s = some (r0, w_states, w_many)) : Met l yX6_manyStates wsX6_manyStates rm_X6_manyStates (va_Pc [.ref a_this] (mB D (mTy cI cM cL) sz [(a_this, .inr (5, [.int v_thrown, .ref a_this_s, .ref a_this_aside, .ref a_this_saved, .int v_savedMany, .ref a_this_text, .int v_length, .ref a_this_states, .int v_many, .int v_at, .int v_isWrong, .int v_letters, .int v_matched, .ref a_this_rows, .int v_manyRows, .long v_digested])), (a_this_states, .inl (cI, 66, .inl v_states)), (a_this_s, .inl (cI, 31, .inl v_s))])) (mQi D (va_A [(a_this, .inr (5, [.int v_thrown, .ref a_this_s, .ref a_this_aside, .ref a_this_saved, .int v_savedMany, .ref a_this_text, .int v_length, .ref a_this_states, .int v_many, .int v_at, .int v_isWrong, .int v_letters, .int v_matched, .ref a_this_rows, .int v_manyRows, .long v_digested])), (a_this_states, .inl (cI, 66, .inl v_states)), (a_this_s, .inl (cI, 31, .inl v_s))] sz) [(a_this, .inr (5, [.int v_thrown, .ref a_this_s, .ref a_this_aside, .ref a_this_saved, .int v_savedMany, .ref a_this_text, .int v_length, .ref a_this_states, .int w_many, .int v_at, .int v_isWrong, .int v_letters, .int v_matched, .ref a_this_rows, .int v_manyRows, .long v_digested])), (a_this_states, .inl (cI, 66, .inl w_states)), (a_this_s, .inl (cI, 31, .inl v_s))] r0) 0 0 (va_A [(a_this, .inr (5, [.int v_thrown, .ref a_this_s, .ref a_this_aside, .ref a_this_saved, .int v_savedMany, .ref a_this_text, .int v_length, .ref a_this_states, .int v_many, .int v_at, .int v_isWrong, .int v_letters, .int v_matched, .ref a_this_rows, .int v_manyRows, .long v_digested])), (a_this_states, .inl (cI, 66, .inl v_states)), (a_this_s, .inl (cI, 31, .inl v_s))] sz) := by
  refine Met.ofW (cc := cX6_manyStates) (maxL := 1) (ret := (some .int)) (by decide) rfl ?_
  intro p e s m args below meth c s₁ B hml hv
  obtain ⟨rfl, hsz, hP, hK, hN, hD0⟩ := hv
  have hx := B.exec
  have hb := B.bytes
  have hr := B.returns
  have hts := atoms_spec (ws := wsX6_manyStates) B.pre
  have hown : s.vm.findClass RX6 = some m.cls := findClass_of_methodNamed B.named
  have hlocks := B.notSynchronized
  subst hsz
  have hD := hD0.self (sz := s.heap.size)
  generalize hAe : va_A [(a_this, .inr (5, [.int v_thrown, .ref a_this_s, .ref a_this_aside, .ref a_this_saved, .int v_savedMany, .ref a_this_text, .int v_length, .ref a_this_states, .int v_many, .int v_at, .int v_isWrong, .int v_letters, .int v_matched, .ref a_this_rows, .int v_manyRows, .long v_digested])), (a_this_states, .inl (cI, 66, .inl v_states)), (a_this_s, .inl (cI, 31, .inl v_s))] s.heap.size = A at hD ⊢
  have hA : ∀ q : Nat, s.heap.size ≤ q → A q := fun q h => by rw [← hAe]; exact Or.inr h
  have hS : va_S A s.heap s.heap [] := va_S.rf
  have hl := lv_entry ([.ref a_this]) (n := 1) (Nat.le_of_ble_eq_true rfl)
  rw [lg_entry_eq]
  generalize (lg_sl ([.ref a_this]) ++ List.replicate (1 - (lg_sl ([.ref a_this])).length) Slot.unset).toArray = ls at hl ⊢
  have hl : lv_has ls 1 [(0, .ref a_this)] := hl
  change W p l e rm_X6_manyStates s m (([.ref a_this] : List Value).toArray) below meth c s.heap [] 0 0 _ (F0 m 0 ls [])
  generalize hQe : MQ below (mQi D A [(a_this, .inr (5, [.int v_thrown, .ref a_this_s, .ref a_this_aside, .ref a_this_saved, .int v_savedMany, .ref a_this_text, .int v_length, .ref a_this_states, .int w_many, .int v_at, .int v_isWrong, .int v_letters, .int v_matched, .ref a_this_rows, .int v_manyRows, .long v_digested])), (a_this_states, .inl (cI, 66, .inl w_states)), (a_this_s, .inl (cI, 31, .inl v_s))] r0) (([.ref a_this] : List Value).toArray) s 0 0 A = Q
  rw [D_X6_manyStates] at hden
  have hin_X6 : ∀ w ∈ wsX60, w ∈ wsX6_manyStates := by decide +kernel
  have w_76 := hts (.fieldLink RX6 76 "FallingPatternsModel" "many" "I") (by decide +kernel)
  refine lv_aload_n hx hb dX6_manyStates_0 rfl (lv_at hl 0 rfl) ?_
  obtain ⟨⟨v_states_1, v_many_2⟩, hc_3, hden⟩ := bnd_s hden
  refine m_cv (wc := [(a_this, .inr (5, [.int v_thrown, .ref a_this_s, .ref a_this_aside, .ref a_this_saved, .int v_savedMany, .ref a_this_text, .int v_length, .ref a_this_states, .int v_many, .int v_at, .int v_isWrong, .int v_letters, .int v_matched, .ref a_this_rows, .int v_manyRows, .long v_digested])), (a_this_states, .inl (cI, 66, .inl v_states)), (a_this_s, .inl (cI, 31, .inl v_s))]) (wr := []) (wc' := [(a_this, .inr (5, [.int v_thrown, .ref a_this_s, .ref a_this_aside, .ref a_this_saved, .int v_savedMany, .ref a_this_text, .int v_length, .ref a_this_states, .int v_many_2, .int v_at, .int v_isWrong, .int v_letters, .int v_matched, .ref a_this_rows, .int v_manyRows, .long v_digested])), (a_this_states, .inl (cI, 66, .inl v_states_1)), (a_this_s, .inl (cI, 31, .inl v_s))]) (va_runV (As := []) (rest := []) ⟨hx, hb, hml, hown, hts⟩ (c_X6_list l D cI cM cL F hc_3) (cwV 0 hts gX6_manyStates_X6_list rfl rfl rfl (by decide +kernel) ⟨Nat.le_of_ble_eq_true rfl, Nat.le_of_ble_eq_true rfl⟩) (mPreV (ci := 5) (q0 := 0) (r := (RX6, TX6, 16)) hP hD hK hN [0, 1, 2] (by decide) rfl rfl rfl) rfl rfl hl.1 rfl (lv_room (Nat.le_of_ble_eq_true rfl)) dX6_manyStates_1 ⟨Nat.le_of_ble_eq_true rfl, Nat.le_of_ble_eq_true rfl⟩) hP hD hS hA [0, 1, 2] [] rfl rfl (by decide) (by decide) (fun H locs hP hD hS => ?_)
  have hP : va_P D vwCl [(a_this, .inr (5, [.int v_thrown, .ref a_this_s, .ref a_this_aside, .ref a_this_saved, .int v_savedMany, .ref a_this_text, .int v_length, .ref a_this_states, .int v_many_2, .int v_at, .int v_isWrong, .int v_letters, .int v_matched, .ref a_this_rows, .int v_manyRows, .long v_digested])), (a_this_states, .inl (cI, 66, .inl v_states_1)), (a_this_s, .inl (cI, 31, .inl v_s))] H := hP
  have hD : va_D A [(a_this, .inr (5, [.int v_thrown, .ref a_this_s, .ref a_this_aside, .ref a_this_saved, .int v_savedMany, .ref a_this_text, .int v_length, .ref a_this_states, .int v_many_2, .int v_at, .int v_isWrong, .int v_letters, .int v_matched, .ref a_this_rows, .int v_manyRows, .long v_digested])), (a_this_states, .inl (cI, 66, .inl v_states_1)), (a_this_s, .inl (cI, 31, .inl v_s))] := hD
  refine lv_aload_n hx hb dX6_manyStates_4 rfl (lv_at hl 0 rfl) ?_
  refine va_get (D := D) (ci := 5) (v := .int v_many_2) (C := RX6) (T := TX6) (N := 16) hx hb hts hin_X6 hown hK hP 0 rfl rfl 8 (by decide) w_76 (fun _ h9 => h9) rfl dX6_manyStates_5 ?_
  subst hQe
  cases hden
  exact m_ri hx hb hr hP hD hS [0, 1, 2] (by decide) rfl rfl dX6_manyStates_8 hlocks
def L_X6_ending_4 (F : Nat) (y1 : Int32) (v_s : (Nat → Int32)) : Nat → Int32 → Int32 → Option (Int32)
  | 0, _, _ => none
  | n + 1, x2_1, x3_2 => (if 8 ≤ x3_2 then some (x2_1) else bnd (D_X6_isThere F x3_2 v_s) (fun r_3 => (if r_3 = 0 then nm (x2_1 ||| 0) (fun x2_5 => nm (x3_2 + 1) (fun x3_6 => L_X6_ending_4 F y1 v_s n x2_5 x3_6)) else grd (inb ((0 : Int32) + x3_2) 31) (bnd (D_X6_isEnd F y1 (v_s ((0 : Int32) + x3_2).toNatClampNeg)) (fun r_8 => (if r_8 = 0 then nm (x2_1 ||| 0) (fun x2_10 => nm (x3_2 + 1) (fun x3_11 => L_X6_ending_4 F y1 v_s n x2_10 x3_11)) else nm (x2_1 ||| ((1 : Int32) <<< (x3_2 &&& 31))) (fun x2_12 => nm (x3_2 + 1) (fun x3_13 => L_X6_ending_4 F y1 v_s n x2_12 x3_13))))))))
def D_X6_ending (F : Nat) (p1 : Int32) (v_s : (Nat → Int32)) : Option (Int32) := L_X6_ending_4 F p1 v_s F 0 0
def rm_X6_ending : Room := { frames := 2, cells := 0, slots := 0, locals := 42 }
set_option maxHeartbeats 4000000 in
set_option maxRecDepth 100000 in
theorem c_X6_ending (l : Launch) (D : va_G) (cI cM cL : ClassId) (F : Nat) {a_this a_this_s a_this_aside a_this_saved a_this_text a_this_states a_this_rows : Nat} {sz : Nat} {v_thrown v_savedMany v_length v_many v_at v_isWrong v_letters v_matched v_manyRows : Int32} {v_digested : Int64} {v_s : Nat → Int32} {p1 : Int32} {r0 : Int32} (hden : D_X6_ending F p1 v_s = some (r0)) : Met l yX6_ending wsX6_ending rm_X6_ending (va_Pc [.ref a_this, .int p1] (mB D (mTy cI cM cL) sz [(a_this, .inr (5, [.int v_thrown, .ref a_this_s, .ref a_this_aside, .ref a_this_saved, .int v_savedMany, .ref a_this_text, .int v_length, .ref a_this_states, .int v_many, .int v_at, .int v_isWrong, .int v_letters, .int v_matched, .ref a_this_rows, .int v_manyRows, .long v_digested])), (a_this_s, .inl (cI, 31, .inl v_s))])) (mQi D (va_A [(a_this, .inr (5, [.int v_thrown, .ref a_this_s, .ref a_this_aside, .ref a_this_saved, .int v_savedMany, .ref a_this_text, .int v_length, .ref a_this_states, .int v_many, .int v_at, .int v_isWrong, .int v_letters, .int v_matched, .ref a_this_rows, .int v_manyRows, .long v_digested])), (a_this_s, .inl (cI, 31, .inl v_s))] sz) [(a_this, .inr (5, [.int v_thrown, .ref a_this_s, .ref a_this_aside, .ref a_this_saved, .int v_savedMany, .ref a_this_text, .int v_length, .ref a_this_states, .int v_many, .int v_at, .int v_isWrong, .int v_letters, .int v_matched, .ref a_this_rows, .int v_manyRows, .long v_digested])), (a_this_s, .inl (cI, 31, .inl v_s))] r0) 0 0 (va_A [(a_this, .inr (5, [.int v_thrown, .ref a_this_s, .ref a_this_aside, .ref a_this_saved, .int v_savedMany, .ref a_this_text, .int v_length, .ref a_this_states, .int v_many, .int v_at, .int v_isWrong, .int v_letters, .int v_matched, .ref a_this_rows, .int v_manyRows, .long v_digested])), (a_this_s, .inl (cI, 31, .inl v_s))] sz) := by
  refine Met.ofW (cc := cX6_ending) (maxL := 4) (ret := (some .int)) (by decide) rfl ?_
  intro p e s m args below meth c s₁ B hml hv
  obtain ⟨rfl, hsz, hP, hK, hN, hD0⟩ := hv
  have hx := B.exec
  have hb := B.bytes
  have hr := B.returns
  have hts := atoms_spec (ws := wsX6_ending) B.pre
  have hown : s.vm.findClass RX6 = some m.cls := findClass_of_methodNamed B.named
  have hlocks := B.notSynchronized
  subst hsz
  have hD := hD0.self (sz := s.heap.size)
  generalize hAe : va_A [(a_this, .inr (5, [.int v_thrown, .ref a_this_s, .ref a_this_aside, .ref a_this_saved, .int v_savedMany, .ref a_this_text, .int v_length, .ref a_this_states, .int v_many, .int v_at, .int v_isWrong, .int v_letters, .int v_matched, .ref a_this_rows, .int v_manyRows, .long v_digested])), (a_this_s, .inl (cI, 31, .inl v_s))] s.heap.size = A at hD ⊢
  have hA : ∀ q : Nat, s.heap.size ≤ q → A q := fun q h => by rw [← hAe]; exact Or.inr h
  have hS : va_S A s.heap s.heap [] := va_S.rf
  have hl := lv_entry ([.ref a_this, .int p1]) (n := 4) (Nat.le_of_ble_eq_true rfl)
  rw [lg_entry_eq]
  generalize (lg_sl ([.ref a_this, .int p1]) ++ List.replicate (4 - (lg_sl ([.ref a_this, .int p1])).length) Slot.unset).toArray = ls at hl ⊢
  have hl : lv_has ls 4 [(0, .ref a_this), (1, .int p1)] := hl
  change W p l e rm_X6_ending s m (([.ref a_this, .int p1] : List Value).toArray) below meth c s.heap [] 0 0 _ (F0 m 0 ls [])
  generalize hQe : MQ below (mQi D A [(a_this, .inr (5, [.int v_thrown, .ref a_this_s, .ref a_this_aside, .ref a_this_saved, .int v_savedMany, .ref a_this_text, .int v_length, .ref a_this_states, .int v_many, .int v_at, .int v_isWrong, .int v_letters, .int v_matched, .ref a_this_rows, .int v_manyRows, .long v_digested])), (a_this_s, .inl (cI, 31, .inl v_s))] r0) (([.ref a_this, .int p1] : List Value).toArray) s 0 0 A = Q
  rw [D_X6_ending] at hden
  have hin_X6 : ∀ w ∈ wsX60, w ∈ wsX6_ending := by decide +kernel
  have w_7 := hts (.fieldLink RX6 7 "FallingPatternsModel" "s" "[I") (by decide +kernel)
  refine lv_iconst (v := 0) hx hb dX6_ending_0 (by decide) ?_
  refine lv_istore_n (lv' := [(2, .int 0), (0, .ref a_this), (1, .int p1)]) hx hb dX6_ending_1 rfl hl (by decide) rfl (fun ls hl => ?_)
  refine lv_iconst (v := 0) hx hb dX6_ending_2 (by decide) ?_
  refine lv_istore_n (lv' := [(3, .int 0), (2, .int 0), (0, .ref a_this), (1, .int p1)]) hx hb dX6_ending_3 rfl hl (by decide) rfl (fun ls hl => ?_)
  have hL4__19 : ∀ (n : Nat) (x2_17 : Int32) (x3_18 : Int32) (H : Heap) (locs : List Loc), va_P D vwCl [(a_this, .inr (5, [.int v_thrown, .ref a_this_s, .ref a_this_aside, .ref a_this_saved, .int v_savedMany, .ref a_this_text, .int v_length, .ref a_this_states, .int v_many, .int v_at, .int v_isWrong, .int v_letters, .int v_matched, .ref a_this_rows, .int v_manyRows, .long v_digested])), (a_this_s, .inl (cI, 31, .inl v_s))] H → va_D A [(a_this, .inr (5, [.int v_thrown, .ref a_this_s, .ref a_this_aside, .ref a_this_saved, .int v_savedMany, .ref a_this_text, .int v_length, .ref a_this_states, .int v_many, .int v_at, .int v_isWrong, .int v_letters, .int v_matched, .ref a_this_rows, .int v_manyRows, .long v_digested])), (a_this_s, .inl (cI, 31, .inl v_s))] → va_S A s.heap H locs → ∀ ls : Array Slot, lv_has ls 4 [(0, .ref a_this), (1, .int p1), (2, .int x2_17), (3, .int x3_18)] → L_X6_ending_4 F p1 v_s n x2_17 x3_18 = some (r0) → W p l e rm_X6_ending s m (([.ref a_this, .int p1] : List Value).toArray) below meth c H locs 0 0 Q (F0 m 4 ls []) := by
    intro n
    induction n with
    | zero => intro x2_17 x3_18 H locs hP hD hS ls hl hden; exact no_none hden
    | succ n ih =>
      intro x2_17 x3_18 H locs hP hD hS ls hl hden
      rw [L_X6_ending_4] at hden
      refine lv_iload_n hx hb dX6_ending_4 rfl (lv_at hl 3 rfl) ?_
      refine lv_bipush (v := 8) hx hb dX6_ending_5 (by decide) ?_
      refine lv_icmp_ge (tgt := 49) hx hb dX6_ending_7 (by decide) (fun c_33 => ?_) (fun c_33 => ?_)
      · have hden := if_s hden c_33
        refine lv_iload_n hx hb dX6_ending_49 rfl (lv_at hl 2 rfl) ?_
        subst hQe
        cases hden
        exact m_ri hx hb hr hP hD hS [0, 1] (by decide) rfl rfl dX6_ending_50 hlocks
      · have hden := ifn_s hden c_33
        refine lv_iload_n hx hb dX6_ending_10 rfl (lv_at hl 2 rfl) ?_
        refine lv_aload_n hx hb dX6_ending_11 rfl (lv_at hl 0 rfl) ?_
        refine lv_iload_n hx hb dX6_ending_12 rfl (lv_at hl 3 rfl) ?_
        obtain ⟨r_20, hc_21, hden⟩ := bnd_s hden
        refine m_ci (wc := [(a_this, .inr (5, [.int v_thrown, .ref a_this_s, .ref a_this_aside, .ref a_this_saved, .int v_savedMany, .ref a_this_text, .int v_length, .ref a_this_states, .int v_many, .int v_at, .int v_isWrong, .int v_letters, .int v_matched, .ref a_this_rows, .int v_manyRows, .long v_digested])), (a_this_s, .inl (cI, 31, .inl v_s))]) (wr := []) (wc' := [(a_this, .inr (5, [.int v_thrown, .ref a_this_s, .ref a_this_aside, .ref a_this_saved, .int v_savedMany, .ref a_this_text, .int v_length, .ref a_this_states, .int v_many, .int v_at, .int v_isWrong, .int v_letters, .int v_matched, .ref a_this_rows, .int v_manyRows, .long v_digested])), (a_this_s, .inl (cI, 31, .inl v_s))]) (va_runV (As := [.int x3_18]) (rest := [.int x2_17]) ⟨hx, hb, hml, hown, hts⟩ (c_X6_isThere l D cI cM cL F hc_21) (cwV 1 hts gX6_ending_X6_isThere rfl rfl rfl (by decide +kernel) ⟨Nat.le_of_ble_eq_true rfl, Nat.le_of_ble_eq_true rfl⟩) (mPreV (ci := 5) (q0 := 0) (r := (RX6, TX6, 16)) hP hD hK hN [0, 1] (by decide) rfl rfl rfl) rfl rfl hl.1 rfl (lv_room (Nat.le_of_ble_eq_true rfl)) dX6_ending_13 ⟨Nat.le_of_ble_eq_true rfl, Nat.le_of_ble_eq_true rfl⟩) hP hD hS hA [0, 1] [] rfl rfl (by decide) (by decide) (fun H locs hP hD hS => ?_)
        have hP : va_P D vwCl [(a_this, .inr (5, [.int v_thrown, .ref a_this_s, .ref a_this_aside, .ref a_this_saved, .int v_savedMany, .ref a_this_text, .int v_length, .ref a_this_states, .int v_many, .int v_at, .int v_isWrong, .int v_letters, .int v_matched, .ref a_this_rows, .int v_manyRows, .long v_digested])), (a_this_s, .inl (cI, 31, .inl v_s))] H := hP
        have hD : va_D A [(a_this, .inr (5, [.int v_thrown, .ref a_this_s, .ref a_this_aside, .ref a_this_saved, .int v_savedMany, .ref a_this_text, .int v_length, .ref a_this_states, .int v_many, .int v_at, .int v_isWrong, .int v_letters, .int v_matched, .ref a_this_rows, .int v_manyRows, .long v_digested])), (a_this_s, .inl (cI, 31, .inl v_s))] := hD
        refine lv_if_eq (tgt := 40) hx hb dX6_ending_16 (by decide) (fun c_32 => ?_) (fun c_32 => ?_)
        · have hden := if_s hden c_32
          refine lv_iconst (v := 0) hx hb dX6_ending_40 (by decide) ?_
          refine lv_ior hx hb dX6_ending_41 ?_
          refine lv_topi (fun x2_22 ex2_22 => ?_)
          have hden := nm_s hden ex2_22
          refine lv_istore_n (lv' := [(2, .int x2_22), (0, .ref a_this), (1, .int p1), (3, .int x3_18)]) hx hb dX6_ending_42 rfl hl (by decide) rfl (fun ls hl => ?_)
          obtain ⟨x3_23, ex3_23, hden⟩ := nm_x hden
          refine lv_iinc (v := x3_23) (lv' := [(3, .int x3_23), (2, .int x2_22), (0, .ref a_this), (1, .int p1)]) hx hb dX6_ending_43 hl (k := 3) rfl (by rw [ex3_23]; rfl) (by decide) rfl (fun ls hl => ?_)
          refine lv_goto (tgt := 4) hx hb dX6_ending_46 (by decide) ?_
          exact ih x2_22 x3_23 _ _ (mSubP hP [0, 1] rfl) (hD.sub [0, 1] (by decide) rfl) hS ls (lv_sub hl [2, 3, 1, 0] rfl) hden
        · have hden := ifn_s hden c_32
          refine lv_iload_n hx hb dX6_ending_19 rfl (lv_at hl 1 rfl) ?_
          refine lv_aload_n hx hb dX6_ending_20 rfl (lv_at hl 0 rfl) ?_
          refine va_get (D := D) (ci := 5) (v := .ref a_this_s) (C := RX6) (T := TX6) (N := 16) hx hb hts hin_X6 hown hK hP 0 rfl rfl 1 (by decide) w_7 (fun _ h9 => h9) rfl dX6_ending_21 ?_
          refine lv_iconst (v := 0) hx hb dX6_ending_24 (by decide) ?_
          refine lv_iload_n hx hb dX6_ending_25 rfl (lv_at hl 3 rfl) ?_
          refine lv_iadd hx hb dX6_ending_26 ?_
          obtain ⟨hg_24, hden⟩ := grd_s hden
          refine va_iald hx hb hK hP 1 0 rfl rfl (inb_in hg_24) dX6_ending_27 ?_
          obtain ⟨r_25, hc_26, hden⟩ := bnd_s hden
          refine m_ci (wc := []) (wr := [(a_this, .inr (5, [.int v_thrown, .ref a_this_s, .ref a_this_aside, .ref a_this_saved, .int v_savedMany, .ref a_this_text, .int v_length, .ref a_this_states, .int v_many, .int v_at, .int v_isWrong, .int v_letters, .int v_matched, .ref a_this_rows, .int v_manyRows, .long v_digested])), (a_this_s, .inl (cI, 31, .inl v_s))]) (wc' := []) (va_runS (As := [.int p1, .int (v_s ((0 : Int32) + x3_18).toNatClampNeg)]) (rest := [.int x2_17]) ⟨hx, hb, hml, hown, hts⟩ (c_X6_isEnd l D cI cM cL F hc_26) (va_cwS 2 hts gX6_ending_X6_isEnd rfl rfl rfl (by decide +kernel) ⟨Nat.le_of_ble_eq_true rfl, Nat.le_of_ble_eq_true rfl⟩) (mPreS hP hD hK hN [] (by decide) rfl) rfl rfl hl.1 rfl (lv_room (Nat.le_of_ble_eq_true rfl)) dX6_ending_28 ⟨Nat.le_of_ble_eq_true rfl, Nat.le_of_ble_eq_true rfl⟩) hP hD hS hA [] [0, 1] rfl rfl (by decide) (by decide) (fun H locs hP hD hS => ?_)
          have hP : va_P D vwCl [(a_this, .inr (5, [.int v_thrown, .ref a_this_s, .ref a_this_aside, .ref a_this_saved, .int v_savedMany, .ref a_this_text, .int v_length, .ref a_this_states, .int v_many, .int v_at, .int v_isWrong, .int v_letters, .int v_matched, .ref a_this_rows, .int v_manyRows, .long v_digested])), (a_this_s, .inl (cI, 31, .inl v_s))] H := hP
          have hD : va_D A [(a_this, .inr (5, [.int v_thrown, .ref a_this_s, .ref a_this_aside, .ref a_this_saved, .int v_savedMany, .ref a_this_text, .int v_length, .ref a_this_states, .int v_many, .int v_at, .int v_isWrong, .int v_letters, .int v_matched, .ref a_this_rows, .int v_manyRows, .long v_digested])), (a_this_s, .inl (cI, 31, .inl v_s))] := hD
          refine lv_if_eq (tgt := 40) hx hb dX6_ending_31 (by decide) (fun c_31 => ?_) (fun c_31 => ?_)
          · have hden := if_s hden c_31
            refine lv_iconst (v := 0) hx hb dX6_ending_40 (by decide) ?_
            refine lv_ior hx hb dX6_ending_41 ?_
            refine lv_topi (fun x2_27 ex2_27 => ?_)
            have hden := nm_s hden ex2_27
            refine lv_istore_n (lv' := [(2, .int x2_27), (0, .ref a_this), (1, .int p1), (3, .int x3_18)]) hx hb dX6_ending_42 rfl hl (by decide) rfl (fun ls hl => ?_)
            obtain ⟨x3_28, ex3_28, hden⟩ := nm_x hden
            refine lv_iinc (v := x3_28) (lv' := [(3, .int x3_28), (2, .int x2_27), (0, .ref a_this), (1, .int p1)]) hx hb dX6_ending_43 hl (k := 3) rfl (by rw [ex3_28]; rfl) (by decide) rfl (fun ls hl => ?_)
            refine lv_goto (tgt := 4) hx hb dX6_ending_46 (by decide) ?_
            exact ih x2_27 x3_28 _ _ (mSubP hP [0, 1] rfl) (hD.sub [0, 1] (by decide) rfl) hS ls (lv_sub hl [2, 3, 1, 0] rfl) hden
          · have hden := ifn_s hden c_31
            refine lv_iconst (v := 1) hx hb dX6_ending_34 (by decide) ?_
            refine lv_iload_n hx hb dX6_ending_35 rfl (lv_at hl 3 rfl) ?_
            refine lv_ishl hx hb dX6_ending_36 ?_
            refine lv_goto (tgt := 41) hx hb dX6_ending_37 (by decide) ?_
            refine lv_ior hx hb dX6_ending_41 ?_
            refine lv_topi (fun x2_29 ex2_29 => ?_)
            have hden := nm_s hden ex2_29
            refine lv_istore_n (lv' := [(2, .int x2_29), (0, .ref a_this), (1, .int p1), (3, .int x3_18)]) hx hb dX6_ending_42 rfl hl (by decide) rfl (fun ls hl => ?_)
            obtain ⟨x3_30, ex3_30, hden⟩ := nm_x hden
            refine lv_iinc (v := x3_30) (lv' := [(3, .int x3_30), (2, .int x2_29), (0, .ref a_this), (1, .int p1)]) hx hb dX6_ending_43 hl (k := 3) rfl (by rw [ex3_30]; rfl) (by decide) rfl (fun ls hl => ?_)
            refine lv_goto (tgt := 4) hx hb dX6_ending_46 (by decide) ?_
            exact ih x2_29 x3_30 _ _ (mSubP hP [0, 1] rfl) (hD.sub [0, 1] (by decide) rfl) hS ls (lv_sub hl [2, 3, 1, 0] rfl) hden
  exact hL4__19 F 0 0 _ _ (mSubP hP [0, 1] rfl) (hD.sub [0, 1] (by decide) rfl) hS ls (lv_sub hl [2, 3, 1, 0] rfl) hden
def L_X6_counting_5 (F : Nat) (k118 : Int32 → Option (Int32)) (y1 : Int32) (y2 : Int32) (v_s : (Nat → Int32)) : Nat → Int32 → Int32 → Option (Int32)
  | 0, _, _ => none
  | n + 1, x3_1, x4_2 => (if 8 ≤ x4_2 then k118 x3_1 else jp (fun (t_3 : Int32) => jp (fun (t_4 : Int32) => (if t_4 = 0 then nm (x4_2 + 1) (fun x4_5 => L_X6_counting_5 F k118 y1 y2 v_s n x3_1 x4_5) else (if x3_1 = (-1) then nm (x4_2 + 1) (fun x4_6 => L_X6_counting_5 F k118 y1 y2 v_s n x4_2 x4_6) else grd (inb ((0 : Int32) + x3_1) 31) (bnd (D_X6_lengthOf F (v_s ((0 : Int32) + x3_1).toNatClampNeg)) (fun r_8 => (if t_3 ≤ r_8 then nm (x4_2 + 1) (fun x4_10 => L_X6_counting_5 F k118 y1 y2 v_s n x3_1 x4_10) else nm (x4_2 + 1) (fun x4_11 => L_X6_counting_5 F k118 y1 y2 v_s n x4_2 x4_11))))))) (fun j77 => jp (fun (_ : Unit) => j77 0) (fun j76 => (if t_3 ≤ 0 then j76 () else grd (inb 24 31) (jp (fun (_ : Unit) => j77 1) (fun j72 => (if (v_s (24 : Int32).toNatClampNeg) < 2 then j72 () else grd (inb 28 31) ((if ((y2 - t_3) + 1) ≤ (v_s (28 : Int32).toNatClampNeg) then j76 () else j72 ()))))))))) (fun j38 => (if ((y1 >>> (x4_2 &&& 31)) &&& 1) = 1 then grd (inb ((0 : Int32) + x4_2) 31) (bnd (D_X6_lengthOf F (v_s ((0 : Int32) + x4_2).toNatClampNeg)) (fun r_21 => j38 r_21)) else j38 0)))
def D_X6_counting (F : Nat) (p1 : Int32) (p2 : Int32) (v_s : (Nat → Int32)) : Option (Int32) := L_X6_counting_5 F (fun (x3_27 : Int32) => grd (inb 24 31) ((if (v_s (24 : Int32).toNatClampNeg) = 0 then some (p1) else (if x3_27 = (-1) then some (0) else some (((1 : Int32) <<< (x3_27 &&& 31))))))) p1 p2 v_s F (-1) 0
def rm_X6_counting : Room := { frames := 1, cells := 0, slots := 0, locals := 21 }
set_option maxHeartbeats 4000000 in
set_option maxRecDepth 100000 in
theorem c_X6_counting (l : Launch) (D : va_G) (cI cM cL : ClassId) (F : Nat) {a_this a_this_s a_this_aside a_this_saved a_this_text a_this_states a_this_rows : Nat} {sz : Nat} {v_thrown v_savedMany v_length v_many v_at v_isWrong v_letters v_matched v_manyRows : Int32} {v_digested : Int64} {v_s : Nat → Int32} {p1 : Int32} {p2 : Int32} {r0 : Int32} (hden : D_X6_counting F p1 p2 v_s = some (r0)) : Met l yX6_counting wsX6_counting rm_X6_counting (va_Pc [.ref a_this, .int p1, .int p2] (mB D (mTy cI cM cL) sz [(a_this, .inr (5, [.int v_thrown, .ref a_this_s, .ref a_this_aside, .ref a_this_saved, .int v_savedMany, .ref a_this_text, .int v_length, .ref a_this_states, .int v_many, .int v_at, .int v_isWrong, .int v_letters, .int v_matched, .ref a_this_rows, .int v_manyRows, .long v_digested])), (a_this_s, .inl (cI, 31, .inl v_s))])) (mQi D (va_A [(a_this, .inr (5, [.int v_thrown, .ref a_this_s, .ref a_this_aside, .ref a_this_saved, .int v_savedMany, .ref a_this_text, .int v_length, .ref a_this_states, .int v_many, .int v_at, .int v_isWrong, .int v_letters, .int v_matched, .ref a_this_rows, .int v_manyRows, .long v_digested])), (a_this_s, .inl (cI, 31, .inl v_s))] sz) [(a_this, .inr (5, [.int v_thrown, .ref a_this_s, .ref a_this_aside, .ref a_this_saved, .int v_savedMany, .ref a_this_text, .int v_length, .ref a_this_states, .int v_many, .int v_at, .int v_isWrong, .int v_letters, .int v_matched, .ref a_this_rows, .int v_manyRows, .long v_digested])), (a_this_s, .inl (cI, 31, .inl v_s))] r0) 0 0 (va_A [(a_this, .inr (5, [.int v_thrown, .ref a_this_s, .ref a_this_aside, .ref a_this_saved, .int v_savedMany, .ref a_this_text, .int v_length, .ref a_this_states, .int v_many, .int v_at, .int v_isWrong, .int v_letters, .int v_matched, .ref a_this_rows, .int v_manyRows, .long v_digested])), (a_this_s, .inl (cI, 31, .inl v_s))] sz) := by
  refine Met.ofW (cc := cX6_counting) (maxL := 7) (ret := (some .int)) (by decide) rfl ?_
  intro p e s m args below meth c s₁ B hml hv
  obtain ⟨rfl, hsz, hP, hK, hN, hD0⟩ := hv
  have hx := B.exec
  have hb := B.bytes
  have hr := B.returns
  have hts := atoms_spec (ws := wsX6_counting) B.pre
  have hown : s.vm.findClass RX6 = some m.cls := findClass_of_methodNamed B.named
  have hlocks := B.notSynchronized
  subst hsz
  have hD := hD0.self (sz := s.heap.size)
  generalize hAe : va_A [(a_this, .inr (5, [.int v_thrown, .ref a_this_s, .ref a_this_aside, .ref a_this_saved, .int v_savedMany, .ref a_this_text, .int v_length, .ref a_this_states, .int v_many, .int v_at, .int v_isWrong, .int v_letters, .int v_matched, .ref a_this_rows, .int v_manyRows, .long v_digested])), (a_this_s, .inl (cI, 31, .inl v_s))] s.heap.size = A at hD ⊢
  have hA : ∀ q : Nat, s.heap.size ≤ q → A q := fun q h => by rw [← hAe]; exact Or.inr h
  have hS : va_S A s.heap s.heap [] := va_S.rf
  have hl := lv_entry ([.ref a_this, .int p1, .int p2]) (n := 7) (Nat.le_of_ble_eq_true rfl)
  rw [lg_entry_eq]
  generalize (lg_sl ([.ref a_this, .int p1, .int p2]) ++ List.replicate (7 - (lg_sl ([.ref a_this, .int p1, .int p2])).length) Slot.unset).toArray = ls at hl ⊢
  have hl : lv_has ls 7 [(0, .ref a_this), (1, .int p1), (2, .int p2)] := hl
  change W p l e rm_X6_counting s m (([.ref a_this, .int p1, .int p2] : List Value).toArray) below meth c s.heap [] 0 0 _ (F0 m 0 ls [])
  generalize hQe : MQ below (mQi D A [(a_this, .inr (5, [.int v_thrown, .ref a_this_s, .ref a_this_aside, .ref a_this_saved, .int v_savedMany, .ref a_this_text, .int v_length, .ref a_this_states, .int v_many, .int v_at, .int v_isWrong, .int v_letters, .int v_matched, .ref a_this_rows, .int v_manyRows, .long v_digested])), (a_this_s, .inl (cI, 31, .inl v_s))] r0) (([.ref a_this, .int p1, .int p2] : List Value).toArray) s 0 0 A = Q
  rw [D_X6_counting] at hden
  have hin_X6 : ∀ w ∈ wsX60, w ∈ wsX6_counting := by decide +kernel
  have w_7 := hts (.fieldLink RX6 7 "FallingPatternsModel" "s" "[I") (by decide +kernel)
  refine lv_iconst (v := (-1)) hx hb dX6_counting_0 (by decide) ?_
  refine lv_istore_n (lv' := [(3, .int (-1)), (0, .ref a_this), (1, .int p1), (2, .int p2)]) hx hb dX6_counting_1 rfl hl (by decide) rfl (fun ls hl => ?_)
  refine lv_iconst (v := 0) hx hb dX6_counting_2 (by decide) ?_
  refine lv_istore (lv' := [(4, .int 0), (3, .int (-1)), (0, .ref a_this), (1, .int p1), (2, .int p2)]) hx hb dX6_counting_3 hl (by decide) rfl (fun ls hl => ?_)
  have hL5__28 : ∀ (k118 : Int32 → Option (Int32)), (∀ (x3_27 : Int32) (H : Heap) (locs : List Loc), va_P D vwCl [(a_this, .inr (5, [.int v_thrown, .ref a_this_s, .ref a_this_aside, .ref a_this_saved, .int v_savedMany, .ref a_this_text, .int v_length, .ref a_this_states, .int v_many, .int v_at, .int v_isWrong, .int v_letters, .int v_matched, .ref a_this_rows, .int v_manyRows, .long v_digested])), (a_this_s, .inl (cI, 31, .inl v_s))] H → va_D A [(a_this, .inr (5, [.int v_thrown, .ref a_this_s, .ref a_this_aside, .ref a_this_saved, .int v_savedMany, .ref a_this_text, .int v_length, .ref a_this_states, .int v_many, .int v_at, .int v_isWrong, .int v_letters, .int v_matched, .ref a_this_rows, .int v_manyRows, .long v_digested])), (a_this_s, .inl (cI, 31, .inl v_s))] → va_S A s.heap H locs → ∀ ls : Array Slot, lv_has ls 7 [(0, .ref a_this), (1, .int p1), (3, .int x3_27)] → k118 x3_27 = some (r0) → W p l e rm_X6_counting s m (([.ref a_this, .int p1, .int p2] : List Value).toArray) below meth c H locs 0 0 Q (F0 m 118 ls [])) → ∀ (n : Nat) (x3_25 : Int32) (x4_26 : Int32) (H : Heap) (locs : List Loc), va_P D vwCl [(a_this, .inr (5, [.int v_thrown, .ref a_this_s, .ref a_this_aside, .ref a_this_saved, .int v_savedMany, .ref a_this_text, .int v_length, .ref a_this_states, .int v_many, .int v_at, .int v_isWrong, .int v_letters, .int v_matched, .ref a_this_rows, .int v_manyRows, .long v_digested])), (a_this_s, .inl (cI, 31, .inl v_s))] H → va_D A [(a_this, .inr (5, [.int v_thrown, .ref a_this_s, .ref a_this_aside, .ref a_this_saved, .int v_savedMany, .ref a_this_text, .int v_length, .ref a_this_states, .int v_many, .int v_at, .int v_isWrong, .int v_letters, .int v_matched, .ref a_this_rows, .int v_manyRows, .long v_digested])), (a_this_s, .inl (cI, 31, .inl v_s))] → va_S A s.heap H locs → ∀ ls : Array Slot, lv_has ls 7 [(0, .ref a_this), (1, .int p1), (2, .int p2), (3, .int x3_25), (4, .int x4_26)] → L_X6_counting_5 F k118 p1 p2 v_s n x3_25 x4_26 = some (r0) → W p l e rm_X6_counting s m (([.ref a_this, .int p1, .int p2] : List Value).toArray) below meth c H locs 0 0 Q (F0 m 5 ls []) := by
    intro k118 hk118 n
    induction n with
    | zero => intro x3_25 x4_26 H locs hP hD hS ls hl hden; exact no_none hden
    | succ n ih =>
      intro x3_25 x4_26 H locs hP hD hS ls hl hden
      rw [L_X6_counting_5] at hden
      refine lv_iload hx hb dX6_counting_5 (lv_at hl 4 rfl) ?_
      refine lv_bipush (v := 8) hx hb dX6_counting_7 (by decide) ?_
      refine lv_icmp_ge (tgt := 118) hx hb dX6_counting_9 (by decide) (fun c_50 => ?_) (fun c_50 => ?_)
      · have hden := if_s hden c_50
        exact hk118 x3_25 _ _ (mSubP hP [0, 1] rfl) (hD.sub [0, 1] (by decide) rfl) hS ls (lv_sub hl [0, 1, 3] rfl) hden
      · have hden := ifn_s hden c_50
        refine lv_iload_n hx hb dX6_counting_12 rfl (lv_at hl 1 rfl) ?_
        refine lv_iload hx hb dX6_counting_13 (lv_at hl 4 rfl) ?_
        refine lv_ishr hx hb dX6_counting_15 ?_
        refine lv_iconst (v := 1) hx hb dX6_counting_16 (by decide) ?_
        refine lv_iand hx hb dX6_counting_17 ?_
        refine lv_iconst (v := 1) hx hb dX6_counting_18 (by decide) ?_
        obtain ⟨j38, ej38, hden⟩ := jp_s hden
        have hj38 : ∀ (t_29 : Int32) (H : Heap) (locs : List Loc), va_P D vwCl [(a_this, .inr (5, [.int v_thrown, .ref a_this_s, .ref a_this_aside, .ref a_this_saved, .int v_savedMany, .ref a_this_text, .int v_length, .ref a_this_states, .int v_many, .int v_at, .int v_isWrong, .int v_letters, .int v_matched, .ref a_this_rows, .int v_manyRows, .long v_digested])), (a_this_s, .inl (cI, 31, .inl v_s))] H → va_D A [(a_this, .inr (5, [.int v_thrown, .ref a_this_s, .ref a_this_aside, .ref a_this_saved, .int v_savedMany, .ref a_this_text, .int v_length, .ref a_this_states, .int v_many, .int v_at, .int v_isWrong, .int v_letters, .int v_matched, .ref a_this_rows, .int v_manyRows, .long v_digested])), (a_this_s, .inl (cI, 31, .inl v_s))] → va_S A s.heap H locs → ∀ ls : Array Slot, lv_has ls 7 [(0, .ref a_this), (1, .int p1), (2, .int p2), (3, .int x3_25), (4, .int x4_26)] → j38 t_29 = some (r0) → W p l e rm_X6_counting s m (([.ref a_this, .int p1, .int p2] : List Value).toArray) below meth c H locs 0 0 Q (F0 m 38 ls [.int t_29]) := by
          intro t_29 H locs hP hD hS ls hl hden
          rw [ej38] at hden
          refine lv_istore (lv' := [(5, .int t_29), (0, .ref a_this), (1, .int p1), (2, .int p2), (3, .int x3_25), (4, .int x4_26)]) hx hb dX6_counting_38 hl (by decide) rfl (fun ls hl => ?_)
          refine lv_iload hx hb dX6_counting_40 (lv_at hl 0 rfl) ?_
          obtain ⟨j77, ej77, hden⟩ := jp_s hden
          have hj77 : ∀ (t_30 : Int32) (H : Heap) (locs : List Loc), va_P D vwCl [(a_this, .inr (5, [.int v_thrown, .ref a_this_s, .ref a_this_aside, .ref a_this_saved, .int v_savedMany, .ref a_this_text, .int v_length, .ref a_this_states, .int v_many, .int v_at, .int v_isWrong, .int v_letters, .int v_matched, .ref a_this_rows, .int v_manyRows, .long v_digested])), (a_this_s, .inl (cI, 31, .inl v_s))] H → va_D A [(a_this, .inr (5, [.int v_thrown, .ref a_this_s, .ref a_this_aside, .ref a_this_saved, .int v_savedMany, .ref a_this_text, .int v_length, .ref a_this_states, .int v_many, .int v_at, .int v_isWrong, .int v_letters, .int v_matched, .ref a_this_rows, .int v_manyRows, .long v_digested])), (a_this_s, .inl (cI, 31, .inl v_s))] → va_S A s.heap H locs → ∀ ls : Array Slot, lv_has ls 7 [(0, .ref a_this), (1, .int p1), (2, .int p2), (3, .int x3_25), (4, .int x4_26), (5, .int t_29)] → j77 t_30 = some (r0) → W p l e rm_X6_counting s m (([.ref a_this, .int p1, .int p2] : List Value).toArray) below meth c H locs 0 0 Q (F0 m 77 ls [.int t_30]) := by
            intro t_30 H locs hP hD hS ls hl hden
            rw [ej77] at hden
            refine lv_istore (lv' := [(6, .int t_30), (0, .ref a_this), (1, .int p1), (2, .int p2), (3, .int x3_25), (4, .int x4_26), (5, .int t_29)]) hx hb dX6_counting_77 hl (by decide) rfl (fun ls hl => ?_)
            refine lv_iload hx hb dX6_counting_79 (lv_at hl 0 rfl) ?_
            refine lv_if_eq (tgt := 110) hx hb dX6_counting_81 (by decide) (fun c_40 => ?_) (fun c_40 => ?_)
            · have hden := if_s hden c_40
              refine lv_iload_n hx hb dX6_counting_110 rfl (lv_at hl 4 rfl) ?_
              refine lv_istore_n (lv' := [(3, .int x3_25), (6, .int t_30), (0, .ref a_this), (1, .int p1), (2, .int p2), (4, .int x4_26), (5, .int t_29)]) hx hb dX6_counting_111 rfl hl (by decide) rfl (fun ls hl => ?_)
              obtain ⟨x4_31, ex4_31, hden⟩ := nm_x hden
              refine lv_iinc (v := x4_31) (lv' := [(4, .int x4_31), (3, .int x3_25), (6, .int t_30), (0, .ref a_this), (1, .int p1), (2, .int p2), (5, .int t_29)]) hx hb dX6_counting_112 hl (k := 5) rfl (by rw [ex4_31]; rfl) (by decide) rfl (fun ls hl => ?_)
              refine lv_goto (tgt := 5) hx hb dX6_counting_115 (by decide) ?_
              exact ih x3_25 x4_31 _ _ (mSubP hP [0, 1] rfl) (hD.sub [0, 1] (by decide) rfl) hS ls (lv_sub hl [3, 4, 5, 1, 0] rfl) hden
            · have hden := ifn_s hden c_40
              refine lv_iload_n hx hb dX6_counting_84 rfl (lv_at hl 4 rfl) ?_
              refine lv_iconst (v := (-1)) hx hb dX6_counting_85 (by decide) ?_
              refine lv_icmp_eq (tgt := 105) hx hb dX6_counting_86 (by decide) (fun c_39 => ?_) (fun c_39 => ?_)
              · have hden := if_s hden c_39
                refine lv_iload hx hb dX6_counting_105 (lv_at hl 5 rfl) ?_
                refine lv_goto (tgt := 111) hx hb dX6_counting_107 (by decide) ?_
                refine lv_istore_n (lv' := [(3, .int x4_26), (6, .int t_30), (0, .ref a_this), (1, .int p1), (2, .int p2), (4, .int x4_26), (5, .int t_29)]) hx hb dX6_counting_111 rfl hl (by decide) rfl (fun ls hl => ?_)
                obtain ⟨x4_32, ex4_32, hden⟩ := nm_x hden
                refine lv_iinc (v := x4_32) (lv' := [(4, .int x4_32), (3, .int x4_26), (6, .int t_30), (0, .ref a_this), (1, .int p1), (2, .int p2), (5, .int t_29)]) hx hb dX6_counting_112 hl (k := 5) rfl (by rw [ex4_32]; rfl) (by decide) rfl (fun ls hl => ?_)
                refine lv_goto (tgt := 5) hx hb dX6_counting_115 (by decide) ?_
                exact ih x4_26 x4_32 _ _ (mSubP hP [0, 1] rfl) (hD.sub [0, 1] (by decide) rfl) hS ls (lv_sub hl [3, 4, 5, 1, 0] rfl) hden
              · have hden := ifn_s hden c_39
                refine lv_iload hx hb dX6_counting_89 (lv_at hl 6 rfl) ?_
                refine lv_aload_n hx hb dX6_counting_91 rfl (lv_at hl 1 rfl) ?_
                refine va_get (D := D) (ci := 5) (v := .ref a_this_s) (C := RX6) (T := TX6) (N := 16) hx hb hts hin_X6 hown hK hP 0 rfl rfl 1 (by decide) w_7 (fun _ h9 => h9) rfl dX6_counting_92 ?_
                refine lv_iconst (v := 0) hx hb dX6_counting_95 (by decide) ?_
                refine lv_iload_n hx hb dX6_counting_96 rfl (lv_at hl 4 rfl) ?_
                refine lv_iadd hx hb dX6_counting_97 ?_
                obtain ⟨hg_33, hden⟩ := grd_s hden
                refine va_iald hx hb hK hP 1 0 rfl rfl (inb_in hg_33) dX6_counting_98 ?_
                obtain ⟨r_34, hc_35, hden⟩ := bnd_s hden
                refine m_ci (wc := []) (wr := [(a_this, .inr (5, [.int v_thrown, .ref a_this_s, .ref a_this_aside, .ref a_this_saved, .int v_savedMany, .ref a_this_text, .int v_length, .ref a_this_states, .int v_many, .int v_at, .int v_isWrong, .int v_letters, .int v_matched, .ref a_this_rows, .int v_manyRows, .long v_digested])), (a_this_s, .inl (cI, 31, .inl v_s))]) (wc' := []) (va_runS (As := [.int (v_s ((0 : Int32) + x3_25).toNatClampNeg)]) (rest := [.int t_29]) ⟨hx, hb, hml, hown, hts⟩ (c_X6_lengthOf l D cI cM cL F hc_35) (va_cwS 1 hts gX6_counting_X6_lengthOf rfl rfl rfl (by decide +kernel) ⟨Nat.le_of_ble_eq_true rfl, Nat.le_of_ble_eq_true rfl⟩) (mPreS hP hD hK hN [] (by decide) rfl) rfl rfl hl.1 rfl (lv_room (Nat.le_of_ble_eq_true rfl)) dX6_counting_99 ⟨Nat.le_of_ble_eq_true rfl, Nat.le_of_ble_eq_true rfl⟩) hP hD hS hA [] [0, 1] rfl rfl (by decide) (by decide) (fun H locs hP hD hS => ?_)
                have hP : va_P D vwCl [(a_this, .inr (5, [.int v_thrown, .ref a_this_s, .ref a_this_aside, .ref a_this_saved, .int v_savedMany, .ref a_this_text, .int v_length, .ref a_this_states, .int v_many, .int v_at, .int v_isWrong, .int v_letters, .int v_matched, .ref a_this_rows, .int v_manyRows, .long v_digested])), (a_this_s, .inl (cI, 31, .inl v_s))] H := hP
                have hD : va_D A [(a_this, .inr (5, [.int v_thrown, .ref a_this_s, .ref a_this_aside, .ref a_this_saved, .int v_savedMany, .ref a_this_text, .int v_length, .ref a_this_states, .int v_many, .int v_at, .int v_isWrong, .int v_letters, .int v_matched, .ref a_this_rows, .int v_manyRows, .long v_digested])), (a_this_s, .inl (cI, 31, .inl v_s))] := hD
                refine lv_icmp_le (tgt := 110) hx hb dX6_counting_102 (by decide) (fun c_38 => ?_) (fun c_38 => ?_)
                · have hden := if_s hden c_38
                  refine lv_iload_n hx hb dX6_counting_110 rfl (lv_at hl 4 rfl) ?_
                  refine lv_istore_n (lv' := [(3, .int x3_25), (6, .int t_30), (0, .ref a_this), (1, .int p1), (2, .int p2), (4, .int x4_26), (5, .int t_29)]) hx hb dX6_counting_111 rfl hl (by decide) rfl (fun ls hl => ?_)
                  obtain ⟨x4_36, ex4_36, hden⟩ := nm_x hden
                  refine lv_iinc (v := x4_36) (lv' := [(4, .int x4_36), (3, .int x3_25), (6, .int t_30), (0, .ref a_this), (1, .int p1), (2, .int p2), (5, .int t_29)]) hx hb dX6_counting_112 hl (k := 5) rfl (by rw [ex4_36]; rfl) (by decide) rfl (fun ls hl => ?_)
                  refine lv_goto (tgt := 5) hx hb dX6_counting_115 (by decide) ?_
                  exact ih x3_25 x4_36 _ _ (mSubP hP [0, 1] rfl) (hD.sub [0, 1] (by decide) rfl) hS ls (lv_sub hl [3, 4, 5, 1, 0] rfl) hden
                · have hden := ifn_s hden c_38
                  refine lv_iload hx hb dX6_counting_105 (lv_at hl 5 rfl) ?_
                  refine lv_goto (tgt := 111) hx hb dX6_counting_107 (by decide) ?_
                  refine lv_istore_n (lv' := [(3, .int x4_26), (6, .int t_30), (0, .ref a_this), (1, .int p1), (2, .int p2), (4, .int x4_26), (5, .int t_29)]) hx hb dX6_counting_111 rfl hl (by decide) rfl (fun ls hl => ?_)
                  obtain ⟨x4_37, ex4_37, hden⟩ := nm_x hden
                  refine lv_iinc (v := x4_37) (lv' := [(4, .int x4_37), (3, .int x4_26), (6, .int t_30), (0, .ref a_this), (1, .int p1), (2, .int p2), (5, .int t_29)]) hx hb dX6_counting_112 hl (k := 5) rfl (by rw [ex4_37]; rfl) (by decide) rfl (fun ls hl => ?_)
                  refine lv_goto (tgt := 5) hx hb dX6_counting_115 (by decide) ?_
                  exact ih x4_26 x4_37 _ _ (mSubP hP [0, 1] rfl) (hD.sub [0, 1] (by decide) rfl) hS ls (lv_sub hl [3, 4, 5, 1, 0] rfl) hden
          clear ej77
          obtain ⟨j76, ej76, hden⟩ := jp_s hden
          have hj76 : ∀  (H : Heap) (locs : List Loc), va_P D vwCl [(a_this, .inr (5, [.int v_thrown, .ref a_this_s, .ref a_this_aside, .ref a_this_saved, .int v_savedMany, .ref a_this_text, .int v_length, .ref a_this_states, .int v_many, .int v_at, .int v_isWrong, .int v_letters, .int v_matched, .ref a_this_rows, .int v_manyRows, .long v_digested])), (a_this_s, .inl (cI, 31, .inl v_s))] H → va_D A [(a_this, .inr (5, [.int v_thrown, .ref a_this_s, .ref a_this_aside, .ref a_this_saved, .int v_savedMany, .ref a_this_text, .int v_length, .ref a_this_states, .int v_many, .int v_at, .int v_isWrong, .int v_letters, .int v_matched, .ref a_this_rows, .int v_manyRows, .long v_digested])), (a_this_s, .inl (cI, 31, .inl v_s))] → va_S A s.heap H locs → ∀ ls : Array Slot, lv_has ls 7 [(0, .ref a_this), (1, .int p1), (2, .int p2), (3, .int x3_25), (4, .int x4_26), (5, .int t_29)] → j76 () = some (r0) → W p l e rm_X6_counting s m (([.ref a_this, .int p1, .int p2] : List Value).toArray) below meth c H locs 0 0 Q (F0 m 76 ls []) := by
            intro H locs hP hD hS ls hl hden
            rw [ej76] at hden
            refine lv_iconst (v := 0) hx hb dX6_counting_76 (by decide) ?_
            exact hj77 0 _ _ (mSubP hP [0, 1] rfl) (hD.sub [0, 1] (by decide) rfl) hS ls (lv_sub hl [0, 1, 2, 3, 4, 5] rfl) hden
          clear ej76
          refine lv_if_le (tgt := 76) hx hb dX6_counting_42 (by decide) (fun c_45 => ?_) (fun c_45 => ?_)
          · have hden := if_s hden c_45
            exact hj76 _ _ (mSubP hP [0, 1] rfl) (hD.sub [0, 1] (by decide) rfl) hS ls (lv_sub hl [1, 2, 3, 4, 5, 0] rfl) hden
          · have hden := ifn_s hden c_45
            refine lv_aload_n hx hb dX6_counting_45 rfl (lv_at hl 1 rfl) ?_
            refine va_get (D := D) (ci := 5) (v := .ref a_this_s) (C := RX6) (T := TX6) (N := 16) hx hb hts hin_X6 hown hK hP 0 rfl rfl 1 (by decide) w_7 (fun _ h9 => h9) rfl dX6_counting_46 ?_
            refine lv_bipush (v := 24) hx hb dX6_counting_49 (by decide) ?_
            obtain ⟨hg_41, hden⟩ := grd_s hden
            refine va_iald hx hb hK hP 1 0 rfl rfl (inb_in hg_41) dX6_counting_51 ?_
            refine lv_iconst (v := 2) hx hb dX6_counting_52 (by decide) ?_
            obtain ⟨j72, ej72, hden⟩ := jp_s hden
            have hj72 : ∀  (H : Heap) (locs : List Loc), va_P D vwCl [(a_this, .inr (5, [.int v_thrown, .ref a_this_s, .ref a_this_aside, .ref a_this_saved, .int v_savedMany, .ref a_this_text, .int v_length, .ref a_this_states, .int v_many, .int v_at, .int v_isWrong, .int v_letters, .int v_matched, .ref a_this_rows, .int v_manyRows, .long v_digested])), (a_this_s, .inl (cI, 31, .inl v_s))] H → va_D A [(a_this, .inr (5, [.int v_thrown, .ref a_this_s, .ref a_this_aside, .ref a_this_saved, .int v_savedMany, .ref a_this_text, .int v_length, .ref a_this_states, .int v_many, .int v_at, .int v_isWrong, .int v_letters, .int v_matched, .ref a_this_rows, .int v_manyRows, .long v_digested])), (a_this_s, .inl (cI, 31, .inl v_s))] → va_S A s.heap H locs → ∀ ls : Array Slot, lv_has ls 7 [(0, .ref a_this), (1, .int p1), (2, .int p2), (3, .int x3_25), (4, .int x4_26), (5, .int t_29)] → j72 () = some (r0) → W p l e rm_X6_counting s m (([.ref a_this, .int p1, .int p2] : List Value).toArray) below meth c H locs 0 0 Q (F0 m 72 ls []) := by
              intro H locs hP hD hS ls hl hden
              rw [ej72] at hden
              refine lv_iconst (v := 1) hx hb dX6_counting_72 (by decide) ?_
              refine lv_goto (tgt := 77) hx hb dX6_counting_73 (by decide) ?_
              exact hj77 1 _ _ (mSubP hP [0, 1] rfl) (hD.sub [0, 1] (by decide) rfl) hS ls (lv_sub hl [0, 1, 2, 3, 4, 5] rfl) hden
            clear ej72
            refine lv_icmp_lt (tgt := 72) hx hb dX6_counting_53 (by decide) (fun c_44 => ?_) (fun c_44 => ?_)
            · have hden := if_s hden c_44
              exact hj72 _ _ (mSubP hP [0, 1] rfl) (hD.sub [0, 1] (by decide) rfl) hS ls (lv_sub hl [1, 2, 3, 4, 5, 0] rfl) hden
            · have hden := ifn_s hden c_44
              refine lv_iload_n hx hb dX6_counting_56 rfl (lv_at hl 3 rfl) ?_
              refine lv_iload hx hb dX6_counting_57 (lv_at hl 0 rfl) ?_
              refine lv_isub hx hb dX6_counting_59 ?_
              refine lv_iconst (v := 1) hx hb dX6_counting_60 (by decide) ?_
              refine lv_iadd hx hb dX6_counting_61 ?_
              refine lv_aload_n hx hb dX6_counting_62 rfl (lv_at hl 1 rfl) ?_
              refine va_get (D := D) (ci := 5) (v := .ref a_this_s) (C := RX6) (T := TX6) (N := 16) hx hb hts hin_X6 hown hK hP 0 rfl rfl 1 (by decide) w_7 (fun _ h9 => h9) rfl dX6_counting_63 ?_
              refine lv_bipush (v := 28) hx hb dX6_counting_66 (by decide) ?_
              obtain ⟨hg_42, hden⟩ := grd_s hden
              refine va_iald hx hb hK hP 1 0 rfl rfl (inb_in hg_42) dX6_counting_68 ?_
              refine lv_icmp_le (tgt := 76) hx hb dX6_counting_69 (by decide) (fun c_43 => ?_) (fun c_43 => ?_)
              · have hden := if_s hden c_43
                exact hj76 _ _ (mSubP hP [0, 1] rfl) (hD.sub [0, 1] (by decide) rfl) hS ls (lv_sub hl [1, 2, 3, 4, 5, 0] rfl) hden
              · have hden := ifn_s hden c_43
                exact hj72 _ _ (mSubP hP [0, 1] rfl) (hD.sub [0, 1] (by decide) rfl) hS ls (lv_sub hl [1, 2, 3, 4, 5, 0] rfl) hden
        clear ej38
        refine lv_icmp_ne (tgt := 37) hx hb dX6_counting_19 (by decide) (fun c_49 => ?_) (fun c_49 => ?_)
        · have hden := ifn_s hden c_49
          refine lv_iconst (v := 0) hx hb dX6_counting_37 (by decide) ?_
          exact hj38 0 _ _ (mSubP hP [0, 1] rfl) (hD.sub [0, 1] (by decide) rfl) hS ls (lv_sub hl [0, 1, 2, 3, 4] rfl) hden
        · have hden := if_s hden c_49
          refine lv_aload_n hx hb dX6_counting_22 rfl (lv_at hl 0 rfl) ?_
          refine va_get (D := D) (ci := 5) (v := .ref a_this_s) (C := RX6) (T := TX6) (N := 16) hx hb hts hin_X6 hown hK hP 0 rfl rfl 1 (by decide) w_7 (fun _ h9 => h9) rfl dX6_counting_23 ?_
          refine lv_iconst (v := 0) hx hb dX6_counting_26 (by decide) ?_
          refine lv_iload hx hb dX6_counting_27 (lv_at hl 4 rfl) ?_
          refine lv_iadd hx hb dX6_counting_29 ?_
          obtain ⟨hg_46, hden⟩ := grd_s hden
          refine va_iald hx hb hK hP 1 0 rfl rfl (inb_in hg_46) dX6_counting_30 ?_
          obtain ⟨r_47, hc_48, hden⟩ := bnd_s hden
          refine m_ci (wc := []) (wr := [(a_this, .inr (5, [.int v_thrown, .ref a_this_s, .ref a_this_aside, .ref a_this_saved, .int v_savedMany, .ref a_this_text, .int v_length, .ref a_this_states, .int v_many, .int v_at, .int v_isWrong, .int v_letters, .int v_matched, .ref a_this_rows, .int v_manyRows, .long v_digested])), (a_this_s, .inl (cI, 31, .inl v_s))]) (wc' := []) (va_runS (As := [.int (v_s ((0 : Int32) + x4_26).toNatClampNeg)]) (rest := []) ⟨hx, hb, hml, hown, hts⟩ (c_X6_lengthOf l D cI cM cL F hc_48) (va_cwS 1 hts gX6_counting_X6_lengthOf rfl rfl rfl (by decide +kernel) ⟨Nat.le_of_ble_eq_true rfl, Nat.le_of_ble_eq_true rfl⟩) (mPreS hP hD hK hN [] (by decide) rfl) rfl rfl hl.1 rfl (lv_room (Nat.le_of_ble_eq_true rfl)) dX6_counting_31 ⟨Nat.le_of_ble_eq_true rfl, Nat.le_of_ble_eq_true rfl⟩) hP hD hS hA [] [0, 1] rfl rfl (by decide) (by decide) (fun H locs hP hD hS => ?_)
          have hP : va_P D vwCl [(a_this, .inr (5, [.int v_thrown, .ref a_this_s, .ref a_this_aside, .ref a_this_saved, .int v_savedMany, .ref a_this_text, .int v_length, .ref a_this_states, .int v_many, .int v_at, .int v_isWrong, .int v_letters, .int v_matched, .ref a_this_rows, .int v_manyRows, .long v_digested])), (a_this_s, .inl (cI, 31, .inl v_s))] H := hP
          have hD : va_D A [(a_this, .inr (5, [.int v_thrown, .ref a_this_s, .ref a_this_aside, .ref a_this_saved, .int v_savedMany, .ref a_this_text, .int v_length, .ref a_this_states, .int v_many, .int v_at, .int v_isWrong, .int v_letters, .int v_matched, .ref a_this_rows, .int v_manyRows, .long v_digested])), (a_this_s, .inl (cI, 31, .inl v_s))] := hD
          refine lv_goto (tgt := 38) hx hb dX6_counting_34 (by decide) ?_
          exact hj38 r_47 _ _ (mSubP hP [0, 1] rfl) (hD.sub [0, 1] (by decide) rfl) hS ls (lv_sub hl [0, 1, 2, 3, 4] rfl) hden
  refine hL5__28 _ (fun x3_27 H locs hP hD hS ls hl hden => ?_) F (-1) 0 _ _ (mSubP hP [0, 1] rfl) (hD.sub [0, 1] (by decide) rfl) hS ls (lv_sub hl [2, 3, 4, 1, 0] rfl) hden
  refine lv_aload_n hx hb dX6_counting_118 rfl (lv_at hl 0 rfl) ?_
  refine va_get (D := D) (ci := 5) (v := .ref a_this_s) (C := RX6) (T := TX6) (N := 16) hx hb hts hin_X6 hown hK hP 0 rfl rfl 1 (by decide) w_7 (fun _ h9 => h9) rfl dX6_counting_119 ?_
  refine lv_bipush (v := 24) hx hb dX6_counting_122 (by decide) ?_
  obtain ⟨hg_51, hden⟩ := grd_s hden
  refine va_iald hx hb hK hP 1 0 rfl rfl (inb_in hg_51) dX6_counting_124 ?_
  refine lv_if_ne (tgt := 132) hx hb dX6_counting_125 (by decide) (fun c_53 => ?_) (fun c_53 => ?_)
  · have hden := ifn_s hden c_53
    refine lv_iload_n hx hb dX6_counting_132 rfl (lv_at hl 2 rfl) ?_
    refine lv_iconst (v := (-1)) hx hb dX6_counting_133 (by decide) ?_
    refine lv_icmp_ne (tgt := 141) hx hb dX6_counting_134 (by decide) (fun c_52 => ?_) (fun c_52 => ?_)
    · have hden := ifn_s hden c_52
      refine lv_iconst (v := 1) hx hb dX6_counting_141 (by decide) ?_
      refine lv_iload_n hx hb dX6_counting_142 rfl (lv_at hl 2 rfl) ?_
      refine lv_ishl hx hb dX6_counting_143 ?_
      subst hQe
      cases hden
      exact m_ri hx hb hr hP hD hS [0, 1] (by decide) rfl rfl dX6_counting_144 hlocks
    · have hden := if_s hden c_52
      refine lv_iconst (v := 0) hx hb dX6_counting_137 (by decide) ?_
      refine lv_goto (tgt := 144) hx hb dX6_counting_138 (by decide) ?_
      subst hQe
      cases hden
      exact m_ri hx hb hr hP hD hS [0, 1] (by decide) rfl rfl dX6_counting_144 hlocks
  · have hden := if_s hden c_53
    refine lv_iload_n hx hb dX6_counting_128 rfl (lv_at hl 1 rfl) ?_
    refine lv_goto (tgt := 144) hx hb dX6_counting_129 (by decide) ?_
    subst hQe
    cases hden
    exact m_ri hx hb hr hP hD hS [0, 1] (by decide) rfl rfl dX6_counting_144 hlocks
def L_X6_bitsOf_4 (F : Nat) (y0 : Int32) : Nat → Int32 → Int32 → Option (Int32)
  | 0, _, _ => none
  | n + 1, x1_1, x2_2 => (if 8 ≤ x2_2 then some (x1_1) else nm (x1_1 + ((y0 >>> (x2_2 &&& 31)) &&& 1)) (fun x1_3 => nm (x2_2 + 1) (fun x2_4 => L_X6_bitsOf_4 F y0 n x1_3 x2_4)))
def D_X6_bitsOf (F : Nat) (p1 : Int32) : Option (Int32) := L_X6_bitsOf_4 F p1 F 0 0
def rm_X6_bitsOf : Room := { frames := 0, cells := 0, slots := 0, locals := 0 }
set_option maxHeartbeats 4000000 in
set_option maxRecDepth 100000 in
theorem c_X6_bitsOf (l : Launch) (D : va_G) (cI cM cL : ClassId) (F : Nat) {sz : Nat} {p1 : Int32} {r0 : Int32} (hden : D_X6_bitsOf F p1 = some (r0)) : Met l yX6_bitsOf wsX6_bitsOf rm_X6_bitsOf (va_Pc [.int p1] (mB D (mTy cI cM cL) sz [])) (mQi D (va_A [] sz) [] r0) 0 0 (va_A [] sz) := by
  refine Met.ofW (cc := cX6_bitsOf) (maxL := 3) (ret := (some .int)) (by decide) rfl ?_
  intro p e s m args below meth c s₁ B hml hv
  obtain ⟨rfl, hsz, hP, hK, hN, hD0⟩ := hv
  have hx := B.exec
  have hb := B.bytes
  have hr := B.returns
  have hts := atoms_spec (ws := wsX6_bitsOf) B.pre
  have hown : s.vm.findClass RX6 = some m.cls := findClass_of_methodNamed B.named
  have hlocks := B.notSynchronized
  subst hsz
  have hD := hD0.self (sz := s.heap.size)
  generalize hAe : va_A [] s.heap.size = A at hD ⊢
  have hA : ∀ q : Nat, s.heap.size ≤ q → A q := fun q h => by rw [← hAe]; exact Or.inr h
  have hS : va_S A s.heap s.heap [] := va_S.rf
  have hl := lv_entry ([.int p1]) (n := 3) (Nat.le_of_ble_eq_true rfl)
  rw [lg_entry_eq]
  generalize (lg_sl ([.int p1]) ++ List.replicate (3 - (lg_sl ([.int p1])).length) Slot.unset).toArray = ls at hl ⊢
  have hl : lv_has ls 3 [(0, .int p1)] := hl
  change W p l e rm_X6_bitsOf s m (([.int p1] : List Value).toArray) below meth c s.heap [] 0 0 _ (F0 m 0 ls [])
  generalize hQe : MQ below (mQi D A [] r0) (([.int p1] : List Value).toArray) s 0 0 A = Q
  rw [D_X6_bitsOf] at hden
  refine lv_iconst (v := 0) hx hb dX6_bitsOf_0 (by decide) ?_
  refine lv_istore_n (lv' := [(1, .int 0), (0, .int p1)]) hx hb dX6_bitsOf_1 rfl hl (by decide) rfl (fun ls hl => ?_)
  refine lv_iconst (v := 0) hx hb dX6_bitsOf_2 (by decide) ?_
  refine lv_istore_n (lv' := [(2, .int 0), (1, .int 0), (0, .int p1)]) hx hb dX6_bitsOf_3 rfl hl (by decide) rfl (fun ls hl => ?_)
  have hL4__8 : ∀ (n : Nat) (x1_6 : Int32) (x2_7 : Int32) (H : Heap) (locs : List Loc), va_P D vwCl [] H → va_D A [] → va_S A s.heap H locs → ∀ ls : Array Slot, lv_has ls 3 [(0, .int p1), (1, .int x1_6), (2, .int x2_7)] → L_X6_bitsOf_4 F p1 n x1_6 x2_7 = some (r0) → W p l e rm_X6_bitsOf s m (([.int p1] : List Value).toArray) below meth c H locs 0 0 Q (F0 m 4 ls []) := by
    intro n
    induction n with
    | zero => intro x1_6 x2_7 H locs hP hD hS ls hl hden; exact no_none hden
    | succ n ih =>
      intro x1_6 x2_7 H locs hP hD hS ls hl hden
      rw [L_X6_bitsOf_4] at hden
      refine lv_iload_n hx hb dX6_bitsOf_4 rfl (lv_at hl 2 rfl) ?_
      refine lv_bipush (v := 8) hx hb dX6_bitsOf_5 (by decide) ?_
      refine lv_icmp_ge (tgt := 24) hx hb dX6_bitsOf_7 (by decide) (fun c_11 => ?_) (fun c_11 => ?_)
      · have hden := if_s hden c_11
        refine lv_iload_n hx hb dX6_bitsOf_24 rfl (lv_at hl 1 rfl) ?_
        subst hQe
        cases hden
        exact m_ri hx hb hr hP hD hS [] (by decide) rfl rfl dX6_bitsOf_25 hlocks
      · have hden := ifn_s hden c_11
        refine lv_iload_n hx hb dX6_bitsOf_10 rfl (lv_at hl 1 rfl) ?_
        refine lv_iload_n hx hb dX6_bitsOf_11 rfl (lv_at hl 0 rfl) ?_
        refine lv_iload_n hx hb dX6_bitsOf_12 rfl (lv_at hl 2 rfl) ?_
        refine lv_ishr hx hb dX6_bitsOf_13 ?_
        refine lv_iconst (v := 1) hx hb dX6_bitsOf_14 (by decide) ?_
        refine lv_iand hx hb dX6_bitsOf_15 ?_
        refine lv_iadd hx hb dX6_bitsOf_16 ?_
        refine lv_topi (fun x1_9 ex1_9 => ?_)
        have hden := nm_s hden ex1_9
        refine lv_istore_n (lv' := [(1, .int x1_9), (0, .int p1), (2, .int x2_7)]) hx hb dX6_bitsOf_17 rfl hl (by decide) rfl (fun ls hl => ?_)
        obtain ⟨x2_10, ex2_10, hden⟩ := nm_x hden
        refine lv_iinc (v := x2_10) (lv' := [(2, .int x2_10), (1, .int x1_9), (0, .int p1)]) hx hb dX6_bitsOf_18 hl (k := 2) rfl (by rw [ex2_10]; rfl) (by decide) rfl (fun ls hl => ?_)
        refine lv_goto (tgt := 4) hx hb dX6_bitsOf_21 (by decide) ?_
        exact ih x1_9 x2_10 _ _ (mSubP hP [] rfl) (hD.sub [] (by decide) rfl) hS ls (lv_sub hl [2, 1, 0] rfl) hden
  exact hL4__8 F 0 0 _ _ (mSubP hP [] rfl) (hD.sub [] (by decide) rfl) hS ls (lv_sub hl [2, 1, 0] rfl) hden
def L_X6_reads_114 (F : Nat) (k184 : (Nat → Int32) → Option (Int32 × (Nat → Int32))) (y4 : Int32) (y5 : Int32) : Nat → Int32 → (Nat → Int32) → Option (Int32 × (Nat → Int32))
  | 0, _, _ => none
  | n + 1, x6_29, v_s_30 => (if 8 ≤ x6_29 then k184 v_s_30 else (if ((y5 >>> (x6_29 &&& 31)) &&& 1) = 1 then grd (inb ((8 : Int32) + x6_29) 31) (nm ((v_s_30 ((8 : Int32) + x6_29).toNatClampNeg) + 1) (fun y_33 => grd (inb ((8 : Int32) + x6_29) 31) (nm (upd v_s_30 ((8 : Int32) + x6_29).toNatClampNeg y_33) (fun v_s_35 => grd (inb ((16 : Int32) + x6_29) 31) (nm (upd v_s_35 ((16 : Int32) + x6_29).toNatClampNeg y4) (fun v_s_37 => grd (inb 28 31) (nm (upd v_s_37 (28 : Int32).toNatClampNeg y4) (fun v_s_39 => grd (inb 27 31) (nm ((v_s_39 (27 : Int32).toNatClampNeg) + 1) (fun y_41 => grd (inb 27 31) (nm (upd v_s_39 (27 : Int32).toNatClampNeg y_41) (fun v_s_43 => nm (x6_29 + 1) (fun x6_44 => L_X6_reads_114 F k184 y4 y5 n x6_44 v_s_43))))))))))))) else nm (x6_29 + 1) (fun x6_31 => L_X6_reads_114 F k184 y4 y5 n x6_31 v_s_30)))
def D_X6_reads (F : Nat) (p1 : Int32) (v_s : (Nat → Int32)) : Option (Int32 × (Nat → Int32)) := bnd (D_X6_state F v_s) (fun r_1 => bnd (D_X6_fallsOf F r_1 p1 v_s) (fun r_3 => grd (inb 25 31) (nm (v_s (25 : Int32).toNatClampNeg) (fun x4_6 => bnd (D_X6_behind F r_1 p1 v_s) (fun r_7 => bnd (D_X6_ending F r_7 v_s) (fun r_9 => bnd (D_X6_counting F r_9 x4_6 v_s) (fun r_11 => grd (inb 29 31) (nm ((v_s (29 : Int32).toNatClampNeg) + r_3) (fun y_14 => grd (inb 29 31) (nm (upd v_s (29 : Int32).toNatClampNeg y_14) (fun v_s_16 => grd (inb 30 31) (jp (fun (t_18 : Int32) => grd (inb 30 31) (nm (upd v_s_16 (30 : Int32).toNatClampNeg t_18) (fun v_s_20 => grd (inb 26 31) (nm ((((4 : Int32) * (v_s_20 (26 : Int32).toNatClampNeg)) + p1) - (((4 : Int32) * (v_s_20 (26 : Int32).toNatClampNeg)) + p1) / 65536 * 65536) (fun y_22 => grd (inb 26 31) (nm (upd v_s_20 (26 : Int32).toNatClampNeg y_22) (fun v_s_24 => grd (inb 25 31) (nm ((v_s_24 (25 : Int32).toNatClampNeg) + 1) (fun y_26 => grd (inb 25 31) (nm (upd v_s_24 (25 : Int32).toNatClampNeg y_26) (fun v_s_28 => L_X6_reads_114 F (fun (v_s_49 : (Nat → Int32)) => bnd (D_X6_bitsOf F r_11) (fun r_67 => some (r_67, v_s_49))) x4_6 r_11 F 0 v_s_28))))))))))) (fun j78 => (if r_3 ≤ (v_s_16 (30 : Int32).toNatClampNeg) then grd (inb 30 31) (j78 (v_s_16 (30 : Int32).toNatClampNeg)) else j78 r_3))))))))))))))
def rm_X6_reads : Room := { frames := 8, cells := 0, slots := 0, locals := 175 }
set_option maxHeartbeats 4000000 in
set_option maxRecDepth 100000 in
theorem c_X6_reads (l : Launch) (D : va_G) (cI cM cL : ClassId) (F : Nat) {a_this a_this_s a_this_aside a_this_saved a_this_text a_this_states a_this_rows : Nat} {sz : Nat} {v_thrown v_savedMany v_length v_many v_at v_isWrong v_letters v_matched v_manyRows : Int32} {v_digested : Int64} {v_s : Nat → Int32} {p1 : Int32} {r0 : Int32} {w_s : (Nat → Int32)} (hden : D_X6_reads F p1 v_s = some (r0, w_s)) : Met l yX6_reads wsX6_reads rm_X6_reads (va_Pc [.ref a_this, .int p1] (mB D (mTy cI cM cL) sz [(a_this, .inr (5, [.int v_thrown, .ref a_this_s, .ref a_this_aside, .ref a_this_saved, .int v_savedMany, .ref a_this_text, .int v_length, .ref a_this_states, .int v_many, .int v_at, .int v_isWrong, .int v_letters, .int v_matched, .ref a_this_rows, .int v_manyRows, .long v_digested])), (a_this_s, .inl (cI, 31, .inl v_s))])) (mQi D (va_A [(a_this, .inr (5, [.int v_thrown, .ref a_this_s, .ref a_this_aside, .ref a_this_saved, .int v_savedMany, .ref a_this_text, .int v_length, .ref a_this_states, .int v_many, .int v_at, .int v_isWrong, .int v_letters, .int v_matched, .ref a_this_rows, .int v_manyRows, .long v_digested])), (a_this_s, .inl (cI, 31, .inl v_s))] sz) [(a_this, .inr (5, [.int v_thrown, .ref a_this_s, .ref a_this_aside, .ref a_this_saved, .int v_savedMany, .ref a_this_text, .int v_length, .ref a_this_states, .int v_many, .int v_at, .int v_isWrong, .int v_letters, .int v_matched, .ref a_this_rows, .int v_manyRows, .long v_digested])), (a_this_s, .inl (cI, 31, .inl w_s))] r0) 0 0 (va_A [(a_this, .inr (5, [.int v_thrown, .ref a_this_s, .ref a_this_aside, .ref a_this_saved, .int v_savedMany, .ref a_this_text, .int v_length, .ref a_this_states, .int v_many, .int v_at, .int v_isWrong, .int v_letters, .int v_matched, .ref a_this_rows, .int v_manyRows, .long v_digested])), (a_this_s, .inl (cI, 31, .inl v_s))] sz) := by
  refine Met.ofW (cc := cX6_reads) (maxL := 7) (ret := (some .int)) (by decide) rfl ?_
  intro p e s m args below meth c s₁ B hml hv
  obtain ⟨rfl, hsz, hP, hK, hN, hD0⟩ := hv
  have hx := B.exec
  have hb := B.bytes
  have hr := B.returns
  have hts := atoms_spec (ws := wsX6_reads) B.pre
  have hown : s.vm.findClass RX6 = some m.cls := findClass_of_methodNamed B.named
  have hlocks := B.notSynchronized
  subst hsz
  have hD := hD0.self (sz := s.heap.size)
  generalize hAe : va_A [(a_this, .inr (5, [.int v_thrown, .ref a_this_s, .ref a_this_aside, .ref a_this_saved, .int v_savedMany, .ref a_this_text, .int v_length, .ref a_this_states, .int v_many, .int v_at, .int v_isWrong, .int v_letters, .int v_matched, .ref a_this_rows, .int v_manyRows, .long v_digested])), (a_this_s, .inl (cI, 31, .inl v_s))] s.heap.size = A at hD ⊢
  have hA : ∀ q : Nat, s.heap.size ≤ q → A q := fun q h => by rw [← hAe]; exact Or.inr h
  have hS : va_S A s.heap s.heap [] := va_S.rf
  have hl := lv_entry ([.ref a_this, .int p1]) (n := 7) (Nat.le_of_ble_eq_true rfl)
  rw [lg_entry_eq]
  generalize (lg_sl ([.ref a_this, .int p1]) ++ List.replicate (7 - (lg_sl ([.ref a_this, .int p1])).length) Slot.unset).toArray = ls at hl ⊢
  have hl : lv_has ls 7 [(0, .ref a_this), (1, .int p1)] := hl
  change W p l e rm_X6_reads s m (([.ref a_this, .int p1] : List Value).toArray) below meth c s.heap [] 0 0 _ (F0 m 0 ls [])
  generalize hQe : MQ below (mQi D A [(a_this, .inr (5, [.int v_thrown, .ref a_this_s, .ref a_this_aside, .ref a_this_saved, .int v_savedMany, .ref a_this_text, .int v_length, .ref a_this_states, .int v_many, .int v_at, .int v_isWrong, .int v_letters, .int v_matched, .ref a_this_rows, .int v_manyRows, .long v_digested])), (a_this_s, .inl (cI, 31, .inl w_s))] r0) (([.ref a_this, .int p1] : List Value).toArray) s 0 0 A = Q
  rw [D_X6_reads] at hden
  have hin_X6 : ∀ w ∈ wsX60, w ∈ wsX6_reads := by decide +kernel
  have w_7 := hts (.fieldLink RX6 7 "FallingPatternsModel" "s" "[I") (by decide +kernel)
  have w_101 := hts (.constant RX6 101 (65536)) (by decide +kernel)
  refine lv_aload_n hx hb dX6_reads_0 rfl (lv_at hl 0 rfl) ?_
  obtain ⟨r_1, hc_2, hden⟩ := bnd_s hden
  refine m_ci (wc := [(a_this, .inr (5, [.int v_thrown, .ref a_this_s, .ref a_this_aside, .ref a_this_saved, .int v_savedMany, .ref a_this_text, .int v_length, .ref a_this_states, .int v_many, .int v_at, .int v_isWrong, .int v_letters, .int v_matched, .ref a_this_rows, .int v_manyRows, .long v_digested])), (a_this_s, .inl (cI, 31, .inl v_s))]) (wr := []) (wc' := [(a_this, .inr (5, [.int v_thrown, .ref a_this_s, .ref a_this_aside, .ref a_this_saved, .int v_savedMany, .ref a_this_text, .int v_length, .ref a_this_states, .int v_many, .int v_at, .int v_isWrong, .int v_letters, .int v_matched, .ref a_this_rows, .int v_manyRows, .long v_digested])), (a_this_s, .inl (cI, 31, .inl v_s))]) (va_runV (As := []) (rest := []) ⟨hx, hb, hml, hown, hts⟩ (c_X6_state l D cI cM cL F hc_2) (cwV 0 hts gX6_reads_X6_state rfl rfl rfl (by decide +kernel) ⟨Nat.le_of_ble_eq_true rfl, Nat.le_of_ble_eq_true rfl⟩) (mPreV (ci := 5) (q0 := 0) (r := (RX6, TX6, 16)) hP hD hK hN [0, 1] (by decide) rfl rfl rfl) rfl rfl hl.1 rfl (lv_room (Nat.le_of_ble_eq_true rfl)) dX6_reads_1 ⟨Nat.le_of_ble_eq_true rfl, Nat.le_of_ble_eq_true rfl⟩) hP hD hS hA [0, 1] [] rfl rfl (by decide) (by decide) (fun H locs hP hD hS => ?_)
  have hP : va_P D vwCl [(a_this, .inr (5, [.int v_thrown, .ref a_this_s, .ref a_this_aside, .ref a_this_saved, .int v_savedMany, .ref a_this_text, .int v_length, .ref a_this_states, .int v_many, .int v_at, .int v_isWrong, .int v_letters, .int v_matched, .ref a_this_rows, .int v_manyRows, .long v_digested])), (a_this_s, .inl (cI, 31, .inl v_s))] H := hP
  have hD : va_D A [(a_this, .inr (5, [.int v_thrown, .ref a_this_s, .ref a_this_aside, .ref a_this_saved, .int v_savedMany, .ref a_this_text, .int v_length, .ref a_this_states, .int v_many, .int v_at, .int v_isWrong, .int v_letters, .int v_matched, .ref a_this_rows, .int v_manyRows, .long v_digested])), (a_this_s, .inl (cI, 31, .inl v_s))] := hD
  refine lv_istore_n (lv' := [(2, .int r_1), (0, .ref a_this), (1, .int p1)]) hx hb dX6_reads_4 rfl hl (by decide) rfl (fun ls hl => ?_)
  refine lv_aload_n hx hb dX6_reads_5 rfl (lv_at hl 1 rfl) ?_
  refine lv_iload_n hx hb dX6_reads_6 rfl (lv_at hl 0 rfl) ?_
  refine lv_iload_n hx hb dX6_reads_7 rfl (lv_at hl 2 rfl) ?_
  obtain ⟨r_3, hc_4, hden⟩ := bnd_s hden
  refine m_ci (wc := [(a_this, .inr (5, [.int v_thrown, .ref a_this_s, .ref a_this_aside, .ref a_this_saved, .int v_savedMany, .ref a_this_text, .int v_length, .ref a_this_states, .int v_many, .int v_at, .int v_isWrong, .int v_letters, .int v_matched, .ref a_this_rows, .int v_manyRows, .long v_digested])), (a_this_s, .inl (cI, 31, .inl v_s))]) (wr := []) (wc' := [(a_this, .inr (5, [.int v_thrown, .ref a_this_s, .ref a_this_aside, .ref a_this_saved, .int v_savedMany, .ref a_this_text, .int v_length, .ref a_this_states, .int v_many, .int v_at, .int v_isWrong, .int v_letters, .int v_matched, .ref a_this_rows, .int v_manyRows, .long v_digested])), (a_this_s, .inl (cI, 31, .inl v_s))]) (va_runV (As := [.int r_1, .int p1]) (rest := []) ⟨hx, hb, hml, hown, hts⟩ (c_X6_fallsOf l D cI cM cL F hc_4) (cwV 2 hts gX6_reads_X6_fallsOf rfl rfl rfl (by decide +kernel) ⟨Nat.le_of_ble_eq_true rfl, Nat.le_of_ble_eq_true rfl⟩) (mPreV (ci := 5) (q0 := 0) (r := (RX6, TX6, 16)) hP hD hK hN [0, 1] (by decide) rfl rfl rfl) rfl rfl hl.1 rfl (lv_room (Nat.le_of_ble_eq_true rfl)) dX6_reads_8 ⟨Nat.le_of_ble_eq_true rfl, Nat.le_of_ble_eq_true rfl⟩) hP hD hS hA [0, 1] [] rfl rfl (by decide) (by decide) (fun H locs hP hD hS => ?_)
  have hP : va_P D vwCl [(a_this, .inr (5, [.int v_thrown, .ref a_this_s, .ref a_this_aside, .ref a_this_saved, .int v_savedMany, .ref a_this_text, .int v_length, .ref a_this_states, .int v_many, .int v_at, .int v_isWrong, .int v_letters, .int v_matched, .ref a_this_rows, .int v_manyRows, .long v_digested])), (a_this_s, .inl (cI, 31, .inl v_s))] H := hP
  have hD : va_D A [(a_this, .inr (5, [.int v_thrown, .ref a_this_s, .ref a_this_aside, .ref a_this_saved, .int v_savedMany, .ref a_this_text, .int v_length, .ref a_this_states, .int v_many, .int v_at, .int v_isWrong, .int v_letters, .int v_matched, .ref a_this_rows, .int v_manyRows, .long v_digested])), (a_this_s, .inl (cI, 31, .inl v_s))] := hD
  refine lv_istore_n (lv' := [(3, .int r_3), (2, .int r_1), (0, .ref a_this), (1, .int p1)]) hx hb dX6_reads_11 rfl hl (by decide) rfl (fun ls hl => ?_)
  refine lv_aload_n hx hb dX6_reads_12 rfl (lv_at hl 2 rfl) ?_
  refine va_get (D := D) (ci := 5) (v := .ref a_this_s) (C := RX6) (T := TX6) (N := 16) hx hb hts hin_X6 hown hK hP 0 rfl rfl 1 (by decide) w_7 (fun _ h9 => h9) rfl dX6_reads_13 ?_
  refine lv_bipush (v := 25) hx hb dX6_reads_16 (by decide) ?_
  obtain ⟨hg_5, hden⟩ := grd_s hden
  refine va_iald hx hb hK hP 1 0 rfl rfl (inb_in hg_5) dX6_reads_18 ?_
  refine lv_topi (fun x4_6 ex4_6 => ?_)
  have hden := nm_s hden ex4_6
  refine lv_istore (lv' := [(4, .int x4_6), (3, .int r_3), (2, .int r_1), (0, .ref a_this), (1, .int p1)]) hx hb dX6_reads_19 hl (by decide) rfl (fun ls hl => ?_)
  refine lv_aload_n hx hb dX6_reads_21 rfl (lv_at hl 3 rfl) ?_
  refine lv_aload_n hx hb dX6_reads_22 rfl (lv_at hl 3 rfl) ?_
  refine lv_aload_n hx hb dX6_reads_23 rfl (lv_at hl 3 rfl) ?_
  refine lv_iload_n hx hb dX6_reads_24 rfl (lv_at hl 2 rfl) ?_
  refine lv_iload_n hx hb dX6_reads_25 rfl (lv_at hl 4 rfl) ?_
  obtain ⟨r_7, hc_8, hden⟩ := bnd_s hden
  refine m_ci (wc := [(a_this, .inr (5, [.int v_thrown, .ref a_this_s, .ref a_this_aside, .ref a_this_saved, .int v_savedMany, .ref a_this_text, .int v_length, .ref a_this_states, .int v_many, .int v_at, .int v_isWrong, .int v_letters, .int v_matched, .ref a_this_rows, .int v_manyRows, .long v_digested])), (a_this_s, .inl (cI, 31, .inl v_s))]) (wr := []) (wc' := [(a_this, .inr (5, [.int v_thrown, .ref a_this_s, .ref a_this_aside, .ref a_this_saved, .int v_savedMany, .ref a_this_text, .int v_length, .ref a_this_states, .int v_many, .int v_at, .int v_isWrong, .int v_letters, .int v_matched, .ref a_this_rows, .int v_manyRows, .long v_digested])), (a_this_s, .inl (cI, 31, .inl v_s))]) (va_runV (As := [.int r_1, .int p1]) (rest := [.ref a_this, .ref a_this]) ⟨hx, hb, hml, hown, hts⟩ (c_X6_behind l D cI cM cL F hc_8) (cwV 2 hts gX6_reads_X6_behind rfl rfl rfl (by decide +kernel) ⟨Nat.le_of_ble_eq_true rfl, Nat.le_of_ble_eq_true rfl⟩) (mPreV (ci := 5) (q0 := 0) (r := (RX6, TX6, 16)) hP hD hK hN [0, 1] (by decide) rfl rfl rfl) rfl rfl hl.1 rfl (lv_room (Nat.le_of_ble_eq_true rfl)) dX6_reads_26 ⟨Nat.le_of_ble_eq_true rfl, Nat.le_of_ble_eq_true rfl⟩) hP hD hS hA [0, 1] [] rfl rfl (by decide) (by decide) (fun H locs hP hD hS => ?_)
  have hP : va_P D vwCl [(a_this, .inr (5, [.int v_thrown, .ref a_this_s, .ref a_this_aside, .ref a_this_saved, .int v_savedMany, .ref a_this_text, .int v_length, .ref a_this_states, .int v_many, .int v_at, .int v_isWrong, .int v_letters, .int v_matched, .ref a_this_rows, .int v_manyRows, .long v_digested])), (a_this_s, .inl (cI, 31, .inl v_s))] H := hP
  have hD : va_D A [(a_this, .inr (5, [.int v_thrown, .ref a_this_s, .ref a_this_aside, .ref a_this_saved, .int v_savedMany, .ref a_this_text, .int v_length, .ref a_this_states, .int v_many, .int v_at, .int v_isWrong, .int v_letters, .int v_matched, .ref a_this_rows, .int v_manyRows, .long v_digested])), (a_this_s, .inl (cI, 31, .inl v_s))] := hD
  obtain ⟨r_9, hc_10, hden⟩ := bnd_s hden
  refine m_ci (wc := [(a_this, .inr (5, [.int v_thrown, .ref a_this_s, .ref a_this_aside, .ref a_this_saved, .int v_savedMany, .ref a_this_text, .int v_length, .ref a_this_states, .int v_many, .int v_at, .int v_isWrong, .int v_letters, .int v_matched, .ref a_this_rows, .int v_manyRows, .long v_digested])), (a_this_s, .inl (cI, 31, .inl v_s))]) (wr := []) (wc' := [(a_this, .inr (5, [.int v_thrown, .ref a_this_s, .ref a_this_aside, .ref a_this_saved, .int v_savedMany, .ref a_this_text, .int v_length, .ref a_this_states, .int v_many, .int v_at, .int v_isWrong, .int v_letters, .int v_matched, .ref a_this_rows, .int v_manyRows, .long v_digested])), (a_this_s, .inl (cI, 31, .inl v_s))]) (va_runV (As := [.int r_7]) (rest := [.ref a_this]) ⟨hx, hb, hml, hown, hts⟩ (c_X6_ending l D cI cM cL F hc_10) (cwV 1 hts gX6_reads_X6_ending rfl rfl rfl (by decide +kernel) ⟨Nat.le_of_ble_eq_true rfl, Nat.le_of_ble_eq_true rfl⟩) (mPreV (ci := 5) (q0 := 0) (r := (RX6, TX6, 16)) hP hD hK hN [0, 1] (by decide) rfl rfl rfl) rfl rfl hl.1 rfl (lv_room (Nat.le_of_ble_eq_true rfl)) dX6_reads_29 ⟨Nat.le_of_ble_eq_true rfl, Nat.le_of_ble_eq_true rfl⟩) hP hD hS hA [0, 1] [] rfl rfl (by decide) (by decide) (fun H locs hP hD hS => ?_)
  have hP : va_P D vwCl [(a_this, .inr (5, [.int v_thrown, .ref a_this_s, .ref a_this_aside, .ref a_this_saved, .int v_savedMany, .ref a_this_text, .int v_length, .ref a_this_states, .int v_many, .int v_at, .int v_isWrong, .int v_letters, .int v_matched, .ref a_this_rows, .int v_manyRows, .long v_digested])), (a_this_s, .inl (cI, 31, .inl v_s))] H := hP
  have hD : va_D A [(a_this, .inr (5, [.int v_thrown, .ref a_this_s, .ref a_this_aside, .ref a_this_saved, .int v_savedMany, .ref a_this_text, .int v_length, .ref a_this_states, .int v_many, .int v_at, .int v_isWrong, .int v_letters, .int v_matched, .ref a_this_rows, .int v_manyRows, .long v_digested])), (a_this_s, .inl (cI, 31, .inl v_s))] := hD
  refine lv_iload hx hb dX6_reads_32 (lv_at hl 0 rfl) ?_
  obtain ⟨r_11, hc_12, hden⟩ := bnd_s hden
  refine m_ci (wc := [(a_this, .inr (5, [.int v_thrown, .ref a_this_s, .ref a_this_aside, .ref a_this_saved, .int v_savedMany, .ref a_this_text, .int v_length, .ref a_this_states, .int v_many, .int v_at, .int v_isWrong, .int v_letters, .int v_matched, .ref a_this_rows, .int v_manyRows, .long v_digested])), (a_this_s, .inl (cI, 31, .inl v_s))]) (wr := []) (wc' := [(a_this, .inr (5, [.int v_thrown, .ref a_this_s, .ref a_this_aside, .ref a_this_saved, .int v_savedMany, .ref a_this_text, .int v_length, .ref a_this_states, .int v_many, .int v_at, .int v_isWrong, .int v_letters, .int v_matched, .ref a_this_rows, .int v_manyRows, .long v_digested])), (a_this_s, .inl (cI, 31, .inl v_s))]) (va_runV (As := [.int r_9, .int x4_6]) (rest := []) ⟨hx, hb, hml, hown, hts⟩ (c_X6_counting l D cI cM cL F hc_12) (cwV 2 hts gX6_reads_X6_counting rfl rfl rfl (by decide +kernel) ⟨Nat.le_of_ble_eq_true rfl, Nat.le_of_ble_eq_true rfl⟩) (mPreV (ci := 5) (q0 := 0) (r := (RX6, TX6, 16)) hP hD hK hN [0, 1] (by decide) rfl rfl rfl) rfl rfl hl.1 rfl (lv_room (Nat.le_of_ble_eq_true rfl)) dX6_reads_34 ⟨Nat.le_of_ble_eq_true rfl, Nat.le_of_ble_eq_true rfl⟩) hP hD hS hA [0, 1] [] rfl rfl (by decide) (by decide) (fun H locs hP hD hS => ?_)
  have hP : va_P D vwCl [(a_this, .inr (5, [.int v_thrown, .ref a_this_s, .ref a_this_aside, .ref a_this_saved, .int v_savedMany, .ref a_this_text, .int v_length, .ref a_this_states, .int v_many, .int v_at, .int v_isWrong, .int v_letters, .int v_matched, .ref a_this_rows, .int v_manyRows, .long v_digested])), (a_this_s, .inl (cI, 31, .inl v_s))] H := hP
  have hD : va_D A [(a_this, .inr (5, [.int v_thrown, .ref a_this_s, .ref a_this_aside, .ref a_this_saved, .int v_savedMany, .ref a_this_text, .int v_length, .ref a_this_states, .int v_many, .int v_at, .int v_isWrong, .int v_letters, .int v_matched, .ref a_this_rows, .int v_manyRows, .long v_digested])), (a_this_s, .inl (cI, 31, .inl v_s))] := hD
  refine lv_istore (lv' := [(5, .int r_11), (4, .int x4_6), (3, .int r_3), (2, .int r_1), (0, .ref a_this), (1, .int p1)]) hx hb dX6_reads_37 hl (by decide) rfl (fun ls hl => ?_)
  refine lv_aload_n hx hb dX6_reads_39 rfl (lv_at hl 4 rfl) ?_
  refine va_get (D := D) (ci := 5) (v := .ref a_this_s) (C := RX6) (T := TX6) (N := 16) hx hb hts hin_X6 hown hK hP 0 rfl rfl 1 (by decide) w_7 (fun _ h9 => h9) rfl dX6_reads_40 ?_
  refine lv_bipush (v := 29) hx hb dX6_reads_43 (by decide) ?_
  refine lv_dup2_11 hx hb dX6_reads_45 rfl rfl ?_
  obtain ⟨hg_13, hden⟩ := grd_s hden
  refine va_iald hx hb hK hP 1 0 rfl rfl (inb_in hg_13) dX6_reads_46 ?_
  refine lv_iload_n hx hb dX6_reads_47 rfl (lv_at hl 2 rfl) ?_
  refine lv_iadd hx hb dX6_reads_48 ?_
  refine lv_topi (fun y_14 ey_14 => ?_)
  have hden := nm_s hden ey_14
  obtain ⟨hg_15, hden⟩ := grd_s hden
  refine va_iast hx hb hK hP hD hS 1 0 rfl rfl (inb_in hg_15) dX6_reads_49 (fun H locs hP hD hS => ?_)
  obtain ⟨v_s_16, ev_s_16, hden⟩ := nm_x hden
  have hP : va_P D vwCl [(a_this, .inr (5, [.int v_thrown, .ref a_this_s, .ref a_this_aside, .ref a_this_saved, .int v_savedMany, .ref a_this_text, .int v_length, .ref a_this_states, .int v_many, .int v_at, .int v_isWrong, .int v_letters, .int v_matched, .ref a_this_rows, .int v_manyRows, .long v_digested])), (a_this_s, .inl (cI, 31, .inl v_s_16))] H := by rw [ev_s_16]; exact hP
  have hD : va_D A [(a_this, .inr (5, [.int v_thrown, .ref a_this_s, .ref a_this_aside, .ref a_this_saved, .int v_savedMany, .ref a_this_text, .int v_length, .ref a_this_states, .int v_many, .int v_at, .int v_isWrong, .int v_letters, .int v_matched, .ref a_this_rows, .int v_manyRows, .long v_digested])), (a_this_s, .inl (cI, 31, .inl v_s_16))] := by rw [ev_s_16]; exact hD
  refine lv_aload_n hx hb dX6_reads_50 rfl (lv_at hl 4 rfl) ?_
  refine va_get (D := D) (ci := 5) (v := .ref a_this_s) (C := RX6) (T := TX6) (N := 16) hx hb hts hin_X6 hown hK hP 0 rfl rfl 1 (by decide) w_7 (fun _ h9 => h9) rfl dX6_reads_51 ?_
  refine lv_bipush (v := 30) hx hb dX6_reads_54 (by decide) ?_
  refine lv_iload_n hx hb dX6_reads_56 rfl (lv_at hl 2 rfl) ?_
  refine lv_aload_n hx hb dX6_reads_57 rfl (lv_at hl 4 rfl) ?_
  refine va_get (D := D) (ci := 5) (v := .ref a_this_s) (C := RX6) (T := TX6) (N := 16) hx hb hts hin_X6 hown hK hP 0 rfl rfl 1 (by decide) w_7 (fun _ h9 => h9) rfl dX6_reads_58 ?_
  refine lv_bipush (v := 30) hx hb dX6_reads_61 (by decide) ?_
  obtain ⟨hg_17, hden⟩ := grd_s hden
  refine va_iald hx hb hK hP 1 0 rfl rfl (inb_in hg_17) dX6_reads_63 ?_
  obtain ⟨j78, ej78, hden⟩ := jp_s hden
  have hj78 : ∀ (t_18 : Int32) (H : Heap) (locs : List Loc), va_P D vwCl [(a_this, .inr (5, [.int v_thrown, .ref a_this_s, .ref a_this_aside, .ref a_this_saved, .int v_savedMany, .ref a_this_text, .int v_length, .ref a_this_states, .int v_many, .int v_at, .int v_isWrong, .int v_letters, .int v_matched, .ref a_this_rows, .int v_manyRows, .long v_digested])), (a_this_s, .inl (cI, 31, .inl v_s_16))] H → va_D A [(a_this, .inr (5, [.int v_thrown, .ref a_this_s, .ref a_this_aside, .ref a_this_saved, .int v_savedMany, .ref a_this_text, .int v_length, .ref a_this_states, .int v_many, .int v_at, .int v_isWrong, .int v_letters, .int v_matched, .ref a_this_rows, .int v_manyRows, .long v_digested])), (a_this_s, .inl (cI, 31, .inl v_s_16))] → va_S A s.heap H locs → ∀ ls : Array Slot, lv_has ls 7 [(0, .ref a_this), (1, .int p1), (4, .int x4_6), (5, .int r_11)] → j78 t_18 = some (r0, w_s) → W p l e rm_X6_reads s m (([.ref a_this, .int p1] : List Value).toArray) below meth c H locs 0 0 Q (F0 m 78 ls [.int t_18, .int 30, .ref a_this_s]) := by
    intro t_18 H locs hP hD hS ls hl hden
    rw [ej78] at hden
    obtain ⟨hg_19, hden⟩ := grd_s hden
    refine va_iast hx hb hK hP hD hS 1 0 rfl rfl (inb_in hg_19) dX6_reads_78 (fun H locs hP hD hS => ?_)
    obtain ⟨v_s_20, ev_s_20, hden⟩ := nm_x hden
    have hP : va_P D vwCl [(a_this, .inr (5, [.int v_thrown, .ref a_this_s, .ref a_this_aside, .ref a_this_saved, .int v_savedMany, .ref a_this_text, .int v_length, .ref a_this_states, .int v_many, .int v_at, .int v_isWrong, .int v_letters, .int v_matched, .ref a_this_rows, .int v_manyRows, .long v_digested])), (a_this_s, .inl (cI, 31, .inl v_s_20))] H := by rw [ev_s_20]; exact hP
    have hD : va_D A [(a_this, .inr (5, [.int v_thrown, .ref a_this_s, .ref a_this_aside, .ref a_this_saved, .int v_savedMany, .ref a_this_text, .int v_length, .ref a_this_states, .int v_many, .int v_at, .int v_isWrong, .int v_letters, .int v_matched, .ref a_this_rows, .int v_manyRows, .long v_digested])), (a_this_s, .inl (cI, 31, .inl v_s_20))] := by rw [ev_s_20]; exact hD
    refine lv_aload_n hx hb dX6_reads_79 rfl (lv_at hl 0 rfl) ?_
    refine va_get (D := D) (ci := 5) (v := .ref a_this_s) (C := RX6) (T := TX6) (N := 16) hx hb hts hin_X6 hown hK hP 0 rfl rfl 1 (by decide) w_7 (fun _ h9 => h9) rfl dX6_reads_80 ?_
    refine lv_bipush (v := 26) hx hb dX6_reads_83 (by decide) ?_
    refine lv_iconst (v := 4) hx hb dX6_reads_85 (by decide) ?_
    refine lv_aload_n hx hb dX6_reads_86 rfl (lv_at hl 0 rfl) ?_
    refine va_get (D := D) (ci := 5) (v := .ref a_this_s) (C := RX6) (T := TX6) (N := 16) hx hb hts hin_X6 hown hK hP 0 rfl rfl 1 (by decide) w_7 (fun _ h9 => h9) rfl dX6_reads_87 ?_
    refine lv_bipush (v := 26) hx hb dX6_reads_90 (by decide) ?_
    obtain ⟨hg_21, hden⟩ := grd_s hden
    refine va_iald hx hb hK hP 1 0 rfl rfl (inb_in hg_21) dX6_reads_92 ?_
    refine lv_imul hx hb dX6_reads_93 ?_
    refine lv_iload_n hx hb dX6_reads_94 rfl (lv_at hl 1 rfl) ?_
    refine lv_iadd hx hb dX6_reads_95 ?_
    refine lv_ldc (v := 65536) hx hb hown w_101 dX6_reads_96 ?_
    refine lv_irem hx hb dX6_reads_98 (by decide) ?_
    refine lv_topi (fun y_22 ey_22 => ?_)
    have hden := nm_s hden ey_22
    obtain ⟨hg_23, hden⟩ := grd_s hden
    refine va_iast hx hb hK hP hD hS 1 0 rfl rfl (inb_in hg_23) dX6_reads_99 (fun H locs hP hD hS => ?_)
    obtain ⟨v_s_24, ev_s_24, hden⟩ := nm_x hden
    have hP : va_P D vwCl [(a_this, .inr (5, [.int v_thrown, .ref a_this_s, .ref a_this_aside, .ref a_this_saved, .int v_savedMany, .ref a_this_text, .int v_length, .ref a_this_states, .int v_many, .int v_at, .int v_isWrong, .int v_letters, .int v_matched, .ref a_this_rows, .int v_manyRows, .long v_digested])), (a_this_s, .inl (cI, 31, .inl v_s_24))] H := by rw [ev_s_24]; exact hP
    have hD : va_D A [(a_this, .inr (5, [.int v_thrown, .ref a_this_s, .ref a_this_aside, .ref a_this_saved, .int v_savedMany, .ref a_this_text, .int v_length, .ref a_this_states, .int v_many, .int v_at, .int v_isWrong, .int v_letters, .int v_matched, .ref a_this_rows, .int v_manyRows, .long v_digested])), (a_this_s, .inl (cI, 31, .inl v_s_24))] := by rw [ev_s_24]; exact hD
    refine lv_aload_n hx hb dX6_reads_100 rfl (lv_at hl 0 rfl) ?_
    refine va_get (D := D) (ci := 5) (v := .ref a_this_s) (C := RX6) (T := TX6) (N := 16) hx hb hts hin_X6 hown hK hP 0 rfl rfl 1 (by decide) w_7 (fun _ h9 => h9) rfl dX6_reads_101 ?_
    refine lv_bipush (v := 25) hx hb dX6_reads_104 (by decide) ?_
    refine lv_dup2_11 hx hb dX6_reads_106 rfl rfl ?_
    obtain ⟨hg_25, hden⟩ := grd_s hden
    refine va_iald hx hb hK hP 1 0 rfl rfl (inb_in hg_25) dX6_reads_107 ?_
    refine lv_iconst (v := 1) hx hb dX6_reads_108 (by decide) ?_
    refine lv_iadd hx hb dX6_reads_109 ?_
    refine lv_topi (fun y_26 ey_26 => ?_)
    have hden := nm_s hden ey_26
    obtain ⟨hg_27, hden⟩ := grd_s hden
    refine va_iast hx hb hK hP hD hS 1 0 rfl rfl (inb_in hg_27) dX6_reads_110 (fun H locs hP hD hS => ?_)
    obtain ⟨v_s_28, ev_s_28, hden⟩ := nm_x hden
    have hP : va_P D vwCl [(a_this, .inr (5, [.int v_thrown, .ref a_this_s, .ref a_this_aside, .ref a_this_saved, .int v_savedMany, .ref a_this_text, .int v_length, .ref a_this_states, .int v_many, .int v_at, .int v_isWrong, .int v_letters, .int v_matched, .ref a_this_rows, .int v_manyRows, .long v_digested])), (a_this_s, .inl (cI, 31, .inl v_s_28))] H := by rw [ev_s_28]; exact hP
    have hD : va_D A [(a_this, .inr (5, [.int v_thrown, .ref a_this_s, .ref a_this_aside, .ref a_this_saved, .int v_savedMany, .ref a_this_text, .int v_length, .ref a_this_states, .int v_many, .int v_at, .int v_isWrong, .int v_letters, .int v_matched, .ref a_this_rows, .int v_manyRows, .long v_digested])), (a_this_s, .inl (cI, 31, .inl v_s_28))] := by rw [ev_s_28]; exact hD
    refine lv_iconst (v := 0) hx hb dX6_reads_111 (by decide) ?_
    refine lv_istore (lv' := [(6, .int 0), (0, .ref a_this), (1, .int p1), (4, .int x4_6), (5, .int r_11)]) hx hb dX6_reads_112 hl (by decide) rfl (fun ls hl => ?_)
    have hL114__50 : ∀ (k184 : (Nat → Int32) → Option (Int32 × (Nat → Int32))), (∀ (v_s_49 : (Nat → Int32)) (H : Heap) (locs : List Loc), va_P D vwCl [(a_this, .inr (5, [.int v_thrown, .ref a_this_s, .ref a_this_aside, .ref a_this_saved, .int v_savedMany, .ref a_this_text, .int v_length, .ref a_this_states, .int v_many, .int v_at, .int v_isWrong, .int v_letters, .int v_matched, .ref a_this_rows, .int v_manyRows, .long v_digested])), (a_this_s, .inl (cI, 31, .inl v_s_49))] H → va_D A [(a_this, .inr (5, [.int v_thrown, .ref a_this_s, .ref a_this_aside, .ref a_this_saved, .int v_savedMany, .ref a_this_text, .int v_length, .ref a_this_states, .int v_many, .int v_at, .int v_isWrong, .int v_letters, .int v_matched, .ref a_this_rows, .int v_manyRows, .long v_digested])), (a_this_s, .inl (cI, 31, .inl v_s_49))] → va_S A s.heap H locs → ∀ ls : Array Slot, lv_has ls 7 [(5, .int r_11)] → k184 v_s_49 = some (r0, w_s) → W p l e rm_X6_reads s m (([.ref a_this, .int p1] : List Value).toArray) below meth c H locs 0 0 Q (F0 m 184 ls [])) → ∀ (n : Nat) (x6_47 : Int32) (v_s_48 : (Nat → Int32)) (H : Heap) (locs : List Loc), va_P D vwCl [(a_this, .inr (5, [.int v_thrown, .ref a_this_s, .ref a_this_aside, .ref a_this_saved, .int v_savedMany, .ref a_this_text, .int v_length, .ref a_this_states, .int v_many, .int v_at, .int v_isWrong, .int v_letters, .int v_matched, .ref a_this_rows, .int v_manyRows, .long v_digested])), (a_this_s, .inl (cI, 31, .inl v_s_48))] H → va_D A [(a_this, .inr (5, [.int v_thrown, .ref a_this_s, .ref a_this_aside, .ref a_this_saved, .int v_savedMany, .ref a_this_text, .int v_length, .ref a_this_states, .int v_many, .int v_at, .int v_isWrong, .int v_letters, .int v_matched, .ref a_this_rows, .int v_manyRows, .long v_digested])), (a_this_s, .inl (cI, 31, .inl v_s_48))] → va_S A s.heap H locs → ∀ ls : Array Slot, lv_has ls 7 [(0, .ref a_this), (4, .int x4_6), (5, .int r_11), (6, .int x6_47)] → L_X6_reads_114 F k184 x4_6 r_11 n x6_47 v_s_48 = some (r0, w_s) → W p l e rm_X6_reads s m (([.ref a_this, .int p1] : List Value).toArray) below meth c H locs 0 0 Q (F0 m 114 ls []) := by
      intro k184 hk184 n
      induction n with
      | zero => intro x6_47 v_s_48 H locs hP hD hS ls hl hden; exact no_none hden
      | succ n ih =>
        intro x6_47 v_s_48 H locs hP hD hS ls hl hden
        rw [L_X6_reads_114] at hden
        refine lv_iload hx hb dX6_reads_114 (lv_at hl 3 rfl) ?_
        refine lv_bipush (v := 8) hx hb dX6_reads_116 (by decide) ?_
        refine lv_icmp_ge (tgt := 184) hx hb dX6_reads_118 (by decide) (fun c_66 => ?_) (fun c_66 => ?_)
        · have hden := if_s hden c_66
          exact hk184 v_s_48 _ _ (mSubP hP [0, 1] rfl) (hD.sub [0, 1] (by decide) rfl) hS ls (lv_sub hl [2] rfl) hden
        · have hden := ifn_s hden c_66
          refine lv_iload hx hb dX6_reads_121 (lv_at hl 2 rfl) ?_
          refine lv_iload hx hb dX6_reads_123 (lv_at hl 3 rfl) ?_
          refine lv_ishr hx hb dX6_reads_125 ?_
          refine lv_iconst (v := 1) hx hb dX6_reads_126 (by decide) ?_
          refine lv_iand hx hb dX6_reads_127 ?_
          refine lv_iconst (v := 1) hx hb dX6_reads_128 (by decide) ?_
          refine lv_icmp_ne (tgt := 178) hx hb dX6_reads_129 (by decide) (fun c_65 => ?_) (fun c_65 => ?_)
          · have hden := ifn_s hden c_65
            obtain ⟨x6_51, ex6_51, hden⟩ := nm_x hden
            refine lv_iinc (v := x6_51) (lv' := [(6, .int x6_51), (0, .ref a_this), (4, .int x4_6), (5, .int r_11)]) hx hb dX6_reads_178 hl (k := 3) rfl (by rw [ex6_51]; rfl) (by decide) rfl (fun ls hl => ?_)
            refine lv_goto (tgt := 114) hx hb dX6_reads_181 (by decide) ?_
            exact ih x6_51 v_s_48 _ _ (mSubP hP [0, 1] rfl) (hD.sub [0, 1] (by decide) rfl) hS ls (lv_sub hl [1, 2, 3, 0] rfl) hden
          · have hden := if_s hden c_65
            refine lv_aload_n hx hb dX6_reads_132 rfl (lv_at hl 0 rfl) ?_
            refine va_get (D := D) (ci := 5) (v := .ref a_this_s) (C := RX6) (T := TX6) (N := 16) hx hb hts hin_X6 hown hK hP 0 rfl rfl 1 (by decide) w_7 (fun _ h9 => h9) rfl dX6_reads_133 ?_
            refine lv_bipush (v := 8) hx hb dX6_reads_136 (by decide) ?_
            refine lv_iload hx hb dX6_reads_138 (lv_at hl 3 rfl) ?_
            refine lv_iadd hx hb dX6_reads_140 ?_
            refine lv_dup2_11 hx hb dX6_reads_141 rfl rfl ?_
            obtain ⟨hg_52, hden⟩ := grd_s hden
            refine va_iald hx hb hK hP 1 0 rfl rfl (inb_in hg_52) dX6_reads_142 ?_
            refine lv_iconst (v := 1) hx hb dX6_reads_143 (by decide) ?_
            refine lv_iadd hx hb dX6_reads_144 ?_
            refine lv_topi (fun y_53 ey_53 => ?_)
            have hden := nm_s hden ey_53
            obtain ⟨hg_54, hden⟩ := grd_s hden
            refine va_iast hx hb hK hP hD hS 1 0 rfl rfl (inb_in hg_54) dX6_reads_145 (fun H locs hP hD hS => ?_)
            obtain ⟨v_s_55, ev_s_55, hden⟩ := nm_x hden
            have hP : va_P D vwCl [(a_this, .inr (5, [.int v_thrown, .ref a_this_s, .ref a_this_aside, .ref a_this_saved, .int v_savedMany, .ref a_this_text, .int v_length, .ref a_this_states, .int v_many, .int v_at, .int v_isWrong, .int v_letters, .int v_matched, .ref a_this_rows, .int v_manyRows, .long v_digested])), (a_this_s, .inl (cI, 31, .inl v_s_55))] H := by rw [ev_s_55]; exact hP
            have hD : va_D A [(a_this, .inr (5, [.int v_thrown, .ref a_this_s, .ref a_this_aside, .ref a_this_saved, .int v_savedMany, .ref a_this_text, .int v_length, .ref a_this_states, .int v_many, .int v_at, .int v_isWrong, .int v_letters, .int v_matched, .ref a_this_rows, .int v_manyRows, .long v_digested])), (a_this_s, .inl (cI, 31, .inl v_s_55))] := by rw [ev_s_55]; exact hD
            refine lv_aload_n hx hb dX6_reads_146 rfl (lv_at hl 0 rfl) ?_
            refine va_get (D := D) (ci := 5) (v := .ref a_this_s) (C := RX6) (T := TX6) (N := 16) hx hb hts hin_X6 hown hK hP 0 rfl rfl 1 (by decide) w_7 (fun _ h9 => h9) rfl dX6_reads_147 ?_
            refine lv_bipush (v := 16) hx hb dX6_reads_150 (by decide) ?_
            refine lv_iload hx hb dX6_reads_152 (lv_at hl 3 rfl) ?_
            refine lv_iadd hx hb dX6_reads_154 ?_
            refine lv_iload hx hb dX6_reads_155 (lv_at hl 1 rfl) ?_
            obtain ⟨hg_56, hden⟩ := grd_s hden
            refine va_iast hx hb hK hP hD hS 1 0 rfl rfl (inb_in hg_56) dX6_reads_157 (fun H locs hP hD hS => ?_)
            obtain ⟨v_s_57, ev_s_57, hden⟩ := nm_x hden
            have hP : va_P D vwCl [(a_this, .inr (5, [.int v_thrown, .ref a_this_s, .ref a_this_aside, .ref a_this_saved, .int v_savedMany, .ref a_this_text, .int v_length, .ref a_this_states, .int v_many, .int v_at, .int v_isWrong, .int v_letters, .int v_matched, .ref a_this_rows, .int v_manyRows, .long v_digested])), (a_this_s, .inl (cI, 31, .inl v_s_57))] H := by rw [ev_s_57]; exact hP
            have hD : va_D A [(a_this, .inr (5, [.int v_thrown, .ref a_this_s, .ref a_this_aside, .ref a_this_saved, .int v_savedMany, .ref a_this_text, .int v_length, .ref a_this_states, .int v_many, .int v_at, .int v_isWrong, .int v_letters, .int v_matched, .ref a_this_rows, .int v_manyRows, .long v_digested])), (a_this_s, .inl (cI, 31, .inl v_s_57))] := by rw [ev_s_57]; exact hD
            refine lv_aload_n hx hb dX6_reads_158 rfl (lv_at hl 0 rfl) ?_
            refine va_get (D := D) (ci := 5) (v := .ref a_this_s) (C := RX6) (T := TX6) (N := 16) hx hb hts hin_X6 hown hK hP 0 rfl rfl 1 (by decide) w_7 (fun _ h9 => h9) rfl dX6_reads_159 ?_
            refine lv_bipush (v := 28) hx hb dX6_reads_162 (by decide) ?_
            refine lv_iload hx hb dX6_reads_164 (lv_at hl 1 rfl) ?_
            obtain ⟨hg_58, hden⟩ := grd_s hden
            refine va_iast hx hb hK hP hD hS 1 0 rfl rfl (inb_in hg_58) dX6_reads_166 (fun H locs hP hD hS => ?_)
            obtain ⟨v_s_59, ev_s_59, hden⟩ := nm_x hden
            have hP : va_P D vwCl [(a_this, .inr (5, [.int v_thrown, .ref a_this_s, .ref a_this_aside, .ref a_this_saved, .int v_savedMany, .ref a_this_text, .int v_length, .ref a_this_states, .int v_many, .int v_at, .int v_isWrong, .int v_letters, .int v_matched, .ref a_this_rows, .int v_manyRows, .long v_digested])), (a_this_s, .inl (cI, 31, .inl v_s_59))] H := by rw [ev_s_59]; exact hP
            have hD : va_D A [(a_this, .inr (5, [.int v_thrown, .ref a_this_s, .ref a_this_aside, .ref a_this_saved, .int v_savedMany, .ref a_this_text, .int v_length, .ref a_this_states, .int v_many, .int v_at, .int v_isWrong, .int v_letters, .int v_matched, .ref a_this_rows, .int v_manyRows, .long v_digested])), (a_this_s, .inl (cI, 31, .inl v_s_59))] := by rw [ev_s_59]; exact hD
            refine lv_aload_n hx hb dX6_reads_167 rfl (lv_at hl 0 rfl) ?_
            refine va_get (D := D) (ci := 5) (v := .ref a_this_s) (C := RX6) (T := TX6) (N := 16) hx hb hts hin_X6 hown hK hP 0 rfl rfl 1 (by decide) w_7 (fun _ h9 => h9) rfl dX6_reads_168 ?_
            refine lv_bipush (v := 27) hx hb dX6_reads_171 (by decide) ?_
            refine lv_dup2_11 hx hb dX6_reads_173 rfl rfl ?_
            obtain ⟨hg_60, hden⟩ := grd_s hden
            refine va_iald hx hb hK hP 1 0 rfl rfl (inb_in hg_60) dX6_reads_174 ?_
            refine lv_iconst (v := 1) hx hb dX6_reads_175 (by decide) ?_
            refine lv_iadd hx hb dX6_reads_176 ?_
            refine lv_topi (fun y_61 ey_61 => ?_)
            have hden := nm_s hden ey_61
            obtain ⟨hg_62, hden⟩ := grd_s hden
            refine va_iast hx hb hK hP hD hS 1 0 rfl rfl (inb_in hg_62) dX6_reads_177 (fun H locs hP hD hS => ?_)
            obtain ⟨v_s_63, ev_s_63, hden⟩ := nm_x hden
            have hP : va_P D vwCl [(a_this, .inr (5, [.int v_thrown, .ref a_this_s, .ref a_this_aside, .ref a_this_saved, .int v_savedMany, .ref a_this_text, .int v_length, .ref a_this_states, .int v_many, .int v_at, .int v_isWrong, .int v_letters, .int v_matched, .ref a_this_rows, .int v_manyRows, .long v_digested])), (a_this_s, .inl (cI, 31, .inl v_s_63))] H := by rw [ev_s_63]; exact hP
            have hD : va_D A [(a_this, .inr (5, [.int v_thrown, .ref a_this_s, .ref a_this_aside, .ref a_this_saved, .int v_savedMany, .ref a_this_text, .int v_length, .ref a_this_states, .int v_many, .int v_at, .int v_isWrong, .int v_letters, .int v_matched, .ref a_this_rows, .int v_manyRows, .long v_digested])), (a_this_s, .inl (cI, 31, .inl v_s_63))] := by rw [ev_s_63]; exact hD
            obtain ⟨x6_64, ex6_64, hden⟩ := nm_x hden
            refine lv_iinc (v := x6_64) (lv' := [(6, .int x6_64), (0, .ref a_this), (4, .int x4_6), (5, .int r_11)]) hx hb dX6_reads_178 hl (k := 3) rfl (by rw [ex6_64]; rfl) (by decide) rfl (fun ls hl => ?_)
            refine lv_goto (tgt := 114) hx hb dX6_reads_181 (by decide) ?_
            exact ih x6_64 v_s_63 _ _ (mSubP hP [0, 1] rfl) (hD.sub [0, 1] (by decide) rfl) hS ls (lv_sub hl [1, 2, 3, 0] rfl) hden
    refine hL114__50 _ (fun v_s_49 H locs hP hD hS ls hl hden => ?_) F 0 v_s_28 _ _ (mSubP hP [0, 1] rfl) (hD.sub [0, 1] (by decide) rfl) hS ls (lv_sub hl [1, 3, 4, 0] rfl) hden
    refine lv_iload hx hb dX6_reads_184 (lv_at hl 0 rfl) ?_
    obtain ⟨r_67, hc_68, hden⟩ := bnd_s hden
    refine m_ci (wc := []) (wr := [(a_this, .inr (5, [.int v_thrown, .ref a_this_s, .ref a_this_aside, .ref a_this_saved, .int v_savedMany, .ref a_this_text, .int v_length, .ref a_this_states, .int v_many, .int v_at, .int v_isWrong, .int v_letters, .int v_matched, .ref a_this_rows, .int v_manyRows, .long v_digested])), (a_this_s, .inl (cI, 31, .inl v_s_49))]) (wc' := []) (va_runS (As := [.int r_11]) (rest := []) ⟨hx, hb, hml, hown, hts⟩ (c_X6_bitsOf l D cI cM cL F hc_68) (va_cwS 1 hts gX6_reads_X6_bitsOf rfl rfl rfl (by decide +kernel) ⟨Nat.le_of_ble_eq_true rfl, Nat.le_of_ble_eq_true rfl⟩) (mPreS hP hD hK hN [] (by decide) rfl) rfl rfl hl.1 rfl (lv_room (Nat.le_of_ble_eq_true rfl)) dX6_reads_186 ⟨Nat.le_of_ble_eq_true rfl, Nat.le_of_ble_eq_true rfl⟩) hP hD hS hA [] [0, 1] rfl rfl (by decide) (by decide) (fun H locs hP hD hS => ?_)
    have hP : va_P D vwCl [(a_this, .inr (5, [.int v_thrown, .ref a_this_s, .ref a_this_aside, .ref a_this_saved, .int v_savedMany, .ref a_this_text, .int v_length, .ref a_this_states, .int v_many, .int v_at, .int v_isWrong, .int v_letters, .int v_matched, .ref a_this_rows, .int v_manyRows, .long v_digested])), (a_this_s, .inl (cI, 31, .inl v_s_49))] H := hP
    have hD : va_D A [(a_this, .inr (5, [.int v_thrown, .ref a_this_s, .ref a_this_aside, .ref a_this_saved, .int v_savedMany, .ref a_this_text, .int v_length, .ref a_this_states, .int v_many, .int v_at, .int v_isWrong, .int v_letters, .int v_matched, .ref a_this_rows, .int v_manyRows, .long v_digested])), (a_this_s, .inl (cI, 31, .inl v_s_49))] := hD
    subst hQe
    cases hden
    exact m_ri hx hb hr hP hD hS [0, 1] (by decide) rfl rfl dX6_reads_189 hlocks
  clear ej78
  refine lv_icmp_le (tgt := 71) hx hb dX6_reads_64 (by decide) (fun c_70 => ?_) (fun c_70 => ?_)
  · have hden := if_s hden c_70
    refine lv_aload_n hx hb dX6_reads_71 rfl (lv_at hl 4 rfl) ?_
    refine va_get (D := D) (ci := 5) (v := .ref a_this_s) (C := RX6) (T := TX6) (N := 16) hx hb hts hin_X6 hown hK hP 0 rfl rfl 1 (by decide) w_7 (fun _ h9 => h9) rfl dX6_reads_72 ?_
    refine lv_bipush (v := 30) hx hb dX6_reads_75 (by decide) ?_
    obtain ⟨hg_69, hden⟩ := grd_s hden
    refine va_iald hx hb hK hP 1 0 rfl rfl (inb_in hg_69) dX6_reads_77 ?_
    exact hj78 (v_s_16 (30 : Int32).toNatClampNeg) _ _ (mSubP hP [0, 1] rfl) (hD.sub [0, 1] (by decide) rfl) hS ls (lv_sub hl [4, 5, 1, 0] rfl) hden
  · have hden := ifn_s hden c_70
    refine lv_iload_n hx hb dX6_reads_67 rfl (lv_at hl 2 rfl) ?_
    refine lv_goto (tgt := 78) hx hb dX6_reads_68 (by decide) ?_
    exact hj78 r_3 _ _ (mSubP hP [0, 1] rfl) (hD.sub [0, 1] (by decide) rfl) hS ls (lv_sub hl [4, 5, 1, 0] rfl) hden
def D_X6_feed (F : Nat) (p1 : Int32) (v_s : (Nat → Int32)) (v_thrown : Int32) (v_savedMany : Int32) (v_saved : (Nat → Int32)) : Option (Int32 × Int32 × Int32 × (Nat → Int32) × (Nat → Int32)) := bnd (D_X6_in F p1 0 3) (fun r_1 => jp (fun (t_3 : Int32) => bnd (D_X6_holds F t_3 v_thrown) (fun (r_4, v_thrown_5) => (if r_4 = 0 then some (0, v_thrown_5, v_savedMany, v_saved, v_s) else bnd (D_X6_save F v_savedMany v_s v_saved) (fun (v_savedMany_7, v_saved_8) => bnd (D_X6_reads F p1 v_s) (fun (r_10, v_s_11) => some (r_10, v_thrown_5, v_savedMany_7, v_saved_8, v_s_11)))))) (fun j32 => (if r_1 = 0 then j32 1 else grd (inb 25 31) ((if (v_s (25 : Int32).toNatClampNeg) = 9999 then j32 2 else j32 0)))))
def rm_X6_feed : Room := { frames := 9, cells := 0, slots := 0, locals := 201 }
set_option maxHeartbeats 4000000 in
set_option maxRecDepth 100000 in
theorem c_X6_feed (l : Launch) (D : va_G) (cI cM cL : ClassId) (F : Nat) {a_this a_this_s a_this_aside a_this_saved a_this_text a_this_states a_this_rows : Nat} {sz : Nat} {v_thrown v_savedMany v_length v_many v_at v_isWrong v_letters v_matched v_manyRows : Int32} {v_digested : Int64} {v_s v_saved : Nat → Int32} {p1 : Int32} {r0 : Int32} {w_thrown : Int32} {w_savedMany : Int32} {w_saved : (Nat → Int32)} {w_s : (Nat → Int32)} (hden : D_X6_feed F p1 v_s v_thrown v_savedMany v_saved = some (r0, w_thrown, w_savedMany, w_saved, w_s)) : Met l yX6_feed wsX6_feed rm_X6_feed (va_Pc [.ref a_this, .int p1] (mB D (mTy cI cM cL) sz [(a_this, .inr (5, [.int v_thrown, .ref a_this_s, .ref a_this_aside, .ref a_this_saved, .int v_savedMany, .ref a_this_text, .int v_length, .ref a_this_states, .int v_many, .int v_at, .int v_isWrong, .int v_letters, .int v_matched, .ref a_this_rows, .int v_manyRows, .long v_digested])), (a_this_s, .inl (cI, 31, .inl v_s)), (a_this_saved, .inl (cI, 186, .inl v_saved))])) (mQi D (va_A [(a_this, .inr (5, [.int v_thrown, .ref a_this_s, .ref a_this_aside, .ref a_this_saved, .int v_savedMany, .ref a_this_text, .int v_length, .ref a_this_states, .int v_many, .int v_at, .int v_isWrong, .int v_letters, .int v_matched, .ref a_this_rows, .int v_manyRows, .long v_digested])), (a_this_s, .inl (cI, 31, .inl v_s)), (a_this_saved, .inl (cI, 186, .inl v_saved))] sz) [(a_this, .inr (5, [.int w_thrown, .ref a_this_s, .ref a_this_aside, .ref a_this_saved, .int w_savedMany, .ref a_this_text, .int v_length, .ref a_this_states, .int v_many, .int v_at, .int v_isWrong, .int v_letters, .int v_matched, .ref a_this_rows, .int v_manyRows, .long v_digested])), (a_this_s, .inl (cI, 31, .inl w_s)), (a_this_saved, .inl (cI, 186, .inl w_saved))] r0) 0 0 (va_A [(a_this, .inr (5, [.int v_thrown, .ref a_this_s, .ref a_this_aside, .ref a_this_saved, .int v_savedMany, .ref a_this_text, .int v_length, .ref a_this_states, .int v_many, .int v_at, .int v_isWrong, .int v_letters, .int v_matched, .ref a_this_rows, .int v_manyRows, .long v_digested])), (a_this_s, .inl (cI, 31, .inl v_s)), (a_this_saved, .inl (cI, 186, .inl v_saved))] sz) := by
  refine Met.ofW (cc := cX6_feed) (maxL := 2) (ret := (some .int)) (by decide) rfl ?_
  intro p e s m args below meth c s₁ B hml hv
  obtain ⟨rfl, hsz, hP, hK, hN, hD0⟩ := hv
  have hx := B.exec
  have hb := B.bytes
  have hr := B.returns
  have hts := atoms_spec (ws := wsX6_feed) B.pre
  have hown : s.vm.findClass RX6 = some m.cls := findClass_of_methodNamed B.named
  have hlocks := B.notSynchronized
  subst hsz
  have hD := hD0.self (sz := s.heap.size)
  generalize hAe : va_A [(a_this, .inr (5, [.int v_thrown, .ref a_this_s, .ref a_this_aside, .ref a_this_saved, .int v_savedMany, .ref a_this_text, .int v_length, .ref a_this_states, .int v_many, .int v_at, .int v_isWrong, .int v_letters, .int v_matched, .ref a_this_rows, .int v_manyRows, .long v_digested])), (a_this_s, .inl (cI, 31, .inl v_s)), (a_this_saved, .inl (cI, 186, .inl v_saved))] s.heap.size = A at hD ⊢
  have hA : ∀ q : Nat, s.heap.size ≤ q → A q := fun q h => by rw [← hAe]; exact Or.inr h
  have hS : va_S A s.heap s.heap [] := va_S.rf
  have hl := lv_entry ([.ref a_this, .int p1]) (n := 2) (Nat.le_of_ble_eq_true rfl)
  rw [lg_entry_eq]
  generalize (lg_sl ([.ref a_this, .int p1]) ++ List.replicate (2 - (lg_sl ([.ref a_this, .int p1])).length) Slot.unset).toArray = ls at hl ⊢
  have hl : lv_has ls 2 [(0, .ref a_this), (1, .int p1)] := hl
  change W p l e rm_X6_feed s m (([.ref a_this, .int p1] : List Value).toArray) below meth c s.heap [] 0 0 _ (F0 m 0 ls [])
  generalize hQe : MQ below (mQi D A [(a_this, .inr (5, [.int w_thrown, .ref a_this_s, .ref a_this_aside, .ref a_this_saved, .int w_savedMany, .ref a_this_text, .int v_length, .ref a_this_states, .int v_many, .int v_at, .int v_isWrong, .int v_letters, .int v_matched, .ref a_this_rows, .int v_manyRows, .long v_digested])), (a_this_s, .inl (cI, 31, .inl w_s)), (a_this_saved, .inl (cI, 186, .inl w_saved))] r0) (([.ref a_this, .int p1] : List Value).toArray) s 0 0 A = Q
  rw [D_X6_feed] at hden
  have hin_X6 : ∀ w ∈ wsX60, w ∈ wsX6_feed := by decide +kernel
  have w_7 := hts (.fieldLink RX6 7 "FallingPatternsModel" "s" "[I") (by decide +kernel)
  refine lv_aload_n hx hb dX6_feed_0 rfl (lv_at hl 0 rfl) ?_
  refine lv_iload_n hx hb dX6_feed_1 rfl (lv_at hl 1 rfl) ?_
  refine lv_iconst (v := 0) hx hb dX6_feed_2 (by decide) ?_
  refine lv_iconst (v := 3) hx hb dX6_feed_3 (by decide) ?_
  obtain ⟨r_1, hc_2, hden⟩ := bnd_s hden
  refine m_ci (wc := []) (wr := [(a_this, .inr (5, [.int v_thrown, .ref a_this_s, .ref a_this_aside, .ref a_this_saved, .int v_savedMany, .ref a_this_text, .int v_length, .ref a_this_states, .int v_many, .int v_at, .int v_isWrong, .int v_letters, .int v_matched, .ref a_this_rows, .int v_manyRows, .long v_digested])), (a_this_s, .inl (cI, 31, .inl v_s)), (a_this_saved, .inl (cI, 186, .inl v_saved))]) (wc' := []) (va_runS (As := [.int p1, .int 0, .int 3]) (rest := [.ref a_this]) ⟨hx, hb, hml, hown, hts⟩ (c_X6_in l D cI cM cL F hc_2) (va_cwS 3 hts gX6_feed_X6_in rfl rfl rfl (by decide +kernel) ⟨Nat.le_of_ble_eq_true rfl, Nat.le_of_ble_eq_true rfl⟩) (mPreS hP hD hK hN [] (by decide) rfl) rfl rfl hl.1 rfl (lv_room (Nat.le_of_ble_eq_true rfl)) dX6_feed_4 ⟨Nat.le_of_ble_eq_true rfl, Nat.le_of_ble_eq_true rfl⟩) hP hD hS hA [] [0, 1, 2] rfl rfl (by decide) (by decide) (fun H locs hP hD hS => ?_)
  have hP : va_P D vwCl [(a_this, .inr (5, [.int v_thrown, .ref a_this_s, .ref a_this_aside, .ref a_this_saved, .int v_savedMany, .ref a_this_text, .int v_length, .ref a_this_states, .int v_many, .int v_at, .int v_isWrong, .int v_letters, .int v_matched, .ref a_this_rows, .int v_manyRows, .long v_digested])), (a_this_s, .inl (cI, 31, .inl v_s)), (a_this_saved, .inl (cI, 186, .inl v_saved))] H := hP
  have hD : va_D A [(a_this, .inr (5, [.int v_thrown, .ref a_this_s, .ref a_this_aside, .ref a_this_saved, .int v_savedMany, .ref a_this_text, .int v_length, .ref a_this_states, .int v_many, .int v_at, .int v_isWrong, .int v_letters, .int v_matched, .ref a_this_rows, .int v_manyRows, .long v_digested])), (a_this_s, .inl (cI, 31, .inl v_s)), (a_this_saved, .inl (cI, 186, .inl v_saved))] := hD
  obtain ⟨j32, ej32, hden⟩ := jp_s hden
  have hj32 : ∀ (t_3 : Int32) (H : Heap) (locs : List Loc), va_P D vwCl [(a_this, .inr (5, [.int v_thrown, .ref a_this_s, .ref a_this_aside, .ref a_this_saved, .int v_savedMany, .ref a_this_text, .int v_length, .ref a_this_states, .int v_many, .int v_at, .int v_isWrong, .int v_letters, .int v_matched, .ref a_this_rows, .int v_manyRows, .long v_digested])), (a_this_s, .inl (cI, 31, .inl v_s)), (a_this_saved, .inl (cI, 186, .inl v_saved))] H → va_D A [(a_this, .inr (5, [.int v_thrown, .ref a_this_s, .ref a_this_aside, .ref a_this_saved, .int v_savedMany, .ref a_this_text, .int v_length, .ref a_this_states, .int v_many, .int v_at, .int v_isWrong, .int v_letters, .int v_matched, .ref a_this_rows, .int v_manyRows, .long v_digested])), (a_this_s, .inl (cI, 31, .inl v_s)), (a_this_saved, .inl (cI, 186, .inl v_saved))] → va_S A s.heap H locs → ∀ ls : Array Slot, lv_has ls 2 [(0, .ref a_this), (1, .int p1)] → j32 t_3 = some (r0, w_thrown, w_savedMany, w_saved, w_s) → W p l e rm_X6_feed s m (([.ref a_this, .int p1] : List Value).toArray) below meth c H locs 0 0 Q (F0 m 32 ls [.int t_3, .ref a_this]) := by
    intro t_3 H locs hP hD hS ls hl hden
    rw [ej32] at hden
    obtain ⟨⟨r_4, v_thrown_5⟩, hc_6, hden⟩ := bnd_s hden
    refine m_ci (wc := [(a_this, .inr (5, [.int v_thrown, .ref a_this_s, .ref a_this_aside, .ref a_this_saved, .int v_savedMany, .ref a_this_text, .int v_length, .ref a_this_states, .int v_many, .int v_at, .int v_isWrong, .int v_letters, .int v_matched, .ref a_this_rows, .int v_manyRows, .long v_digested]))]) (wr := [(a_this_s, .inl (cI, 31, .inl v_s)), (a_this_saved, .inl (cI, 186, .inl v_saved))]) (wc' := [(a_this, .inr (5, [.int v_thrown_5, .ref a_this_s, .ref a_this_aside, .ref a_this_saved, .int v_savedMany, .ref a_this_text, .int v_length, .ref a_this_states, .int v_many, .int v_at, .int v_isWrong, .int v_letters, .int v_matched, .ref a_this_rows, .int v_manyRows, .long v_digested]))]) (va_runV (As := [.int t_3]) (rest := []) ⟨hx, hb, hml, hown, hts⟩ (c_X6_holds l D cI cM cL F hc_6) (cwV 1 hts gX6_feed_X6_holds rfl rfl rfl (by decide +kernel) ⟨Nat.le_of_ble_eq_true rfl, Nat.le_of_ble_eq_true rfl⟩) (mPreV (ci := 5) (q0 := 0) (r := (RX6, TX6, 16)) hP hD hK hN [0] (by decide) rfl rfl rfl) rfl rfl hl.1 rfl (lv_room (Nat.le_of_ble_eq_true rfl)) dX6_feed_32 ⟨Nat.le_of_ble_eq_true rfl, Nat.le_of_ble_eq_true rfl⟩) hP hD hS hA [0] [1, 2] rfl rfl (by decide) (by decide) (fun H locs hP hD hS => ?_)
    have hP : va_P D vwCl [(a_this_s, .inl (cI, 31, .inl v_s)), (a_this_saved, .inl (cI, 186, .inl v_saved)), (a_this, .inr (5, [.int v_thrown_5, .ref a_this_s, .ref a_this_aside, .ref a_this_saved, .int v_savedMany, .ref a_this_text, .int v_length, .ref a_this_states, .int v_many, .int v_at, .int v_isWrong, .int v_letters, .int v_matched, .ref a_this_rows, .int v_manyRows, .long v_digested]))] H := hP
    have hD : va_D A [(a_this_s, .inl (cI, 31, .inl v_s)), (a_this_saved, .inl (cI, 186, .inl v_saved)), (a_this, .inr (5, [.int v_thrown_5, .ref a_this_s, .ref a_this_aside, .ref a_this_saved, .int v_savedMany, .ref a_this_text, .int v_length, .ref a_this_states, .int v_many, .int v_at, .int v_isWrong, .int v_letters, .int v_matched, .ref a_this_rows, .int v_manyRows, .long v_digested]))] := hD
    refine lv_if_ne (tgt := 40) hx hb dX6_feed_35 (by decide) (fun c_13 => ?_) (fun c_13 => ?_)
    · have hden := ifn_s hden c_13
      refine lv_aload_n hx hb dX6_feed_40 rfl (lv_at hl 0 rfl) ?_
      obtain ⟨⟨v_savedMany_7, v_saved_8⟩, hc_9, hden⟩ := bnd_s hden
      refine m_cv (wc := [(a_this, .inr (5, [.int v_thrown_5, .ref a_this_s, .ref a_this_aside, .ref a_this_saved, .int v_savedMany, .ref a_this_text, .int v_length, .ref a_this_states, .int v_many, .int v_at, .int v_isWrong, .int v_letters, .int v_matched, .ref a_this_rows, .int v_manyRows, .long v_digested])), (a_this_s, .inl (cI, 31, .inl v_s)), (a_this_saved, .inl (cI, 186, .inl v_saved))]) (wr := []) (wc' := [(a_this, .inr (5, [.int v_thrown_5, .ref a_this_s, .ref a_this_aside, .ref a_this_saved, .int v_savedMany_7, .ref a_this_text, .int v_length, .ref a_this_states, .int v_many, .int v_at, .int v_isWrong, .int v_letters, .int v_matched, .ref a_this_rows, .int v_manyRows, .long v_digested])), (a_this_s, .inl (cI, 31, .inl v_s)), (a_this_saved, .inl (cI, 186, .inl v_saved_8))]) (va_runV (As := []) (rest := []) ⟨hx, hb, hml, hown, hts⟩ (c_X6_save l D cI cM cL F hc_9) (cwV 0 hts gX6_feed_X6_save rfl rfl rfl (by decide +kernel) ⟨Nat.le_of_ble_eq_true rfl, Nat.le_of_ble_eq_true rfl⟩) (mPreV (ci := 5) (q0 := 0) (r := (RX6, TX6, 16)) hP hD hK hN [2, 0, 1] (by decide) rfl rfl rfl) rfl rfl hl.1 rfl (lv_room (Nat.le_of_ble_eq_true rfl)) dX6_feed_41 ⟨Nat.le_of_ble_eq_true rfl, Nat.le_of_ble_eq_true rfl⟩) hP hD hS hA [2, 0, 1] [] rfl rfl (by decide) (by decide) (fun H locs hP hD hS => ?_)
      have hP : va_P D vwCl [(a_this, .inr (5, [.int v_thrown_5, .ref a_this_s, .ref a_this_aside, .ref a_this_saved, .int v_savedMany_7, .ref a_this_text, .int v_length, .ref a_this_states, .int v_many, .int v_at, .int v_isWrong, .int v_letters, .int v_matched, .ref a_this_rows, .int v_manyRows, .long v_digested])), (a_this_s, .inl (cI, 31, .inl v_s)), (a_this_saved, .inl (cI, 186, .inl v_saved_8))] H := hP
      have hD : va_D A [(a_this, .inr (5, [.int v_thrown_5, .ref a_this_s, .ref a_this_aside, .ref a_this_saved, .int v_savedMany_7, .ref a_this_text, .int v_length, .ref a_this_states, .int v_many, .int v_at, .int v_isWrong, .int v_letters, .int v_matched, .ref a_this_rows, .int v_manyRows, .long v_digested])), (a_this_s, .inl (cI, 31, .inl v_s)), (a_this_saved, .inl (cI, 186, .inl v_saved_8))] := hD
      refine lv_aload_n hx hb dX6_feed_44 rfl (lv_at hl 0 rfl) ?_
      refine lv_iload_n hx hb dX6_feed_45 rfl (lv_at hl 1 rfl) ?_
      obtain ⟨⟨r_10, v_s_11⟩, hc_12, hden⟩ := bnd_s hden
      refine m_ci (wc := [(a_this, .inr (5, [.int v_thrown_5, .ref a_this_s, .ref a_this_aside, .ref a_this_saved, .int v_savedMany_7, .ref a_this_text, .int v_length, .ref a_this_states, .int v_many, .int v_at, .int v_isWrong, .int v_letters, .int v_matched, .ref a_this_rows, .int v_manyRows, .long v_digested])), (a_this_s, .inl (cI, 31, .inl v_s))]) (wr := [(a_this_saved, .inl (cI, 186, .inl v_saved_8))]) (wc' := [(a_this, .inr (5, [.int v_thrown_5, .ref a_this_s, .ref a_this_aside, .ref a_this_saved, .int v_savedMany_7, .ref a_this_text, .int v_length, .ref a_this_states, .int v_many, .int v_at, .int v_isWrong, .int v_letters, .int v_matched, .ref a_this_rows, .int v_manyRows, .long v_digested])), (a_this_s, .inl (cI, 31, .inl v_s_11))]) (va_runV (As := [.int p1]) (rest := []) ⟨hx, hb, hml, hown, hts⟩ (c_X6_reads l D cI cM cL F hc_12) (cwV 1 hts gX6_feed_X6_reads rfl rfl rfl (by decide +kernel) ⟨Nat.le_of_ble_eq_true rfl, Nat.le_of_ble_eq_true rfl⟩) (mPreV (ci := 5) (q0 := 0) (r := (RX6, TX6, 16)) hP hD hK hN [0, 1] (by decide) rfl rfl rfl) rfl rfl hl.1 rfl (lv_room (Nat.le_of_ble_eq_true rfl)) dX6_feed_46 ⟨Nat.le_of_ble_eq_true rfl, Nat.le_of_ble_eq_true rfl⟩) hP hD hS hA [0, 1] [2] rfl rfl (by decide) (by decide) (fun H locs hP hD hS => ?_)
      have hP : va_P D vwCl [(a_this_saved, .inl (cI, 186, .inl v_saved_8)), (a_this, .inr (5, [.int v_thrown_5, .ref a_this_s, .ref a_this_aside, .ref a_this_saved, .int v_savedMany_7, .ref a_this_text, .int v_length, .ref a_this_states, .int v_many, .int v_at, .int v_isWrong, .int v_letters, .int v_matched, .ref a_this_rows, .int v_manyRows, .long v_digested])), (a_this_s, .inl (cI, 31, .inl v_s_11))] H := hP
      have hD : va_D A [(a_this_saved, .inl (cI, 186, .inl v_saved_8)), (a_this, .inr (5, [.int v_thrown_5, .ref a_this_s, .ref a_this_aside, .ref a_this_saved, .int v_savedMany_7, .ref a_this_text, .int v_length, .ref a_this_states, .int v_many, .int v_at, .int v_isWrong, .int v_letters, .int v_matched, .ref a_this_rows, .int v_manyRows, .long v_digested])), (a_this_s, .inl (cI, 31, .inl v_s_11))] := hD
      subst hQe
      cases hden
      exact m_ri hx hb hr hP hD hS [1, 2, 0] (by decide) rfl rfl dX6_feed_49 hlocks
    · have hden := if_s hden c_13
      refine lv_iconst (v := 0) hx hb dX6_feed_38 (by decide) ?_
      subst hQe
      cases hden
      exact m_ri hx hb hr hP hD hS [2, 0, 1] (by decide) rfl rfl dX6_feed_39 hlocks
  clear ej32
  refine lv_if_ne (tgt := 14) hx hb dX6_feed_7 (by decide) (fun c_16 => ?_) (fun c_16 => ?_)
  · have hden := ifn_s hden c_16
    refine lv_aload_n hx hb dX6_feed_14 rfl (lv_at hl 0 rfl) ?_
    refine va_get (D := D) (ci := 5) (v := .ref a_this_s) (C := RX6) (T := TX6) (N := 16) hx hb hts hin_X6 hown hK hP 0 rfl rfl 1 (by decide) w_7 (fun _ h9 => h9) rfl dX6_feed_15 ?_
    refine lv_bipush (v := 25) hx hb dX6_feed_18 (by decide) ?_
    obtain ⟨hg_14, hden⟩ := grd_s hden
    refine va_iald hx hb hK hP 1 0 rfl rfl (inb_in hg_14) dX6_feed_20 ?_
    refine lv_sipush (v := 9999) hx hb dX6_feed_21 (by decide) ?_
    refine lv_icmp_ne (tgt := 31) hx hb dX6_feed_24 (by decide) (fun c_15 => ?_) (fun c_15 => ?_)
    · have hden := ifn_s hden c_15
      refine lv_iconst (v := 0) hx hb dX6_feed_31 (by decide) ?_
      exact hj32 0 _ _ (mSubP hP [0, 1, 2] rfl) (hD.sub [0, 1, 2] (by decide) rfl) hS ls (lv_sub hl [0, 1] rfl) hden
    · have hden := if_s hden c_15
      refine lv_iconst (v := 2) hx hb dX6_feed_27 (by decide) ?_
      refine lv_goto (tgt := 32) hx hb dX6_feed_28 (by decide) ?_
      exact hj32 2 _ _ (mSubP hP [0, 1, 2] rfl) (hD.sub [0, 1, 2] (by decide) rfl) hS ls (lv_sub hl [0, 1] rfl) hden
  · have hden := if_s hden c_16
    refine lv_iconst (v := 1) hx hb dX6_feed_10 (by decide) ?_
    refine lv_goto (tgt := 32) hx hb dX6_feed_11 (by decide) ?_
    exact hj32 1 _ _ (mSubP hP [0, 1, 2] rfl) (hD.sub [0, 1, 2] (by decide) rfl) hS ls (lv_sub hl [0, 1] rfl) hden
def D_X6_begin (F : Nat) (v_thrown : Int32) (v_savedMany : Int32) (v_s : (Nat → Int32)) (v_saved : (Nat → Int32)) : Option (Int32 × Int32 × Int32 × (Nat → Int32) × (Nat → Int32)) := bnd (D_X6_save F v_savedMany v_s v_saved) (fun (v_savedMany_1, v_saved_2) => grd (inb 25 31) (nm (v_s (25 : Int32).toNatClampNeg) (fun x1_5 => bnd (D_X6_clear F v_s) (fun v_s_6 => some (x1_5, 0, v_savedMany_1, v_saved_2, v_s_6)))))
def rm_X6_begin : Room := { frames := 1, cells := 0, slots := 0, locals := 21 }
set_option maxHeartbeats 4000000 in
set_option maxRecDepth 100000 in
theorem c_X6_begin (l : Launch) (D : va_G) (cI cM cL : ClassId) (F : Nat) {a_this a_this_s a_this_aside a_this_saved a_this_text a_this_states a_this_rows : Nat} {sz : Nat} {v_thrown v_savedMany v_length v_many v_at v_isWrong v_letters v_matched v_manyRows : Int32} {v_digested : Int64} {v_s v_saved : Nat → Int32} {r0 : Int32} {w_thrown : Int32} {w_savedMany : Int32} {w_saved : (Nat → Int32)} {w_s : (Nat → Int32)} (hden : D_X6_begin F v_thrown v_savedMany v_s v_saved = some (r0, w_thrown, w_savedMany, w_saved, w_s)) : Met l yX6_begin wsX6_begin rm_X6_begin (va_Pc [.ref a_this] (mB D (mTy cI cM cL) sz [(a_this, .inr (5, [.int v_thrown, .ref a_this_s, .ref a_this_aside, .ref a_this_saved, .int v_savedMany, .ref a_this_text, .int v_length, .ref a_this_states, .int v_many, .int v_at, .int v_isWrong, .int v_letters, .int v_matched, .ref a_this_rows, .int v_manyRows, .long v_digested])), (a_this_s, .inl (cI, 31, .inl v_s)), (a_this_saved, .inl (cI, 186, .inl v_saved))])) (mQi D (va_A [(a_this, .inr (5, [.int v_thrown, .ref a_this_s, .ref a_this_aside, .ref a_this_saved, .int v_savedMany, .ref a_this_text, .int v_length, .ref a_this_states, .int v_many, .int v_at, .int v_isWrong, .int v_letters, .int v_matched, .ref a_this_rows, .int v_manyRows, .long v_digested])), (a_this_s, .inl (cI, 31, .inl v_s)), (a_this_saved, .inl (cI, 186, .inl v_saved))] sz) [(a_this, .inr (5, [.int w_thrown, .ref a_this_s, .ref a_this_aside, .ref a_this_saved, .int w_savedMany, .ref a_this_text, .int v_length, .ref a_this_states, .int v_many, .int v_at, .int v_isWrong, .int v_letters, .int v_matched, .ref a_this_rows, .int v_manyRows, .long v_digested])), (a_this_s, .inl (cI, 31, .inl w_s)), (a_this_saved, .inl (cI, 186, .inl w_saved))] r0) 0 0 (va_A [(a_this, .inr (5, [.int v_thrown, .ref a_this_s, .ref a_this_aside, .ref a_this_saved, .int v_savedMany, .ref a_this_text, .int v_length, .ref a_this_states, .int v_many, .int v_at, .int v_isWrong, .int v_letters, .int v_matched, .ref a_this_rows, .int v_manyRows, .long v_digested])), (a_this_s, .inl (cI, 31, .inl v_s)), (a_this_saved, .inl (cI, 186, .inl v_saved))] sz) := by
  refine Met.ofW (cc := cX6_begin) (maxL := 2) (ret := (some .int)) (by decide) rfl ?_
  intro p e s m args below meth c s₁ B hml hv
  obtain ⟨rfl, hsz, hP, hK, hN, hD0⟩ := hv
  have hx := B.exec
  have hb := B.bytes
  have hr := B.returns
  have hts := atoms_spec (ws := wsX6_begin) B.pre
  have hown : s.vm.findClass RX6 = some m.cls := findClass_of_methodNamed B.named
  have hlocks := B.notSynchronized
  subst hsz
  have hD := hD0.self (sz := s.heap.size)
  generalize hAe : va_A [(a_this, .inr (5, [.int v_thrown, .ref a_this_s, .ref a_this_aside, .ref a_this_saved, .int v_savedMany, .ref a_this_text, .int v_length, .ref a_this_states, .int v_many, .int v_at, .int v_isWrong, .int v_letters, .int v_matched, .ref a_this_rows, .int v_manyRows, .long v_digested])), (a_this_s, .inl (cI, 31, .inl v_s)), (a_this_saved, .inl (cI, 186, .inl v_saved))] s.heap.size = A at hD ⊢
  have hA : ∀ q : Nat, s.heap.size ≤ q → A q := fun q h => by rw [← hAe]; exact Or.inr h
  have hS : va_S A s.heap s.heap [] := va_S.rf
  have hl := lv_entry ([.ref a_this]) (n := 2) (Nat.le_of_ble_eq_true rfl)
  rw [lg_entry_eq]
  generalize (lg_sl ([.ref a_this]) ++ List.replicate (2 - (lg_sl ([.ref a_this])).length) Slot.unset).toArray = ls at hl ⊢
  have hl : lv_has ls 2 [(0, .ref a_this)] := hl
  change W p l e rm_X6_begin s m (([.ref a_this] : List Value).toArray) below meth c s.heap [] 0 0 _ (F0 m 0 ls [])
  generalize hQe : MQ below (mQi D A [(a_this, .inr (5, [.int w_thrown, .ref a_this_s, .ref a_this_aside, .ref a_this_saved, .int w_savedMany, .ref a_this_text, .int v_length, .ref a_this_states, .int v_many, .int v_at, .int v_isWrong, .int v_letters, .int v_matched, .ref a_this_rows, .int v_manyRows, .long v_digested])), (a_this_s, .inl (cI, 31, .inl w_s)), (a_this_saved, .inl (cI, 186, .inl w_saved))] r0) (([.ref a_this] : List Value).toArray) s 0 0 A = Q
  rw [D_X6_begin] at hden
  have hin_X6 : ∀ w ∈ wsX60, w ∈ wsX6_begin := by decide +kernel
  have w_31 := hts (.fieldLink RX6 31 "FallingPatternsModel" "thrown" "I") (by decide +kernel)
  have w_7 := hts (.fieldLink RX6 7 "FallingPatternsModel" "s" "[I") (by decide +kernel)
  refine lv_aload_n hx hb dX6_begin_0 rfl (lv_at hl 0 rfl) ?_
  refine lv_iconst (v := 0) hx hb dX6_begin_1 (by decide) ?_
  refine va_put (D := D) (ci := 5) (v := .int 0) (ty := .int) (C := RX6) (T := TX6) (N := 16) hx hb hts hin_X6 tyX6 tyX6_ok nmX6 hown hK hP hD hS 0 rfl rfl 0 (by decide) w_31 (fun _ h9 => h9) rfl (by decide +kernel) rfl rfl (Nat.le_of_ble_eq_true rfl) dX6_begin_2 (fun H locs hP hD hS => ?_)
  have hP : va_P D vwCl [(a_this, .inr (5, [.int 0, .ref a_this_s, .ref a_this_aside, .ref a_this_saved, .int v_savedMany, .ref a_this_text, .int v_length, .ref a_this_states, .int v_many, .int v_at, .int v_isWrong, .int v_letters, .int v_matched, .ref a_this_rows, .int v_manyRows, .long v_digested])), (a_this_s, .inl (cI, 31, .inl v_s)), (a_this_saved, .inl (cI, 186, .inl v_saved))] H := hP
  have hD : va_D A [(a_this, .inr (5, [.int 0, .ref a_this_s, .ref a_this_aside, .ref a_this_saved, .int v_savedMany, .ref a_this_text, .int v_length, .ref a_this_states, .int v_many, .int v_at, .int v_isWrong, .int v_letters, .int v_matched, .ref a_this_rows, .int v_manyRows, .long v_digested])), (a_this_s, .inl (cI, 31, .inl v_s)), (a_this_saved, .inl (cI, 186, .inl v_saved))] := hD
  refine lv_aload_n hx hb dX6_begin_5 rfl (lv_at hl 0 rfl) ?_
  obtain ⟨⟨v_savedMany_1, v_saved_2⟩, hc_3, hden⟩ := bnd_s hden
  refine m_cv (wc := [(a_this, .inr (5, [.int 0, .ref a_this_s, .ref a_this_aside, .ref a_this_saved, .int v_savedMany, .ref a_this_text, .int v_length, .ref a_this_states, .int v_many, .int v_at, .int v_isWrong, .int v_letters, .int v_matched, .ref a_this_rows, .int v_manyRows, .long v_digested])), (a_this_s, .inl (cI, 31, .inl v_s)), (a_this_saved, .inl (cI, 186, .inl v_saved))]) (wr := []) (wc' := [(a_this, .inr (5, [.int 0, .ref a_this_s, .ref a_this_aside, .ref a_this_saved, .int v_savedMany_1, .ref a_this_text, .int v_length, .ref a_this_states, .int v_many, .int v_at, .int v_isWrong, .int v_letters, .int v_matched, .ref a_this_rows, .int v_manyRows, .long v_digested])), (a_this_s, .inl (cI, 31, .inl v_s)), (a_this_saved, .inl (cI, 186, .inl v_saved_2))]) (va_runV (As := []) (rest := []) ⟨hx, hb, hml, hown, hts⟩ (c_X6_save l D cI cM cL F hc_3) (cwV 0 hts gX6_begin_X6_save rfl rfl rfl (by decide +kernel) ⟨Nat.le_of_ble_eq_true rfl, Nat.le_of_ble_eq_true rfl⟩) (mPreV (ci := 5) (q0 := 0) (r := (RX6, TX6, 16)) hP hD hK hN [0, 1, 2] (by decide) rfl rfl rfl) rfl rfl hl.1 rfl (lv_room (Nat.le_of_ble_eq_true rfl)) dX6_begin_6 ⟨Nat.le_of_ble_eq_true rfl, Nat.le_of_ble_eq_true rfl⟩) hP hD hS hA [0, 1, 2] [] rfl rfl (by decide) (by decide) (fun H locs hP hD hS => ?_)
  have hP : va_P D vwCl [(a_this, .inr (5, [.int 0, .ref a_this_s, .ref a_this_aside, .ref a_this_saved, .int v_savedMany_1, .ref a_this_text, .int v_length, .ref a_this_states, .int v_many, .int v_at, .int v_isWrong, .int v_letters, .int v_matched, .ref a_this_rows, .int v_manyRows, .long v_digested])), (a_this_s, .inl (cI, 31, .inl v_s)), (a_this_saved, .inl (cI, 186, .inl v_saved_2))] H := hP
  have hD : va_D A [(a_this, .inr (5, [.int 0, .ref a_this_s, .ref a_this_aside, .ref a_this_saved, .int v_savedMany_1, .ref a_this_text, .int v_length, .ref a_this_states, .int v_many, .int v_at, .int v_isWrong, .int v_letters, .int v_matched, .ref a_this_rows, .int v_manyRows, .long v_digested])), (a_this_s, .inl (cI, 31, .inl v_s)), (a_this_saved, .inl (cI, 186, .inl v_saved_2))] := hD
  refine lv_aload_n hx hb dX6_begin_9 rfl (lv_at hl 0 rfl) ?_
  refine va_get (D := D) (ci := 5) (v := .ref a_this_s) (C := RX6) (T := TX6) (N := 16) hx hb hts hin_X6 hown hK hP 0 rfl rfl 1 (by decide) w_7 (fun _ h9 => h9) rfl dX6_begin_10 ?_
  refine lv_bipush (v := 25) hx hb dX6_begin_13 (by decide) ?_
  obtain ⟨hg_4, hden⟩ := grd_s hden
  refine va_iald hx hb hK hP 1 0 rfl rfl (inb_in hg_4) dX6_begin_15 ?_
  refine lv_topi (fun x1_5 ex1_5 => ?_)
  have hden := nm_s hden ex1_5
  refine lv_istore_n (lv' := [(1, .int x1_5), (0, .ref a_this)]) hx hb dX6_begin_16 rfl hl (by decide) rfl (fun ls hl => ?_)
  refine lv_aload_n hx hb dX6_begin_17 rfl (lv_at hl 1 rfl) ?_
  obtain ⟨v_s_6, hc_7, hden⟩ := bnd_s hden
  refine m_cv (wc := [(a_this, .inr (5, [.int 0, .ref a_this_s, .ref a_this_aside, .ref a_this_saved, .int v_savedMany_1, .ref a_this_text, .int v_length, .ref a_this_states, .int v_many, .int v_at, .int v_isWrong, .int v_letters, .int v_matched, .ref a_this_rows, .int v_manyRows, .long v_digested])), (a_this_s, .inl (cI, 31, .inl v_s))]) (wr := [(a_this_saved, .inl (cI, 186, .inl v_saved_2))]) (wc' := [(a_this, .inr (5, [.int 0, .ref a_this_s, .ref a_this_aside, .ref a_this_saved, .int v_savedMany_1, .ref a_this_text, .int v_length, .ref a_this_states, .int v_many, .int v_at, .int v_isWrong, .int v_letters, .int v_matched, .ref a_this_rows, .int v_manyRows, .long v_digested])), (a_this_s, .inl (cI, 31, .inl v_s_6))]) (va_runV (As := []) (rest := []) ⟨hx, hb, hml, hown, hts⟩ (c_X6_clear l D cI cM cL F hc_7) (cwV 0 hts gX6_begin_X6_clear rfl rfl rfl (by decide +kernel) ⟨Nat.le_of_ble_eq_true rfl, Nat.le_of_ble_eq_true rfl⟩) (mPreV (ci := 5) (q0 := 0) (r := (RX6, TX6, 16)) hP hD hK hN [0, 1] (by decide) rfl rfl rfl) rfl rfl hl.1 rfl (lv_room (Nat.le_of_ble_eq_true rfl)) dX6_begin_18 ⟨Nat.le_of_ble_eq_true rfl, Nat.le_of_ble_eq_true rfl⟩) hP hD hS hA [0, 1] [2] rfl rfl (by decide) (by decide) (fun H locs hP hD hS => ?_)
  have hP : va_P D vwCl [(a_this_saved, .inl (cI, 186, .inl v_saved_2)), (a_this, .inr (5, [.int 0, .ref a_this_s, .ref a_this_aside, .ref a_this_saved, .int v_savedMany_1, .ref a_this_text, .int v_length, .ref a_this_states, .int v_many, .int v_at, .int v_isWrong, .int v_letters, .int v_matched, .ref a_this_rows, .int v_manyRows, .long v_digested])), (a_this_s, .inl (cI, 31, .inl v_s_6))] H := hP
  have hD : va_D A [(a_this_saved, .inl (cI, 186, .inl v_saved_2)), (a_this, .inr (5, [.int 0, .ref a_this_s, .ref a_this_aside, .ref a_this_saved, .int v_savedMany_1, .ref a_this_text, .int v_length, .ref a_this_states, .int v_many, .int v_at, .int v_isWrong, .int v_letters, .int v_matched, .ref a_this_rows, .int v_manyRows, .long v_digested])), (a_this_s, .inl (cI, 31, .inl v_s_6))] := hD
  refine lv_iload_n hx hb dX6_begin_21 rfl (lv_at hl 0 rfl) ?_
  subst hQe
  cases hden
  exact m_ri hx hb hr hP hD hS [1, 2, 0] (by decide) rfl rfl dX6_begin_22 hlocks
