def L_X6_goLetters_175 (F : Nat) (k208 : Int32 → (Nat → Int32) → Option (Int32 × Int32 × Int32 × Int32 × (Nat → Int32))) (y1 : Int32) (y2 : Int32) (y3 : Int32) : Nat → Int32 → Int32 → (Nat → Int32) → Option (Int32 × Int32 × Int32 × Int32 × (Nat → Int32))
  | 0, _, _, _ => none
  | n + 1, x4_18, v_matched_19, v_s_20 => (if y3 ≤ x4_18 then k208 v_matched_19 v_s_20 else (if y1 = 0 then k208 v_matched_19 v_s_20 else bnd (D_X6_reads F (y2 - 97) v_s_20) (fun (r_21, v_s_22) => nm (v_matched_19 + r_21) (fun f_matched_24 => nm (x4_18 + 1) (fun x4_25 => L_X6_goLetters_175 F k208 y1 y2 y3 n x4_25 f_matched_24 v_s_22)))))
def L_X6_goLetters_20 (F : Nat) (y1 : Int32) (v_length : Int32) (v_text : (Nat → Int32)) : Nat → Int32 → Int32 → Int32 → Int32 → (Nat → Int32) → Option (Int32 × Int32 × Int32 × Int32 × (Nat → Int32))
  | 0, _, _, _, _, _ => none
  | n + 1, v_at_1, v_isWrong_2, v_letters_3, v_matched_4, v_s_5 => (if v_length ≤ v_at_1 then some (v_at_1, v_isWrong_2, v_letters_3, v_matched_4, v_s_5) else (if v_isWrong_2 = 0 then grd (inb v_at_1 60) (nm (v_text v_at_1.toNatClampNeg) (fun x2_7 => bnd (D_X6_in F x2_7 97 100) (fun r_8 => jp (fun (t_10 : Int32) => grd (bo t_10) (jp (fun (t_12 : Int32) => nm (v_at_1 + t_12) (fun f_at_13 => jp (fun (t_14 : Int32) => jp (fun (t_15 : Int32) => nm (f_at_13 + t_15) (fun f_at_16 => nm (v_letters_3 + t_14) (fun f_letters_17 => L_X6_goLetters_175 F (fun (v_matched_31 : Int32) (v_s_32 : (Nat → Int32)) => L_X6_goLetters_20 F y1 v_length v_text n f_at_16 t_10 f_letters_17 v_matched_31 v_s_32) y1 x2_7 t_14 F 0 v_matched_4 v_s_5))) (fun j158 => (if t_14 ≤ 1 then j158 0 else j158 1))) (fun j142 => jp (fun (_ : Unit) => j142 1) (fun j141 => (if t_10 = 0 then (if v_length ≤ f_at_13 then j141 () else grd (inb f_at_13 60) (bnd (D_X6_in F (v_text f_at_13.toNatClampNeg) 50 57) (fun r_43 => (if r_43 = 0 then j141 () else grd (inb f_at_13 60) (j142 ((v_text f_at_13.toNatClampNeg) - 48)))))) else j141 ()))))) (fun j85 => (if t_10 = 0 then j85 1 else j85 0)))) (fun j65 => (if r_8 = 0 then j65 1 else j65 0))))) else some (v_at_1, v_isWrong_2, v_letters_3, v_matched_4, v_s_5)))
def D_X6_goLetters (F : Nat) (p1 : Int32) (v_at : Int32) (v_isWrong : Int32) (v_letters : Int32) (v_matched : Int32) (v_length : Int32) (v_text : (Nat → Int32)) (v_s : (Nat → Int32)) : Option (Int32 × Int32 × Int32 × Int32 × (Nat → Int32)) := L_X6_goLetters_20 F p1 v_length v_text F 0 0 0 0 v_s
def rm_X6_goLetters : Room := { frames := 9, cells := 0, slots := 0, locals := 201 }
set_option maxHeartbeats 4000000 in
set_option maxRecDepth 100000 in
theorem c_X6_goLetters (l : Launch) (D : va_G) (cI cM cL : ClassId) (F : Nat) {a_this a_this_s a_this_aside a_this_saved a_this_text a_this_states a_this_rows : Nat} {sz : Nat} {v_thrown v_savedMany v_length v_many v_at v_isWrong v_letters v_matched v_manyRows : Int32} {v_digested : Int64} {v_text v_s : Nat → Int32} {p1 : Int32} {w_at : Int32} {w_isWrong : Int32} {w_letters : Int32} {w_matched : Int32} {w_s : (Nat → Int32)} (hden : D_X6_goLetters F p1 v_at v_isWrong v_letters v_matched v_length v_text v_s = some (w_at, w_isWrong, w_letters, w_matched, w_s)) : Met l yX6_goLetters wsX6_goLetters rm_X6_goLetters (va_Pc [.ref a_this, .int p1] (mB D (mTy cI cM cL) sz [(a_this, .inr (5, [.int v_thrown, .ref a_this_s, .ref a_this_aside, .ref a_this_saved, .int v_savedMany, .ref a_this_text, .int v_length, .ref a_this_states, .int v_many, .int v_at, .int v_isWrong, .int v_letters, .int v_matched, .ref a_this_rows, .int v_manyRows, .long v_digested])), (a_this_text, .inl (cI, 60, .inl v_text)), (a_this_s, .inl (cI, 31, .inl v_s))])) (mQv D (va_A [(a_this, .inr (5, [.int v_thrown, .ref a_this_s, .ref a_this_aside, .ref a_this_saved, .int v_savedMany, .ref a_this_text, .int v_length, .ref a_this_states, .int v_many, .int v_at, .int v_isWrong, .int v_letters, .int v_matched, .ref a_this_rows, .int v_manyRows, .long v_digested])), (a_this_text, .inl (cI, 60, .inl v_text)), (a_this_s, .inl (cI, 31, .inl v_s))] sz) [(a_this, .inr (5, [.int v_thrown, .ref a_this_s, .ref a_this_aside, .ref a_this_saved, .int v_savedMany, .ref a_this_text, .int v_length, .ref a_this_states, .int v_many, .int w_at, .int w_isWrong, .int w_letters, .int w_matched, .ref a_this_rows, .int v_manyRows, .long v_digested])), (a_this_text, .inl (cI, 60, .inl v_text)), (a_this_s, .inl (cI, 31, .inl w_s))]) 0 0 (va_A [(a_this, .inr (5, [.int v_thrown, .ref a_this_s, .ref a_this_aside, .ref a_this_saved, .int v_savedMany, .ref a_this_text, .int v_length, .ref a_this_states, .int v_many, .int v_at, .int v_isWrong, .int v_letters, .int v_matched, .ref a_this_rows, .int v_manyRows, .long v_digested])), (a_this_text, .inl (cI, 60, .inl v_text)), (a_this_s, .inl (cI, 31, .inl v_s))] sz) := by
  refine Met.ofW (cc := cX6_goLetters) (maxL := 5) (ret := none) (by decide) rfl ?_
  intro p e s m args below meth c s₁ B hml hv
  obtain ⟨rfl, hsz, hP, hK, hN, hD0⟩ := hv
  have hx := B.exec
  have hb := B.bytes
  have hr := B.returns
  have hts := atoms_spec (ws := wsX6_goLetters) B.pre
  have hown : s.vm.findClass RX6 = some m.cls := findClass_of_methodNamed B.named
  have hlocks := B.notSynchronized
  subst hsz
  have hD := hD0.self (sz := s.heap.size)
  generalize hAe : va_A [(a_this, .inr (5, [.int v_thrown, .ref a_this_s, .ref a_this_aside, .ref a_this_saved, .int v_savedMany, .ref a_this_text, .int v_length, .ref a_this_states, .int v_many, .int v_at, .int v_isWrong, .int v_letters, .int v_matched, .ref a_this_rows, .int v_manyRows, .long v_digested])), (a_this_text, .inl (cI, 60, .inl v_text)), (a_this_s, .inl (cI, 31, .inl v_s))] s.heap.size = A at hD ⊢
  have hA : ∀ q : Nat, s.heap.size ≤ q → A q := fun q h => by rw [← hAe]; exact Or.inr h
  have hS : va_S A s.heap s.heap [] := va_S.rf
  have hl := lv_entry ([.ref a_this, .int p1]) (n := 5) (Nat.le_of_ble_eq_true rfl)
  rw [lg_entry_eq]
  generalize (lg_sl ([.ref a_this, .int p1]) ++ List.replicate (5 - (lg_sl ([.ref a_this, .int p1])).length) Slot.unset).toArray = ls at hl ⊢
  have hl : lv_has ls 5 [(0, .ref a_this), (1, .int p1)] := hl
  change W p l e rm_X6_goLetters s m (([.ref a_this, .int p1] : List Value).toArray) below meth c s.heap [] 0 0 _ (F0 m 0 ls [])
  generalize hQe : MQ below (mQv D A [(a_this, .inr (5, [.int v_thrown, .ref a_this_s, .ref a_this_aside, .ref a_this_saved, .int v_savedMany, .ref a_this_text, .int v_length, .ref a_this_states, .int v_many, .int w_at, .int w_isWrong, .int w_letters, .int w_matched, .ref a_this_rows, .int v_manyRows, .long v_digested])), (a_this_text, .inl (cI, 60, .inl v_text)), (a_this_s, .inl (cI, 31, .inl w_s))]) (([.ref a_this, .int p1] : List Value).toArray) s 0 0 A = Q
  rw [D_X6_goLetters] at hden
  have hin_X6 : ∀ w ∈ wsX60, w ∈ wsX6_goLetters := by decide +kernel
  have w_118 := hts (.fieldLink RX6 118 "FallingPatternsModel" "at" "I") (by decide +kernel)
  have w_121 := hts (.fieldLink RX6 121 "FallingPatternsModel" "isWrong" "Z") (by decide +kernel)
  have w_125 := hts (.fieldLink RX6 125 "FallingPatternsModel" "letters" "I") (by decide +kernel)
  have w_128 := hts (.fieldLink RX6 128 "FallingPatternsModel" "matched" "I") (by decide +kernel)
  have w_131 := hts (.fieldLink RX6 131 "FallingPatternsModel" "length" "I") (by decide +kernel)
  have w_19 := hts (.fieldLink RX6 19 "FallingPatternsModel" "text" "[I") (by decide +kernel)
  refine lv_aload_n hx hb dX6_goLetters_0 rfl (lv_at hl 0 rfl) ?_
  refine lv_iconst (v := 0) hx hb dX6_goLetters_1 (by decide) ?_
  refine va_put (D := D) (ci := 5) (v := .int 0) (ty := .int) (C := RX6) (T := TX6) (N := 16) hx hb hts hin_X6 tyX6 tyX6_ok nmX6 hown hK hP hD hS 0 rfl rfl 9 (by decide) w_118 (fun _ h9 => h9) rfl (by decide +kernel) rfl rfl (Nat.le_of_ble_eq_true rfl) dX6_goLetters_2 (fun H locs hP hD hS => ?_)
  have hP : va_P D vwCl [(a_this, .inr (5, [.int v_thrown, .ref a_this_s, .ref a_this_aside, .ref a_this_saved, .int v_savedMany, .ref a_this_text, .int v_length, .ref a_this_states, .int v_many, .int 0, .int v_isWrong, .int v_letters, .int v_matched, .ref a_this_rows, .int v_manyRows, .long v_digested])), (a_this_text, .inl (cI, 60, .inl v_text)), (a_this_s, .inl (cI, 31, .inl v_s))] H := hP
  have hD : va_D A [(a_this, .inr (5, [.int v_thrown, .ref a_this_s, .ref a_this_aside, .ref a_this_saved, .int v_savedMany, .ref a_this_text, .int v_length, .ref a_this_states, .int v_many, .int 0, .int v_isWrong, .int v_letters, .int v_matched, .ref a_this_rows, .int v_manyRows, .long v_digested])), (a_this_text, .inl (cI, 60, .inl v_text)), (a_this_s, .inl (cI, 31, .inl v_s))] := hD
  refine lv_aload_n hx hb dX6_goLetters_5 rfl (lv_at hl 0 rfl) ?_
  refine lv_iconst (v := 0) hx hb dX6_goLetters_6 (by decide) ?_
  refine va_put (D := D) (ci := 5) (v := .int 0) (ty := .boolean) (C := RX6) (T := TX6) (N := 16) hx hb hts hin_X6 tyX6 tyX6_ok nmX6 hown hK hP hD hS 0 rfl rfl 10 (by decide) w_121 (fun _ h9 => h9) rfl (by decide +kernel) rfl (by decide +kernel) (Nat.le_of_ble_eq_true rfl) dX6_goLetters_7 (fun H locs hP hD hS => ?_)
  have hP : va_P D vwCl [(a_this, .inr (5, [.int v_thrown, .ref a_this_s, .ref a_this_aside, .ref a_this_saved, .int v_savedMany, .ref a_this_text, .int v_length, .ref a_this_states, .int v_many, .int 0, .int 0, .int v_letters, .int v_matched, .ref a_this_rows, .int v_manyRows, .long v_digested])), (a_this_text, .inl (cI, 60, .inl v_text)), (a_this_s, .inl (cI, 31, .inl v_s))] H := hP
  have hD : va_D A [(a_this, .inr (5, [.int v_thrown, .ref a_this_s, .ref a_this_aside, .ref a_this_saved, .int v_savedMany, .ref a_this_text, .int v_length, .ref a_this_states, .int v_many, .int 0, .int 0, .int v_letters, .int v_matched, .ref a_this_rows, .int v_manyRows, .long v_digested])), (a_this_text, .inl (cI, 60, .inl v_text)), (a_this_s, .inl (cI, 31, .inl v_s))] := hD
  refine lv_aload_n hx hb dX6_goLetters_10 rfl (lv_at hl 0 rfl) ?_
  refine lv_iconst (v := 0) hx hb dX6_goLetters_11 (by decide) ?_
  refine va_put (D := D) (ci := 5) (v := .int 0) (ty := .int) (C := RX6) (T := TX6) (N := 16) hx hb hts hin_X6 tyX6 tyX6_ok nmX6 hown hK hP hD hS 0 rfl rfl 11 (by decide) w_125 (fun _ h9 => h9) rfl (by decide +kernel) rfl rfl (Nat.le_of_ble_eq_true rfl) dX6_goLetters_12 (fun H locs hP hD hS => ?_)
  have hP : va_P D vwCl [(a_this, .inr (5, [.int v_thrown, .ref a_this_s, .ref a_this_aside, .ref a_this_saved, .int v_savedMany, .ref a_this_text, .int v_length, .ref a_this_states, .int v_many, .int 0, .int 0, .int 0, .int v_matched, .ref a_this_rows, .int v_manyRows, .long v_digested])), (a_this_text, .inl (cI, 60, .inl v_text)), (a_this_s, .inl (cI, 31, .inl v_s))] H := hP
  have hD : va_D A [(a_this, .inr (5, [.int v_thrown, .ref a_this_s, .ref a_this_aside, .ref a_this_saved, .int v_savedMany, .ref a_this_text, .int v_length, .ref a_this_states, .int v_many, .int 0, .int 0, .int 0, .int v_matched, .ref a_this_rows, .int v_manyRows, .long v_digested])), (a_this_text, .inl (cI, 60, .inl v_text)), (a_this_s, .inl (cI, 31, .inl v_s))] := hD
  refine lv_aload_n hx hb dX6_goLetters_15 rfl (lv_at hl 0 rfl) ?_
  refine lv_iconst (v := 0) hx hb dX6_goLetters_16 (by decide) ?_
  refine va_put (D := D) (ci := 5) (v := .int 0) (ty := .int) (C := RX6) (T := TX6) (N := 16) hx hb hts hin_X6 tyX6 tyX6_ok nmX6 hown hK hP hD hS 0 rfl rfl 12 (by decide) w_128 (fun _ h9 => h9) rfl (by decide +kernel) rfl rfl (Nat.le_of_ble_eq_true rfl) dX6_goLetters_17 (fun H locs hP hD hS => ?_)
  have hP : va_P D vwCl [(a_this, .inr (5, [.int v_thrown, .ref a_this_s, .ref a_this_aside, .ref a_this_saved, .int v_savedMany, .ref a_this_text, .int v_length, .ref a_this_states, .int v_many, .int 0, .int 0, .int 0, .int 0, .ref a_this_rows, .int v_manyRows, .long v_digested])), (a_this_text, .inl (cI, 60, .inl v_text)), (a_this_s, .inl (cI, 31, .inl v_s))] H := hP
  have hD : va_D A [(a_this, .inr (5, [.int v_thrown, .ref a_this_s, .ref a_this_aside, .ref a_this_saved, .int v_savedMany, .ref a_this_text, .int v_length, .ref a_this_states, .int v_many, .int 0, .int 0, .int 0, .int 0, .ref a_this_rows, .int v_manyRows, .long v_digested])), (a_this_text, .inl (cI, 60, .inl v_text)), (a_this_s, .inl (cI, 31, .inl v_s))] := hD
  have hL20__58 : ∀ (n : Nat) (v_at_53 : Int32) (v_isWrong_54 : Int32) (v_letters_55 : Int32) (v_matched_56 : Int32) (v_s_57 : (Nat → Int32)) (H : Heap) (locs : List Loc), va_P D vwCl [(a_this, .inr (5, [.int v_thrown, .ref a_this_s, .ref a_this_aside, .ref a_this_saved, .int v_savedMany, .ref a_this_text, .int v_length, .ref a_this_states, .int v_many, .int v_at_53, .int v_isWrong_54, .int v_letters_55, .int v_matched_56, .ref a_this_rows, .int v_manyRows, .long v_digested])), (a_this_text, .inl (cI, 60, .inl v_text)), (a_this_s, .inl (cI, 31, .inl v_s_57))] H → va_D A [(a_this, .inr (5, [.int v_thrown, .ref a_this_s, .ref a_this_aside, .ref a_this_saved, .int v_savedMany, .ref a_this_text, .int v_length, .ref a_this_states, .int v_many, .int v_at_53, .int v_isWrong_54, .int v_letters_55, .int v_matched_56, .ref a_this_rows, .int v_manyRows, .long v_digested])), (a_this_text, .inl (cI, 60, .inl v_text)), (a_this_s, .inl (cI, 31, .inl v_s_57))] → va_S A s.heap H locs → ∀ ls : Array Slot, lv_has ls 5 [(0, .ref a_this), (1, .int p1)] → L_X6_goLetters_20 F p1 v_length v_text n v_at_53 v_isWrong_54 v_letters_55 v_matched_56 v_s_57 = some (w_at, w_isWrong, w_letters, w_matched, w_s) → W p l e rm_X6_goLetters s m (([.ref a_this, .int p1] : List Value).toArray) below meth c H locs 0 0 Q (F0 m 20 ls []) := by
    intro n
    induction n with
    | zero => intro v_at_53 v_isWrong_54 v_letters_55 v_matched_56 v_s_57 H locs hP hD hS ls hl hden; exact no_none hden
    | succ n ih =>
      intro v_at_53 v_isWrong_54 v_letters_55 v_matched_56 v_s_57 H locs hP hD hS ls hl hden
      rw [L_X6_goLetters_20] at hden
      refine lv_aload_n hx hb dX6_goLetters_20 rfl (lv_at hl 0 rfl) ?_
      refine va_get (D := D) (ci := 5) (v := .int v_at_53) (C := RX6) (T := TX6) (N := 16) hx hb hts hin_X6 hown hK hP 0 rfl rfl 9 (by decide) w_118 (fun _ h9 => h9) rfl dX6_goLetters_21 ?_
      refine lv_aload_n hx hb dX6_goLetters_24 rfl (lv_at hl 0 rfl) ?_
      refine va_get (D := D) (ci := 5) (v := .int v_length) (C := RX6) (T := TX6) (N := 16) hx hb hts hin_X6 hown hK hP 0 rfl rfl 6 (by decide) w_131 (fun _ h9 => h9) rfl dX6_goLetters_25 ?_
      refine lv_icmp_ge (tgt := 211) hx hb dX6_goLetters_28 (by decide) (fun c_95 => ?_) (fun c_95 => ?_)
      · have hden := if_s hden c_95
        subst hQe
        cases hden
        exact m_rv hx hb hr hP hD hS [0, 1, 2] (by decide) rfl dX6_goLetters_211 hlocks
      · have hden := ifn_s hden c_95
        refine lv_aload_n hx hb dX6_goLetters_31 rfl (lv_at hl 0 rfl) ?_
        refine va_get (D := D) (ci := 5) (v := .int v_isWrong_54) (C := RX6) (T := TX6) (N := 16) hx hb hts hin_X6 hown hK hP 0 rfl rfl 10 (by decide) w_121 (fun _ h9 => h9) rfl dX6_goLetters_32 ?_
        refine lv_if_ne (tgt := 211) hx hb dX6_goLetters_35 (by decide) (fun c_94 => ?_) (fun c_94 => ?_)
        · have hden := ifn_s hden c_94
          subst hQe
          cases hden
          exact m_rv hx hb hr hP hD hS [0, 1, 2] (by decide) rfl dX6_goLetters_211 hlocks
        · have hden := if_s hden c_94
          refine lv_aload_n hx hb dX6_goLetters_38 rfl (lv_at hl 0 rfl) ?_
          refine va_get (D := D) (ci := 5) (v := .ref a_this_text) (C := RX6) (T := TX6) (N := 16) hx hb hts hin_X6 hown hK hP 0 rfl rfl 5 (by decide) w_19 (fun _ h9 => h9) rfl dX6_goLetters_39 ?_
          refine lv_aload_n hx hb dX6_goLetters_42 rfl (lv_at hl 0 rfl) ?_
          refine va_get (D := D) (ci := 5) (v := .int v_at_53) (C := RX6) (T := TX6) (N := 16) hx hb hts hin_X6 hown hK hP 0 rfl rfl 9 (by decide) w_118 (fun _ h9 => h9) rfl dX6_goLetters_43 ?_
          obtain ⟨hg_59, hden⟩ := grd_s hden
          refine va_iald hx hb hK hP 1 0 rfl rfl (inb_in hg_59) dX6_goLetters_46 ?_
          refine lv_topi (fun x2_60 ex2_60 => ?_)
          have hden := nm_s hden ex2_60
          refine lv_istore_n (lv' := [(2, .int x2_60), (0, .ref a_this), (1, .int p1)]) hx hb dX6_goLetters_47 rfl hl (by decide) rfl (fun ls hl => ?_)
          refine lv_aload_n hx hb dX6_goLetters_48 rfl (lv_at hl 1 rfl) ?_
          refine lv_iload_n hx hb dX6_goLetters_49 rfl (lv_at hl 0 rfl) ?_
          refine lv_bipush (v := 97) hx hb dX6_goLetters_50 (by decide) ?_
          refine lv_bipush (v := 100) hx hb dX6_goLetters_52 (by decide) ?_
          obtain ⟨r_61, hc_62, hden⟩ := bnd_s hden
          refine m_ci (wc := []) (wr := [(a_this, .inr (5, [.int v_thrown, .ref a_this_s, .ref a_this_aside, .ref a_this_saved, .int v_savedMany, .ref a_this_text, .int v_length, .ref a_this_states, .int v_many, .int v_at_53, .int v_isWrong_54, .int v_letters_55, .int v_matched_56, .ref a_this_rows, .int v_manyRows, .long v_digested])), (a_this_text, .inl (cI, 60, .inl v_text)), (a_this_s, .inl (cI, 31, .inl v_s_57))]) (wc' := []) (va_runS (As := [.int x2_60, .int 97, .int 100]) (rest := [.ref a_this]) ⟨hx, hb, hml, hown, hts⟩ (c_X6_in l D cI cM cL F hc_62) (va_cwS 3 hts gX6_goLetters_X6_in rfl rfl rfl (by decide +kernel) ⟨Nat.le_of_ble_eq_true rfl, Nat.le_of_ble_eq_true rfl⟩) (mPreS hP hD hK hN [] (by decide) rfl) rfl rfl hl.1 rfl (lv_room (Nat.le_of_ble_eq_true rfl)) dX6_goLetters_54 ⟨Nat.le_of_ble_eq_true rfl, Nat.le_of_ble_eq_true rfl⟩) hP hD hS hA [] [0, 1, 2] rfl rfl (by decide) (by decide) (fun H locs hP hD hS => ?_)
          have hP : va_P D vwCl [(a_this, .inr (5, [.int v_thrown, .ref a_this_s, .ref a_this_aside, .ref a_this_saved, .int v_savedMany, .ref a_this_text, .int v_length, .ref a_this_states, .int v_many, .int v_at_53, .int v_isWrong_54, .int v_letters_55, .int v_matched_56, .ref a_this_rows, .int v_manyRows, .long v_digested])), (a_this_text, .inl (cI, 60, .inl v_text)), (a_this_s, .inl (cI, 31, .inl v_s_57))] H := hP
          have hD : va_D A [(a_this, .inr (5, [.int v_thrown, .ref a_this_s, .ref a_this_aside, .ref a_this_saved, .int v_savedMany, .ref a_this_text, .int v_length, .ref a_this_states, .int v_many, .int v_at_53, .int v_isWrong_54, .int v_letters_55, .int v_matched_56, .ref a_this_rows, .int v_manyRows, .long v_digested])), (a_this_text, .inl (cI, 60, .inl v_text)), (a_this_s, .inl (cI, 31, .inl v_s_57))] := hD
          obtain ⟨j65, ej65, hden⟩ := jp_s hden
          have hj65 : ∀ (t_63 : Int32) (H : Heap) (locs : List Loc), va_P D vwCl [(a_this, .inr (5, [.int v_thrown, .ref a_this_s, .ref a_this_aside, .ref a_this_saved, .int v_savedMany, .ref a_this_text, .int v_length, .ref a_this_states, .int v_many, .int v_at_53, .int v_isWrong_54, .int v_letters_55, .int v_matched_56, .ref a_this_rows, .int v_manyRows, .long v_digested])), (a_this_text, .inl (cI, 60, .inl v_text)), (a_this_s, .inl (cI, 31, .inl v_s_57))] H → va_D A [(a_this, .inr (5, [.int v_thrown, .ref a_this_s, .ref a_this_aside, .ref a_this_saved, .int v_savedMany, .ref a_this_text, .int v_length, .ref a_this_states, .int v_many, .int v_at_53, .int v_isWrong_54, .int v_letters_55, .int v_matched_56, .ref a_this_rows, .int v_manyRows, .long v_digested])), (a_this_text, .inl (cI, 60, .inl v_text)), (a_this_s, .inl (cI, 31, .inl v_s_57))] → va_S A s.heap H locs → ∀ ls : Array Slot, lv_has ls 5 [(0, .ref a_this), (1, .int p1), (2, .int x2_60)] → j65 t_63 = some (w_at, w_isWrong, w_letters, w_matched, w_s) → W p l e rm_X6_goLetters s m (([.ref a_this, .int p1] : List Value).toArray) below meth c H locs 0 0 Q (F0 m 65 ls [.int t_63, .ref a_this]) := by
            intro t_63 H locs hP hD hS ls hl hden
            rw [ej65] at hden
            obtain ⟨hg_64, hden⟩ := grd_s hden
            refine va_put (D := D) (ci := 5) (v := .int t_63) (ty := .boolean) (C := RX6) (T := TX6) (N := 16) hx hb hts hin_X6 tyX6 tyX6_ok nmX6 hown hK hP hD hS 0 rfl rfl 10 (by decide) w_121 (fun _ h9 => h9) rfl (by decide +kernel) (bo_n hg_64).1 (bo_n hg_64).2 (Nat.le_of_ble_eq_true rfl) dX6_goLetters_65 (fun H locs hP hD hS => ?_)
            have hP : va_P D vwCl [(a_this, .inr (5, [.int v_thrown, .ref a_this_s, .ref a_this_aside, .ref a_this_saved, .int v_savedMany, .ref a_this_text, .int v_length, .ref a_this_states, .int v_many, .int v_at_53, .int t_63, .int v_letters_55, .int v_matched_56, .ref a_this_rows, .int v_manyRows, .long v_digested])), (a_this_text, .inl (cI, 60, .inl v_text)), (a_this_s, .inl (cI, 31, .inl v_s_57))] H := hP
            have hD : va_D A [(a_this, .inr (5, [.int v_thrown, .ref a_this_s, .ref a_this_aside, .ref a_this_saved, .int v_savedMany, .ref a_this_text, .int v_length, .ref a_this_states, .int v_many, .int v_at_53, .int t_63, .int v_letters_55, .int v_matched_56, .ref a_this_rows, .int v_manyRows, .long v_digested])), (a_this_text, .inl (cI, 60, .inl v_text)), (a_this_s, .inl (cI, 31, .inl v_s_57))] := hD
            refine lv_aload_n hx hb dX6_goLetters_68 rfl (lv_at hl 0 rfl) ?_
            refine lv_dup hx hb dX6_goLetters_69 rfl ?_
            refine va_get (D := D) (ci := 5) (v := .int v_at_53) (C := RX6) (T := TX6) (N := 16) hx hb hts hin_X6 hown hK hP 0 rfl rfl 9 (by decide) w_118 (fun _ h9 => h9) rfl dX6_goLetters_70 ?_
            refine lv_aload_n hx hb dX6_goLetters_73 rfl (lv_at hl 0 rfl) ?_
            refine va_get (D := D) (ci := 5) (v := .int t_63) (C := RX6) (T := TX6) (N := 16) hx hb hts hin_X6 hown hK hP 0 rfl rfl 10 (by decide) w_121 (fun _ h9 => h9) rfl dX6_goLetters_74 ?_
            obtain ⟨j85, ej85, hden⟩ := jp_s hden
            have hj85 : ∀ (t_65 : Int32) (H : Heap) (locs : List Loc), va_P D vwCl [(a_this, .inr (5, [.int v_thrown, .ref a_this_s, .ref a_this_aside, .ref a_this_saved, .int v_savedMany, .ref a_this_text, .int v_length, .ref a_this_states, .int v_many, .int v_at_53, .int t_63, .int v_letters_55, .int v_matched_56, .ref a_this_rows, .int v_manyRows, .long v_digested])), (a_this_text, .inl (cI, 60, .inl v_text)), (a_this_s, .inl (cI, 31, .inl v_s_57))] H → va_D A [(a_this, .inr (5, [.int v_thrown, .ref a_this_s, .ref a_this_aside, .ref a_this_saved, .int v_savedMany, .ref a_this_text, .int v_length, .ref a_this_states, .int v_many, .int v_at_53, .int t_63, .int v_letters_55, .int v_matched_56, .ref a_this_rows, .int v_manyRows, .long v_digested])), (a_this_text, .inl (cI, 60, .inl v_text)), (a_this_s, .inl (cI, 31, .inl v_s_57))] → va_S A s.heap H locs → ∀ ls : Array Slot, lv_has ls 5 [(0, .ref a_this), (1, .int p1), (2, .int x2_60)] → j85 t_65 = some (w_at, w_isWrong, w_letters, w_matched, w_s) → W p l e rm_X6_goLetters s m (([.ref a_this, .int p1] : List Value).toArray) below meth c H locs 0 0 Q (F0 m 85 ls [.int t_65, .int v_at_53, .ref a_this]) := by
              intro t_65 H locs hP hD hS ls hl hden
              rw [ej85] at hden
              refine lv_iadd hx hb dX6_goLetters_85 ?_
              refine lv_topi (fun f_at_66 ef_at_66 => ?_)
              have hden := nm_s hden ef_at_66
              refine va_put (D := D) (ci := 5) (v := .int f_at_66) (ty := .int) (C := RX6) (T := TX6) (N := 16) hx hb hts hin_X6 tyX6 tyX6_ok nmX6 hown hK hP hD hS 0 rfl rfl 9 (by decide) w_118 (fun _ h9 => h9) rfl (by decide +kernel) rfl rfl (Nat.le_of_ble_eq_true rfl) dX6_goLetters_86 (fun H locs hP hD hS => ?_)
              have hP : va_P D vwCl [(a_this, .inr (5, [.int v_thrown, .ref a_this_s, .ref a_this_aside, .ref a_this_saved, .int v_savedMany, .ref a_this_text, .int v_length, .ref a_this_states, .int v_many, .int f_at_66, .int t_63, .int v_letters_55, .int v_matched_56, .ref a_this_rows, .int v_manyRows, .long v_digested])), (a_this_text, .inl (cI, 60, .inl v_text)), (a_this_s, .inl (cI, 31, .inl v_s_57))] H := hP
              have hD : va_D A [(a_this, .inr (5, [.int v_thrown, .ref a_this_s, .ref a_this_aside, .ref a_this_saved, .int v_savedMany, .ref a_this_text, .int v_length, .ref a_this_states, .int v_many, .int f_at_66, .int t_63, .int v_letters_55, .int v_matched_56, .ref a_this_rows, .int v_manyRows, .long v_digested])), (a_this_text, .inl (cI, 60, .inl v_text)), (a_this_s, .inl (cI, 31, .inl v_s_57))] := hD
              refine lv_aload_n hx hb dX6_goLetters_89 rfl (lv_at hl 0 rfl) ?_
              refine va_get (D := D) (ci := 5) (v := .int t_63) (C := RX6) (T := TX6) (N := 16) hx hb hts hin_X6 hown hK hP 0 rfl rfl 10 (by decide) w_121 (fun _ h9 => h9) rfl dX6_goLetters_90 ?_
              obtain ⟨j142, ej142, hden⟩ := jp_s hden
              have hj142 : ∀ (t_67 : Int32) (H : Heap) (locs : List Loc), va_P D vwCl [(a_this, .inr (5, [.int v_thrown, .ref a_this_s, .ref a_this_aside, .ref a_this_saved, .int v_savedMany, .ref a_this_text, .int v_length, .ref a_this_states, .int v_many, .int f_at_66, .int t_63, .int v_letters_55, .int v_matched_56, .ref a_this_rows, .int v_manyRows, .long v_digested])), (a_this_text, .inl (cI, 60, .inl v_text)), (a_this_s, .inl (cI, 31, .inl v_s_57))] H → va_D A [(a_this, .inr (5, [.int v_thrown, .ref a_this_s, .ref a_this_aside, .ref a_this_saved, .int v_savedMany, .ref a_this_text, .int v_length, .ref a_this_states, .int v_many, .int f_at_66, .int t_63, .int v_letters_55, .int v_matched_56, .ref a_this_rows, .int v_manyRows, .long v_digested])), (a_this_text, .inl (cI, 60, .inl v_text)), (a_this_s, .inl (cI, 31, .inl v_s_57))] → va_S A s.heap H locs → ∀ ls : Array Slot, lv_has ls 5 [(0, .ref a_this), (1, .int p1), (2, .int x2_60)] → j142 t_67 = some (w_at, w_isWrong, w_letters, w_matched, w_s) → W p l e rm_X6_goLetters s m (([.ref a_this, .int p1] : List Value).toArray) below meth c H locs 0 0 Q (F0 m 142 ls [.int t_67]) := by
                intro t_67 H locs hP hD hS ls hl hden
                rw [ej142] at hden
                refine lv_istore_n (lv' := [(3, .int t_67), (0, .ref a_this), (1, .int p1), (2, .int x2_60)]) hx hb dX6_goLetters_142 rfl hl (by decide) rfl (fun ls hl => ?_)
                refine lv_aload_n hx hb dX6_goLetters_143 rfl (lv_at hl 1 rfl) ?_
                refine lv_dup hx hb dX6_goLetters_144 rfl ?_
                refine va_get (D := D) (ci := 5) (v := .int f_at_66) (C := RX6) (T := TX6) (N := 16) hx hb hts hin_X6 hown hK hP 0 rfl rfl 9 (by decide) w_118 (fun _ h9 => h9) rfl dX6_goLetters_145 ?_
                refine lv_iload_n hx hb dX6_goLetters_148 rfl (lv_at hl 0 rfl) ?_
                refine lv_iconst (v := 1) hx hb dX6_goLetters_149 (by decide) ?_
                obtain ⟨j158, ej158, hden⟩ := jp_s hden
                have hj158 : ∀ (t_68 : Int32) (H : Heap) (locs : List Loc), va_P D vwCl [(a_this, .inr (5, [.int v_thrown, .ref a_this_s, .ref a_this_aside, .ref a_this_saved, .int v_savedMany, .ref a_this_text, .int v_length, .ref a_this_states, .int v_many, .int f_at_66, .int t_63, .int v_letters_55, .int v_matched_56, .ref a_this_rows, .int v_manyRows, .long v_digested])), (a_this_text, .inl (cI, 60, .inl v_text)), (a_this_s, .inl (cI, 31, .inl v_s_57))] H → va_D A [(a_this, .inr (5, [.int v_thrown, .ref a_this_s, .ref a_this_aside, .ref a_this_saved, .int v_savedMany, .ref a_this_text, .int v_length, .ref a_this_states, .int v_many, .int f_at_66, .int t_63, .int v_letters_55, .int v_matched_56, .ref a_this_rows, .int v_manyRows, .long v_digested])), (a_this_text, .inl (cI, 60, .inl v_text)), (a_this_s, .inl (cI, 31, .inl v_s_57))] → va_S A s.heap H locs → ∀ ls : Array Slot, lv_has ls 5 [(0, .ref a_this), (1, .int p1), (2, .int x2_60), (3, .int t_67)] → j158 t_68 = some (w_at, w_isWrong, w_letters, w_matched, w_s) → W p l e rm_X6_goLetters s m (([.ref a_this, .int p1] : List Value).toArray) below meth c H locs 0 0 Q (F0 m 158 ls [.int t_68, .int f_at_66, .ref a_this]) := by
                  intro t_68 H locs hP hD hS ls hl hden
                  rw [ej158] at hden
                  refine lv_iadd hx hb dX6_goLetters_158 ?_
                  refine lv_topi (fun f_at_69 ef_at_69 => ?_)
                  have hden := nm_s hden ef_at_69
                  refine va_put (D := D) (ci := 5) (v := .int f_at_69) (ty := .int) (C := RX6) (T := TX6) (N := 16) hx hb hts hin_X6 tyX6 tyX6_ok nmX6 hown hK hP hD hS 0 rfl rfl 9 (by decide) w_118 (fun _ h9 => h9) rfl (by decide +kernel) rfl rfl (Nat.le_of_ble_eq_true rfl) dX6_goLetters_159 (fun H locs hP hD hS => ?_)
                  have hP : va_P D vwCl [(a_this, .inr (5, [.int v_thrown, .ref a_this_s, .ref a_this_aside, .ref a_this_saved, .int v_savedMany, .ref a_this_text, .int v_length, .ref a_this_states, .int v_many, .int f_at_69, .int t_63, .int v_letters_55, .int v_matched_56, .ref a_this_rows, .int v_manyRows, .long v_digested])), (a_this_text, .inl (cI, 60, .inl v_text)), (a_this_s, .inl (cI, 31, .inl v_s_57))] H := hP
                  have hD : va_D A [(a_this, .inr (5, [.int v_thrown, .ref a_this_s, .ref a_this_aside, .ref a_this_saved, .int v_savedMany, .ref a_this_text, .int v_length, .ref a_this_states, .int v_many, .int f_at_69, .int t_63, .int v_letters_55, .int v_matched_56, .ref a_this_rows, .int v_manyRows, .long v_digested])), (a_this_text, .inl (cI, 60, .inl v_text)), (a_this_s, .inl (cI, 31, .inl v_s_57))] := hD
                  refine lv_aload_n hx hb dX6_goLetters_162 rfl (lv_at hl 0 rfl) ?_
                  refine lv_dup hx hb dX6_goLetters_163 rfl ?_
                  refine va_get (D := D) (ci := 5) (v := .int v_letters_55) (C := RX6) (T := TX6) (N := 16) hx hb hts hin_X6 hown hK hP 0 rfl rfl 11 (by decide) w_125 (fun _ h9 => h9) rfl dX6_goLetters_164 ?_
                  refine lv_iload_n hx hb dX6_goLetters_167 rfl (lv_at hl 3 rfl) ?_
                  refine lv_iadd hx hb dX6_goLetters_168 ?_
                  refine lv_topi (fun f_letters_70 ef_letters_70 => ?_)
                  have hden := nm_s hden ef_letters_70
                  refine va_put (D := D) (ci := 5) (v := .int f_letters_70) (ty := .int) (C := RX6) (T := TX6) (N := 16) hx hb hts hin_X6 tyX6 tyX6_ok nmX6 hown hK hP hD hS 0 rfl rfl 11 (by decide) w_125 (fun _ h9 => h9) rfl (by decide +kernel) rfl rfl (Nat.le_of_ble_eq_true rfl) dX6_goLetters_169 (fun H locs hP hD hS => ?_)
                  have hP : va_P D vwCl [(a_this, .inr (5, [.int v_thrown, .ref a_this_s, .ref a_this_aside, .ref a_this_saved, .int v_savedMany, .ref a_this_text, .int v_length, .ref a_this_states, .int v_many, .int f_at_69, .int t_63, .int f_letters_70, .int v_matched_56, .ref a_this_rows, .int v_manyRows, .long v_digested])), (a_this_text, .inl (cI, 60, .inl v_text)), (a_this_s, .inl (cI, 31, .inl v_s_57))] H := hP
                  have hD : va_D A [(a_this, .inr (5, [.int v_thrown, .ref a_this_s, .ref a_this_aside, .ref a_this_saved, .int v_savedMany, .ref a_this_text, .int v_length, .ref a_this_states, .int v_many, .int f_at_69, .int t_63, .int f_letters_70, .int v_matched_56, .ref a_this_rows, .int v_manyRows, .long v_digested])), (a_this_text, .inl (cI, 60, .inl v_text)), (a_this_s, .inl (cI, 31, .inl v_s_57))] := hD
                  refine lv_iconst (v := 0) hx hb dX6_goLetters_172 (by decide) ?_
                  refine lv_istore (lv' := [(4, .int 0), (0, .ref a_this), (1, .int p1), (2, .int x2_60), (3, .int t_67)]) hx hb dX6_goLetters_173 hl (by decide) rfl (fun ls hl => ?_)
                  have hL175__76 : ∀ (k208 : Int32 → (Nat → Int32) → Option (Int32 × Int32 × Int32 × Int32 × (Nat → Int32))), (∀ (v_matched_74 : Int32) (v_s_75 : (Nat → Int32)) (H : Heap) (locs : List Loc), va_P D vwCl [(a_this, .inr (5, [.int v_thrown, .ref a_this_s, .ref a_this_aside, .ref a_this_saved, .int v_savedMany, .ref a_this_text, .int v_length, .ref a_this_states, .int v_many, .int f_at_69, .int t_63, .int f_letters_70, .int v_matched_74, .ref a_this_rows, .int v_manyRows, .long v_digested])), (a_this_text, .inl (cI, 60, .inl v_text)), (a_this_s, .inl (cI, 31, .inl v_s_75))] H → va_D A [(a_this, .inr (5, [.int v_thrown, .ref a_this_s, .ref a_this_aside, .ref a_this_saved, .int v_savedMany, .ref a_this_text, .int v_length, .ref a_this_states, .int v_many, .int f_at_69, .int t_63, .int f_letters_70, .int v_matched_74, .ref a_this_rows, .int v_manyRows, .long v_digested])), (a_this_text, .inl (cI, 60, .inl v_text)), (a_this_s, .inl (cI, 31, .inl v_s_75))] → va_S A s.heap H locs → ∀ ls : Array Slot, lv_has ls 5 [(0, .ref a_this), (1, .int p1)] → k208 v_matched_74 v_s_75 = some (w_at, w_isWrong, w_letters, w_matched, w_s) → W p l e rm_X6_goLetters s m (([.ref a_this, .int p1] : List Value).toArray) below meth c H locs 0 0 Q (F0 m 208 ls [])) → ∀ (n : Nat) (x4_71 : Int32) (v_matched_72 : Int32) (v_s_73 : (Nat → Int32)) (H : Heap) (locs : List Loc), va_P D vwCl [(a_this, .inr (5, [.int v_thrown, .ref a_this_s, .ref a_this_aside, .ref a_this_saved, .int v_savedMany, .ref a_this_text, .int v_length, .ref a_this_states, .int v_many, .int f_at_69, .int t_63, .int f_letters_70, .int v_matched_72, .ref a_this_rows, .int v_manyRows, .long v_digested])), (a_this_text, .inl (cI, 60, .inl v_text)), (a_this_s, .inl (cI, 31, .inl v_s_73))] H → va_D A [(a_this, .inr (5, [.int v_thrown, .ref a_this_s, .ref a_this_aside, .ref a_this_saved, .int v_savedMany, .ref a_this_text, .int v_length, .ref a_this_states, .int v_many, .int f_at_69, .int t_63, .int f_letters_70, .int v_matched_72, .ref a_this_rows, .int v_manyRows, .long v_digested])), (a_this_text, .inl (cI, 60, .inl v_text)), (a_this_s, .inl (cI, 31, .inl v_s_73))] → va_S A s.heap H locs → ∀ ls : Array Slot, lv_has ls 5 [(0, .ref a_this), (1, .int p1), (2, .int x2_60), (3, .int t_67), (4, .int x4_71)] → L_X6_goLetters_175 F k208 p1 x2_60 t_67 n x4_71 v_matched_72 v_s_73 = some (w_at, w_isWrong, w_letters, w_matched, w_s) → W p l e rm_X6_goLetters s m (([.ref a_this, .int p1] : List Value).toArray) below meth c H locs 0 0 Q (F0 m 175 ls []) := by
                    intro k208 hk208 n
                    induction n with
                    | zero => intro x4_71 v_matched_72 v_s_73 H locs hP hD hS ls hl hden; exact no_none hden
                    | succ n ih =>
                      intro x4_71 v_matched_72 v_s_73 H locs hP hD hS ls hl hden
                      rw [L_X6_goLetters_175] at hden
                      refine lv_iload hx hb dX6_goLetters_175 (lv_at hl 4 rfl) ?_
                      refine lv_iload_n hx hb dX6_goLetters_177 rfl (lv_at hl 3 rfl) ?_
                      refine lv_icmp_ge (tgt := 208) hx hb dX6_goLetters_178 (by decide) (fun c_83 => ?_) (fun c_83 => ?_)
                      · have hden := if_s hden c_83
                        exact hk208 v_matched_72 v_s_73 _ _ (mSubP hP [0, 1, 2] rfl) (hD.sub [0, 1, 2] (by decide) rfl) hS ls (lv_sub hl [0, 1] rfl) hden
                      · have hden := ifn_s hden c_83
                        refine lv_iload_n hx hb dX6_goLetters_181 rfl (lv_at hl 1 rfl) ?_
                        refine lv_if_eq (tgt := 208) hx hb dX6_goLetters_182 (by decide) (fun c_82 => ?_) (fun c_82 => ?_)
                        · have hden := if_s hden c_82
                          exact hk208 v_matched_72 v_s_73 _ _ (mSubP hP [0, 1, 2] rfl) (hD.sub [0, 1, 2] (by decide) rfl) hS ls (lv_sub hl [0, 1] rfl) hden
                        · have hden := ifn_s hden c_82
                          refine lv_aload_n hx hb dX6_goLetters_185 rfl (lv_at hl 0 rfl) ?_
                          refine lv_dup hx hb dX6_goLetters_186 rfl ?_
                          refine va_get (D := D) (ci := 5) (v := .int v_matched_72) (C := RX6) (T := TX6) (N := 16) hx hb hts hin_X6 hown hK hP 0 rfl rfl 12 (by decide) w_128 (fun _ h9 => h9) rfl dX6_goLetters_187 ?_
                          refine lv_aload_n hx hb dX6_goLetters_190 rfl (lv_at hl 0 rfl) ?_
                          refine lv_iload_n hx hb dX6_goLetters_191 rfl (lv_at hl 2 rfl) ?_
                          refine lv_bipush (v := 97) hx hb dX6_goLetters_192 (by decide) ?_
                          refine lv_isub hx hb dX6_goLetters_194 ?_
                          obtain ⟨⟨r_77, v_s_78⟩, hc_79, hden⟩ := bnd_s hden
                          refine m_ci (wc := [(a_this, .inr (5, [.int v_thrown, .ref a_this_s, .ref a_this_aside, .ref a_this_saved, .int v_savedMany, .ref a_this_text, .int v_length, .ref a_this_states, .int v_many, .int f_at_69, .int t_63, .int f_letters_70, .int v_matched_72, .ref a_this_rows, .int v_manyRows, .long v_digested])), (a_this_s, .inl (cI, 31, .inl v_s_73))]) (wr := [(a_this_text, .inl (cI, 60, .inl v_text))]) (wc' := [(a_this, .inr (5, [.int v_thrown, .ref a_this_s, .ref a_this_aside, .ref a_this_saved, .int v_savedMany, .ref a_this_text, .int v_length, .ref a_this_states, .int v_many, .int f_at_69, .int t_63, .int f_letters_70, .int v_matched_72, .ref a_this_rows, .int v_manyRows, .long v_digested])), (a_this_s, .inl (cI, 31, .inl v_s_78))]) (va_runV (As := [.int (x2_60 - 97)]) (rest := [.int v_matched_72, .ref a_this]) ⟨hx, hb, hml, hown, hts⟩ (c_X6_reads l D cI cM cL F hc_79) (cwV 1 hts gX6_goLetters_X6_reads rfl rfl rfl (by decide +kernel) ⟨Nat.le_of_ble_eq_true rfl, Nat.le_of_ble_eq_true rfl⟩) (mPreV (ci := 5) (q0 := 0) (r := (RX6, TX6, 16)) hP hD hK hN [0, 2] (by decide) rfl rfl rfl) rfl rfl hl.1 rfl (lv_room (Nat.le_of_ble_eq_true rfl)) dX6_goLetters_195 ⟨Nat.le_of_ble_eq_true rfl, Nat.le_of_ble_eq_true rfl⟩) hP hD hS hA [0, 2] [1] rfl rfl (by decide) (by decide) (fun H locs hP hD hS => ?_)
                          have hP : va_P D vwCl [(a_this_text, .inl (cI, 60, .inl v_text)), (a_this, .inr (5, [.int v_thrown, .ref a_this_s, .ref a_this_aside, .ref a_this_saved, .int v_savedMany, .ref a_this_text, .int v_length, .ref a_this_states, .int v_many, .int f_at_69, .int t_63, .int f_letters_70, .int v_matched_72, .ref a_this_rows, .int v_manyRows, .long v_digested])), (a_this_s, .inl (cI, 31, .inl v_s_78))] H := hP
                          have hD : va_D A [(a_this_text, .inl (cI, 60, .inl v_text)), (a_this, .inr (5, [.int v_thrown, .ref a_this_s, .ref a_this_aside, .ref a_this_saved, .int v_savedMany, .ref a_this_text, .int v_length, .ref a_this_states, .int v_many, .int f_at_69, .int t_63, .int f_letters_70, .int v_matched_72, .ref a_this_rows, .int v_manyRows, .long v_digested])), (a_this_s, .inl (cI, 31, .inl v_s_78))] := hD
                          refine lv_iadd hx hb dX6_goLetters_198 ?_
                          refine lv_topi (fun f_matched_80 ef_matched_80 => ?_)
                          have hden := nm_s hden ef_matched_80
                          refine va_put (D := D) (ci := 5) (v := .int f_matched_80) (ty := .int) (C := RX6) (T := TX6) (N := 16) hx hb hts hin_X6 tyX6 tyX6_ok nmX6 hown hK hP hD hS 1 rfl rfl 12 (by decide) w_128 (fun _ h9 => h9) rfl (by decide +kernel) rfl rfl (Nat.le_of_ble_eq_true rfl) dX6_goLetters_199 (fun H locs hP hD hS => ?_)
                          have hP : va_P D vwCl [(a_this_text, .inl (cI, 60, .inl v_text)), (a_this, .inr (5, [.int v_thrown, .ref a_this_s, .ref a_this_aside, .ref a_this_saved, .int v_savedMany, .ref a_this_text, .int v_length, .ref a_this_states, .int v_many, .int f_at_69, .int t_63, .int f_letters_70, .int f_matched_80, .ref a_this_rows, .int v_manyRows, .long v_digested])), (a_this_s, .inl (cI, 31, .inl v_s_78))] H := hP
                          have hD : va_D A [(a_this_text, .inl (cI, 60, .inl v_text)), (a_this, .inr (5, [.int v_thrown, .ref a_this_s, .ref a_this_aside, .ref a_this_saved, .int v_savedMany, .ref a_this_text, .int v_length, .ref a_this_states, .int v_many, .int f_at_69, .int t_63, .int f_letters_70, .int f_matched_80, .ref a_this_rows, .int v_manyRows, .long v_digested])), (a_this_s, .inl (cI, 31, .inl v_s_78))] := hD
                          obtain ⟨x4_81, ex4_81, hden⟩ := nm_x hden
                          refine lv_iinc (v := x4_81) (lv' := [(4, .int x4_81), (0, .ref a_this), (1, .int p1), (2, .int x2_60), (3, .int t_67)]) hx hb dX6_goLetters_202 hl (k := 4) rfl (by rw [ex4_81]; rfl) (by decide) rfl (fun ls hl => ?_)
                          refine lv_goto (tgt := 175) hx hb dX6_goLetters_205 (by decide) ?_
                          exact ih x4_81 f_matched_80 v_s_78 _ _ (mSubP hP [1, 0, 2] rfl) (hD.sub [1, 0, 2] (by decide) rfl) hS ls (lv_sub hl [1, 2, 3, 4, 0] rfl) hden
                  refine hL175__76 _ (fun v_matched_74 v_s_75 H locs hP hD hS ls hl hden => ?_) F 0 v_matched_56 v_s_57 _ _ (mSubP hP [0, 1, 2] rfl) (hD.sub [0, 1, 2] (by decide) rfl) hS ls (lv_sub hl [1, 2, 3, 4, 0] rfl) hden
                  refine lv_goto (tgt := 20) hx hb dX6_goLetters_208 (by decide) ?_
                  exact ih f_at_69 t_63 f_letters_70 v_matched_74 v_s_75 _ _ (mSubP hP [0, 1, 2] rfl) (hD.sub [0, 1, 2] (by decide) rfl) hS ls (lv_sub hl [0, 1] rfl) hden
                clear ej158
                refine lv_icmp_le (tgt := 157) hx hb dX6_goLetters_150 (by decide) (fun c_84 => ?_) (fun c_84 => ?_)
                · have hden := if_s hden c_84
                  refine lv_iconst (v := 0) hx hb dX6_goLetters_157 (by decide) ?_
                  exact hj158 0 _ _ (mSubP hP [0, 1, 2] rfl) (hD.sub [0, 1, 2] (by decide) rfl) hS ls (lv_sub hl [1, 2, 3, 0] rfl) hden
                · have hden := ifn_s hden c_84
                  refine lv_iconst (v := 1) hx hb dX6_goLetters_153 (by decide) ?_
                  refine lv_goto (tgt := 158) hx hb dX6_goLetters_154 (by decide) ?_
                  exact hj158 1 _ _ (mSubP hP [0, 1, 2] rfl) (hD.sub [0, 1, 2] (by decide) rfl) hS ls (lv_sub hl [1, 2, 3, 0] rfl) hden
              clear ej142
              obtain ⟨j141, ej141, hden⟩ := jp_s hden
              have hj141 : ∀  (H : Heap) (locs : List Loc), va_P D vwCl [(a_this, .inr (5, [.int v_thrown, .ref a_this_s, .ref a_this_aside, .ref a_this_saved, .int v_savedMany, .ref a_this_text, .int v_length, .ref a_this_states, .int v_many, .int f_at_66, .int t_63, .int v_letters_55, .int v_matched_56, .ref a_this_rows, .int v_manyRows, .long v_digested])), (a_this_text, .inl (cI, 60, .inl v_text)), (a_this_s, .inl (cI, 31, .inl v_s_57))] H → va_D A [(a_this, .inr (5, [.int v_thrown, .ref a_this_s, .ref a_this_aside, .ref a_this_saved, .int v_savedMany, .ref a_this_text, .int v_length, .ref a_this_states, .int v_many, .int f_at_66, .int t_63, .int v_letters_55, .int v_matched_56, .ref a_this_rows, .int v_manyRows, .long v_digested])), (a_this_text, .inl (cI, 60, .inl v_text)), (a_this_s, .inl (cI, 31, .inl v_s_57))] → va_S A s.heap H locs → ∀ ls : Array Slot, lv_has ls 5 [(0, .ref a_this), (1, .int p1), (2, .int x2_60)] → j141 () = some (w_at, w_isWrong, w_letters, w_matched, w_s) → W p l e rm_X6_goLetters s m (([.ref a_this, .int p1] : List Value).toArray) below meth c H locs 0 0 Q (F0 m 141 ls []) := by
                intro H locs hP hD hS ls hl hden
                rw [ej141] at hden
                refine lv_iconst (v := 1) hx hb dX6_goLetters_141 (by decide) ?_
                exact hj142 1 _ _ (mSubP hP [0, 1, 2] rfl) (hD.sub [0, 1, 2] (by decide) rfl) hS ls (lv_sub hl [0, 1, 2] rfl) hden
              clear ej141
              refine lv_if_ne (tgt := 141) hx hb dX6_goLetters_93 (by decide) (fun c_91 => ?_) (fun c_91 => ?_)
              · have hden := ifn_s hden c_91
                exact hj141 _ _ (mSubP hP [0, 1, 2] rfl) (hD.sub [0, 1, 2] (by decide) rfl) hS ls (lv_sub hl [0, 1, 2] rfl) hden
              · have hden := if_s hden c_91
                refine lv_aload_n hx hb dX6_goLetters_96 rfl (lv_at hl 0 rfl) ?_
                refine va_get (D := D) (ci := 5) (v := .int f_at_66) (C := RX6) (T := TX6) (N := 16) hx hb hts hin_X6 hown hK hP 0 rfl rfl 9 (by decide) w_118 (fun _ h9 => h9) rfl dX6_goLetters_97 ?_
                refine lv_aload_n hx hb dX6_goLetters_100 rfl (lv_at hl 0 rfl) ?_
                refine va_get (D := D) (ci := 5) (v := .int v_length) (C := RX6) (T := TX6) (N := 16) hx hb hts hin_X6 hown hK hP 0 rfl rfl 6 (by decide) w_131 (fun _ h9 => h9) rfl dX6_goLetters_101 ?_
                refine lv_icmp_ge (tgt := 141) hx hb dX6_goLetters_104 (by decide) (fun c_90 => ?_) (fun c_90 => ?_)
                · have hden := if_s hden c_90
                  exact hj141 _ _ (mSubP hP [0, 1, 2] rfl) (hD.sub [0, 1, 2] (by decide) rfl) hS ls (lv_sub hl [0, 1, 2] rfl) hden
                · have hden := ifn_s hden c_90
                  refine lv_aload_n hx hb dX6_goLetters_107 rfl (lv_at hl 0 rfl) ?_
                  refine va_get (D := D) (ci := 5) (v := .ref a_this_text) (C := RX6) (T := TX6) (N := 16) hx hb hts hin_X6 hown hK hP 0 rfl rfl 5 (by decide) w_19 (fun _ h9 => h9) rfl dX6_goLetters_108 ?_
                  refine lv_aload_n hx hb dX6_goLetters_111 rfl (lv_at hl 0 rfl) ?_
                  refine va_get (D := D) (ci := 5) (v := .int f_at_66) (C := RX6) (T := TX6) (N := 16) hx hb hts hin_X6 hown hK hP 0 rfl rfl 9 (by decide) w_118 (fun _ h9 => h9) rfl dX6_goLetters_112 ?_
                  obtain ⟨hg_85, hden⟩ := grd_s hden
                  refine va_iald hx hb hK hP 1 0 rfl rfl (inb_in hg_85) dX6_goLetters_115 ?_
                  refine lv_bipush (v := 50) hx hb dX6_goLetters_116 (by decide) ?_
                  refine lv_bipush (v := 57) hx hb dX6_goLetters_118 (by decide) ?_
                  obtain ⟨r_86, hc_87, hden⟩ := bnd_s hden
                  refine m_ci (wc := []) (wr := [(a_this, .inr (5, [.int v_thrown, .ref a_this_s, .ref a_this_aside, .ref a_this_saved, .int v_savedMany, .ref a_this_text, .int v_length, .ref a_this_states, .int v_many, .int f_at_66, .int t_63, .int v_letters_55, .int v_matched_56, .ref a_this_rows, .int v_manyRows, .long v_digested])), (a_this_text, .inl (cI, 60, .inl v_text)), (a_this_s, .inl (cI, 31, .inl v_s_57))]) (wc' := []) (va_runS (As := [.int (v_text f_at_66.toNatClampNeg), .int 50, .int 57]) (rest := []) ⟨hx, hb, hml, hown, hts⟩ (c_X6_in l D cI cM cL F hc_87) (va_cwS 3 hts gX6_goLetters_X6_in rfl rfl rfl (by decide +kernel) ⟨Nat.le_of_ble_eq_true rfl, Nat.le_of_ble_eq_true rfl⟩) (mPreS hP hD hK hN [] (by decide) rfl) rfl rfl hl.1 rfl (lv_room (Nat.le_of_ble_eq_true rfl)) dX6_goLetters_120 ⟨Nat.le_of_ble_eq_true rfl, Nat.le_of_ble_eq_true rfl⟩) hP hD hS hA [] [0, 1, 2] rfl rfl (by decide) (by decide) (fun H locs hP hD hS => ?_)
                  have hP : va_P D vwCl [(a_this, .inr (5, [.int v_thrown, .ref a_this_s, .ref a_this_aside, .ref a_this_saved, .int v_savedMany, .ref a_this_text, .int v_length, .ref a_this_states, .int v_many, .int f_at_66, .int t_63, .int v_letters_55, .int v_matched_56, .ref a_this_rows, .int v_manyRows, .long v_digested])), (a_this_text, .inl (cI, 60, .inl v_text)), (a_this_s, .inl (cI, 31, .inl v_s_57))] H := hP
                  have hD : va_D A [(a_this, .inr (5, [.int v_thrown, .ref a_this_s, .ref a_this_aside, .ref a_this_saved, .int v_savedMany, .ref a_this_text, .int v_length, .ref a_this_states, .int v_many, .int f_at_66, .int t_63, .int v_letters_55, .int v_matched_56, .ref a_this_rows, .int v_manyRows, .long v_digested])), (a_this_text, .inl (cI, 60, .inl v_text)), (a_this_s, .inl (cI, 31, .inl v_s_57))] := hD
                  refine lv_if_eq (tgt := 141) hx hb dX6_goLetters_123 (by decide) (fun c_89 => ?_) (fun c_89 => ?_)
                  · have hden := if_s hden c_89
                    exact hj141 _ _ (mSubP hP [0, 1, 2] rfl) (hD.sub [0, 1, 2] (by decide) rfl) hS ls (lv_sub hl [0, 1, 2] rfl) hden
                  · have hden := ifn_s hden c_89
                    refine lv_aload_n hx hb dX6_goLetters_126 rfl (lv_at hl 0 rfl) ?_
                    refine va_get (D := D) (ci := 5) (v := .ref a_this_text) (C := RX6) (T := TX6) (N := 16) hx hb hts hin_X6 hown hK hP 0 rfl rfl 5 (by decide) w_19 (fun _ h9 => h9) rfl dX6_goLetters_127 ?_
                    refine lv_aload_n hx hb dX6_goLetters_130 rfl (lv_at hl 0 rfl) ?_
                    refine va_get (D := D) (ci := 5) (v := .int f_at_66) (C := RX6) (T := TX6) (N := 16) hx hb hts hin_X6 hown hK hP 0 rfl rfl 9 (by decide) w_118 (fun _ h9 => h9) rfl dX6_goLetters_131 ?_
                    obtain ⟨hg_88, hden⟩ := grd_s hden
                    refine va_iald hx hb hK hP 1 0 rfl rfl (inb_in hg_88) dX6_goLetters_134 ?_
                    refine lv_bipush (v := 48) hx hb dX6_goLetters_135 (by decide) ?_
                    refine lv_isub hx hb dX6_goLetters_137 ?_
                    refine lv_goto (tgt := 142) hx hb dX6_goLetters_138 (by decide) ?_
                    exact hj142 ((v_text f_at_66.toNatClampNeg) - 48) _ _ (mSubP hP [0, 1, 2] rfl) (hD.sub [0, 1, 2] (by decide) rfl) hS ls (lv_sub hl [0, 1, 2] rfl) hden
            clear ej85
            refine lv_if_eq (tgt := 84) hx hb dX6_goLetters_77 (by decide) (fun c_92 => ?_) (fun c_92 => ?_)
            · have hden := if_s hden c_92
              refine lv_iconst (v := 1) hx hb dX6_goLetters_84 (by decide) ?_
              exact hj85 1 _ _ (mSubP hP [0, 1, 2] rfl) (hD.sub [0, 1, 2] (by decide) rfl) hS ls (lv_sub hl [0, 1, 2] rfl) hden
            · have hden := ifn_s hden c_92
              refine lv_iconst (v := 0) hx hb dX6_goLetters_80 (by decide) ?_
              refine lv_goto (tgt := 85) hx hb dX6_goLetters_81 (by decide) ?_
              exact hj85 0 _ _ (mSubP hP [0, 1, 2] rfl) (hD.sub [0, 1, 2] (by decide) rfl) hS ls (lv_sub hl [0, 1, 2] rfl) hden
          clear ej65
          refine lv_if_ne (tgt := 64) hx hb dX6_goLetters_57 (by decide) (fun c_93 => ?_) (fun c_93 => ?_)
          · have hden := ifn_s hden c_93
            refine lv_iconst (v := 0) hx hb dX6_goLetters_64 (by decide) ?_
            exact hj65 0 _ _ (mSubP hP [0, 1, 2] rfl) (hD.sub [0, 1, 2] (by decide) rfl) hS ls (lv_sub hl [1, 2, 0] rfl) hden
          · have hden := if_s hden c_93
            refine lv_iconst (v := 1) hx hb dX6_goLetters_60 (by decide) ?_
            refine lv_goto (tgt := 65) hx hb dX6_goLetters_61 (by decide) ?_
            exact hj65 1 _ _ (mSubP hP [0, 1, 2] rfl) (hD.sub [0, 1, 2] (by decide) rfl) hS ls (lv_sub hl [1, 2, 0] rfl) hden
  exact hL20__58 F 0 0 0 0 v_s _ _ (mSubP hP [0, 1, 2] rfl) (hD.sub [0, 1, 2] (by decide) rfl) hS ls (lv_sub hl [0, 1] rfl) hden
def L_X6_goPatterns_17 (F : Nat) (k164 : Int32 → Int32 → Int32 → Int32 → (Nat → Int32) → Option (Int32 × Int32 × Int32 × (Nat → Int32))) (v_length : Int32) (v_text : (Nat → Int32)) : Nat → Int32 → Int32 → Int32 → Int32 → (Nat → Int32) → Option (Int32 × Int32 × Int32 × (Nat → Int32))
  | 0, _, _, _, _, _ => none
  | n + 1, x1_1, v_at_2, v_isWrong_3, v_manyRows_4, v_rows_5 => (if v_length ≤ v_at_2 then k164 x1_1 v_at_2 v_isWrong_3 v_manyRows_4 v_rows_5 else (if v_isWrong_3 = 0 then grd (inb v_at_2 60) (nm (v_text v_at_2.toNatClampNeg) (fun x2_7 => bnd (D_X6_in F x2_7 97 100) (fun r_8 => jp (fun (t_10 : Int32) => jp (fun (t_11 : Int32) => grd (bo t_11) (jp (fun (x1_13 : Int32) (v_manyRows_14 : Int32) (v_rows_15 : (Nat → Int32)) => jp (fun (t_16 : Int32) => nm (v_at_2 + t_16) (fun f_at_17 => L_X6_goPatterns_17 F k164 v_length v_text n x1_13 f_at_17 t_11 v_manyRows_14 v_rows_15)) (fun j157 => (if t_11 = 0 then j157 1 else j157 0))) (fun j140 => (if t_10 = 0 then (if t_11 = 0 then grd (inb v_manyRows_4 31) (nm (upd v_rows_5 v_manyRows_4.toNatClampNeg x1_1) (fun v_rows_20 => nm (v_manyRows_4 + 1) (fun f_manyRows_21 => j140 1 f_manyRows_21 v_rows_20))) else j140 x1_1 v_manyRows_4 v_rows_5) else nm ((((4 : Int32) * x1_1) + x2_7) - 97) (fun x1_23 => j140 x1_23 v_manyRows_4 v_rows_5))))) (fun j92 => jp (fun (_ : Unit) => j92 0) (fun j91 => (if t_10 = 0 then jp (fun (_ : Unit) => j92 1) (fun j87 => (if x2_7 = 59 then (if x1_1 = 1 then j87 () else j91 ()) else j87 ())) else j91 ())))) (fun j70 => jp (fun (_ : Unit) => j70 0) (fun j69 => (if r_8 = 0 then j69 () else bnd (D_X6_lengthOf F x1_1) (fun r_28 => (if 8 ≤ r_28 then j69 () else j70 1)))))))) else k164 x1_1 v_at_2 v_isWrong_3 v_manyRows_4 v_rows_5))
def D_X6_goPatterns (F : Nat) (v_at : Int32) (v_isWrong : Int32) (v_manyRows : Int32) (v_length : Int32) (v_rows : (Nat → Int32)) (v_text : (Nat → Int32)) : Option (Int32 × Int32 × Int32 × (Nat → Int32)) := L_X6_goPatterns_17 F (fun (x1_39 : Int32) (v_at_40 : Int32) (v_isWrong_41 : Int32) (v_manyRows_42 : Int32) (v_rows_43 : (Nat → Int32)) => grd (inb v_manyRows_42 31) (nm (upd v_rows_43 v_manyRows_42.toNatClampNeg x1_39) (fun v_rows_74 => nm (v_manyRows_42 + 1) (fun f_manyRows_75 => some (v_at_40, v_isWrong_41, f_manyRows_75, v_rows_74))))) v_length v_text F 1 0 0 0 v_rows
def rm_X6_goPatterns : Room := { frames := 1, cells := 0, slots := 0, locals := 22 }
set_option maxHeartbeats 4000000 in
set_option maxRecDepth 100000 in
theorem c_X6_goPatterns (l : Launch) (D : va_G) (cI cM cL : ClassId) (F : Nat) {a_this a_this_s a_this_aside a_this_saved a_this_text a_this_states a_this_rows : Nat} {sz : Nat} {v_thrown v_savedMany v_length v_many v_at v_isWrong v_letters v_matched v_manyRows : Int32} {v_digested : Int64} {v_rows v_text : Nat → Int32} {w_at : Int32} {w_isWrong : Int32} {w_manyRows : Int32} {w_rows : (Nat → Int32)} (hden : D_X6_goPatterns F v_at v_isWrong v_manyRows v_length v_rows v_text = some (w_at, w_isWrong, w_manyRows, w_rows)) : Met l yX6_goPatterns wsX6_goPatterns rm_X6_goPatterns (va_Pc [.ref a_this] (mB D (mTy cI cM cL) sz [(a_this, .inr (5, [.int v_thrown, .ref a_this_s, .ref a_this_aside, .ref a_this_saved, .int v_savedMany, .ref a_this_text, .int v_length, .ref a_this_states, .int v_many, .int v_at, .int v_isWrong, .int v_letters, .int v_matched, .ref a_this_rows, .int v_manyRows, .long v_digested])), (a_this_rows, .inl (cI, 31, .inl v_rows)), (a_this_text, .inl (cI, 60, .inl v_text))])) (mQv D (va_A [(a_this, .inr (5, [.int v_thrown, .ref a_this_s, .ref a_this_aside, .ref a_this_saved, .int v_savedMany, .ref a_this_text, .int v_length, .ref a_this_states, .int v_many, .int v_at, .int v_isWrong, .int v_letters, .int v_matched, .ref a_this_rows, .int v_manyRows, .long v_digested])), (a_this_rows, .inl (cI, 31, .inl v_rows)), (a_this_text, .inl (cI, 60, .inl v_text))] sz) [(a_this, .inr (5, [.int v_thrown, .ref a_this_s, .ref a_this_aside, .ref a_this_saved, .int v_savedMany, .ref a_this_text, .int v_length, .ref a_this_states, .int v_many, .int w_at, .int w_isWrong, .int v_letters, .int v_matched, .ref a_this_rows, .int w_manyRows, .long v_digested])), (a_this_rows, .inl (cI, 31, .inl w_rows)), (a_this_text, .inl (cI, 60, .inl v_text))]) 0 0 (va_A [(a_this, .inr (5, [.int v_thrown, .ref a_this_s, .ref a_this_aside, .ref a_this_saved, .int v_savedMany, .ref a_this_text, .int v_length, .ref a_this_states, .int v_many, .int v_at, .int v_isWrong, .int v_letters, .int v_matched, .ref a_this_rows, .int v_manyRows, .long v_digested])), (a_this_rows, .inl (cI, 31, .inl v_rows)), (a_this_text, .inl (cI, 60, .inl v_text))] sz) := by
  refine Met.ofW (cc := cX6_goPatterns) (maxL := 4) (ret := none) (by decide) rfl ?_
  intro p e s m args below meth c s₁ B hml hv
  obtain ⟨rfl, hsz, hP, hK, hN, hD0⟩ := hv
  have hx := B.exec
  have hb := B.bytes
  have hr := B.returns
  have hts := atoms_spec (ws := wsX6_goPatterns) B.pre
  have hown : s.vm.findClass RX6 = some m.cls := findClass_of_methodNamed B.named
  have hlocks := B.notSynchronized
  subst hsz
  have hD := hD0.self (sz := s.heap.size)
  generalize hAe : va_A [(a_this, .inr (5, [.int v_thrown, .ref a_this_s, .ref a_this_aside, .ref a_this_saved, .int v_savedMany, .ref a_this_text, .int v_length, .ref a_this_states, .int v_many, .int v_at, .int v_isWrong, .int v_letters, .int v_matched, .ref a_this_rows, .int v_manyRows, .long v_digested])), (a_this_rows, .inl (cI, 31, .inl v_rows)), (a_this_text, .inl (cI, 60, .inl v_text))] s.heap.size = A at hD ⊢
  have hA : ∀ q : Nat, s.heap.size ≤ q → A q := fun q h => by rw [← hAe]; exact Or.inr h
  have hS : va_S A s.heap s.heap [] := va_S.rf
  have hl := lv_entry ([.ref a_this]) (n := 4) (Nat.le_of_ble_eq_true rfl)
  rw [lg_entry_eq]
  generalize (lg_sl ([.ref a_this]) ++ List.replicate (4 - (lg_sl ([.ref a_this])).length) Slot.unset).toArray = ls at hl ⊢
  have hl : lv_has ls 4 [(0, .ref a_this)] := hl
  change W p l e rm_X6_goPatterns s m (([.ref a_this] : List Value).toArray) below meth c s.heap [] 0 0 _ (F0 m 0 ls [])
  generalize hQe : MQ below (mQv D A [(a_this, .inr (5, [.int v_thrown, .ref a_this_s, .ref a_this_aside, .ref a_this_saved, .int v_savedMany, .ref a_this_text, .int v_length, .ref a_this_states, .int v_many, .int w_at, .int w_isWrong, .int v_letters, .int v_matched, .ref a_this_rows, .int w_manyRows, .long v_digested])), (a_this_rows, .inl (cI, 31, .inl w_rows)), (a_this_text, .inl (cI, 60, .inl v_text))]) (([.ref a_this] : List Value).toArray) s 0 0 A = Q
  rw [D_X6_goPatterns] at hden
  have hin_X6 : ∀ w ∈ wsX60, w ∈ wsX6_goPatterns := by decide +kernel
  have w_118 := hts (.fieldLink RX6 118 "FallingPatternsModel" "at" "I") (by decide +kernel)
  have w_121 := hts (.fieldLink RX6 121 "FallingPatternsModel" "isWrong" "Z") (by decide +kernel)
  have w_134 := hts (.fieldLink RX6 134 "FallingPatternsModel" "manyRows" "I") (by decide +kernel)
  have w_131 := hts (.fieldLink RX6 131 "FallingPatternsModel" "length" "I") (by decide +kernel)
  have w_19 := hts (.fieldLink RX6 19 "FallingPatternsModel" "text" "[I") (by decide +kernel)
  have w_25 := hts (.fieldLink RX6 25 "FallingPatternsModel" "rows" "[I") (by decide +kernel)
  refine lv_aload_n hx hb dX6_goPatterns_0 rfl (lv_at hl 0 rfl) ?_
  refine lv_iconst (v := 0) hx hb dX6_goPatterns_1 (by decide) ?_
  refine va_put (D := D) (ci := 5) (v := .int 0) (ty := .int) (C := RX6) (T := TX6) (N := 16) hx hb hts hin_X6 tyX6 tyX6_ok nmX6 hown hK hP hD hS 0 rfl rfl 9 (by decide) w_118 (fun _ h9 => h9) rfl (by decide +kernel) rfl rfl (Nat.le_of_ble_eq_true rfl) dX6_goPatterns_2 (fun H locs hP hD hS => ?_)
  have hP : va_P D vwCl [(a_this, .inr (5, [.int v_thrown, .ref a_this_s, .ref a_this_aside, .ref a_this_saved, .int v_savedMany, .ref a_this_text, .int v_length, .ref a_this_states, .int v_many, .int 0, .int v_isWrong, .int v_letters, .int v_matched, .ref a_this_rows, .int v_manyRows, .long v_digested])), (a_this_rows, .inl (cI, 31, .inl v_rows)), (a_this_text, .inl (cI, 60, .inl v_text))] H := hP
  have hD : va_D A [(a_this, .inr (5, [.int v_thrown, .ref a_this_s, .ref a_this_aside, .ref a_this_saved, .int v_savedMany, .ref a_this_text, .int v_length, .ref a_this_states, .int v_many, .int 0, .int v_isWrong, .int v_letters, .int v_matched, .ref a_this_rows, .int v_manyRows, .long v_digested])), (a_this_rows, .inl (cI, 31, .inl v_rows)), (a_this_text, .inl (cI, 60, .inl v_text))] := hD
  refine lv_aload_n hx hb dX6_goPatterns_5 rfl (lv_at hl 0 rfl) ?_
  refine lv_iconst (v := 0) hx hb dX6_goPatterns_6 (by decide) ?_
  refine va_put (D := D) (ci := 5) (v := .int 0) (ty := .boolean) (C := RX6) (T := TX6) (N := 16) hx hb hts hin_X6 tyX6 tyX6_ok nmX6 hown hK hP hD hS 0 rfl rfl 10 (by decide) w_121 (fun _ h9 => h9) rfl (by decide +kernel) rfl (by decide +kernel) (Nat.le_of_ble_eq_true rfl) dX6_goPatterns_7 (fun H locs hP hD hS => ?_)
  have hP : va_P D vwCl [(a_this, .inr (5, [.int v_thrown, .ref a_this_s, .ref a_this_aside, .ref a_this_saved, .int v_savedMany, .ref a_this_text, .int v_length, .ref a_this_states, .int v_many, .int 0, .int 0, .int v_letters, .int v_matched, .ref a_this_rows, .int v_manyRows, .long v_digested])), (a_this_rows, .inl (cI, 31, .inl v_rows)), (a_this_text, .inl (cI, 60, .inl v_text))] H := hP
  have hD : va_D A [(a_this, .inr (5, [.int v_thrown, .ref a_this_s, .ref a_this_aside, .ref a_this_saved, .int v_savedMany, .ref a_this_text, .int v_length, .ref a_this_states, .int v_many, .int 0, .int 0, .int v_letters, .int v_matched, .ref a_this_rows, .int v_manyRows, .long v_digested])), (a_this_rows, .inl (cI, 31, .inl v_rows)), (a_this_text, .inl (cI, 60, .inl v_text))] := hD
  refine lv_aload_n hx hb dX6_goPatterns_10 rfl (lv_at hl 0 rfl) ?_
  refine lv_iconst (v := 0) hx hb dX6_goPatterns_11 (by decide) ?_
  refine va_put (D := D) (ci := 5) (v := .int 0) (ty := .int) (C := RX6) (T := TX6) (N := 16) hx hb hts hin_X6 tyX6 tyX6_ok nmX6 hown hK hP hD hS 0 rfl rfl 14 (by decide) w_134 (fun _ h9 => h9) rfl (by decide +kernel) rfl rfl (Nat.le_of_ble_eq_true rfl) dX6_goPatterns_12 (fun H locs hP hD hS => ?_)
  have hP : va_P D vwCl [(a_this, .inr (5, [.int v_thrown, .ref a_this_s, .ref a_this_aside, .ref a_this_saved, .int v_savedMany, .ref a_this_text, .int v_length, .ref a_this_states, .int v_many, .int 0, .int 0, .int v_letters, .int v_matched, .ref a_this_rows, .int 0, .long v_digested])), (a_this_rows, .inl (cI, 31, .inl v_rows)), (a_this_text, .inl (cI, 60, .inl v_text))] H := hP
  have hD : va_D A [(a_this, .inr (5, [.int v_thrown, .ref a_this_s, .ref a_this_aside, .ref a_this_saved, .int v_savedMany, .ref a_this_text, .int v_length, .ref a_this_states, .int v_many, .int 0, .int 0, .int v_letters, .int v_matched, .ref a_this_rows, .int 0, .long v_digested])), (a_this_rows, .inl (cI, 31, .inl v_rows)), (a_this_text, .inl (cI, 60, .inl v_text))] := hD
  refine lv_iconst (v := 1) hx hb dX6_goPatterns_15 (by decide) ?_
  refine lv_istore_n (lv' := [(1, .int 1), (0, .ref a_this)]) hx hb dX6_goPatterns_16 rfl hl (by decide) rfl (fun ls hl => ?_)
  have hL17__44 : ∀ (k164 : Int32 → Int32 → Int32 → Int32 → (Nat → Int32) → Option (Int32 × Int32 × Int32 × (Nat → Int32))), (∀ (x1_39 : Int32) (v_at_40 : Int32) (v_isWrong_41 : Int32) (v_manyRows_42 : Int32) (v_rows_43 : (Nat → Int32)) (H : Heap) (locs : List Loc), va_P D vwCl [(a_this, .inr (5, [.int v_thrown, .ref a_this_s, .ref a_this_aside, .ref a_this_saved, .int v_savedMany, .ref a_this_text, .int v_length, .ref a_this_states, .int v_many, .int v_at_40, .int v_isWrong_41, .int v_letters, .int v_matched, .ref a_this_rows, .int v_manyRows_42, .long v_digested])), (a_this_rows, .inl (cI, 31, .inl v_rows_43)), (a_this_text, .inl (cI, 60, .inl v_text))] H → va_D A [(a_this, .inr (5, [.int v_thrown, .ref a_this_s, .ref a_this_aside, .ref a_this_saved, .int v_savedMany, .ref a_this_text, .int v_length, .ref a_this_states, .int v_many, .int v_at_40, .int v_isWrong_41, .int v_letters, .int v_matched, .ref a_this_rows, .int v_manyRows_42, .long v_digested])), (a_this_rows, .inl (cI, 31, .inl v_rows_43)), (a_this_text, .inl (cI, 60, .inl v_text))] → va_S A s.heap H locs → ∀ ls : Array Slot, lv_has ls 4 [(0, .ref a_this), (1, .int x1_39)] → k164 x1_39 v_at_40 v_isWrong_41 v_manyRows_42 v_rows_43 = some (w_at, w_isWrong, w_manyRows, w_rows) → W p l e rm_X6_goPatterns s m (([.ref a_this] : List Value).toArray) below meth c H locs 0 0 Q (F0 m 164 ls [])) → ∀ (n : Nat) (x1_34 : Int32) (v_at_35 : Int32) (v_isWrong_36 : Int32) (v_manyRows_37 : Int32) (v_rows_38 : (Nat → Int32)) (H : Heap) (locs : List Loc), va_P D vwCl [(a_this, .inr (5, [.int v_thrown, .ref a_this_s, .ref a_this_aside, .ref a_this_saved, .int v_savedMany, .ref a_this_text, .int v_length, .ref a_this_states, .int v_many, .int v_at_35, .int v_isWrong_36, .int v_letters, .int v_matched, .ref a_this_rows, .int v_manyRows_37, .long v_digested])), (a_this_rows, .inl (cI, 31, .inl v_rows_38)), (a_this_text, .inl (cI, 60, .inl v_text))] H → va_D A [(a_this, .inr (5, [.int v_thrown, .ref a_this_s, .ref a_this_aside, .ref a_this_saved, .int v_savedMany, .ref a_this_text, .int v_length, .ref a_this_states, .int v_many, .int v_at_35, .int v_isWrong_36, .int v_letters, .int v_matched, .ref a_this_rows, .int v_manyRows_37, .long v_digested])), (a_this_rows, .inl (cI, 31, .inl v_rows_38)), (a_this_text, .inl (cI, 60, .inl v_text))] → va_S A s.heap H locs → ∀ ls : Array Slot, lv_has ls 4 [(0, .ref a_this), (1, .int x1_34)] → L_X6_goPatterns_17 F k164 v_length v_text n x1_34 v_at_35 v_isWrong_36 v_manyRows_37 v_rows_38 = some (w_at, w_isWrong, w_manyRows, w_rows) → W p l e rm_X6_goPatterns s m (([.ref a_this] : List Value).toArray) below meth c H locs 0 0 Q (F0 m 17 ls []) := by
    intro k164 hk164 n
    induction n with
    | zero => intro x1_34 v_at_35 v_isWrong_36 v_manyRows_37 v_rows_38 H locs hP hD hS ls hl hden; exact no_none hden
    | succ n ih =>
      intro x1_34 v_at_35 v_isWrong_36 v_manyRows_37 v_rows_38 H locs hP hD hS ls hl hden
      rw [L_X6_goPatterns_17] at hden
      refine lv_aload_n hx hb dX6_goPatterns_17 rfl (lv_at hl 0 rfl) ?_
      refine va_get (D := D) (ci := 5) (v := .int v_at_35) (C := RX6) (T := TX6) (N := 16) hx hb hts hin_X6 hown hK hP 0 rfl rfl 9 (by decide) w_118 (fun _ h9 => h9) rfl dX6_goPatterns_18 ?_
      refine lv_aload_n hx hb dX6_goPatterns_21 rfl (lv_at hl 0 rfl) ?_
      refine va_get (D := D) (ci := 5) (v := .int v_length) (C := RX6) (T := TX6) (N := 16) hx hb hts hin_X6 hown hK hP 0 rfl rfl 6 (by decide) w_131 (fun _ h9 => h9) rfl dX6_goPatterns_22 ?_
      refine lv_icmp_ge (tgt := 164) hx hb dX6_goPatterns_25 (by decide) (fun c_72 => ?_) (fun c_72 => ?_)
      · have hden := if_s hden c_72
        exact hk164 x1_34 v_at_35 v_isWrong_36 v_manyRows_37 v_rows_38 _ _ (mSubP hP [0, 1, 2] rfl) (hD.sub [0, 1, 2] (by decide) rfl) hS ls (lv_sub hl [0, 1] rfl) hden
      · have hden := ifn_s hden c_72
        refine lv_aload_n hx hb dX6_goPatterns_28 rfl (lv_at hl 0 rfl) ?_
        refine va_get (D := D) (ci := 5) (v := .int v_isWrong_36) (C := RX6) (T := TX6) (N := 16) hx hb hts hin_X6 hown hK hP 0 rfl rfl 10 (by decide) w_121 (fun _ h9 => h9) rfl dX6_goPatterns_29 ?_
        refine lv_if_ne (tgt := 164) hx hb dX6_goPatterns_32 (by decide) (fun c_71 => ?_) (fun c_71 => ?_)
        · have hden := ifn_s hden c_71
          exact hk164 x1_34 v_at_35 v_isWrong_36 v_manyRows_37 v_rows_38 _ _ (mSubP hP [0, 1, 2] rfl) (hD.sub [0, 1, 2] (by decide) rfl) hS ls (lv_sub hl [0, 1] rfl) hden
        · have hden := if_s hden c_71
          refine lv_aload_n hx hb dX6_goPatterns_35 rfl (lv_at hl 0 rfl) ?_
          refine va_get (D := D) (ci := 5) (v := .ref a_this_text) (C := RX6) (T := TX6) (N := 16) hx hb hts hin_X6 hown hK hP 0 rfl rfl 5 (by decide) w_19 (fun _ h9 => h9) rfl dX6_goPatterns_36 ?_
          refine lv_aload_n hx hb dX6_goPatterns_39 rfl (lv_at hl 0 rfl) ?_
          refine va_get (D := D) (ci := 5) (v := .int v_at_35) (C := RX6) (T := TX6) (N := 16) hx hb hts hin_X6 hown hK hP 0 rfl rfl 9 (by decide) w_118 (fun _ h9 => h9) rfl dX6_goPatterns_40 ?_
          obtain ⟨hg_45, hden⟩ := grd_s hden
          refine va_iald hx hb hK hP 2 0 rfl rfl (inb_in hg_45) dX6_goPatterns_43 ?_
          refine lv_topi (fun x2_46 ex2_46 => ?_)
          have hden := nm_s hden ex2_46
          refine lv_istore_n (lv' := [(2, .int x2_46), (0, .ref a_this), (1, .int x1_34)]) hx hb dX6_goPatterns_44 rfl hl (by decide) rfl (fun ls hl => ?_)
          refine lv_iload_n hx hb dX6_goPatterns_45 rfl (lv_at hl 0 rfl) ?_
          refine lv_bipush (v := 97) hx hb dX6_goPatterns_46 (by decide) ?_
          refine lv_bipush (v := 100) hx hb dX6_goPatterns_48 (by decide) ?_
          obtain ⟨r_47, hc_48, hden⟩ := bnd_s hden
          refine m_ci (wc := []) (wr := [(a_this, .inr (5, [.int v_thrown, .ref a_this_s, .ref a_this_aside, .ref a_this_saved, .int v_savedMany, .ref a_this_text, .int v_length, .ref a_this_states, .int v_many, .int v_at_35, .int v_isWrong_36, .int v_letters, .int v_matched, .ref a_this_rows, .int v_manyRows_37, .long v_digested])), (a_this_rows, .inl (cI, 31, .inl v_rows_38)), (a_this_text, .inl (cI, 60, .inl v_text))]) (wc' := []) (va_runS (As := [.int x2_46, .int 97, .int 100]) (rest := []) ⟨hx, hb, hml, hown, hts⟩ (c_X6_in l D cI cM cL F hc_48) (va_cwS 3 hts gX6_goPatterns_X6_in rfl rfl rfl (by decide +kernel) ⟨Nat.le_of_ble_eq_true rfl, Nat.le_of_ble_eq_true rfl⟩) (mPreS hP hD hK hN [] (by decide) rfl) rfl rfl hl.1 rfl (lv_room (Nat.le_of_ble_eq_true rfl)) dX6_goPatterns_50 ⟨Nat.le_of_ble_eq_true rfl, Nat.le_of_ble_eq_true rfl⟩) hP hD hS hA [] [0, 1, 2] rfl rfl (by decide) (by decide) (fun H locs hP hD hS => ?_)
          have hP : va_P D vwCl [(a_this, .inr (5, [.int v_thrown, .ref a_this_s, .ref a_this_aside, .ref a_this_saved, .int v_savedMany, .ref a_this_text, .int v_length, .ref a_this_states, .int v_many, .int v_at_35, .int v_isWrong_36, .int v_letters, .int v_matched, .ref a_this_rows, .int v_manyRows_37, .long v_digested])), (a_this_rows, .inl (cI, 31, .inl v_rows_38)), (a_this_text, .inl (cI, 60, .inl v_text))] H := hP
          have hD : va_D A [(a_this, .inr (5, [.int v_thrown, .ref a_this_s, .ref a_this_aside, .ref a_this_saved, .int v_savedMany, .ref a_this_text, .int v_length, .ref a_this_states, .int v_many, .int v_at_35, .int v_isWrong_36, .int v_letters, .int v_matched, .ref a_this_rows, .int v_manyRows_37, .long v_digested])), (a_this_rows, .inl (cI, 31, .inl v_rows_38)), (a_this_text, .inl (cI, 60, .inl v_text))] := hD
          obtain ⟨j70, ej70, hden⟩ := jp_s hden
          have hj70 : ∀ (t_49 : Int32) (H : Heap) (locs : List Loc), va_P D vwCl [(a_this, .inr (5, [.int v_thrown, .ref a_this_s, .ref a_this_aside, .ref a_this_saved, .int v_savedMany, .ref a_this_text, .int v_length, .ref a_this_states, .int v_many, .int v_at_35, .int v_isWrong_36, .int v_letters, .int v_matched, .ref a_this_rows, .int v_manyRows_37, .long v_digested])), (a_this_rows, .inl (cI, 31, .inl v_rows_38)), (a_this_text, .inl (cI, 60, .inl v_text))] H → va_D A [(a_this, .inr (5, [.int v_thrown, .ref a_this_s, .ref a_this_aside, .ref a_this_saved, .int v_savedMany, .ref a_this_text, .int v_length, .ref a_this_states, .int v_many, .int v_at_35, .int v_isWrong_36, .int v_letters, .int v_matched, .ref a_this_rows, .int v_manyRows_37, .long v_digested])), (a_this_rows, .inl (cI, 31, .inl v_rows_38)), (a_this_text, .inl (cI, 60, .inl v_text))] → va_S A s.heap H locs → ∀ ls : Array Slot, lv_has ls 4 [(0, .ref a_this), (1, .int x1_34), (2, .int x2_46)] → j70 t_49 = some (w_at, w_isWrong, w_manyRows, w_rows) → W p l e rm_X6_goPatterns s m (([.ref a_this] : List Value).toArray) below meth c H locs 0 0 Q (F0 m 70 ls [.int t_49]) := by
            intro t_49 H locs hP hD hS ls hl hden
            rw [ej70] at hden
            refine lv_istore_n (lv' := [(3, .int t_49), (0, .ref a_this), (1, .int x1_34), (2, .int x2_46)]) hx hb dX6_goPatterns_70 rfl hl (by decide) rfl (fun ls hl => ?_)
            refine lv_aload_n hx hb dX6_goPatterns_71 rfl (lv_at hl 1 rfl) ?_
            refine lv_iload_n hx hb dX6_goPatterns_72 rfl (lv_at hl 0 rfl) ?_
            obtain ⟨j92, ej92, hden⟩ := jp_s hden
            have hj92 : ∀ (t_50 : Int32) (H : Heap) (locs : List Loc), va_P D vwCl [(a_this, .inr (5, [.int v_thrown, .ref a_this_s, .ref a_this_aside, .ref a_this_saved, .int v_savedMany, .ref a_this_text, .int v_length, .ref a_this_states, .int v_many, .int v_at_35, .int v_isWrong_36, .int v_letters, .int v_matched, .ref a_this_rows, .int v_manyRows_37, .long v_digested])), (a_this_rows, .inl (cI, 31, .inl v_rows_38)), (a_this_text, .inl (cI, 60, .inl v_text))] H → va_D A [(a_this, .inr (5, [.int v_thrown, .ref a_this_s, .ref a_this_aside, .ref a_this_saved, .int v_savedMany, .ref a_this_text, .int v_length, .ref a_this_states, .int v_many, .int v_at_35, .int v_isWrong_36, .int v_letters, .int v_matched, .ref a_this_rows, .int v_manyRows_37, .long v_digested])), (a_this_rows, .inl (cI, 31, .inl v_rows_38)), (a_this_text, .inl (cI, 60, .inl v_text))] → va_S A s.heap H locs → ∀ ls : Array Slot, lv_has ls 4 [(0, .ref a_this), (1, .int x1_34), (2, .int x2_46), (3, .int t_49)] → j92 t_50 = some (w_at, w_isWrong, w_manyRows, w_rows) → W p l e rm_X6_goPatterns s m (([.ref a_this] : List Value).toArray) below meth c H locs 0 0 Q (F0 m 92 ls [.int t_50, .ref a_this]) := by
              intro t_50 H locs hP hD hS ls hl hden
              rw [ej92] at hden
              obtain ⟨hg_51, hden⟩ := grd_s hden
              refine va_put (D := D) (ci := 5) (v := .int t_50) (ty := .boolean) (C := RX6) (T := TX6) (N := 16) hx hb hts hin_X6 tyX6 tyX6_ok nmX6 hown hK hP hD hS 0 rfl rfl 10 (by decide) w_121 (fun _ h9 => h9) rfl (by decide +kernel) (bo_n hg_51).1 (bo_n hg_51).2 (Nat.le_of_ble_eq_true rfl) dX6_goPatterns_92 (fun H locs hP hD hS => ?_)
              have hP : va_P D vwCl [(a_this, .inr (5, [.int v_thrown, .ref a_this_s, .ref a_this_aside, .ref a_this_saved, .int v_savedMany, .ref a_this_text, .int v_length, .ref a_this_states, .int v_many, .int v_at_35, .int t_50, .int v_letters, .int v_matched, .ref a_this_rows, .int v_manyRows_37, .long v_digested])), (a_this_rows, .inl (cI, 31, .inl v_rows_38)), (a_this_text, .inl (cI, 60, .inl v_text))] H := hP
              have hD : va_D A [(a_this, .inr (5, [.int v_thrown, .ref a_this_s, .ref a_this_aside, .ref a_this_saved, .int v_savedMany, .ref a_this_text, .int v_length, .ref a_this_states, .int v_many, .int v_at_35, .int t_50, .int v_letters, .int v_matched, .ref a_this_rows, .int v_manyRows_37, .long v_digested])), (a_this_rows, .inl (cI, 31, .inl v_rows_38)), (a_this_text, .inl (cI, 60, .inl v_text))] := hD
              refine lv_iload_n hx hb dX6_goPatterns_95 rfl (lv_at hl 3 rfl) ?_
              obtain ⟨j140, ej140, hden⟩ := jp_s hden
              have hj140 : ∀ (x1_52 : Int32) (v_manyRows_53 : Int32) (v_rows_54 : (Nat → Int32)) (H : Heap) (locs : List Loc), va_P D vwCl [(a_this, .inr (5, [.int v_thrown, .ref a_this_s, .ref a_this_aside, .ref a_this_saved, .int v_savedMany, .ref a_this_text, .int v_length, .ref a_this_states, .int v_many, .int v_at_35, .int t_50, .int v_letters, .int v_matched, .ref a_this_rows, .int v_manyRows_53, .long v_digested])), (a_this_rows, .inl (cI, 31, .inl v_rows_54)), (a_this_text, .inl (cI, 60, .inl v_text))] H → va_D A [(a_this, .inr (5, [.int v_thrown, .ref a_this_s, .ref a_this_aside, .ref a_this_saved, .int v_savedMany, .ref a_this_text, .int v_length, .ref a_this_states, .int v_many, .int v_at_35, .int t_50, .int v_letters, .int v_matched, .ref a_this_rows, .int v_manyRows_53, .long v_digested])), (a_this_rows, .inl (cI, 31, .inl v_rows_54)), (a_this_text, .inl (cI, 60, .inl v_text))] → va_S A s.heap H locs → ∀ ls : Array Slot, lv_has ls 4 [(0, .ref a_this), (1, .int x1_52)] → j140 x1_52 v_manyRows_53 v_rows_54 = some (w_at, w_isWrong, w_manyRows, w_rows) → W p l e rm_X6_goPatterns s m (([.ref a_this] : List Value).toArray) below meth c H locs 0 0 Q (F0 m 140 ls []) := by
                intro x1_52 v_manyRows_53 v_rows_54 H locs hP hD hS ls hl hden
                rw [ej140] at hden
                refine lv_aload_n hx hb dX6_goPatterns_140 rfl (lv_at hl 0 rfl) ?_
                refine lv_dup hx hb dX6_goPatterns_141 rfl ?_
                refine va_get (D := D) (ci := 5) (v := .int v_at_35) (C := RX6) (T := TX6) (N := 16) hx hb hts hin_X6 hown hK hP 0 rfl rfl 9 (by decide) w_118 (fun _ h9 => h9) rfl dX6_goPatterns_142 ?_
                refine lv_aload_n hx hb dX6_goPatterns_145 rfl (lv_at hl 0 rfl) ?_
                refine va_get (D := D) (ci := 5) (v := .int t_50) (C := RX6) (T := TX6) (N := 16) hx hb hts hin_X6 hown hK hP 0 rfl rfl 10 (by decide) w_121 (fun _ h9 => h9) rfl dX6_goPatterns_146 ?_
                obtain ⟨j157, ej157, hden⟩ := jp_s hden
                have hj157 : ∀ (t_55 : Int32) (H : Heap) (locs : List Loc), va_P D vwCl [(a_this, .inr (5, [.int v_thrown, .ref a_this_s, .ref a_this_aside, .ref a_this_saved, .int v_savedMany, .ref a_this_text, .int v_length, .ref a_this_states, .int v_many, .int v_at_35, .int t_50, .int v_letters, .int v_matched, .ref a_this_rows, .int v_manyRows_53, .long v_digested])), (a_this_rows, .inl (cI, 31, .inl v_rows_54)), (a_this_text, .inl (cI, 60, .inl v_text))] H → va_D A [(a_this, .inr (5, [.int v_thrown, .ref a_this_s, .ref a_this_aside, .ref a_this_saved, .int v_savedMany, .ref a_this_text, .int v_length, .ref a_this_states, .int v_many, .int v_at_35, .int t_50, .int v_letters, .int v_matched, .ref a_this_rows, .int v_manyRows_53, .long v_digested])), (a_this_rows, .inl (cI, 31, .inl v_rows_54)), (a_this_text, .inl (cI, 60, .inl v_text))] → va_S A s.heap H locs → ∀ ls : Array Slot, lv_has ls 4 [(0, .ref a_this), (1, .int x1_52)] → j157 t_55 = some (w_at, w_isWrong, w_manyRows, w_rows) → W p l e rm_X6_goPatterns s m (([.ref a_this] : List Value).toArray) below meth c H locs 0 0 Q (F0 m 157 ls [.int t_55, .int v_at_35, .ref a_this]) := by
                  intro t_55 H locs hP hD hS ls hl hden
                  rw [ej157] at hden
                  refine lv_iadd hx hb dX6_goPatterns_157 ?_
                  refine lv_topi (fun f_at_56 ef_at_56 => ?_)
                  have hden := nm_s hden ef_at_56
                  refine va_put (D := D) (ci := 5) (v := .int f_at_56) (ty := .int) (C := RX6) (T := TX6) (N := 16) hx hb hts hin_X6 tyX6 tyX6_ok nmX6 hown hK hP hD hS 0 rfl rfl 9 (by decide) w_118 (fun _ h9 => h9) rfl (by decide +kernel) rfl rfl (Nat.le_of_ble_eq_true rfl) dX6_goPatterns_158 (fun H locs hP hD hS => ?_)
                  have hP : va_P D vwCl [(a_this, .inr (5, [.int v_thrown, .ref a_this_s, .ref a_this_aside, .ref a_this_saved, .int v_savedMany, .ref a_this_text, .int v_length, .ref a_this_states, .int v_many, .int f_at_56, .int t_50, .int v_letters, .int v_matched, .ref a_this_rows, .int v_manyRows_53, .long v_digested])), (a_this_rows, .inl (cI, 31, .inl v_rows_54)), (a_this_text, .inl (cI, 60, .inl v_text))] H := hP
                  have hD : va_D A [(a_this, .inr (5, [.int v_thrown, .ref a_this_s, .ref a_this_aside, .ref a_this_saved, .int v_savedMany, .ref a_this_text, .int v_length, .ref a_this_states, .int v_many, .int f_at_56, .int t_50, .int v_letters, .int v_matched, .ref a_this_rows, .int v_manyRows_53, .long v_digested])), (a_this_rows, .inl (cI, 31, .inl v_rows_54)), (a_this_text, .inl (cI, 60, .inl v_text))] := hD
                  refine lv_goto (tgt := 17) hx hb dX6_goPatterns_161 (by decide) ?_
                  exact ih x1_52 f_at_56 t_50 v_manyRows_53 v_rows_54 _ _ (mSubP hP [0, 1, 2] rfl) (hD.sub [0, 1, 2] (by decide) rfl) hS ls (lv_sub hl [0, 1] rfl) hden
                clear ej157
                refine lv_if_eq (tgt := 156) hx hb dX6_goPatterns_149 (by decide) (fun c_57 => ?_) (fun c_57 => ?_)
                · have hden := if_s hden c_57
                  refine lv_iconst (v := 1) hx hb dX6_goPatterns_156 (by decide) ?_
                  exact hj157 1 _ _ (mSubP hP [0, 1, 2] rfl) (hD.sub [0, 1, 2] (by decide) rfl) hS ls (lv_sub hl [0, 1] rfl) hden
                · have hden := ifn_s hden c_57
                  refine lv_iconst (v := 0) hx hb dX6_goPatterns_152 (by decide) ?_
                  refine lv_goto (tgt := 157) hx hb dX6_goPatterns_153 (by decide) ?_
                  exact hj157 0 _ _ (mSubP hP [0, 1, 2] rfl) (hD.sub [0, 1, 2] (by decide) rfl) hS ls (lv_sub hl [0, 1] rfl) hden
              clear ej140
              refine lv_if_eq (tgt := 111) hx hb dX6_goPatterns_96 (by decide) (fun c_63 => ?_) (fun c_63 => ?_)
              · have hden := if_s hden c_63
                refine lv_aload_n hx hb dX6_goPatterns_111 rfl (lv_at hl 0 rfl) ?_
                refine va_get (D := D) (ci := 5) (v := .int t_50) (C := RX6) (T := TX6) (N := 16) hx hb hts hin_X6 hown hK hP 0 rfl rfl 10 (by decide) w_121 (fun _ h9 => h9) rfl dX6_goPatterns_112 ?_
                refine lv_if_ne (tgt := 140) hx hb dX6_goPatterns_115 (by decide) (fun c_61 => ?_) (fun c_61 => ?_)
                · have hden := ifn_s hden c_61
                  exact hj140 x1_34 v_manyRows_37 v_rows_38 _ _ (mSubP hP [0, 1, 2] rfl) (hD.sub [0, 1, 2] (by decide) rfl) hS ls (lv_sub hl [0, 1] rfl) hden
                · have hden := if_s hden c_61
                  refine lv_aload_n hx hb dX6_goPatterns_118 rfl (lv_at hl 0 rfl) ?_
                  refine va_get (D := D) (ci := 5) (v := .ref a_this_rows) (C := RX6) (T := TX6) (N := 16) hx hb hts hin_X6 hown hK hP 0 rfl rfl 13 (by decide) w_25 (fun _ h9 => h9) rfl dX6_goPatterns_119 ?_
                  refine lv_aload_n hx hb dX6_goPatterns_122 rfl (lv_at hl 0 rfl) ?_
                  refine va_get (D := D) (ci := 5) (v := .int v_manyRows_37) (C := RX6) (T := TX6) (N := 16) hx hb hts hin_X6 hown hK hP 0 rfl rfl 14 (by decide) w_134 (fun _ h9 => h9) rfl dX6_goPatterns_123 ?_
                  refine lv_iload_n hx hb dX6_goPatterns_126 rfl (lv_at hl 1 rfl) ?_
                  obtain ⟨hg_58, hden⟩ := grd_s hden
                  refine va_iast hx hb hK hP hD hS 1 0 rfl rfl (inb_in hg_58) dX6_goPatterns_127 (fun H locs hP hD hS => ?_)
                  obtain ⟨v_rows_59, ev_rows_59, hden⟩ := nm_x hden
                  have hP : va_P D vwCl [(a_this, .inr (5, [.int v_thrown, .ref a_this_s, .ref a_this_aside, .ref a_this_saved, .int v_savedMany, .ref a_this_text, .int v_length, .ref a_this_states, .int v_many, .int v_at_35, .int t_50, .int v_letters, .int v_matched, .ref a_this_rows, .int v_manyRows_37, .long v_digested])), (a_this_rows, .inl (cI, 31, .inl v_rows_59)), (a_this_text, .inl (cI, 60, .inl v_text))] H := by rw [ev_rows_59]; exact hP
                  have hD : va_D A [(a_this, .inr (5, [.int v_thrown, .ref a_this_s, .ref a_this_aside, .ref a_this_saved, .int v_savedMany, .ref a_this_text, .int v_length, .ref a_this_states, .int v_many, .int v_at_35, .int t_50, .int v_letters, .int v_matched, .ref a_this_rows, .int v_manyRows_37, .long v_digested])), (a_this_rows, .inl (cI, 31, .inl v_rows_59)), (a_this_text, .inl (cI, 60, .inl v_text))] := by rw [ev_rows_59]; exact hD
                  refine lv_aload_n hx hb dX6_goPatterns_128 rfl (lv_at hl 0 rfl) ?_
                  refine lv_dup hx hb dX6_goPatterns_129 rfl ?_
                  refine va_get (D := D) (ci := 5) (v := .int v_manyRows_37) (C := RX6) (T := TX6) (N := 16) hx hb hts hin_X6 hown hK hP 0 rfl rfl 14 (by decide) w_134 (fun _ h9 => h9) rfl dX6_goPatterns_130 ?_
                  refine lv_iconst (v := 1) hx hb dX6_goPatterns_133 (by decide) ?_
                  refine lv_iadd hx hb dX6_goPatterns_134 ?_
                  refine lv_topi (fun f_manyRows_60 ef_manyRows_60 => ?_)
                  have hden := nm_s hden ef_manyRows_60
                  refine va_put (D := D) (ci := 5) (v := .int f_manyRows_60) (ty := .int) (C := RX6) (T := TX6) (N := 16) hx hb hts hin_X6 tyX6 tyX6_ok nmX6 hown hK hP hD hS 0 rfl rfl 14 (by decide) w_134 (fun _ h9 => h9) rfl (by decide +kernel) rfl rfl (Nat.le_of_ble_eq_true rfl) dX6_goPatterns_135 (fun H locs hP hD hS => ?_)
                  have hP : va_P D vwCl [(a_this, .inr (5, [.int v_thrown, .ref a_this_s, .ref a_this_aside, .ref a_this_saved, .int v_savedMany, .ref a_this_text, .int v_length, .ref a_this_states, .int v_many, .int v_at_35, .int t_50, .int v_letters, .int v_matched, .ref a_this_rows, .int f_manyRows_60, .long v_digested])), (a_this_rows, .inl (cI, 31, .inl v_rows_59)), (a_this_text, .inl (cI, 60, .inl v_text))] H := hP
                  have hD : va_D A [(a_this, .inr (5, [.int v_thrown, .ref a_this_s, .ref a_this_aside, .ref a_this_saved, .int v_savedMany, .ref a_this_text, .int v_length, .ref a_this_states, .int v_many, .int v_at_35, .int t_50, .int v_letters, .int v_matched, .ref a_this_rows, .int f_manyRows_60, .long v_digested])), (a_this_rows, .inl (cI, 31, .inl v_rows_59)), (a_this_text, .inl (cI, 60, .inl v_text))] := hD
                  refine lv_iconst (v := 1) hx hb dX6_goPatterns_138 (by decide) ?_
                  refine lv_istore_n (lv' := [(1, .int 1), (0, .ref a_this), (2, .int x2_46), (3, .int t_49)]) hx hb dX6_goPatterns_139 rfl hl (by decide) rfl (fun ls hl => ?_)
                  exact hj140 1 f_manyRows_60 v_rows_59 _ _ (mSubP hP [0, 1, 2] rfl) (hD.sub [0, 1, 2] (by decide) rfl) hS ls (lv_sub hl [1, 0] rfl) hden
              · have hden := ifn_s hden c_63
                refine lv_iconst (v := 4) hx hb dX6_goPatterns_99 (by decide) ?_
                refine lv_iload_n hx hb dX6_goPatterns_100 rfl (lv_at hl 1 rfl) ?_
                refine lv_imul hx hb dX6_goPatterns_101 ?_
                refine lv_iload_n hx hb dX6_goPatterns_102 rfl (lv_at hl 2 rfl) ?_
                refine lv_iadd hx hb dX6_goPatterns_103 ?_
                refine lv_bipush (v := 97) hx hb dX6_goPatterns_104 (by decide) ?_
                refine lv_isub hx hb dX6_goPatterns_106 ?_
                refine lv_topi (fun x1_62 ex1_62 => ?_)
                have hden := nm_s hden ex1_62
                refine lv_istore_n (lv' := [(1, .int x1_62), (0, .ref a_this), (2, .int x2_46), (3, .int t_49)]) hx hb dX6_goPatterns_107 rfl hl (by decide) rfl (fun ls hl => ?_)
                refine lv_goto (tgt := 140) hx hb dX6_goPatterns_108 (by decide) ?_
                exact hj140 x1_62 v_manyRows_37 v_rows_38 _ _ (mSubP hP [0, 1, 2] rfl) (hD.sub [0, 1, 2] (by decide) rfl) hS ls (lv_sub hl [1, 0] rfl) hden
            clear ej92
            obtain ⟨j91, ej91, hden⟩ := jp_s hden
            have hj91 : ∀  (H : Heap) (locs : List Loc), va_P D vwCl [(a_this, .inr (5, [.int v_thrown, .ref a_this_s, .ref a_this_aside, .ref a_this_saved, .int v_savedMany, .ref a_this_text, .int v_length, .ref a_this_states, .int v_many, .int v_at_35, .int v_isWrong_36, .int v_letters, .int v_matched, .ref a_this_rows, .int v_manyRows_37, .long v_digested])), (a_this_rows, .inl (cI, 31, .inl v_rows_38)), (a_this_text, .inl (cI, 60, .inl v_text))] H → va_D A [(a_this, .inr (5, [.int v_thrown, .ref a_this_s, .ref a_this_aside, .ref a_this_saved, .int v_savedMany, .ref a_this_text, .int v_length, .ref a_this_states, .int v_many, .int v_at_35, .int v_isWrong_36, .int v_letters, .int v_matched, .ref a_this_rows, .int v_manyRows_37, .long v_digested])), (a_this_rows, .inl (cI, 31, .inl v_rows_38)), (a_this_text, .inl (cI, 60, .inl v_text))] → va_S A s.heap H locs → ∀ ls : Array Slot, lv_has ls 4 [(0, .ref a_this), (1, .int x1_34), (2, .int x2_46), (3, .int t_49)] → j91 () = some (w_at, w_isWrong, w_manyRows, w_rows) → W p l e rm_X6_goPatterns s m (([.ref a_this] : List Value).toArray) below meth c H locs 0 0 Q (F0 m 91 ls [.ref a_this]) := by
              intro H locs hP hD hS ls hl hden
              rw [ej91] at hden
              refine lv_iconst (v := 0) hx hb dX6_goPatterns_91 (by decide) ?_
              exact hj92 0 _ _ (mSubP hP [0, 1, 2] rfl) (hD.sub [0, 1, 2] (by decide) rfl) hS ls (lv_sub hl [0, 1, 2, 3] rfl) hden
            clear ej91
            refine lv_if_ne (tgt := 91) hx hb dX6_goPatterns_73 (by decide) (fun c_66 => ?_) (fun c_66 => ?_)
            · have hden := ifn_s hden c_66
              exact hj91 _ _ (mSubP hP [0, 1, 2] rfl) (hD.sub [0, 1, 2] (by decide) rfl) hS ls (lv_sub hl [1, 2, 3, 0] rfl) hden
            · have hden := if_s hden c_66
              refine lv_iload_n hx hb dX6_goPatterns_76 rfl (lv_at hl 3 rfl) ?_
              refine lv_bipush (v := 59) hx hb dX6_goPatterns_77 (by decide) ?_
              obtain ⟨j87, ej87, hden⟩ := jp_s hden
              have hj87 : ∀  (H : Heap) (locs : List Loc), va_P D vwCl [(a_this, .inr (5, [.int v_thrown, .ref a_this_s, .ref a_this_aside, .ref a_this_saved, .int v_savedMany, .ref a_this_text, .int v_length, .ref a_this_states, .int v_many, .int v_at_35, .int v_isWrong_36, .int v_letters, .int v_matched, .ref a_this_rows, .int v_manyRows_37, .long v_digested])), (a_this_rows, .inl (cI, 31, .inl v_rows_38)), (a_this_text, .inl (cI, 60, .inl v_text))] H → va_D A [(a_this, .inr (5, [.int v_thrown, .ref a_this_s, .ref a_this_aside, .ref a_this_saved, .int v_savedMany, .ref a_this_text, .int v_length, .ref a_this_states, .int v_many, .int v_at_35, .int v_isWrong_36, .int v_letters, .int v_matched, .ref a_this_rows, .int v_manyRows_37, .long v_digested])), (a_this_rows, .inl (cI, 31, .inl v_rows_38)), (a_this_text, .inl (cI, 60, .inl v_text))] → va_S A s.heap H locs → ∀ ls : Array Slot, lv_has ls 4 [(0, .ref a_this), (1, .int x1_34), (2, .int x2_46), (3, .int t_49)] → j87 () = some (w_at, w_isWrong, w_manyRows, w_rows) → W p l e rm_X6_goPatterns s m (([.ref a_this] : List Value).toArray) below meth c H locs 0 0 Q (F0 m 87 ls [.ref a_this]) := by
                intro H locs hP hD hS ls hl hden
                rw [ej87] at hden
                refine lv_iconst (v := 1) hx hb dX6_goPatterns_87 (by decide) ?_
                refine lv_goto (tgt := 92) hx hb dX6_goPatterns_88 (by decide) ?_
                exact hj92 1 _ _ (mSubP hP [0, 1, 2] rfl) (hD.sub [0, 1, 2] (by decide) rfl) hS ls (lv_sub hl [0, 1, 2, 3] rfl) hden
              clear ej87
              refine lv_icmp_ne (tgt := 87) hx hb dX6_goPatterns_79 (by decide) (fun c_65 => ?_) (fun c_65 => ?_)
              · have hden := ifn_s hden c_65
                exact hj87 _ _ (mSubP hP [0, 1, 2] rfl) (hD.sub [0, 1, 2] (by decide) rfl) hS ls (lv_sub hl [1, 2, 3, 0] rfl) hden
              · have hden := if_s hden c_65
                refine lv_iload_n hx hb dX6_goPatterns_82 rfl (lv_at hl 2 rfl) ?_
                refine lv_iconst (v := 1) hx hb dX6_goPatterns_83 (by decide) ?_
                refine lv_icmp_ne (tgt := 91) hx hb dX6_goPatterns_84 (by decide) (fun c_64 => ?_) (fun c_64 => ?_)
                · have hden := ifn_s hden c_64
                  exact hj91 _ _ (mSubP hP [0, 1, 2] rfl) (hD.sub [0, 1, 2] (by decide) rfl) hS ls (lv_sub hl [1, 2, 3, 0] rfl) hden
                · have hden := if_s hden c_64
                  exact hj87 _ _ (mSubP hP [0, 1, 2] rfl) (hD.sub [0, 1, 2] (by decide) rfl) hS ls (lv_sub hl [1, 2, 3, 0] rfl) hden
          clear ej70
          obtain ⟨j69, ej69, hden⟩ := jp_s hden
          have hj69 : ∀  (H : Heap) (locs : List Loc), va_P D vwCl [(a_this, .inr (5, [.int v_thrown, .ref a_this_s, .ref a_this_aside, .ref a_this_saved, .int v_savedMany, .ref a_this_text, .int v_length, .ref a_this_states, .int v_many, .int v_at_35, .int v_isWrong_36, .int v_letters, .int v_matched, .ref a_this_rows, .int v_manyRows_37, .long v_digested])), (a_this_rows, .inl (cI, 31, .inl v_rows_38)), (a_this_text, .inl (cI, 60, .inl v_text))] H → va_D A [(a_this, .inr (5, [.int v_thrown, .ref a_this_s, .ref a_this_aside, .ref a_this_saved, .int v_savedMany, .ref a_this_text, .int v_length, .ref a_this_states, .int v_many, .int v_at_35, .int v_isWrong_36, .int v_letters, .int v_matched, .ref a_this_rows, .int v_manyRows_37, .long v_digested])), (a_this_rows, .inl (cI, 31, .inl v_rows_38)), (a_this_text, .inl (cI, 60, .inl v_text))] → va_S A s.heap H locs → ∀ ls : Array Slot, lv_has ls 4 [(0, .ref a_this), (1, .int x1_34), (2, .int x2_46)] → j69 () = some (w_at, w_isWrong, w_manyRows, w_rows) → W p l e rm_X6_goPatterns s m (([.ref a_this] : List Value).toArray) below meth c H locs 0 0 Q (F0 m 69 ls []) := by
            intro H locs hP hD hS ls hl hden
            rw [ej69] at hden
            refine lv_iconst (v := 0) hx hb dX6_goPatterns_69 (by decide) ?_
            exact hj70 0 _ _ (mSubP hP [0, 1, 2] rfl) (hD.sub [0, 1, 2] (by decide) rfl) hS ls (lv_sub hl [0, 1, 2] rfl) hden
          clear ej69
          refine lv_if_eq (tgt := 69) hx hb dX6_goPatterns_53 (by decide) (fun c_70 => ?_) (fun c_70 => ?_)
          · have hden := if_s hden c_70
            exact hj69 _ _ (mSubP hP [0, 1, 2] rfl) (hD.sub [0, 1, 2] (by decide) rfl) hS ls (lv_sub hl [1, 2, 0] rfl) hden
          · have hden := ifn_s hden c_70
            refine lv_iload_n hx hb dX6_goPatterns_56 rfl (lv_at hl 2 rfl) ?_
            obtain ⟨r_67, hc_68, hden⟩ := bnd_s hden
            refine m_ci (wc := []) (wr := [(a_this, .inr (5, [.int v_thrown, .ref a_this_s, .ref a_this_aside, .ref a_this_saved, .int v_savedMany, .ref a_this_text, .int v_length, .ref a_this_states, .int v_many, .int v_at_35, .int v_isWrong_36, .int v_letters, .int v_matched, .ref a_this_rows, .int v_manyRows_37, .long v_digested])), (a_this_rows, .inl (cI, 31, .inl v_rows_38)), (a_this_text, .inl (cI, 60, .inl v_text))]) (wc' := []) (va_runS (As := [.int x1_34]) (rest := []) ⟨hx, hb, hml, hown, hts⟩ (c_X6_lengthOf l D cI cM cL F hc_68) (va_cwS 1 hts gX6_goPatterns_X6_lengthOf rfl rfl rfl (by decide +kernel) ⟨Nat.le_of_ble_eq_true rfl, Nat.le_of_ble_eq_true rfl⟩) (mPreS hP hD hK hN [] (by decide) rfl) rfl rfl hl.1 rfl (lv_room (Nat.le_of_ble_eq_true rfl)) dX6_goPatterns_57 ⟨Nat.le_of_ble_eq_true rfl, Nat.le_of_ble_eq_true rfl⟩) hP hD hS hA [] [0, 1, 2] rfl rfl (by decide) (by decide) (fun H locs hP hD hS => ?_)
            have hP : va_P D vwCl [(a_this, .inr (5, [.int v_thrown, .ref a_this_s, .ref a_this_aside, .ref a_this_saved, .int v_savedMany, .ref a_this_text, .int v_length, .ref a_this_states, .int v_many, .int v_at_35, .int v_isWrong_36, .int v_letters, .int v_matched, .ref a_this_rows, .int v_manyRows_37, .long v_digested])), (a_this_rows, .inl (cI, 31, .inl v_rows_38)), (a_this_text, .inl (cI, 60, .inl v_text))] H := hP
            have hD : va_D A [(a_this, .inr (5, [.int v_thrown, .ref a_this_s, .ref a_this_aside, .ref a_this_saved, .int v_savedMany, .ref a_this_text, .int v_length, .ref a_this_states, .int v_many, .int v_at_35, .int v_isWrong_36, .int v_letters, .int v_matched, .ref a_this_rows, .int v_manyRows_37, .long v_digested])), (a_this_rows, .inl (cI, 31, .inl v_rows_38)), (a_this_text, .inl (cI, 60, .inl v_text))] := hD
            refine lv_bipush (v := 8) hx hb dX6_goPatterns_60 (by decide) ?_
            refine lv_icmp_ge (tgt := 69) hx hb dX6_goPatterns_62 (by decide) (fun c_69 => ?_) (fun c_69 => ?_)
            · have hden := if_s hden c_69
              exact hj69 _ _ (mSubP hP [0, 1, 2] rfl) (hD.sub [0, 1, 2] (by decide) rfl) hS ls (lv_sub hl [1, 2, 0] rfl) hden
            · have hden := ifn_s hden c_69
              refine lv_iconst (v := 1) hx hb dX6_goPatterns_65 (by decide) ?_
              refine lv_goto (tgt := 70) hx hb dX6_goPatterns_66 (by decide) ?_
              exact hj70 1 _ _ (mSubP hP [0, 1, 2] rfl) (hD.sub [0, 1, 2] (by decide) rfl) hS ls (lv_sub hl [1, 2, 0] rfl) hden
  refine hL17__44 _ (fun x1_39 v_at_40 v_isWrong_41 v_manyRows_42 v_rows_43 H locs hP hD hS ls hl hden => ?_) F 1 0 0 0 v_rows _ _ (mSubP hP [0, 1, 2] rfl) (hD.sub [0, 1, 2] (by decide) rfl) hS ls (lv_sub hl [1, 0] rfl) hden
  refine lv_aload_n hx hb dX6_goPatterns_164 rfl (lv_at hl 0 rfl) ?_
  refine va_get (D := D) (ci := 5) (v := .ref a_this_rows) (C := RX6) (T := TX6) (N := 16) hx hb hts hin_X6 hown hK hP 0 rfl rfl 13 (by decide) w_25 (fun _ h9 => h9) rfl dX6_goPatterns_165 ?_
  refine lv_aload_n hx hb dX6_goPatterns_168 rfl (lv_at hl 0 rfl) ?_
  refine va_get (D := D) (ci := 5) (v := .int v_manyRows_42) (C := RX6) (T := TX6) (N := 16) hx hb hts hin_X6 hown hK hP 0 rfl rfl 14 (by decide) w_134 (fun _ h9 => h9) rfl dX6_goPatterns_169 ?_
  refine lv_iload_n hx hb dX6_goPatterns_172 rfl (lv_at hl 1 rfl) ?_
  obtain ⟨hg_73, hden⟩ := grd_s hden
  refine va_iast hx hb hK hP hD hS 1 0 rfl rfl (inb_in hg_73) dX6_goPatterns_173 (fun H locs hP hD hS => ?_)
  obtain ⟨v_rows_74, ev_rows_74, hden⟩ := nm_x hden
  have hP : va_P D vwCl [(a_this, .inr (5, [.int v_thrown, .ref a_this_s, .ref a_this_aside, .ref a_this_saved, .int v_savedMany, .ref a_this_text, .int v_length, .ref a_this_states, .int v_many, .int v_at_40, .int v_isWrong_41, .int v_letters, .int v_matched, .ref a_this_rows, .int v_manyRows_42, .long v_digested])), (a_this_rows, .inl (cI, 31, .inl v_rows_74)), (a_this_text, .inl (cI, 60, .inl v_text))] H := by rw [ev_rows_74]; exact hP
  have hD : va_D A [(a_this, .inr (5, [.int v_thrown, .ref a_this_s, .ref a_this_aside, .ref a_this_saved, .int v_savedMany, .ref a_this_text, .int v_length, .ref a_this_states, .int v_many, .int v_at_40, .int v_isWrong_41, .int v_letters, .int v_matched, .ref a_this_rows, .int v_manyRows_42, .long v_digested])), (a_this_rows, .inl (cI, 31, .inl v_rows_74)), (a_this_text, .inl (cI, 60, .inl v_text))] := by rw [ev_rows_74]; exact hD
  refine lv_aload_n hx hb dX6_goPatterns_174 rfl (lv_at hl 0 rfl) ?_
  refine lv_dup hx hb dX6_goPatterns_175 rfl ?_
  refine va_get (D := D) (ci := 5) (v := .int v_manyRows_42) (C := RX6) (T := TX6) (N := 16) hx hb hts hin_X6 hown hK hP 0 rfl rfl 14 (by decide) w_134 (fun _ h9 => h9) rfl dX6_goPatterns_176 ?_
  refine lv_iconst (v := 1) hx hb dX6_goPatterns_179 (by decide) ?_
  refine lv_iadd hx hb dX6_goPatterns_180 ?_
  refine lv_topi (fun f_manyRows_75 ef_manyRows_75 => ?_)
  have hden := nm_s hden ef_manyRows_75
  refine va_put (D := D) (ci := 5) (v := .int f_manyRows_75) (ty := .int) (C := RX6) (T := TX6) (N := 16) hx hb hts hin_X6 tyX6 tyX6_ok nmX6 hown hK hP hD hS 0 rfl rfl 14 (by decide) w_134 (fun _ h9 => h9) rfl (by decide +kernel) rfl rfl (Nat.le_of_ble_eq_true rfl) dX6_goPatterns_181 (fun H locs hP hD hS => ?_)
  have hP : va_P D vwCl [(a_this, .inr (5, [.int v_thrown, .ref a_this_s, .ref a_this_aside, .ref a_this_saved, .int v_savedMany, .ref a_this_text, .int v_length, .ref a_this_states, .int v_many, .int v_at_40, .int v_isWrong_41, .int v_letters, .int v_matched, .ref a_this_rows, .int f_manyRows_75, .long v_digested])), (a_this_rows, .inl (cI, 31, .inl v_rows_74)), (a_this_text, .inl (cI, 60, .inl v_text))] H := hP
  have hD : va_D A [(a_this, .inr (5, [.int v_thrown, .ref a_this_s, .ref a_this_aside, .ref a_this_saved, .int v_savedMany, .ref a_this_text, .int v_length, .ref a_this_states, .int v_many, .int v_at_40, .int v_isWrong_41, .int v_letters, .int v_matched, .ref a_this_rows, .int f_manyRows_75, .long v_digested])), (a_this_rows, .inl (cI, 31, .inl v_rows_74)), (a_this_text, .inl (cI, 60, .inl v_text))] := hD
  subst hQe
  cases hden
  exact m_rv hx hb hr hP hD hS [0, 1, 2] (by decide) rfl dX6_goPatterns_184 hlocks
def L_X6_isHeld_4 (F : Nat) (y1 : Int32) (v_s : (Nat → Int32)) : Nat → Int32 → Int32 → Option (Int32)
  | 0, _, _ => none
  | n + 1, x2_1, x3_2 => (if 8 ≤ x3_2 then grd (bo x2_1) (some (x2_1)) else (if x2_1 = 0 then grd (inb ((0 : Int32) + x3_2) 31) ((if (v_s ((0 : Int32) + x3_2).toNatClampNeg) = y1 then nm (x3_2 + 1) (fun x3_7 => L_X6_isHeld_4 F y1 v_s n 1 x3_7) else nm (x3_2 + 1) (fun x3_6 => L_X6_isHeld_4 F y1 v_s n 0 x3_6))) else nm (x3_2 + 1) (fun x3_4 => L_X6_isHeld_4 F y1 v_s n 1 x3_4)))
def D_X6_isHeld (F : Nat) (p1 : Int32) (v_s : (Nat → Int32)) : Option (Int32) := L_X6_isHeld_4 F p1 v_s F 0 0
def rm_X6_isHeld : Room := { frames := 0, cells := 0, slots := 0, locals := 0 }
set_option maxHeartbeats 4000000 in
set_option maxRecDepth 100000 in
theorem c_X6_isHeld (l : Launch) (D : va_G) (cI cM cL : ClassId) (F : Nat) {a_this a_this_s a_this_aside a_this_saved a_this_text a_this_states a_this_rows : Nat} {sz : Nat} {v_thrown v_savedMany v_length v_many v_at v_isWrong v_letters v_matched v_manyRows : Int32} {v_digested : Int64} {v_s : Nat → Int32} {p1 : Int32} {r0 : Int32} (hden : D_X6_isHeld F p1 v_s = some (r0)) : Met l yX6_isHeld wsX6_isHeld rm_X6_isHeld (va_Pc [.ref a_this, .int p1] (mB D (mTy cI cM cL) sz [(a_this, .inr (5, [.int v_thrown, .ref a_this_s, .ref a_this_aside, .ref a_this_saved, .int v_savedMany, .ref a_this_text, .int v_length, .ref a_this_states, .int v_many, .int v_at, .int v_isWrong, .int v_letters, .int v_matched, .ref a_this_rows, .int v_manyRows, .long v_digested])), (a_this_s, .inl (cI, 31, .inl v_s))])) (mQi D (va_A [(a_this, .inr (5, [.int v_thrown, .ref a_this_s, .ref a_this_aside, .ref a_this_saved, .int v_savedMany, .ref a_this_text, .int v_length, .ref a_this_states, .int v_many, .int v_at, .int v_isWrong, .int v_letters, .int v_matched, .ref a_this_rows, .int v_manyRows, .long v_digested])), (a_this_s, .inl (cI, 31, .inl v_s))] sz) [(a_this, .inr (5, [.int v_thrown, .ref a_this_s, .ref a_this_aside, .ref a_this_saved, .int v_savedMany, .ref a_this_text, .int v_length, .ref a_this_states, .int v_many, .int v_at, .int v_isWrong, .int v_letters, .int v_matched, .ref a_this_rows, .int v_manyRows, .long v_digested])), (a_this_s, .inl (cI, 31, .inl v_s))] r0) 0 0 (va_A [(a_this, .inr (5, [.int v_thrown, .ref a_this_s, .ref a_this_aside, .ref a_this_saved, .int v_savedMany, .ref a_this_text, .int v_length, .ref a_this_states, .int v_many, .int v_at, .int v_isWrong, .int v_letters, .int v_matched, .ref a_this_rows, .int v_manyRows, .long v_digested])), (a_this_s, .inl (cI, 31, .inl v_s))] sz) := by
  refine Met.ofW (cc := cX6_isHeld) (maxL := 4) (ret := (some .boolean)) (by decide) rfl ?_
  intro p e s m args below meth c s₁ B hml hv
  obtain ⟨rfl, hsz, hP, hK, hN, hD0⟩ := hv
  have hx := B.exec
  have hb := B.bytes
  have hr := B.returns
  have hts := atoms_spec (ws := wsX6_isHeld) B.pre
  have hown : s.vm.findClass RX6 = some m.cls := findClass_of_methodNamed B.named
  have hlocks := B.notSynchronized
  subst hsz
  have hD := hD0.self (sz := s.heap.size)
  generalize hAe : va_A [(a_this, .inr (5, [.int v_thrown, .ref a_this_s, .ref a_this_aside, .ref a_this_saved, .int v_savedMany, .ref a_this_text, .int v_length, .ref a_this_states, .int v_many, .int v_at, .int v_isWrong, .int v_letters, .int v_matched, .ref a_this_rows, .int v_manyRows, .long v_digested])), (a_this_s, .inl (cI, 31, .inl v_s))] s.heap.size = A at hD ⊢
  have hA : ∀ q : Nat, s.heap.size ≤ q → A q := fun q h => by rw [← hAe]; exact Or.inr h
  have hS : va_S A s.heap s.heap [] := va_S.rf
  have hl := lv_entry ([.ref a_this, .int p1]) (n := 4) (Nat.le_of_ble_eq_true rfl)
  rw [lg_entry_eq]
  generalize (lg_sl ([.ref a_this, .int p1]) ++ List.replicate (4 - (lg_sl ([.ref a_this, .int p1])).length) Slot.unset).toArray = ls at hl ⊢
  have hl : lv_has ls 4 [(0, .ref a_this), (1, .int p1)] := hl
  change W p l e rm_X6_isHeld s m (([.ref a_this, .int p1] : List Value).toArray) below meth c s.heap [] 0 0 _ (F0 m 0 ls [])
  generalize hQe : MQ below (mQi D A [(a_this, .inr (5, [.int v_thrown, .ref a_this_s, .ref a_this_aside, .ref a_this_saved, .int v_savedMany, .ref a_this_text, .int v_length, .ref a_this_states, .int v_many, .int v_at, .int v_isWrong, .int v_letters, .int v_matched, .ref a_this_rows, .int v_manyRows, .long v_digested])), (a_this_s, .inl (cI, 31, .inl v_s))] r0) (([.ref a_this, .int p1] : List Value).toArray) s 0 0 A = Q
  rw [D_X6_isHeld] at hden
  have hin_X6 : ∀ w ∈ wsX60, w ∈ wsX6_isHeld := by decide +kernel
  have w_7 := hts (.fieldLink RX6 7 "FallingPatternsModel" "s" "[I") (by decide +kernel)
  refine lv_iconst (v := 0) hx hb dX6_isHeld_0 (by decide) ?_
  refine lv_istore_n (lv' := [(2, .int 0), (0, .ref a_this), (1, .int p1)]) hx hb dX6_isHeld_1 rfl hl (by decide) rfl (fun ls hl => ?_)
  refine lv_iconst (v := 0) hx hb dX6_isHeld_2 (by decide) ?_
  refine lv_istore_n (lv' := [(3, .int 0), (2, .int 0), (0, .ref a_this), (1, .int p1)]) hx hb dX6_isHeld_3 rfl hl (by decide) rfl (fun ls hl => ?_)
  have hL4__13 : ∀ (n : Nat) (x2_11 : Int32) (x3_12 : Int32) (H : Heap) (locs : List Loc), va_P D vwCl [(a_this, .inr (5, [.int v_thrown, .ref a_this_s, .ref a_this_aside, .ref a_this_saved, .int v_savedMany, .ref a_this_text, .int v_length, .ref a_this_states, .int v_many, .int v_at, .int v_isWrong, .int v_letters, .int v_matched, .ref a_this_rows, .int v_manyRows, .long v_digested])), (a_this_s, .inl (cI, 31, .inl v_s))] H → va_D A [(a_this, .inr (5, [.int v_thrown, .ref a_this_s, .ref a_this_aside, .ref a_this_saved, .int v_savedMany, .ref a_this_text, .int v_length, .ref a_this_states, .int v_many, .int v_at, .int v_isWrong, .int v_letters, .int v_matched, .ref a_this_rows, .int v_manyRows, .long v_digested])), (a_this_s, .inl (cI, 31, .inl v_s))] → va_S A s.heap H locs → ∀ ls : Array Slot, lv_has ls 4 [(0, .ref a_this), (1, .int p1), (2, .int x2_11), (3, .int x3_12)] → L_X6_isHeld_4 F p1 v_s n x2_11 x3_12 = some (r0) → W p l e rm_X6_isHeld s m (([.ref a_this, .int p1] : List Value).toArray) below meth c H locs 0 0 Q (F0 m 4 ls []) := by
    intro n
    induction n with
    | zero => intro x2_11 x3_12 H locs hP hD hS ls hl hden; exact no_none hden
    | succ n ih =>
      intro x2_11 x3_12 H locs hP hD hS ls hl hden
      rw [L_X6_isHeld_4] at hden
      refine lv_iload_n hx hb dX6_isHeld_4 rfl (lv_at hl 3 rfl) ?_
      refine lv_bipush (v := 8) hx hb dX6_isHeld_5 (by decide) ?_
      refine lv_icmp_ge (tgt := 38) hx hb dX6_isHeld_7 (by decide) (fun c_21 => ?_) (fun c_21 => ?_)
      · have hden := if_s hden c_21
        refine lv_iload_n hx hb dX6_isHeld_38 rfl (lv_at hl 2 rfl) ?_
        obtain ⟨hg_14, hden⟩ := grd_s hden
        subst hQe
        cases hden
        exact m_rz hx hb hr hP hD hS [0, 1] (by decide) rfl rfl hg_14 dX6_isHeld_39 hlocks
      · have hden := ifn_s hden c_21
        refine lv_iload_n hx hb dX6_isHeld_10 rfl (lv_at hl 2 rfl) ?_
        refine lv_if_ne (tgt := 26) hx hb dX6_isHeld_11 (by decide) (fun c_20 => ?_) (fun c_20 => ?_)
        · have hden := ifn_s hden c_20
          refine lv_iconst (v := 1) hx hb dX6_isHeld_26 (by decide) ?_
          refine lv_goto (tgt := 31) hx hb dX6_isHeld_27 (by decide) ?_
          refine lv_istore_n (lv' := [(2, .int 1), (0, .ref a_this), (1, .int p1), (3, .int x3_12)]) hx hb dX6_isHeld_31 rfl hl (by decide) rfl (fun ls hl => ?_)
          obtain ⟨x3_15, ex3_15, hden⟩ := nm_x hden
          refine lv_iinc (v := x3_15) (lv' := [(3, .int x3_15), (2, .int 1), (0, .ref a_this), (1, .int p1)]) hx hb dX6_isHeld_32 hl (k := 3) rfl (by rw [ex3_15]; rfl) (by decide) rfl (fun ls hl => ?_)
          refine lv_goto (tgt := 4) hx hb dX6_isHeld_35 (by decide) ?_
          exact ih 1 x3_15 _ _ (mSubP hP [0, 1] rfl) (hD.sub [0, 1] (by decide) rfl) hS ls (lv_sub hl [2, 3, 1, 0] rfl) hden
        · have hden := if_s hden c_20
          refine lv_aload_n hx hb dX6_isHeld_14 rfl (lv_at hl 0 rfl) ?_
          refine va_get (D := D) (ci := 5) (v := .ref a_this_s) (C := RX6) (T := TX6) (N := 16) hx hb hts hin_X6 hown hK hP 0 rfl rfl 1 (by decide) w_7 (fun _ h9 => h9) rfl dX6_isHeld_15 ?_
          refine lv_iconst (v := 0) hx hb dX6_isHeld_18 (by decide) ?_
          refine lv_iload_n hx hb dX6_isHeld_19 rfl (lv_at hl 3 rfl) ?_
          refine lv_iadd hx hb dX6_isHeld_20 ?_
          obtain ⟨hg_16, hden⟩ := grd_s hden
          refine va_iald hx hb hK hP 1 0 rfl rfl (inb_in hg_16) dX6_isHeld_21 ?_
          refine lv_iload_n hx hb dX6_isHeld_22 rfl (lv_at hl 1 rfl) ?_
          refine lv_icmp_ne (tgt := 30) hx hb dX6_isHeld_23 (by decide) (fun c_19 => ?_) (fun c_19 => ?_)
          · have hden := ifn_s hden c_19
            refine lv_iconst (v := 0) hx hb dX6_isHeld_30 (by decide) ?_
            refine lv_istore_n (lv' := [(2, .int 0), (0, .ref a_this), (1, .int p1), (3, .int x3_12)]) hx hb dX6_isHeld_31 rfl hl (by decide) rfl (fun ls hl => ?_)
            obtain ⟨x3_17, ex3_17, hden⟩ := nm_x hden
            refine lv_iinc (v := x3_17) (lv' := [(3, .int x3_17), (2, .int 0), (0, .ref a_this), (1, .int p1)]) hx hb dX6_isHeld_32 hl (k := 3) rfl (by rw [ex3_17]; rfl) (by decide) rfl (fun ls hl => ?_)
            refine lv_goto (tgt := 4) hx hb dX6_isHeld_35 (by decide) ?_
            exact ih 0 x3_17 _ _ (mSubP hP [0, 1] rfl) (hD.sub [0, 1] (by decide) rfl) hS ls (lv_sub hl [2, 3, 1, 0] rfl) hden
          · have hden := if_s hden c_19
            refine lv_iconst (v := 1) hx hb dX6_isHeld_26 (by decide) ?_
            refine lv_goto (tgt := 31) hx hb dX6_isHeld_27 (by decide) ?_
            refine lv_istore_n (lv' := [(2, .int 1), (0, .ref a_this), (1, .int p1), (3, .int x3_12)]) hx hb dX6_isHeld_31 rfl hl (by decide) rfl (fun ls hl => ?_)
            obtain ⟨x3_18, ex3_18, hden⟩ := nm_x hden
            refine lv_iinc (v := x3_18) (lv' := [(3, .int x3_18), (2, .int 1), (0, .ref a_this), (1, .int p1)]) hx hb dX6_isHeld_32 hl (k := 3) rfl (by rw [ex3_18]; rfl) (by decide) rfl (fun ls hl => ?_)
            refine lv_goto (tgt := 4) hx hb dX6_isHeld_35 (by decide) ?_
            exact ih 1 x3_18 _ _ (mSubP hP [0, 1] rfl) (hD.sub [0, 1] (by decide) rfl) hS ls (lv_sub hl [2, 3, 1, 0] rfl) hden
  exact hL4__13 F 0 0 _ _ (mSubP hP [0, 1] rfl) (hD.sub [0, 1] (by decide) rfl) hS ls (lv_sub hl [2, 3, 1, 0] rfl) hden
def L_X6_adds_27 (F : Nat) (k47 : Int32 → Option (Int32 × (Nat → Int32))) (y1 : Int32) (y2 : Int32) (v_s : (Nat → Int32)) : Nat → Int32 → Option (Int32 × (Nat → Int32))
  | 0, _ => none
  | n + 1, x3_8 => (if 8 ≤ x3_8 then k47 x3_8 else bnd (D_X6_isThere F x3_8 v_s) (fun r_9 => (if r_9 = 0 then k47 x3_8 else nm (x3_8 + 1) (fun x3_11 => L_X6_adds_27 F k47 y1 y2 v_s n x3_11))))
def L_X6_adds_4 (F : Nat) (v_manyRows : Int32) (v_rows : (Nat → Int32)) : Nat → Int32 → Int32 → (Nat → Int32) → Option (Int32 × (Nat → Int32))
  | 0, _, _, _ => none
  | n + 1, x1_1, x2_2, v_s_3 => (if v_manyRows ≤ x2_2 then some (x1_1, v_s_3) else grd (inb x2_2 31) (bnd (D_X6_isHeld F (v_rows x2_2.toNatClampNeg) v_s_3) (fun r_5 => (if r_5 = 0 then L_X6_adds_27 F (fun (x3_15 : Int32) => (if x3_15 = 8 then some ((-1), v_s_3) else grd (inb x2_2 31) (nm (v_rows x2_2.toNatClampNeg) (fun y_23 => grd (inb ((0 : Int32) + x3_15) 31) (nm (upd v_s_3 ((0 : Int32) + x3_15).toNatClampNeg y_23) (fun v_s_25 => nm (x1_1 + 1) (fun x1_26 => nm (x2_2 + 1) (fun x2_27 => L_X6_adds_4 F v_manyRows v_rows n x1_26 x2_27 v_s_25)))))))) x1_1 x2_2 v_s_3 F 0 else nm (x2_2 + 1) (fun x2_7 => L_X6_adds_4 F v_manyRows v_rows n x1_1 x2_7 v_s_3)))))
def D_X6_adds (F : Nat) (v_manyRows : Int32) (v_rows : (Nat → Int32)) (v_s : (Nat → Int32)) : Option (Int32 × (Nat → Int32)) := L_X6_adds_4 F v_manyRows v_rows F 0 0 v_s
def rm_X6_adds : Room := { frames := 1, cells := 0, slots := 0, locals := 23 }
set_option maxHeartbeats 4000000 in
set_option maxRecDepth 100000 in
theorem c_X6_adds (l : Launch) (D : va_G) (cI cM cL : ClassId) (F : Nat) {a_this a_this_s a_this_aside a_this_saved a_this_text a_this_states a_this_rows : Nat} {sz : Nat} {v_thrown v_savedMany v_length v_many v_at v_isWrong v_letters v_matched v_manyRows : Int32} {v_digested : Int64} {v_rows v_s : Nat → Int32} {r0 : Int32} {w_s : (Nat → Int32)} (hden : D_X6_adds F v_manyRows v_rows v_s = some (r0, w_s)) : Met l yX6_adds wsX6_adds rm_X6_adds (va_Pc [.ref a_this] (mB D (mTy cI cM cL) sz [(a_this, .inr (5, [.int v_thrown, .ref a_this_s, .ref a_this_aside, .ref a_this_saved, .int v_savedMany, .ref a_this_text, .int v_length, .ref a_this_states, .int v_many, .int v_at, .int v_isWrong, .int v_letters, .int v_matched, .ref a_this_rows, .int v_manyRows, .long v_digested])), (a_this_rows, .inl (cI, 31, .inl v_rows)), (a_this_s, .inl (cI, 31, .inl v_s))])) (mQi D (va_A [(a_this, .inr (5, [.int v_thrown, .ref a_this_s, .ref a_this_aside, .ref a_this_saved, .int v_savedMany, .ref a_this_text, .int v_length, .ref a_this_states, .int v_many, .int v_at, .int v_isWrong, .int v_letters, .int v_matched, .ref a_this_rows, .int v_manyRows, .long v_digested])), (a_this_rows, .inl (cI, 31, .inl v_rows)), (a_this_s, .inl (cI, 31, .inl v_s))] sz) [(a_this, .inr (5, [.int v_thrown, .ref a_this_s, .ref a_this_aside, .ref a_this_saved, .int v_savedMany, .ref a_this_text, .int v_length, .ref a_this_states, .int v_many, .int v_at, .int v_isWrong, .int v_letters, .int v_matched, .ref a_this_rows, .int v_manyRows, .long v_digested])), (a_this_rows, .inl (cI, 31, .inl v_rows)), (a_this_s, .inl (cI, 31, .inl w_s))] r0) 0 0 (va_A [(a_this, .inr (5, [.int v_thrown, .ref a_this_s, .ref a_this_aside, .ref a_this_saved, .int v_savedMany, .ref a_this_text, .int v_length, .ref a_this_states, .int v_many, .int v_at, .int v_isWrong, .int v_letters, .int v_matched, .ref a_this_rows, .int v_manyRows, .long v_digested])), (a_this_rows, .inl (cI, 31, .inl v_rows)), (a_this_s, .inl (cI, 31, .inl v_s))] sz) := by
  refine Met.ofW (cc := cX6_adds) (maxL := 4) (ret := (some .int)) (by decide) rfl ?_
  intro p e s m args below meth c s₁ B hml hv
  obtain ⟨rfl, hsz, hP, hK, hN, hD0⟩ := hv
  have hx := B.exec
  have hb := B.bytes
  have hr := B.returns
  have hts := atoms_spec (ws := wsX6_adds) B.pre
  have hown : s.vm.findClass RX6 = some m.cls := findClass_of_methodNamed B.named
  have hlocks := B.notSynchronized
  subst hsz
  have hD := hD0.self (sz := s.heap.size)
  generalize hAe : va_A [(a_this, .inr (5, [.int v_thrown, .ref a_this_s, .ref a_this_aside, .ref a_this_saved, .int v_savedMany, .ref a_this_text, .int v_length, .ref a_this_states, .int v_many, .int v_at, .int v_isWrong, .int v_letters, .int v_matched, .ref a_this_rows, .int v_manyRows, .long v_digested])), (a_this_rows, .inl (cI, 31, .inl v_rows)), (a_this_s, .inl (cI, 31, .inl v_s))] s.heap.size = A at hD ⊢
  have hA : ∀ q : Nat, s.heap.size ≤ q → A q := fun q h => by rw [← hAe]; exact Or.inr h
  have hS : va_S A s.heap s.heap [] := va_S.rf
  have hl := lv_entry ([.ref a_this]) (n := 4) (Nat.le_of_ble_eq_true rfl)
  rw [lg_entry_eq]
  generalize (lg_sl ([.ref a_this]) ++ List.replicate (4 - (lg_sl ([.ref a_this])).length) Slot.unset).toArray = ls at hl ⊢
  have hl : lv_has ls 4 [(0, .ref a_this)] := hl
  change W p l e rm_X6_adds s m (([.ref a_this] : List Value).toArray) below meth c s.heap [] 0 0 _ (F0 m 0 ls [])
  generalize hQe : MQ below (mQi D A [(a_this, .inr (5, [.int v_thrown, .ref a_this_s, .ref a_this_aside, .ref a_this_saved, .int v_savedMany, .ref a_this_text, .int v_length, .ref a_this_states, .int v_many, .int v_at, .int v_isWrong, .int v_letters, .int v_matched, .ref a_this_rows, .int v_manyRows, .long v_digested])), (a_this_rows, .inl (cI, 31, .inl v_rows)), (a_this_s, .inl (cI, 31, .inl w_s))] r0) (([.ref a_this] : List Value).toArray) s 0 0 A = Q
  rw [D_X6_adds] at hden
  have hin_X6 : ∀ w ∈ wsX60, w ∈ wsX6_adds := by decide +kernel
  have w_134 := hts (.fieldLink RX6 134 "FallingPatternsModel" "manyRows" "I") (by decide +kernel)
  have w_25 := hts (.fieldLink RX6 25 "FallingPatternsModel" "rows" "[I") (by decide +kernel)
  have w_7 := hts (.fieldLink RX6 7 "FallingPatternsModel" "s" "[I") (by decide +kernel)
  refine lv_iconst (v := 0) hx hb dX6_adds_0 (by decide) ?_
  refine lv_istore_n (lv' := [(1, .int 0), (0, .ref a_this)]) hx hb dX6_adds_1 rfl hl (by decide) rfl (fun ls hl => ?_)
  refine lv_iconst (v := 0) hx hb dX6_adds_2 (by decide) ?_
  refine lv_istore_n (lv' := [(2, .int 0), (1, .int 0), (0, .ref a_this)]) hx hb dX6_adds_3 rfl hl (by decide) rfl (fun ls hl => ?_)
  have hL4__34 : ∀ (n : Nat) (x1_31 : Int32) (x2_32 : Int32) (v_s_33 : (Nat → Int32)) (H : Heap) (locs : List Loc), va_P D vwCl [(a_this, .inr (5, [.int v_thrown, .ref a_this_s, .ref a_this_aside, .ref a_this_saved, .int v_savedMany, .ref a_this_text, .int v_length, .ref a_this_states, .int v_many, .int v_at, .int v_isWrong, .int v_letters, .int v_matched, .ref a_this_rows, .int v_manyRows, .long v_digested])), (a_this_rows, .inl (cI, 31, .inl v_rows)), (a_this_s, .inl (cI, 31, .inl v_s_33))] H → va_D A [(a_this, .inr (5, [.int v_thrown, .ref a_this_s, .ref a_this_aside, .ref a_this_saved, .int v_savedMany, .ref a_this_text, .int v_length, .ref a_this_states, .int v_many, .int v_at, .int v_isWrong, .int v_letters, .int v_matched, .ref a_this_rows, .int v_manyRows, .long v_digested])), (a_this_rows, .inl (cI, 31, .inl v_rows)), (a_this_s, .inl (cI, 31, .inl v_s_33))] → va_S A s.heap H locs → ∀ ls : Array Slot, lv_has ls 4 [(0, .ref a_this), (1, .int x1_31), (2, .int x2_32)] → L_X6_adds_4 F v_manyRows v_rows n x1_31 x2_32 v_s_33 = some (r0, w_s) → W p l e rm_X6_adds s m (([.ref a_this] : List Value).toArray) below meth c H locs 0 0 Q (F0 m 4 ls []) := by
    intro n
    induction n with
    | zero => intro x1_31 x2_32 v_s_33 H locs hP hD hS ls hl hden; exact no_none hden
    | succ n ih =>
      intro x1_31 x2_32 v_s_33 H locs hP hD hS ls hl hden
      rw [L_X6_adds_4] at hden
      refine lv_iload_n hx hb dX6_adds_4 rfl (lv_at hl 2 rfl) ?_
      refine lv_aload_n hx hb dX6_adds_5 rfl (lv_at hl 0 rfl) ?_
      refine va_get (D := D) (ci := 5) (v := .int v_manyRows) (C := RX6) (T := TX6) (N := 16) hx hb hts hin_X6 hown hK hP 0 rfl rfl 14 (by decide) w_134 (fun _ h9 => h9) rfl dX6_adds_6 ?_
      refine lv_icmp_ge (tgt := 78) hx hb dX6_adds_9 (by decide) (fun c_55 => ?_) (fun c_55 => ?_)
      · have hden := if_s hden c_55
        refine lv_iload_n hx hb dX6_adds_78 rfl (lv_at hl 1 rfl) ?_
        subst hQe
        cases hden
        exact m_ri hx hb hr hP hD hS [0, 1, 2] (by decide) rfl rfl dX6_adds_79 hlocks
      · have hden := ifn_s hden c_55
        refine lv_aload_n hx hb dX6_adds_12 rfl (lv_at hl 0 rfl) ?_
        refine lv_aload_n hx hb dX6_adds_13 rfl (lv_at hl 0 rfl) ?_
        refine va_get (D := D) (ci := 5) (v := .ref a_this_rows) (C := RX6) (T := TX6) (N := 16) hx hb hts hin_X6 hown hK hP 0 rfl rfl 13 (by decide) w_25 (fun _ h9 => h9) rfl dX6_adds_14 ?_
        refine lv_iload_n hx hb dX6_adds_17 rfl (lv_at hl 2 rfl) ?_
        obtain ⟨hg_35, hden⟩ := grd_s hden
        refine va_iald hx hb hK hP 1 0 rfl rfl (inb_in hg_35) dX6_adds_18 ?_
        obtain ⟨r_36, hc_37, hden⟩ := bnd_s hden
        refine m_ci (wc := [(a_this, .inr (5, [.int v_thrown, .ref a_this_s, .ref a_this_aside, .ref a_this_saved, .int v_savedMany, .ref a_this_text, .int v_length, .ref a_this_states, .int v_many, .int v_at, .int v_isWrong, .int v_letters, .int v_matched, .ref a_this_rows, .int v_manyRows, .long v_digested])), (a_this_s, .inl (cI, 31, .inl v_s_33))]) (wr := [(a_this_rows, .inl (cI, 31, .inl v_rows))]) (wc' := [(a_this, .inr (5, [.int v_thrown, .ref a_this_s, .ref a_this_aside, .ref a_this_saved, .int v_savedMany, .ref a_this_text, .int v_length, .ref a_this_states, .int v_many, .int v_at, .int v_isWrong, .int v_letters, .int v_matched, .ref a_this_rows, .int v_manyRows, .long v_digested])), (a_this_s, .inl (cI, 31, .inl v_s_33))]) (va_runV (As := [.int (v_rows x2_32.toNatClampNeg)]) (rest := []) ⟨hx, hb, hml, hown, hts⟩ (c_X6_isHeld l D cI cM cL F hc_37) (cwV 1 hts gX6_adds_X6_isHeld rfl rfl rfl (by decide +kernel) ⟨Nat.le_of_ble_eq_true rfl, Nat.le_of_ble_eq_true rfl⟩) (mPreV (ci := 5) (q0 := 0) (r := (RX6, TX6, 16)) hP hD hK hN [0, 2] (by decide) rfl rfl rfl) rfl rfl hl.1 rfl (lv_room (Nat.le_of_ble_eq_true rfl)) dX6_adds_19 ⟨Nat.le_of_ble_eq_true rfl, Nat.le_of_ble_eq_true rfl⟩) hP hD hS hA [0, 2] [1] rfl rfl (by decide) (by decide) (fun H locs hP hD hS => ?_)
        have hP : va_P D vwCl [(a_this_rows, .inl (cI, 31, .inl v_rows)), (a_this, .inr (5, [.int v_thrown, .ref a_this_s, .ref a_this_aside, .ref a_this_saved, .int v_savedMany, .ref a_this_text, .int v_length, .ref a_this_states, .int v_many, .int v_at, .int v_isWrong, .int v_letters, .int v_matched, .ref a_this_rows, .int v_manyRows, .long v_digested])), (a_this_s, .inl (cI, 31, .inl v_s_33))] H := hP
        have hD : va_D A [(a_this_rows, .inl (cI, 31, .inl v_rows)), (a_this, .inr (5, [.int v_thrown, .ref a_this_s, .ref a_this_aside, .ref a_this_saved, .int v_savedMany, .ref a_this_text, .int v_length, .ref a_this_states, .int v_many, .int v_at, .int v_isWrong, .int v_letters, .int v_matched, .ref a_this_rows, .int v_manyRows, .long v_digested])), (a_this_s, .inl (cI, 31, .inl v_s_33))] := hD
        refine lv_if_ne (tgt := 72) hx hb dX6_adds_22 (by decide) (fun c_54 => ?_) (fun c_54 => ?_)
        · have hden := ifn_s hden c_54
          obtain ⟨x2_38, ex2_38, hden⟩ := nm_x hden
          refine lv_iinc (v := x2_38) (lv' := [(2, .int x2_38), (0, .ref a_this), (1, .int x1_31)]) hx hb dX6_adds_72 hl (k := 2) rfl (by rw [ex2_38]; rfl) (by decide) rfl (fun ls hl => ?_)
          refine lv_goto (tgt := 4) hx hb dX6_adds_75 (by decide) ?_
          exact ih x1_31 x2_38 v_s_33 _ _ (mSubP hP [1, 0, 2] rfl) (hD.sub [1, 0, 2] (by decide) rfl) hS ls (lv_sub hl [1, 2, 0] rfl) hden
        · have hden := if_s hden c_54
          refine lv_iconst (v := 0) hx hb dX6_adds_25 (by decide) ?_
          refine lv_istore_n (lv' := [(3, .int 0), (0, .ref a_this), (1, .int x1_31), (2, .int x2_32)]) hx hb dX6_adds_26 rfl hl (by decide) rfl (fun ls hl => ?_)
          have hL27__41 : ∀ (k47 : Int32 → Option (Int32 × (Nat → Int32))), (∀ (x3_40 : Int32) (H : Heap) (locs : List Loc), va_P D vwCl [(a_this, .inr (5, [.int v_thrown, .ref a_this_s, .ref a_this_aside, .ref a_this_saved, .int v_savedMany, .ref a_this_text, .int v_length, .ref a_this_states, .int v_many, .int v_at, .int v_isWrong, .int v_letters, .int v_matched, .ref a_this_rows, .int v_manyRows, .long v_digested])), (a_this_rows, .inl (cI, 31, .inl v_rows)), (a_this_s, .inl (cI, 31, .inl v_s_33))] H → va_D A [(a_this, .inr (5, [.int v_thrown, .ref a_this_s, .ref a_this_aside, .ref a_this_saved, .int v_savedMany, .ref a_this_text, .int v_length, .ref a_this_states, .int v_many, .int v_at, .int v_isWrong, .int v_letters, .int v_matched, .ref a_this_rows, .int v_manyRows, .long v_digested])), (a_this_rows, .inl (cI, 31, .inl v_rows)), (a_this_s, .inl (cI, 31, .inl v_s_33))] → va_S A s.heap H locs → ∀ ls : Array Slot, lv_has ls 4 [(0, .ref a_this), (1, .int x1_31), (2, .int x2_32), (3, .int x3_40)] → k47 x3_40 = some (r0, w_s) → W p l e rm_X6_adds s m (([.ref a_this] : List Value).toArray) below meth c H locs 0 0 Q (F0 m 47 ls [])) → ∀ (n : Nat) (x3_39 : Int32) (H : Heap) (locs : List Loc), va_P D vwCl [(a_this, .inr (5, [.int v_thrown, .ref a_this_s, .ref a_this_aside, .ref a_this_saved, .int v_savedMany, .ref a_this_text, .int v_length, .ref a_this_states, .int v_many, .int v_at, .int v_isWrong, .int v_letters, .int v_matched, .ref a_this_rows, .int v_manyRows, .long v_digested])), (a_this_rows, .inl (cI, 31, .inl v_rows)), (a_this_s, .inl (cI, 31, .inl v_s_33))] H → va_D A [(a_this, .inr (5, [.int v_thrown, .ref a_this_s, .ref a_this_aside, .ref a_this_saved, .int v_savedMany, .ref a_this_text, .int v_length, .ref a_this_states, .int v_many, .int v_at, .int v_isWrong, .int v_letters, .int v_matched, .ref a_this_rows, .int v_manyRows, .long v_digested])), (a_this_rows, .inl (cI, 31, .inl v_rows)), (a_this_s, .inl (cI, 31, .inl v_s_33))] → va_S A s.heap H locs → ∀ ls : Array Slot, lv_has ls 4 [(0, .ref a_this), (1, .int x1_31), (2, .int x2_32), (3, .int x3_39)] → L_X6_adds_27 F k47 x1_31 x2_32 v_s_33 n x3_39 = some (r0, w_s) → W p l e rm_X6_adds s m (([.ref a_this] : List Value).toArray) below meth c H locs 0 0 Q (F0 m 27 ls []) := by
            intro k47 hk47 n
            induction n with
            | zero => intro x3_39 H locs hP hD hS ls hl hden; exact no_none hden
            | succ n ih =>
              intro x3_39 H locs hP hD hS ls hl hden
              rw [L_X6_adds_27] at hden
              refine lv_iload_n hx hb dX6_adds_27 rfl (lv_at hl 3 rfl) ?_
              refine lv_bipush (v := 8) hx hb dX6_adds_28 (by decide) ?_
              refine lv_icmp_ge (tgt := 47) hx hb dX6_adds_30 (by decide) (fun c_46 => ?_) (fun c_46 => ?_)
              · have hden := if_s hden c_46
                exact hk47 x3_39 _ _ (mSubP hP [0, 1, 2] rfl) (hD.sub [0, 1, 2] (by decide) rfl) hS ls (lv_sub hl [0, 1, 2, 3] rfl) hden
              · have hden := ifn_s hden c_46
                refine lv_aload_n hx hb dX6_adds_33 rfl (lv_at hl 0 rfl) ?_
                refine lv_iload_n hx hb dX6_adds_34 rfl (lv_at hl 3 rfl) ?_
                obtain ⟨r_42, hc_43, hden⟩ := bnd_s hden
                refine m_ci (wc := [(a_this, .inr (5, [.int v_thrown, .ref a_this_s, .ref a_this_aside, .ref a_this_saved, .int v_savedMany, .ref a_this_text, .int v_length, .ref a_this_states, .int v_many, .int v_at, .int v_isWrong, .int v_letters, .int v_matched, .ref a_this_rows, .int v_manyRows, .long v_digested])), (a_this_s, .inl (cI, 31, .inl v_s_33))]) (wr := [(a_this_rows, .inl (cI, 31, .inl v_rows))]) (wc' := [(a_this, .inr (5, [.int v_thrown, .ref a_this_s, .ref a_this_aside, .ref a_this_saved, .int v_savedMany, .ref a_this_text, .int v_length, .ref a_this_states, .int v_many, .int v_at, .int v_isWrong, .int v_letters, .int v_matched, .ref a_this_rows, .int v_manyRows, .long v_digested])), (a_this_s, .inl (cI, 31, .inl v_s_33))]) (va_runV (As := [.int x3_39]) (rest := []) ⟨hx, hb, hml, hown, hts⟩ (c_X6_isThere l D cI cM cL F hc_43) (cwV 1 hts gX6_adds_X6_isThere rfl rfl rfl (by decide +kernel) ⟨Nat.le_of_ble_eq_true rfl, Nat.le_of_ble_eq_true rfl⟩) (mPreV (ci := 5) (q0 := 0) (r := (RX6, TX6, 16)) hP hD hK hN [0, 2] (by decide) rfl rfl rfl) rfl rfl hl.1 rfl (lv_room (Nat.le_of_ble_eq_true rfl)) dX6_adds_35 ⟨Nat.le_of_ble_eq_true rfl, Nat.le_of_ble_eq_true rfl⟩) hP hD hS hA [0, 2] [1] rfl rfl (by decide) (by decide) (fun H locs hP hD hS => ?_)
                have hP : va_P D vwCl [(a_this_rows, .inl (cI, 31, .inl v_rows)), (a_this, .inr (5, [.int v_thrown, .ref a_this_s, .ref a_this_aside, .ref a_this_saved, .int v_savedMany, .ref a_this_text, .int v_length, .ref a_this_states, .int v_many, .int v_at, .int v_isWrong, .int v_letters, .int v_matched, .ref a_this_rows, .int v_manyRows, .long v_digested])), (a_this_s, .inl (cI, 31, .inl v_s_33))] H := hP
                have hD : va_D A [(a_this_rows, .inl (cI, 31, .inl v_rows)), (a_this, .inr (5, [.int v_thrown, .ref a_this_s, .ref a_this_aside, .ref a_this_saved, .int v_savedMany, .ref a_this_text, .int v_length, .ref a_this_states, .int v_many, .int v_at, .int v_isWrong, .int v_letters, .int v_matched, .ref a_this_rows, .int v_manyRows, .long v_digested])), (a_this_s, .inl (cI, 31, .inl v_s_33))] := hD
                refine lv_if_eq (tgt := 47) hx hb dX6_adds_38 (by decide) (fun c_45 => ?_) (fun c_45 => ?_)
                · have hden := if_s hden c_45
                  exact hk47 x3_39 _ _ (mSubP hP [1, 0, 2] rfl) (hD.sub [1, 0, 2] (by decide) rfl) hS ls (lv_sub hl [0, 1, 2, 3] rfl) hden
                · have hden := ifn_s hden c_45
                  obtain ⟨x3_44, ex3_44, hden⟩ := nm_x hden
                  refine lv_iinc (v := x3_44) (lv' := [(3, .int x3_44), (0, .ref a_this), (1, .int x1_31), (2, .int x2_32)]) hx hb dX6_adds_41 hl (k := 3) rfl (by rw [ex3_44]; rfl) (by decide) rfl (fun ls hl => ?_)
                  refine lv_goto (tgt := 27) hx hb dX6_adds_44 (by decide) ?_
                  exact ih x3_44 _ _ (mSubP hP [1, 0, 2] rfl) (hD.sub [1, 0, 2] (by decide) rfl) hS ls (lv_sub hl [1, 2, 3, 0] rfl) hden
          refine hL27__41 _ (fun x3_40 H locs hP hD hS ls hl hden => ?_) F 0 _ _ (mSubP hP [1, 0, 2] rfl) (hD.sub [1, 0, 2] (by decide) rfl) hS ls (lv_sub hl [1, 2, 3, 0] rfl) hden
          refine lv_iload_n hx hb dX6_adds_47 rfl (lv_at hl 3 rfl) ?_
          refine lv_bipush (v := 8) hx hb dX6_adds_48 (by decide) ?_
          refine lv_icmp_ne (tgt := 55) hx hb dX6_adds_50 (by decide) (fun c_53 => ?_) (fun c_53 => ?_)
          · have hden := ifn_s hden c_53
            refine lv_aload_n hx hb dX6_adds_55 rfl (lv_at hl 0 rfl) ?_
            refine va_get (D := D) (ci := 5) (v := .ref a_this_s) (C := RX6) (T := TX6) (N := 16) hx hb hts hin_X6 hown hK hP 0 rfl rfl 1 (by decide) w_7 (fun _ h9 => h9) rfl dX6_adds_56 ?_
            refine lv_iconst (v := 0) hx hb dX6_adds_59 (by decide) ?_
            refine lv_iload_n hx hb dX6_adds_60 rfl (lv_at hl 3 rfl) ?_
            refine lv_iadd hx hb dX6_adds_61 ?_
            refine lv_aload_n hx hb dX6_adds_62 rfl (lv_at hl 0 rfl) ?_
            refine va_get (D := D) (ci := 5) (v := .ref a_this_rows) (C := RX6) (T := TX6) (N := 16) hx hb hts hin_X6 hown hK hP 0 rfl rfl 13 (by decide) w_25 (fun _ h9 => h9) rfl dX6_adds_63 ?_
            refine lv_iload_n hx hb dX6_adds_66 rfl (lv_at hl 2 rfl) ?_
            obtain ⟨hg_47, hden⟩ := grd_s hden
            refine va_iald hx hb hK hP 1 0 rfl rfl (inb_in hg_47) dX6_adds_67 ?_
            refine lv_topi (fun y_48 ey_48 => ?_)
            have hden := nm_s hden ey_48
            obtain ⟨hg_49, hden⟩ := grd_s hden
            refine va_iast hx hb hK hP hD hS 2 0 rfl rfl (inb_in hg_49) dX6_adds_68 (fun H locs hP hD hS => ?_)
            obtain ⟨v_s_50, ev_s_50, hden⟩ := nm_x hden
            have hP : va_P D vwCl [(a_this, .inr (5, [.int v_thrown, .ref a_this_s, .ref a_this_aside, .ref a_this_saved, .int v_savedMany, .ref a_this_text, .int v_length, .ref a_this_states, .int v_many, .int v_at, .int v_isWrong, .int v_letters, .int v_matched, .ref a_this_rows, .int v_manyRows, .long v_digested])), (a_this_rows, .inl (cI, 31, .inl v_rows)), (a_this_s, .inl (cI, 31, .inl v_s_50))] H := by rw [ev_s_50]; exact hP
            have hD : va_D A [(a_this, .inr (5, [.int v_thrown, .ref a_this_s, .ref a_this_aside, .ref a_this_saved, .int v_savedMany, .ref a_this_text, .int v_length, .ref a_this_states, .int v_many, .int v_at, .int v_isWrong, .int v_letters, .int v_matched, .ref a_this_rows, .int v_manyRows, .long v_digested])), (a_this_rows, .inl (cI, 31, .inl v_rows)), (a_this_s, .inl (cI, 31, .inl v_s_50))] := by rw [ev_s_50]; exact hD
            obtain ⟨x1_51, ex1_51, hden⟩ := nm_x hden
            refine lv_iinc (v := x1_51) (lv' := [(1, .int x1_51), (0, .ref a_this), (2, .int x2_32), (3, .int x3_40)]) hx hb dX6_adds_69 hl (k := 1) rfl (by rw [ex1_51]; rfl) (by decide) rfl (fun ls hl => ?_)
            obtain ⟨x2_52, ex2_52, hden⟩ := nm_x hden
            refine lv_iinc (v := x2_52) (lv' := [(2, .int x2_52), (1, .int x1_51), (0, .ref a_this), (3, .int x3_40)]) hx hb dX6_adds_72 hl (k := 2) rfl (by rw [ex2_52]; rfl) (by decide) rfl (fun ls hl => ?_)
            refine lv_goto (tgt := 4) hx hb dX6_adds_75 (by decide) ?_
            exact ih x1_51 x2_52 v_s_50 _ _ (mSubP hP [0, 1, 2] rfl) (hD.sub [0, 1, 2] (by decide) rfl) hS ls (lv_sub hl [2, 1, 0] rfl) hden
          · have hden := if_s hden c_53
            refine lv_iconst (v := (-1)) hx hb dX6_adds_53 (by decide) ?_
            subst hQe
            cases hden
            exact m_ri hx hb hr hP hD hS [0, 1, 2] (by decide) rfl rfl dX6_adds_54 hlocks
  exact hL4__34 F 0 0 v_s _ _ (mSubP hP [0, 1, 2] rfl) (hD.sub [0, 1, 2] (by decide) rfl) hS ls (lv_sub hl [2, 1, 0] rfl) hden
def D_X6_add (F : Nat) (v_at : Int32) (v_isWrong : Int32) (v_manyRows : Int32) (v_length : Int32) (v_rows : (Nat → Int32)) (v_text : (Nat → Int32)) (v_s : (Nat → Int32)) (v_aside : (Nat → Int32)) (v_thrown : Int32) (v_savedMany : Int32) (v_saved : (Nat → Int32)) : Option (Int32 × Int32 × Int32 × Int32 × (Nat → Int32) × (Nat → Int32) × (Nat → Int32) × Int32 × Int32 × (Nat → Int32) × Int32) := bnd (D_X6_goPatterns F v_at v_isWrong v_manyRows v_length v_rows v_text) (fun (v_at_1, v_isWrong_2, v_manyRows_3, v_rows_4) => jp (fun (t_6 : Int32) => bnd (D_X6_putAside F v_s v_aside) (fun v_aside_7 => jp (fun (t_10 : Int32) (v_s_9 : (Nat → Int32)) => bnd (D_X6_putBack F v_aside_7 v_s_9) (fun v_s_11 => jp (fun (t_13 : Int32) => bnd (D_X6_holds F t_13 v_thrown) (fun (r_14, v_thrown_15) => (if r_14 = 0 then some (0, v_at_1, v_isWrong_2, v_manyRows_3, v_rows_4, v_aside_7, v_s_11, v_thrown_15, v_savedMany, v_saved, v_length) else bnd (D_X6_save F v_savedMany v_s_11 v_saved) (fun (v_savedMany_17, v_saved_18) => bnd (D_X6_adds F v_manyRows_3 v_rows_4 v_s_11) (fun (r_20, v_s_21) => some (r_20, v_at_1, v_isWrong_2, v_manyRows_3, v_rows_4, v_aside_7, v_s_21, v_thrown_15, v_savedMany_17, v_saved_18, 0)))))) (fun j72 => (if t_6 = 0 then j72 1 else (if t_10 = (-1) then j72 2 else j72 0))))) (fun j48 => (if t_6 = 0 then j48 0 v_s else bnd (D_X6_adds F v_manyRows_3 v_rows_4 v_s) (fun (r_26, v_s_27) => j48 r_26 v_s_27))))) (fun j31 => jp (fun (_ : Unit) => j31 0) (fun j30 => (if v_isWrong_2 = 0 then grd (inb (v_manyRows_3 - 1) 31) ((if (v_rows_4 (v_manyRows_3 - 1).toNatClampNeg) ≤ 1 then j30 () else j31 1)) else j30 ()))))
def rm_X6_add : Room := { frames := 2, cells := 0, slots := 0, locals := 46 }
set_option maxHeartbeats 4000000 in
set_option maxRecDepth 100000 in
theorem c_X6_add (l : Launch) (D : va_G) (cI cM cL : ClassId) (F : Nat) {a_this a_this_s a_this_aside a_this_saved a_this_text a_this_states a_this_rows : Nat} {sz : Nat} {v_thrown v_savedMany v_length v_many v_at v_isWrong v_letters v_matched v_manyRows : Int32} {v_digested : Int64} {v_rows v_text v_s v_aside v_saved : Nat → Int32} {r0 : Int32} {w_at : Int32} {w_isWrong : Int32} {w_manyRows : Int32} {w_rows : (Nat → Int32)} {w_aside : (Nat → Int32)} {w_s : (Nat → Int32)} {w_thrown : Int32} {w_savedMany : Int32} {w_saved : (Nat → Int32)} {w_length : Int32} (hden : D_X6_add F v_at v_isWrong v_manyRows v_length v_rows v_text v_s v_aside v_thrown v_savedMany v_saved = some (r0, w_at, w_isWrong, w_manyRows, w_rows, w_aside, w_s, w_thrown, w_savedMany, w_saved, w_length)) : Met l yX6_add wsX6_add rm_X6_add (va_Pc [.ref a_this] (mB D (mTy cI cM cL) sz [(a_this, .inr (5, [.int v_thrown, .ref a_this_s, .ref a_this_aside, .ref a_this_saved, .int v_savedMany, .ref a_this_text, .int v_length, .ref a_this_states, .int v_many, .int v_at, .int v_isWrong, .int v_letters, .int v_matched, .ref a_this_rows, .int v_manyRows, .long v_digested])), (a_this_rows, .inl (cI, 31, .inl v_rows)), (a_this_text, .inl (cI, 60, .inl v_text)), (a_this_s, .inl (cI, 31, .inl v_s)), (a_this_aside, .inl (cI, 31, .inl v_aside)), (a_this_saved, .inl (cI, 186, .inl v_saved))])) (mQi D (va_A [(a_this, .inr (5, [.int v_thrown, .ref a_this_s, .ref a_this_aside, .ref a_this_saved, .int v_savedMany, .ref a_this_text, .int v_length, .ref a_this_states, .int v_many, .int v_at, .int v_isWrong, .int v_letters, .int v_matched, .ref a_this_rows, .int v_manyRows, .long v_digested])), (a_this_rows, .inl (cI, 31, .inl v_rows)), (a_this_text, .inl (cI, 60, .inl v_text)), (a_this_s, .inl (cI, 31, .inl v_s)), (a_this_aside, .inl (cI, 31, .inl v_aside)), (a_this_saved, .inl (cI, 186, .inl v_saved))] sz) [(a_this, .inr (5, [.int w_thrown, .ref a_this_s, .ref a_this_aside, .ref a_this_saved, .int w_savedMany, .ref a_this_text, .int w_length, .ref a_this_states, .int v_many, .int w_at, .int w_isWrong, .int v_letters, .int v_matched, .ref a_this_rows, .int w_manyRows, .long v_digested])), (a_this_rows, .inl (cI, 31, .inl w_rows)), (a_this_text, .inl (cI, 60, .inl v_text)), (a_this_s, .inl (cI, 31, .inl w_s)), (a_this_aside, .inl (cI, 31, .inl w_aside)), (a_this_saved, .inl (cI, 186, .inl w_saved))] r0) 0 0 (va_A [(a_this, .inr (5, [.int v_thrown, .ref a_this_s, .ref a_this_aside, .ref a_this_saved, .int v_savedMany, .ref a_this_text, .int v_length, .ref a_this_states, .int v_many, .int v_at, .int v_isWrong, .int v_letters, .int v_matched, .ref a_this_rows, .int v_manyRows, .long v_digested])), (a_this_rows, .inl (cI, 31, .inl v_rows)), (a_this_text, .inl (cI, 60, .inl v_text)), (a_this_s, .inl (cI, 31, .inl v_s)), (a_this_aside, .inl (cI, 31, .inl v_aside)), (a_this_saved, .inl (cI, 186, .inl v_saved))] sz) := by
  refine Met.ofW (cc := cX6_add) (maxL := 3) (ret := (some .int)) (by decide) rfl ?_
  intro p e s m args below meth c s₁ B hml hv
  obtain ⟨rfl, hsz, hP, hK, hN, hD0⟩ := hv
  have hx := B.exec
  have hb := B.bytes
  have hr := B.returns
  have hts := atoms_spec (ws := wsX6_add) B.pre
  have hown : s.vm.findClass RX6 = some m.cls := findClass_of_methodNamed B.named
  have hlocks := B.notSynchronized
  subst hsz
  have hD := hD0.self (sz := s.heap.size)
  generalize hAe : va_A [(a_this, .inr (5, [.int v_thrown, .ref a_this_s, .ref a_this_aside, .ref a_this_saved, .int v_savedMany, .ref a_this_text, .int v_length, .ref a_this_states, .int v_many, .int v_at, .int v_isWrong, .int v_letters, .int v_matched, .ref a_this_rows, .int v_manyRows, .long v_digested])), (a_this_rows, .inl (cI, 31, .inl v_rows)), (a_this_text, .inl (cI, 60, .inl v_text)), (a_this_s, .inl (cI, 31, .inl v_s)), (a_this_aside, .inl (cI, 31, .inl v_aside)), (a_this_saved, .inl (cI, 186, .inl v_saved))] s.heap.size = A at hD ⊢
  have hA : ∀ q : Nat, s.heap.size ≤ q → A q := fun q h => by rw [← hAe]; exact Or.inr h
  have hS : va_S A s.heap s.heap [] := va_S.rf
  have hl := lv_entry ([.ref a_this]) (n := 3) (Nat.le_of_ble_eq_true rfl)
  rw [lg_entry_eq]
  generalize (lg_sl ([.ref a_this]) ++ List.replicate (3 - (lg_sl ([.ref a_this])).length) Slot.unset).toArray = ls at hl ⊢
  have hl : lv_has ls 3 [(0, .ref a_this)] := hl
  change W p l e rm_X6_add s m (([.ref a_this] : List Value).toArray) below meth c s.heap [] 0 0 _ (F0 m 0 ls [])
  generalize hQe : MQ below (mQi D A [(a_this, .inr (5, [.int w_thrown, .ref a_this_s, .ref a_this_aside, .ref a_this_saved, .int w_savedMany, .ref a_this_text, .int w_length, .ref a_this_states, .int v_many, .int w_at, .int w_isWrong, .int v_letters, .int v_matched, .ref a_this_rows, .int w_manyRows, .long v_digested])), (a_this_rows, .inl (cI, 31, .inl w_rows)), (a_this_text, .inl (cI, 60, .inl v_text)), (a_this_s, .inl (cI, 31, .inl w_s)), (a_this_aside, .inl (cI, 31, .inl w_aside)), (a_this_saved, .inl (cI, 186, .inl w_saved))] r0) (([.ref a_this] : List Value).toArray) s 0 0 A = Q
  rw [D_X6_add] at hden
  have hin_X6 : ∀ w ∈ wsX60, w ∈ wsX6_add := by decide +kernel
  have w_121 := hts (.fieldLink RX6 121 "FallingPatternsModel" "isWrong" "Z") (by decide +kernel)
  have w_131 := hts (.fieldLink RX6 131 "FallingPatternsModel" "length" "I") (by decide +kernel)
  have w_25 := hts (.fieldLink RX6 25 "FallingPatternsModel" "rows" "[I") (by decide +kernel)
  have w_134 := hts (.fieldLink RX6 134 "FallingPatternsModel" "manyRows" "I") (by decide +kernel)
  refine lv_aload_n hx hb dX6_add_0 rfl (lv_at hl 0 rfl) ?_
  obtain ⟨⟨v_at_1, v_isWrong_2, v_manyRows_3, v_rows_4⟩, hc_5, hden⟩ := bnd_s hden
  refine m_cv (wc := [(a_this, .inr (5, [.int v_thrown, .ref a_this_s, .ref a_this_aside, .ref a_this_saved, .int v_savedMany, .ref a_this_text, .int v_length, .ref a_this_states, .int v_many, .int v_at, .int v_isWrong, .int v_letters, .int v_matched, .ref a_this_rows, .int v_manyRows, .long v_digested])), (a_this_rows, .inl (cI, 31, .inl v_rows)), (a_this_text, .inl (cI, 60, .inl v_text))]) (wr := [(a_this_s, .inl (cI, 31, .inl v_s)), (a_this_aside, .inl (cI, 31, .inl v_aside)), (a_this_saved, .inl (cI, 186, .inl v_saved))]) (wc' := [(a_this, .inr (5, [.int v_thrown, .ref a_this_s, .ref a_this_aside, .ref a_this_saved, .int v_savedMany, .ref a_this_text, .int v_length, .ref a_this_states, .int v_many, .int v_at_1, .int v_isWrong_2, .int v_letters, .int v_matched, .ref a_this_rows, .int v_manyRows_3, .long v_digested])), (a_this_rows, .inl (cI, 31, .inl v_rows_4)), (a_this_text, .inl (cI, 60, .inl v_text))]) (va_runV (As := []) (rest := []) ⟨hx, hb, hml, hown, hts⟩ (c_X6_goPatterns l D cI cM cL F hc_5) (cwV 0 hts gX6_add_X6_goPatterns rfl rfl rfl (by decide +kernel) ⟨Nat.le_of_ble_eq_true rfl, Nat.le_of_ble_eq_true rfl⟩) (mPreV (ci := 5) (q0 := 0) (r := (RX6, TX6, 16)) hP hD hK hN [0, 1, 2] (by decide) rfl rfl rfl) rfl rfl hl.1 rfl (lv_room (Nat.le_of_ble_eq_true rfl)) dX6_add_1 ⟨Nat.le_of_ble_eq_true rfl, Nat.le_of_ble_eq_true rfl⟩) hP hD hS hA [0, 1, 2] [3, 4, 5] rfl rfl (by decide) (by decide) (fun H locs hP hD hS => ?_)
  have hP : va_P D vwCl [(a_this_s, .inl (cI, 31, .inl v_s)), (a_this_aside, .inl (cI, 31, .inl v_aside)), (a_this_saved, .inl (cI, 186, .inl v_saved)), (a_this, .inr (5, [.int v_thrown, .ref a_this_s, .ref a_this_aside, .ref a_this_saved, .int v_savedMany, .ref a_this_text, .int v_length, .ref a_this_states, .int v_many, .int v_at_1, .int v_isWrong_2, .int v_letters, .int v_matched, .ref a_this_rows, .int v_manyRows_3, .long v_digested])), (a_this_rows, .inl (cI, 31, .inl v_rows_4)), (a_this_text, .inl (cI, 60, .inl v_text))] H := hP
  have hD : va_D A [(a_this_s, .inl (cI, 31, .inl v_s)), (a_this_aside, .inl (cI, 31, .inl v_aside)), (a_this_saved, .inl (cI, 186, .inl v_saved)), (a_this, .inr (5, [.int v_thrown, .ref a_this_s, .ref a_this_aside, .ref a_this_saved, .int v_savedMany, .ref a_this_text, .int v_length, .ref a_this_states, .int v_many, .int v_at_1, .int v_isWrong_2, .int v_letters, .int v_matched, .ref a_this_rows, .int v_manyRows_3, .long v_digested])), (a_this_rows, .inl (cI, 31, .inl v_rows_4)), (a_this_text, .inl (cI, 60, .inl v_text))] := hD
  refine lv_aload_n hx hb dX6_add_4 rfl (lv_at hl 0 rfl) ?_
  refine va_get (D := D) (ci := 5) (v := .int v_isWrong_2) (C := RX6) (T := TX6) (N := 16) hx hb hts hin_X6 hown hK hP 3 rfl rfl 10 (by decide) w_121 (fun _ h9 => h9) rfl dX6_add_5 ?_
  obtain ⟨j31, ej31, hden⟩ := jp_s hden
  have hj31 : ∀ (t_6 : Int32) (H : Heap) (locs : List Loc), va_P D vwCl [(a_this, .inr (5, [.int v_thrown, .ref a_this_s, .ref a_this_aside, .ref a_this_saved, .int v_savedMany, .ref a_this_text, .int v_length, .ref a_this_states, .int v_many, .int v_at_1, .int v_isWrong_2, .int v_letters, .int v_matched, .ref a_this_rows, .int v_manyRows_3, .long v_digested])), (a_this_rows, .inl (cI, 31, .inl v_rows_4)), (a_this_text, .inl (cI, 60, .inl v_text)), (a_this_s, .inl (cI, 31, .inl v_s)), (a_this_aside, .inl (cI, 31, .inl v_aside)), (a_this_saved, .inl (cI, 186, .inl v_saved))] H → va_D A [(a_this, .inr (5, [.int v_thrown, .ref a_this_s, .ref a_this_aside, .ref a_this_saved, .int v_savedMany, .ref a_this_text, .int v_length, .ref a_this_states, .int v_many, .int v_at_1, .int v_isWrong_2, .int v_letters, .int v_matched, .ref a_this_rows, .int v_manyRows_3, .long v_digested])), (a_this_rows, .inl (cI, 31, .inl v_rows_4)), (a_this_text, .inl (cI, 60, .inl v_text)), (a_this_s, .inl (cI, 31, .inl v_s)), (a_this_aside, .inl (cI, 31, .inl v_aside)), (a_this_saved, .inl (cI, 186, .inl v_saved))] → va_S A s.heap H locs → ∀ ls : Array Slot, lv_has ls 3 [(0, .ref a_this)] → j31 t_6 = some (r0, w_at, w_isWrong, w_manyRows, w_rows, w_aside, w_s, w_thrown, w_savedMany, w_saved, w_length) → W p l e rm_X6_add s m (([.ref a_this] : List Value).toArray) below meth c H locs 0 0 Q (F0 m 31 ls [.int t_6]) := by
    intro t_6 H locs hP hD hS ls hl hden
    rw [ej31] at hden
    refine lv_istore_n (lv' := [(1, .int t_6), (0, .ref a_this)]) hx hb dX6_add_31 rfl hl (by decide) rfl (fun ls hl => ?_)
    refine lv_aload_n hx hb dX6_add_32 rfl (lv_at hl 1 rfl) ?_
    obtain ⟨v_aside_7, hc_8, hden⟩ := bnd_s hden
    refine m_cv (wc := [(a_this, .inr (5, [.int v_thrown, .ref a_this_s, .ref a_this_aside, .ref a_this_saved, .int v_savedMany, .ref a_this_text, .int v_length, .ref a_this_states, .int v_many, .int v_at_1, .int v_isWrong_2, .int v_letters, .int v_matched, .ref a_this_rows, .int v_manyRows_3, .long v_digested])), (a_this_s, .inl (cI, 31, .inl v_s)), (a_this_aside, .inl (cI, 31, .inl v_aside))]) (wr := [(a_this_rows, .inl (cI, 31, .inl v_rows_4)), (a_this_text, .inl (cI, 60, .inl v_text)), (a_this_saved, .inl (cI, 186, .inl v_saved))]) (wc' := [(a_this, .inr (5, [.int v_thrown, .ref a_this_s, .ref a_this_aside, .ref a_this_saved, .int v_savedMany, .ref a_this_text, .int v_length, .ref a_this_states, .int v_many, .int v_at_1, .int v_isWrong_2, .int v_letters, .int v_matched, .ref a_this_rows, .int v_manyRows_3, .long v_digested])), (a_this_s, .inl (cI, 31, .inl v_s)), (a_this_aside, .inl (cI, 31, .inl v_aside_7))]) (va_runV (As := []) (rest := []) ⟨hx, hb, hml, hown, hts⟩ (c_X6_putAside l D cI cM cL F hc_8) (cwV 0 hts gX6_add_X6_putAside rfl rfl rfl (by decide +kernel) ⟨Nat.le_of_ble_eq_true rfl, Nat.le_of_ble_eq_true rfl⟩) (mPreV (ci := 5) (q0 := 0) (r := (RX6, TX6, 16)) hP hD hK hN [0, 3, 4] (by decide) rfl rfl rfl) rfl rfl hl.1 rfl (lv_room (Nat.le_of_ble_eq_true rfl)) dX6_add_33 ⟨Nat.le_of_ble_eq_true rfl, Nat.le_of_ble_eq_true rfl⟩) hP hD hS hA [0, 3, 4] [1, 2, 5] rfl rfl (by decide) (by decide) (fun H locs hP hD hS => ?_)
    have hP : va_P D vwCl [(a_this_rows, .inl (cI, 31, .inl v_rows_4)), (a_this_text, .inl (cI, 60, .inl v_text)), (a_this_saved, .inl (cI, 186, .inl v_saved)), (a_this, .inr (5, [.int v_thrown, .ref a_this_s, .ref a_this_aside, .ref a_this_saved, .int v_savedMany, .ref a_this_text, .int v_length, .ref a_this_states, .int v_many, .int v_at_1, .int v_isWrong_2, .int v_letters, .int v_matched, .ref a_this_rows, .int v_manyRows_3, .long v_digested])), (a_this_s, .inl (cI, 31, .inl v_s)), (a_this_aside, .inl (cI, 31, .inl v_aside_7))] H := hP
    have hD : va_D A [(a_this_rows, .inl (cI, 31, .inl v_rows_4)), (a_this_text, .inl (cI, 60, .inl v_text)), (a_this_saved, .inl (cI, 186, .inl v_saved)), (a_this, .inr (5, [.int v_thrown, .ref a_this_s, .ref a_this_aside, .ref a_this_saved, .int v_savedMany, .ref a_this_text, .int v_length, .ref a_this_states, .int v_many, .int v_at_1, .int v_isWrong_2, .int v_letters, .int v_matched, .ref a_this_rows, .int v_manyRows_3, .long v_digested])), (a_this_s, .inl (cI, 31, .inl v_s)), (a_this_aside, .inl (cI, 31, .inl v_aside_7))] := hD
    refine lv_iload_n hx hb dX6_add_36 rfl (lv_at hl 0 rfl) ?_
    obtain ⟨j48, ej48, hden⟩ := jp_s hden
    have hj48 : ∀ (t_10 : Int32) (v_s_9 : (Nat → Int32)) (H : Heap) (locs : List Loc), va_P D vwCl [(a_this, .inr (5, [.int v_thrown, .ref a_this_s, .ref a_this_aside, .ref a_this_saved, .int v_savedMany, .ref a_this_text, .int v_length, .ref a_this_states, .int v_many, .int v_at_1, .int v_isWrong_2, .int v_letters, .int v_matched, .ref a_this_rows, .int v_manyRows_3, .long v_digested])), (a_this_rows, .inl (cI, 31, .inl v_rows_4)), (a_this_text, .inl (cI, 60, .inl v_text)), (a_this_s, .inl (cI, 31, .inl v_s_9)), (a_this_aside, .inl (cI, 31, .inl v_aside_7)), (a_this_saved, .inl (cI, 186, .inl v_saved))] H → va_D A [(a_this, .inr (5, [.int v_thrown, .ref a_this_s, .ref a_this_aside, .ref a_this_saved, .int v_savedMany, .ref a_this_text, .int v_length, .ref a_this_states, .int v_many, .int v_at_1, .int v_isWrong_2, .int v_letters, .int v_matched, .ref a_this_rows, .int v_manyRows_3, .long v_digested])), (a_this_rows, .inl (cI, 31, .inl v_rows_4)), (a_this_text, .inl (cI, 60, .inl v_text)), (a_this_s, .inl (cI, 31, .inl v_s_9)), (a_this_aside, .inl (cI, 31, .inl v_aside_7)), (a_this_saved, .inl (cI, 186, .inl v_saved))] → va_S A s.heap H locs → ∀ ls : Array Slot, lv_has ls 3 [(0, .ref a_this), (1, .int t_6)] → j48 t_10 v_s_9 = some (r0, w_at, w_isWrong, w_manyRows, w_rows, w_aside, w_s, w_thrown, w_savedMany, w_saved, w_length) → W p l e rm_X6_add s m (([.ref a_this] : List Value).toArray) below meth c H locs 0 0 Q (F0 m 48 ls [.int t_10]) := by
      intro t_10 v_s_9 H locs hP hD hS ls hl hden
      rw [ej48] at hden
      refine lv_istore_n (lv' := [(2, .int t_10), (0, .ref a_this), (1, .int t_6)]) hx hb dX6_add_48 rfl hl (by decide) rfl (fun ls hl => ?_)
      refine lv_aload_n hx hb dX6_add_49 rfl (lv_at hl 1 rfl) ?_
      obtain ⟨v_s_11, hc_12, hden⟩ := bnd_s hden
      refine m_cv (wc := [(a_this, .inr (5, [.int v_thrown, .ref a_this_s, .ref a_this_aside, .ref a_this_saved, .int v_savedMany, .ref a_this_text, .int v_length, .ref a_this_states, .int v_many, .int v_at_1, .int v_isWrong_2, .int v_letters, .int v_matched, .ref a_this_rows, .int v_manyRows_3, .long v_digested])), (a_this_aside, .inl (cI, 31, .inl v_aside_7)), (a_this_s, .inl (cI, 31, .inl v_s_9))]) (wr := [(a_this_rows, .inl (cI, 31, .inl v_rows_4)), (a_this_text, .inl (cI, 60, .inl v_text)), (a_this_saved, .inl (cI, 186, .inl v_saved))]) (wc' := [(a_this, .inr (5, [.int v_thrown, .ref a_this_s, .ref a_this_aside, .ref a_this_saved, .int v_savedMany, .ref a_this_text, .int v_length, .ref a_this_states, .int v_many, .int v_at_1, .int v_isWrong_2, .int v_letters, .int v_matched, .ref a_this_rows, .int v_manyRows_3, .long v_digested])), (a_this_aside, .inl (cI, 31, .inl v_aside_7)), (a_this_s, .inl (cI, 31, .inl v_s_11))]) (va_runV (As := []) (rest := []) ⟨hx, hb, hml, hown, hts⟩ (c_X6_putBack l D cI cM cL F hc_12) (cwV 0 hts gX6_add_X6_putBack rfl rfl rfl (by decide +kernel) ⟨Nat.le_of_ble_eq_true rfl, Nat.le_of_ble_eq_true rfl⟩) (mPreV (ci := 5) (q0 := 0) (r := (RX6, TX6, 16)) hP hD hK hN [0, 4, 3] (by decide) rfl rfl rfl) rfl rfl hl.1 rfl (lv_room (Nat.le_of_ble_eq_true rfl)) dX6_add_50 ⟨Nat.le_of_ble_eq_true rfl, Nat.le_of_ble_eq_true rfl⟩) hP hD hS hA [0, 4, 3] [1, 2, 5] rfl rfl (by decide) (by decide) (fun H locs hP hD hS => ?_)
      have hP : va_P D vwCl [(a_this_rows, .inl (cI, 31, .inl v_rows_4)), (a_this_text, .inl (cI, 60, .inl v_text)), (a_this_saved, .inl (cI, 186, .inl v_saved)), (a_this, .inr (5, [.int v_thrown, .ref a_this_s, .ref a_this_aside, .ref a_this_saved, .int v_savedMany, .ref a_this_text, .int v_length, .ref a_this_states, .int v_many, .int v_at_1, .int v_isWrong_2, .int v_letters, .int v_matched, .ref a_this_rows, .int v_manyRows_3, .long v_digested])), (a_this_aside, .inl (cI, 31, .inl v_aside_7)), (a_this_s, .inl (cI, 31, .inl v_s_11))] H := hP
      have hD : va_D A [(a_this_rows, .inl (cI, 31, .inl v_rows_4)), (a_this_text, .inl (cI, 60, .inl v_text)), (a_this_saved, .inl (cI, 186, .inl v_saved)), (a_this, .inr (5, [.int v_thrown, .ref a_this_s, .ref a_this_aside, .ref a_this_saved, .int v_savedMany, .ref a_this_text, .int v_length, .ref a_this_states, .int v_many, .int v_at_1, .int v_isWrong_2, .int v_letters, .int v_matched, .ref a_this_rows, .int v_manyRows_3, .long v_digested])), (a_this_aside, .inl (cI, 31, .inl v_aside_7)), (a_this_s, .inl (cI, 31, .inl v_s_11))] := hD
      refine lv_aload_n hx hb dX6_add_53 rfl (lv_at hl 1 rfl) ?_
      refine lv_iload_n hx hb dX6_add_54 rfl (lv_at hl 2 rfl) ?_
      obtain ⟨j72, ej72, hden⟩ := jp_s hden
      have hj72 : ∀ (t_13 : Int32) (H : Heap) (locs : List Loc), va_P D vwCl [(a_this, .inr (5, [.int v_thrown, .ref a_this_s, .ref a_this_aside, .ref a_this_saved, .int v_savedMany, .ref a_this_text, .int v_length, .ref a_this_states, .int v_many, .int v_at_1, .int v_isWrong_2, .int v_letters, .int v_matched, .ref a_this_rows, .int v_manyRows_3, .long v_digested])), (a_this_rows, .inl (cI, 31, .inl v_rows_4)), (a_this_text, .inl (cI, 60, .inl v_text)), (a_this_s, .inl (cI, 31, .inl v_s_11)), (a_this_aside, .inl (cI, 31, .inl v_aside_7)), (a_this_saved, .inl (cI, 186, .inl v_saved))] H → va_D A [(a_this, .inr (5, [.int v_thrown, .ref a_this_s, .ref a_this_aside, .ref a_this_saved, .int v_savedMany, .ref a_this_text, .int v_length, .ref a_this_states, .int v_many, .int v_at_1, .int v_isWrong_2, .int v_letters, .int v_matched, .ref a_this_rows, .int v_manyRows_3, .long v_digested])), (a_this_rows, .inl (cI, 31, .inl v_rows_4)), (a_this_text, .inl (cI, 60, .inl v_text)), (a_this_s, .inl (cI, 31, .inl v_s_11)), (a_this_aside, .inl (cI, 31, .inl v_aside_7)), (a_this_saved, .inl (cI, 186, .inl v_saved))] → va_S A s.heap H locs → ∀ ls : Array Slot, lv_has ls 3 [(0, .ref a_this)] → j72 t_13 = some (r0, w_at, w_isWrong, w_manyRows, w_rows, w_aside, w_s, w_thrown, w_savedMany, w_saved, w_length) → W p l e rm_X6_add s m (([.ref a_this] : List Value).toArray) below meth c H locs 0 0 Q (F0 m 72 ls [.int t_13, .ref a_this]) := by
        intro t_13 H locs hP hD hS ls hl hden
        rw [ej72] at hden
        obtain ⟨⟨r_14, v_thrown_15⟩, hc_16, hden⟩ := bnd_s hden
        refine m_ci (wc := [(a_this, .inr (5, [.int v_thrown, .ref a_this_s, .ref a_this_aside, .ref a_this_saved, .int v_savedMany, .ref a_this_text, .int v_length, .ref a_this_states, .int v_many, .int v_at_1, .int v_isWrong_2, .int v_letters, .int v_matched, .ref a_this_rows, .int v_manyRows_3, .long v_digested]))]) (wr := [(a_this_rows, .inl (cI, 31, .inl v_rows_4)), (a_this_text, .inl (cI, 60, .inl v_text)), (a_this_s, .inl (cI, 31, .inl v_s_11)), (a_this_aside, .inl (cI, 31, .inl v_aside_7)), (a_this_saved, .inl (cI, 186, .inl v_saved))]) (wc' := [(a_this, .inr (5, [.int v_thrown_15, .ref a_this_s, .ref a_this_aside, .ref a_this_saved, .int v_savedMany, .ref a_this_text, .int v_length, .ref a_this_states, .int v_many, .int v_at_1, .int v_isWrong_2, .int v_letters, .int v_matched, .ref a_this_rows, .int v_manyRows_3, .long v_digested]))]) (va_runV (As := [.int t_13]) (rest := []) ⟨hx, hb, hml, hown, hts⟩ (c_X6_holds l D cI cM cL F hc_16) (cwV 1 hts gX6_add_X6_holds rfl rfl rfl (by decide +kernel) ⟨Nat.le_of_ble_eq_true rfl, Nat.le_of_ble_eq_true rfl⟩) (mPreV (ci := 5) (q0 := 0) (r := (RX6, TX6, 16)) hP hD hK hN [0] (by decide) rfl rfl rfl) rfl rfl hl.1 rfl (lv_room (Nat.le_of_ble_eq_true rfl)) dX6_add_72 ⟨Nat.le_of_ble_eq_true rfl, Nat.le_of_ble_eq_true rfl⟩) hP hD hS hA [0] [1, 2, 3, 4, 5] rfl rfl (by decide) (by decide) (fun H locs hP hD hS => ?_)
        have hP : va_P D vwCl [(a_this_rows, .inl (cI, 31, .inl v_rows_4)), (a_this_text, .inl (cI, 60, .inl v_text)), (a_this_s, .inl (cI, 31, .inl v_s_11)), (a_this_aside, .inl (cI, 31, .inl v_aside_7)), (a_this_saved, .inl (cI, 186, .inl v_saved)), (a_this, .inr (5, [.int v_thrown_15, .ref a_this_s, .ref a_this_aside, .ref a_this_saved, .int v_savedMany, .ref a_this_text, .int v_length, .ref a_this_states, .int v_many, .int v_at_1, .int v_isWrong_2, .int v_letters, .int v_matched, .ref a_this_rows, .int v_manyRows_3, .long v_digested]))] H := hP
        have hD : va_D A [(a_this_rows, .inl (cI, 31, .inl v_rows_4)), (a_this_text, .inl (cI, 60, .inl v_text)), (a_this_s, .inl (cI, 31, .inl v_s_11)), (a_this_aside, .inl (cI, 31, .inl v_aside_7)), (a_this_saved, .inl (cI, 186, .inl v_saved)), (a_this, .inr (5, [.int v_thrown_15, .ref a_this_s, .ref a_this_aside, .ref a_this_saved, .int v_savedMany, .ref a_this_text, .int v_length, .ref a_this_states, .int v_many, .int v_at_1, .int v_isWrong_2, .int v_letters, .int v_matched, .ref a_this_rows, .int v_manyRows_3, .long v_digested]))] := hD
        refine lv_if_ne (tgt := 80) hx hb dX6_add_75 (by decide) (fun c_23 => ?_) (fun c_23 => ?_)
        · have hden := ifn_s hden c_23
          refine lv_aload_n hx hb dX6_add_80 rfl (lv_at hl 0 rfl) ?_
          obtain ⟨⟨v_savedMany_17, v_saved_18⟩, hc_19, hden⟩ := bnd_s hden
          refine m_cv (wc := [(a_this, .inr (5, [.int v_thrown_15, .ref a_this_s, .ref a_this_aside, .ref a_this_saved, .int v_savedMany, .ref a_this_text, .int v_length, .ref a_this_states, .int v_many, .int v_at_1, .int v_isWrong_2, .int v_letters, .int v_matched, .ref a_this_rows, .int v_manyRows_3, .long v_digested])), (a_this_s, .inl (cI, 31, .inl v_s_11)), (a_this_saved, .inl (cI, 186, .inl v_saved))]) (wr := [(a_this_rows, .inl (cI, 31, .inl v_rows_4)), (a_this_text, .inl (cI, 60, .inl v_text)), (a_this_aside, .inl (cI, 31, .inl v_aside_7))]) (wc' := [(a_this, .inr (5, [.int v_thrown_15, .ref a_this_s, .ref a_this_aside, .ref a_this_saved, .int v_savedMany_17, .ref a_this_text, .int v_length, .ref a_this_states, .int v_many, .int v_at_1, .int v_isWrong_2, .int v_letters, .int v_matched, .ref a_this_rows, .int v_manyRows_3, .long v_digested])), (a_this_s, .inl (cI, 31, .inl v_s_11)), (a_this_saved, .inl (cI, 186, .inl v_saved_18))]) (va_runV (As := []) (rest := []) ⟨hx, hb, hml, hown, hts⟩ (c_X6_save l D cI cM cL F hc_19) (cwV 0 hts gX6_add_X6_save rfl rfl rfl (by decide +kernel) ⟨Nat.le_of_ble_eq_true rfl, Nat.le_of_ble_eq_true rfl⟩) (mPreV (ci := 5) (q0 := 0) (r := (RX6, TX6, 16)) hP hD hK hN [5, 2, 4] (by decide) rfl rfl rfl) rfl rfl hl.1 rfl (lv_room (Nat.le_of_ble_eq_true rfl)) dX6_add_81 ⟨Nat.le_of_ble_eq_true rfl, Nat.le_of_ble_eq_true rfl⟩) hP hD hS hA [5, 2, 4] [0, 1, 3] rfl rfl (by decide) (by decide) (fun H locs hP hD hS => ?_)
          have hP : va_P D vwCl [(a_this_rows, .inl (cI, 31, .inl v_rows_4)), (a_this_text, .inl (cI, 60, .inl v_text)), (a_this_aside, .inl (cI, 31, .inl v_aside_7)), (a_this, .inr (5, [.int v_thrown_15, .ref a_this_s, .ref a_this_aside, .ref a_this_saved, .int v_savedMany_17, .ref a_this_text, .int v_length, .ref a_this_states, .int v_many, .int v_at_1, .int v_isWrong_2, .int v_letters, .int v_matched, .ref a_this_rows, .int v_manyRows_3, .long v_digested])), (a_this_s, .inl (cI, 31, .inl v_s_11)), (a_this_saved, .inl (cI, 186, .inl v_saved_18))] H := hP
          have hD : va_D A [(a_this_rows, .inl (cI, 31, .inl v_rows_4)), (a_this_text, .inl (cI, 60, .inl v_text)), (a_this_aside, .inl (cI, 31, .inl v_aside_7)), (a_this, .inr (5, [.int v_thrown_15, .ref a_this_s, .ref a_this_aside, .ref a_this_saved, .int v_savedMany_17, .ref a_this_text, .int v_length, .ref a_this_states, .int v_many, .int v_at_1, .int v_isWrong_2, .int v_letters, .int v_matched, .ref a_this_rows, .int v_manyRows_3, .long v_digested])), (a_this_s, .inl (cI, 31, .inl v_s_11)), (a_this_saved, .inl (cI, 186, .inl v_saved_18))] := hD
          refine lv_aload_n hx hb dX6_add_84 rfl (lv_at hl 0 rfl) ?_
          refine lv_iconst (v := 0) hx hb dX6_add_85 (by decide) ?_
          refine va_put (D := D) (ci := 5) (v := .int 0) (ty := .int) (C := RX6) (T := TX6) (N := 16) hx hb hts hin_X6 tyX6 tyX6_ok nmX6 hown hK hP hD hS 3 rfl rfl 6 (by decide) w_131 (fun _ h9 => h9) rfl (by decide +kernel) rfl rfl (Nat.le_of_ble_eq_true rfl) dX6_add_86 (fun H locs hP hD hS => ?_)
          have hP : va_P D vwCl [(a_this_rows, .inl (cI, 31, .inl v_rows_4)), (a_this_text, .inl (cI, 60, .inl v_text)), (a_this_aside, .inl (cI, 31, .inl v_aside_7)), (a_this, .inr (5, [.int v_thrown_15, .ref a_this_s, .ref a_this_aside, .ref a_this_saved, .int v_savedMany_17, .ref a_this_text, .int 0, .ref a_this_states, .int v_many, .int v_at_1, .int v_isWrong_2, .int v_letters, .int v_matched, .ref a_this_rows, .int v_manyRows_3, .long v_digested])), (a_this_s, .inl (cI, 31, .inl v_s_11)), (a_this_saved, .inl (cI, 186, .inl v_saved_18))] H := hP
          have hD : va_D A [(a_this_rows, .inl (cI, 31, .inl v_rows_4)), (a_this_text, .inl (cI, 60, .inl v_text)), (a_this_aside, .inl (cI, 31, .inl v_aside_7)), (a_this, .inr (5, [.int v_thrown_15, .ref a_this_s, .ref a_this_aside, .ref a_this_saved, .int v_savedMany_17, .ref a_this_text, .int 0, .ref a_this_states, .int v_many, .int v_at_1, .int v_isWrong_2, .int v_letters, .int v_matched, .ref a_this_rows, .int v_manyRows_3, .long v_digested])), (a_this_s, .inl (cI, 31, .inl v_s_11)), (a_this_saved, .inl (cI, 186, .inl v_saved_18))] := hD
          refine lv_aload_n hx hb dX6_add_89 rfl (lv_at hl 0 rfl) ?_
          obtain ⟨⟨r_20, v_s_21⟩, hc_22, hden⟩ := bnd_s hden
          refine m_ci (wc := [(a_this, .inr (5, [.int v_thrown_15, .ref a_this_s, .ref a_this_aside, .ref a_this_saved, .int v_savedMany_17, .ref a_this_text, .int 0, .ref a_this_states, .int v_many, .int v_at_1, .int v_isWrong_2, .int v_letters, .int v_matched, .ref a_this_rows, .int v_manyRows_3, .long v_digested])), (a_this_rows, .inl (cI, 31, .inl v_rows_4)), (a_this_s, .inl (cI, 31, .inl v_s_11))]) (wr := [(a_this_text, .inl (cI, 60, .inl v_text)), (a_this_aside, .inl (cI, 31, .inl v_aside_7)), (a_this_saved, .inl (cI, 186, .inl v_saved_18))]) (wc' := [(a_this, .inr (5, [.int v_thrown_15, .ref a_this_s, .ref a_this_aside, .ref a_this_saved, .int v_savedMany_17, .ref a_this_text, .int 0, .ref a_this_states, .int v_many, .int v_at_1, .int v_isWrong_2, .int v_letters, .int v_matched, .ref a_this_rows, .int v_manyRows_3, .long v_digested])), (a_this_rows, .inl (cI, 31, .inl v_rows_4)), (a_this_s, .inl (cI, 31, .inl v_s_21))]) (va_runV (As := []) (rest := []) ⟨hx, hb, hml, hown, hts⟩ (c_X6_adds l D cI cM cL F hc_22) (cwV 0 hts gX6_add_X6_adds rfl rfl rfl (by decide +kernel) ⟨Nat.le_of_ble_eq_true rfl, Nat.le_of_ble_eq_true rfl⟩) (mPreV (ci := 5) (q0 := 0) (r := (RX6, TX6, 16)) hP hD hK hN [3, 0, 4] (by decide) rfl rfl rfl) rfl rfl hl.1 rfl (lv_room (Nat.le_of_ble_eq_true rfl)) dX6_add_90 ⟨Nat.le_of_ble_eq_true rfl, Nat.le_of_ble_eq_true rfl⟩) hP hD hS hA [3, 0, 4] [1, 2, 5] rfl rfl (by decide) (by decide) (fun H locs hP hD hS => ?_)
          have hP : va_P D vwCl [(a_this_text, .inl (cI, 60, .inl v_text)), (a_this_aside, .inl (cI, 31, .inl v_aside_7)), (a_this_saved, .inl (cI, 186, .inl v_saved_18)), (a_this, .inr (5, [.int v_thrown_15, .ref a_this_s, .ref a_this_aside, .ref a_this_saved, .int v_savedMany_17, .ref a_this_text, .int 0, .ref a_this_states, .int v_many, .int v_at_1, .int v_isWrong_2, .int v_letters, .int v_matched, .ref a_this_rows, .int v_manyRows_3, .long v_digested])), (a_this_rows, .inl (cI, 31, .inl v_rows_4)), (a_this_s, .inl (cI, 31, .inl v_s_21))] H := hP
          have hD : va_D A [(a_this_text, .inl (cI, 60, .inl v_text)), (a_this_aside, .inl (cI, 31, .inl v_aside_7)), (a_this_saved, .inl (cI, 186, .inl v_saved_18)), (a_this, .inr (5, [.int v_thrown_15, .ref a_this_s, .ref a_this_aside, .ref a_this_saved, .int v_savedMany_17, .ref a_this_text, .int 0, .ref a_this_states, .int v_many, .int v_at_1, .int v_isWrong_2, .int v_letters, .int v_matched, .ref a_this_rows, .int v_manyRows_3, .long v_digested])), (a_this_rows, .inl (cI, 31, .inl v_rows_4)), (a_this_s, .inl (cI, 31, .inl v_s_21))] := hD
          subst hQe
          cases hden
          exact m_ri hx hb hr hP hD hS [3, 4, 0, 5, 1, 2] (by decide) rfl rfl dX6_add_93 hlocks
        · have hden := if_s hden c_23
          refine lv_iconst (v := 0) hx hb dX6_add_78 (by decide) ?_
          subst hQe
          cases hden
          exact m_ri hx hb hr hP hD hS [5, 0, 1, 2, 3, 4] (by decide) rfl rfl dX6_add_79 hlocks
      clear ej72
      refine lv_if_ne (tgt := 62) hx hb dX6_add_55 (by decide) (fun c_25 => ?_) (fun c_25 => ?_)
      · have hden := ifn_s hden c_25
        refine lv_iload_n hx hb dX6_add_62 rfl (lv_at hl 0 rfl) ?_
        refine lv_iconst (v := (-1)) hx hb dX6_add_63 (by decide) ?_
        refine lv_icmp_ne (tgt := 71) hx hb dX6_add_64 (by decide) (fun c_24 => ?_) (fun c_24 => ?_)
        · have hden := ifn_s hden c_24
          refine lv_iconst (v := 0) hx hb dX6_add_71 (by decide) ?_
          exact hj72 0 _ _ (mSubP hP [3, 0, 1, 5, 4, 2] rfl) (hD.sub [3, 0, 1, 5, 4, 2] (by decide) rfl) hS ls (lv_sub hl [1] rfl) hden
        · have hden := if_s hden c_24
          refine lv_iconst (v := 2) hx hb dX6_add_67 (by decide) ?_
          refine lv_goto (tgt := 72) hx hb dX6_add_68 (by decide) ?_
          exact hj72 2 _ _ (mSubP hP [3, 0, 1, 5, 4, 2] rfl) (hD.sub [3, 0, 1, 5, 4, 2] (by decide) rfl) hS ls (lv_sub hl [1] rfl) hden
      · have hden := if_s hden c_25
        refine lv_iconst (v := 1) hx hb dX6_add_58 (by decide) ?_
        refine lv_goto (tgt := 72) hx hb dX6_add_59 (by decide) ?_
        exact hj72 1 _ _ (mSubP hP [3, 0, 1, 5, 4, 2] rfl) (hD.sub [3, 0, 1, 5, 4, 2] (by decide) rfl) hS ls (lv_sub hl [1] rfl) hden
    clear ej48
    refine lv_if_eq (tgt := 47) hx hb dX6_add_37 (by decide) (fun c_29 => ?_) (fun c_29 => ?_)
    · have hden := if_s hden c_29
      refine lv_iconst (v := 0) hx hb dX6_add_47 (by decide) ?_
      exact hj48 0 v_s _ _ (mSubP hP [3, 0, 1, 4, 5, 2] rfl) (hD.sub [3, 0, 1, 4, 5, 2] (by decide) rfl) hS ls (lv_sub hl [1, 0] rfl) hden
    · have hden := ifn_s hden c_29
      refine lv_aload_n hx hb dX6_add_40 rfl (lv_at hl 1 rfl) ?_
      obtain ⟨⟨r_26, v_s_27⟩, hc_28, hden⟩ := bnd_s hden
      refine m_ci (wc := [(a_this, .inr (5, [.int v_thrown, .ref a_this_s, .ref a_this_aside, .ref a_this_saved, .int v_savedMany, .ref a_this_text, .int v_length, .ref a_this_states, .int v_many, .int v_at_1, .int v_isWrong_2, .int v_letters, .int v_matched, .ref a_this_rows, .int v_manyRows_3, .long v_digested])), (a_this_rows, .inl (cI, 31, .inl v_rows_4)), (a_this_s, .inl (cI, 31, .inl v_s))]) (wr := [(a_this_text, .inl (cI, 60, .inl v_text)), (a_this_saved, .inl (cI, 186, .inl v_saved)), (a_this_aside, .inl (cI, 31, .inl v_aside_7))]) (wc' := [(a_this, .inr (5, [.int v_thrown, .ref a_this_s, .ref a_this_aside, .ref a_this_saved, .int v_savedMany, .ref a_this_text, .int v_length, .ref a_this_states, .int v_many, .int v_at_1, .int v_isWrong_2, .int v_letters, .int v_matched, .ref a_this_rows, .int v_manyRows_3, .long v_digested])), (a_this_rows, .inl (cI, 31, .inl v_rows_4)), (a_this_s, .inl (cI, 31, .inl v_s_27))]) (va_runV (As := []) (rest := []) ⟨hx, hb, hml, hown, hts⟩ (c_X6_adds l D cI cM cL F hc_28) (cwV 0 hts gX6_add_X6_adds rfl rfl rfl (by decide +kernel) ⟨Nat.le_of_ble_eq_true rfl, Nat.le_of_ble_eq_true rfl⟩) (mPreV (ci := 5) (q0 := 0) (r := (RX6, TX6, 16)) hP hD hK hN [3, 0, 4] (by decide) rfl rfl rfl) rfl rfl hl.1 rfl (lv_room (Nat.le_of_ble_eq_true rfl)) dX6_add_41 ⟨Nat.le_of_ble_eq_true rfl, Nat.le_of_ble_eq_true rfl⟩) hP hD hS hA [3, 0, 4] [1, 2, 5] rfl rfl (by decide) (by decide) (fun H locs hP hD hS => ?_)
      have hP : va_P D vwCl [(a_this_text, .inl (cI, 60, .inl v_text)), (a_this_saved, .inl (cI, 186, .inl v_saved)), (a_this_aside, .inl (cI, 31, .inl v_aside_7)), (a_this, .inr (5, [.int v_thrown, .ref a_this_s, .ref a_this_aside, .ref a_this_saved, .int v_savedMany, .ref a_this_text, .int v_length, .ref a_this_states, .int v_many, .int v_at_1, .int v_isWrong_2, .int v_letters, .int v_matched, .ref a_this_rows, .int v_manyRows_3, .long v_digested])), (a_this_rows, .inl (cI, 31, .inl v_rows_4)), (a_this_s, .inl (cI, 31, .inl v_s_27))] H := hP
      have hD : va_D A [(a_this_text, .inl (cI, 60, .inl v_text)), (a_this_saved, .inl (cI, 186, .inl v_saved)), (a_this_aside, .inl (cI, 31, .inl v_aside_7)), (a_this, .inr (5, [.int v_thrown, .ref a_this_s, .ref a_this_aside, .ref a_this_saved, .int v_savedMany, .ref a_this_text, .int v_length, .ref a_this_states, .int v_many, .int v_at_1, .int v_isWrong_2, .int v_letters, .int v_matched, .ref a_this_rows, .int v_manyRows_3, .long v_digested])), (a_this_rows, .inl (cI, 31, .inl v_rows_4)), (a_this_s, .inl (cI, 31, .inl v_s_27))] := hD
      refine lv_goto (tgt := 48) hx hb dX6_add_44 (by decide) ?_
      exact hj48 r_26 v_s_27 _ _ (mSubP hP [3, 4, 0, 5, 2, 1] rfl) (hD.sub [3, 4, 0, 5, 2, 1] (by decide) rfl) hS ls (lv_sub hl [1, 0] rfl) hden
  clear ej31
  obtain ⟨j30, ej30, hden⟩ := jp_s hden
  have hj30 : ∀  (H : Heap) (locs : List Loc), va_P D vwCl [(a_this, .inr (5, [.int v_thrown, .ref a_this_s, .ref a_this_aside, .ref a_this_saved, .int v_savedMany, .ref a_this_text, .int v_length, .ref a_this_states, .int v_many, .int v_at_1, .int v_isWrong_2, .int v_letters, .int v_matched, .ref a_this_rows, .int v_manyRows_3, .long v_digested])), (a_this_rows, .inl (cI, 31, .inl v_rows_4)), (a_this_text, .inl (cI, 60, .inl v_text)), (a_this_s, .inl (cI, 31, .inl v_s)), (a_this_aside, .inl (cI, 31, .inl v_aside)), (a_this_saved, .inl (cI, 186, .inl v_saved))] H → va_D A [(a_this, .inr (5, [.int v_thrown, .ref a_this_s, .ref a_this_aside, .ref a_this_saved, .int v_savedMany, .ref a_this_text, .int v_length, .ref a_this_states, .int v_many, .int v_at_1, .int v_isWrong_2, .int v_letters, .int v_matched, .ref a_this_rows, .int v_manyRows_3, .long v_digested])), (a_this_rows, .inl (cI, 31, .inl v_rows_4)), (a_this_text, .inl (cI, 60, .inl v_text)), (a_this_s, .inl (cI, 31, .inl v_s)), (a_this_aside, .inl (cI, 31, .inl v_aside)), (a_this_saved, .inl (cI, 186, .inl v_saved))] → va_S A s.heap H locs → ∀ ls : Array Slot, lv_has ls 3 [(0, .ref a_this)] → j30 () = some (r0, w_at, w_isWrong, w_manyRows, w_rows, w_aside, w_s, w_thrown, w_savedMany, w_saved, w_length) → W p l e rm_X6_add s m (([.ref a_this] : List Value).toArray) below meth c H locs 0 0 Q (F0 m 30 ls []) := by
    intro H locs hP hD hS ls hl hden
    rw [ej30] at hden
    refine lv_iconst (v := 0) hx hb dX6_add_30 (by decide) ?_
    exact hj31 0 _ _ (mSubP hP [0, 1, 2, 3, 4, 5] rfl) (hD.sub [0, 1, 2, 3, 4, 5] (by decide) rfl) hS ls (lv_sub hl [0] rfl) hden
  clear ej30
  refine lv_if_ne (tgt := 30) hx hb dX6_add_8 (by decide) (fun c_32 => ?_) (fun c_32 => ?_)
  · have hden := ifn_s hden c_32
    exact hj30 _ _ (mSubP hP [3, 4, 5, 0, 1, 2] rfl) (hD.sub [3, 4, 5, 0, 1, 2] (by decide) rfl) hS ls (lv_sub hl [0] rfl) hden
  · have hden := if_s hden c_32
    refine lv_aload_n hx hb dX6_add_11 rfl (lv_at hl 0 rfl) ?_
    refine va_get (D := D) (ci := 5) (v := .ref a_this_rows) (C := RX6) (T := TX6) (N := 16) hx hb hts hin_X6 hown hK hP 3 rfl rfl 13 (by decide) w_25 (fun _ h9 => h9) rfl dX6_add_12 ?_
    refine lv_aload_n hx hb dX6_add_15 rfl (lv_at hl 0 rfl) ?_
    refine va_get (D := D) (ci := 5) (v := .int v_manyRows_3) (C := RX6) (T := TX6) (N := 16) hx hb hts hin_X6 hown hK hP 3 rfl rfl 14 (by decide) w_134 (fun _ h9 => h9) rfl dX6_add_16 ?_
    refine lv_iconst (v := 1) hx hb dX6_add_19 (by decide) ?_
    refine lv_isub hx hb dX6_add_20 ?_
    obtain ⟨hg_30, hden⟩ := grd_s hden
    refine va_iald hx hb hK hP 4 0 rfl rfl (inb_in hg_30) dX6_add_21 ?_
    refine lv_iconst (v := 1) hx hb dX6_add_22 (by decide) ?_
    refine lv_icmp_le (tgt := 30) hx hb dX6_add_23 (by decide) (fun c_31 => ?_) (fun c_31 => ?_)
    · have hden := if_s hden c_31
      exact hj30 _ _ (mSubP hP [3, 4, 5, 0, 1, 2] rfl) (hD.sub [3, 4, 5, 0, 1, 2] (by decide) rfl) hS ls (lv_sub hl [0] rfl) hden
    · have hden := ifn_s hden c_31
      refine lv_iconst (v := 1) hx hb dX6_add_26 (by decide) ?_
      refine lv_goto (tgt := 31) hx hb dX6_add_27 (by decide) ?_
      exact hj31 1 _ _ (mSubP hP [3, 4, 5, 0, 1, 2] rfl) (hD.sub [3, 4, 5, 0, 1, 2] (by decide) rfl) hS ls (lv_sub hl [0] rfl) hden
def D_X6_remove (F : Nat) (p1 : Int32) (v_s : (Nat → Int32)) (v_thrown : Int32) (v_savedMany : Int32) (v_saved : (Nat → Int32)) : Option (Int32 × Int32 × Int32 × (Nat → Int32) × (Nat → Int32)) := bnd (D_X6_in F p1 0 7) (fun r_1 => jp (fun (t_3 : Int32) => bnd (D_X6_holds F t_3 v_thrown) (fun (r_4, v_thrown_5) => (if r_4 = 0 then some (0, v_thrown_5, v_savedMany, v_saved, v_s) else bnd (D_X6_save F v_savedMany v_s v_saved) (fun (v_savedMany_7, v_saved_8) => grd (inb ((8 : Int32) + p1) 31) (nm (v_s ((8 : Int32) + p1).toNatClampNeg) (fun x2_11 => grd (inb ((0 : Int32) + p1) 31) (nm (upd v_s ((0 : Int32) + p1).toNatClampNeg 0) (fun v_s_13 => grd (inb ((8 : Int32) + p1) 31) (nm (upd v_s_13 ((8 : Int32) + p1).toNatClampNeg 0) (fun v_s_15 => grd (inb ((16 : Int32) + p1) 31) (nm (upd v_s_15 ((16 : Int32) + p1).toNatClampNeg (-1)) (fun v_s_17 => some (x2_11, v_thrown_5, v_savedMany_7, v_saved_8, v_s_17))))))))))))) (fun j28 => (if r_1 = 0 then j28 1 else bnd (D_X6_isThere F p1 v_s) (fun r_19 => (if r_19 = 0 then j28 2 else j28 0)))))
def rm_X6_remove : Room := { frames := 1, cells := 0, slots := 0, locals := 22 }
set_option maxHeartbeats 4000000 in
set_option maxRecDepth 100000 in
theorem c_X6_remove (l : Launch) (D : va_G) (cI cM cL : ClassId) (F : Nat) {a_this a_this_s a_this_aside a_this_saved a_this_text a_this_states a_this_rows : Nat} {sz : Nat} {v_thrown v_savedMany v_length v_many v_at v_isWrong v_letters v_matched v_manyRows : Int32} {v_digested : Int64} {v_s v_saved : Nat → Int32} {p1 : Int32} {r0 : Int32} {w_thrown : Int32} {w_savedMany : Int32} {w_saved : (Nat → Int32)} {w_s : (Nat → Int32)} (hden : D_X6_remove F p1 v_s v_thrown v_savedMany v_saved = some (r0, w_thrown, w_savedMany, w_saved, w_s)) : Met l yX6_remove wsX6_remove rm_X6_remove (va_Pc [.ref a_this, .int p1] (mB D (mTy cI cM cL) sz [(a_this, .inr (5, [.int v_thrown, .ref a_this_s, .ref a_this_aside, .ref a_this_saved, .int v_savedMany, .ref a_this_text, .int v_length, .ref a_this_states, .int v_many, .int v_at, .int v_isWrong, .int v_letters, .int v_matched, .ref a_this_rows, .int v_manyRows, .long v_digested])), (a_this_s, .inl (cI, 31, .inl v_s)), (a_this_saved, .inl (cI, 186, .inl v_saved))])) (mQi D (va_A [(a_this, .inr (5, [.int v_thrown, .ref a_this_s, .ref a_this_aside, .ref a_this_saved, .int v_savedMany, .ref a_this_text, .int v_length, .ref a_this_states, .int v_many, .int v_at, .int v_isWrong, .int v_letters, .int v_matched, .ref a_this_rows, .int v_manyRows, .long v_digested])), (a_this_s, .inl (cI, 31, .inl v_s)), (a_this_saved, .inl (cI, 186, .inl v_saved))] sz) [(a_this, .inr (5, [.int w_thrown, .ref a_this_s, .ref a_this_aside, .ref a_this_saved, .int w_savedMany, .ref a_this_text, .int v_length, .ref a_this_states, .int v_many, .int v_at, .int v_isWrong, .int v_letters, .int v_matched, .ref a_this_rows, .int v_manyRows, .long v_digested])), (a_this_s, .inl (cI, 31, .inl w_s)), (a_this_saved, .inl (cI, 186, .inl w_saved))] r0) 0 0 (va_A [(a_this, .inr (5, [.int v_thrown, .ref a_this_s, .ref a_this_aside, .ref a_this_saved, .int v_savedMany, .ref a_this_text, .int v_length, .ref a_this_states, .int v_many, .int v_at, .int v_isWrong, .int v_letters, .int v_matched, .ref a_this_rows, .int v_manyRows, .long v_digested])), (a_this_s, .inl (cI, 31, .inl v_s)), (a_this_saved, .inl (cI, 186, .inl v_saved))] sz) := by
  refine Met.ofW (cc := cX6_remove) (maxL := 3) (ret := (some .int)) (by decide) rfl ?_
  intro p e s m args below meth c s₁ B hml hv
  obtain ⟨rfl, hsz, hP, hK, hN, hD0⟩ := hv
  have hx := B.exec
  have hb := B.bytes
  have hr := B.returns
  have hts := atoms_spec (ws := wsX6_remove) B.pre
  have hown : s.vm.findClass RX6 = some m.cls := findClass_of_methodNamed B.named
  have hlocks := B.notSynchronized
  subst hsz
  have hD := hD0.self (sz := s.heap.size)
  generalize hAe : va_A [(a_this, .inr (5, [.int v_thrown, .ref a_this_s, .ref a_this_aside, .ref a_this_saved, .int v_savedMany, .ref a_this_text, .int v_length, .ref a_this_states, .int v_many, .int v_at, .int v_isWrong, .int v_letters, .int v_matched, .ref a_this_rows, .int v_manyRows, .long v_digested])), (a_this_s, .inl (cI, 31, .inl v_s)), (a_this_saved, .inl (cI, 186, .inl v_saved))] s.heap.size = A at hD ⊢
  have hA : ∀ q : Nat, s.heap.size ≤ q → A q := fun q h => by rw [← hAe]; exact Or.inr h
  have hS : va_S A s.heap s.heap [] := va_S.rf
  have hl := lv_entry ([.ref a_this, .int p1]) (n := 3) (Nat.le_of_ble_eq_true rfl)
  rw [lg_entry_eq]
  generalize (lg_sl ([.ref a_this, .int p1]) ++ List.replicate (3 - (lg_sl ([.ref a_this, .int p1])).length) Slot.unset).toArray = ls at hl ⊢
  have hl : lv_has ls 3 [(0, .ref a_this), (1, .int p1)] := hl
  change W p l e rm_X6_remove s m (([.ref a_this, .int p1] : List Value).toArray) below meth c s.heap [] 0 0 _ (F0 m 0 ls [])
  generalize hQe : MQ below (mQi D A [(a_this, .inr (5, [.int w_thrown, .ref a_this_s, .ref a_this_aside, .ref a_this_saved, .int w_savedMany, .ref a_this_text, .int v_length, .ref a_this_states, .int v_many, .int v_at, .int v_isWrong, .int v_letters, .int v_matched, .ref a_this_rows, .int v_manyRows, .long v_digested])), (a_this_s, .inl (cI, 31, .inl w_s)), (a_this_saved, .inl (cI, 186, .inl w_saved))] r0) (([.ref a_this, .int p1] : List Value).toArray) s 0 0 A = Q
  rw [D_X6_remove] at hden
  have hin_X6 : ∀ w ∈ wsX60, w ∈ wsX6_remove := by decide +kernel
  have w_7 := hts (.fieldLink RX6 7 "FallingPatternsModel" "s" "[I") (by decide +kernel)
  refine lv_aload_n hx hb dX6_remove_0 rfl (lv_at hl 0 rfl) ?_
  refine lv_iload_n hx hb dX6_remove_1 rfl (lv_at hl 1 rfl) ?_
  refine lv_iconst (v := 0) hx hb dX6_remove_2 (by decide) ?_
  refine lv_bipush (v := 7) hx hb dX6_remove_3 (by decide) ?_
  obtain ⟨r_1, hc_2, hden⟩ := bnd_s hden
  refine m_ci (wc := []) (wr := [(a_this, .inr (5, [.int v_thrown, .ref a_this_s, .ref a_this_aside, .ref a_this_saved, .int v_savedMany, .ref a_this_text, .int v_length, .ref a_this_states, .int v_many, .int v_at, .int v_isWrong, .int v_letters, .int v_matched, .ref a_this_rows, .int v_manyRows, .long v_digested])), (a_this_s, .inl (cI, 31, .inl v_s)), (a_this_saved, .inl (cI, 186, .inl v_saved))]) (wc' := []) (va_runS (As := [.int p1, .int 0, .int 7]) (rest := [.ref a_this]) ⟨hx, hb, hml, hown, hts⟩ (c_X6_in l D cI cM cL F hc_2) (va_cwS 3 hts gX6_remove_X6_in rfl rfl rfl (by decide +kernel) ⟨Nat.le_of_ble_eq_true rfl, Nat.le_of_ble_eq_true rfl⟩) (mPreS hP hD hK hN [] (by decide) rfl) rfl rfl hl.1 rfl (lv_room (Nat.le_of_ble_eq_true rfl)) dX6_remove_5 ⟨Nat.le_of_ble_eq_true rfl, Nat.le_of_ble_eq_true rfl⟩) hP hD hS hA [] [0, 1, 2] rfl rfl (by decide) (by decide) (fun H locs hP hD hS => ?_)
  have hP : va_P D vwCl [(a_this, .inr (5, [.int v_thrown, .ref a_this_s, .ref a_this_aside, .ref a_this_saved, .int v_savedMany, .ref a_this_text, .int v_length, .ref a_this_states, .int v_many, .int v_at, .int v_isWrong, .int v_letters, .int v_matched, .ref a_this_rows, .int v_manyRows, .long v_digested])), (a_this_s, .inl (cI, 31, .inl v_s)), (a_this_saved, .inl (cI, 186, .inl v_saved))] H := hP
  have hD : va_D A [(a_this, .inr (5, [.int v_thrown, .ref a_this_s, .ref a_this_aside, .ref a_this_saved, .int v_savedMany, .ref a_this_text, .int v_length, .ref a_this_states, .int v_many, .int v_at, .int v_isWrong, .int v_letters, .int v_matched, .ref a_this_rows, .int v_manyRows, .long v_digested])), (a_this_s, .inl (cI, 31, .inl v_s)), (a_this_saved, .inl (cI, 186, .inl v_saved))] := hD
  obtain ⟨j28, ej28, hden⟩ := jp_s hden
  have hj28 : ∀ (t_3 : Int32) (H : Heap) (locs : List Loc), va_P D vwCl [(a_this, .inr (5, [.int v_thrown, .ref a_this_s, .ref a_this_aside, .ref a_this_saved, .int v_savedMany, .ref a_this_text, .int v_length, .ref a_this_states, .int v_many, .int v_at, .int v_isWrong, .int v_letters, .int v_matched, .ref a_this_rows, .int v_manyRows, .long v_digested])), (a_this_s, .inl (cI, 31, .inl v_s)), (a_this_saved, .inl (cI, 186, .inl v_saved))] H → va_D A [(a_this, .inr (5, [.int v_thrown, .ref a_this_s, .ref a_this_aside, .ref a_this_saved, .int v_savedMany, .ref a_this_text, .int v_length, .ref a_this_states, .int v_many, .int v_at, .int v_isWrong, .int v_letters, .int v_matched, .ref a_this_rows, .int v_manyRows, .long v_digested])), (a_this_s, .inl (cI, 31, .inl v_s)), (a_this_saved, .inl (cI, 186, .inl v_saved))] → va_S A s.heap H locs → ∀ ls : Array Slot, lv_has ls 3 [(0, .ref a_this), (1, .int p1)] → j28 t_3 = some (r0, w_thrown, w_savedMany, w_saved, w_s) → W p l e rm_X6_remove s m (([.ref a_this, .int p1] : List Value).toArray) below meth c H locs 0 0 Q (F0 m 28 ls [.int t_3, .ref a_this]) := by
    intro t_3 H locs hP hD hS ls hl hden
    rw [ej28] at hden
    obtain ⟨⟨r_4, v_thrown_5⟩, hc_6, hden⟩ := bnd_s hden
    refine m_ci (wc := [(a_this, .inr (5, [.int v_thrown, .ref a_this_s, .ref a_this_aside, .ref a_this_saved, .int v_savedMany, .ref a_this_text, .int v_length, .ref a_this_states, .int v_many, .int v_at, .int v_isWrong, .int v_letters, .int v_matched, .ref a_this_rows, .int v_manyRows, .long v_digested]))]) (wr := [(a_this_s, .inl (cI, 31, .inl v_s)), (a_this_saved, .inl (cI, 186, .inl v_saved))]) (wc' := [(a_this, .inr (5, [.int v_thrown_5, .ref a_this_s, .ref a_this_aside, .ref a_this_saved, .int v_savedMany, .ref a_this_text, .int v_length, .ref a_this_states, .int v_many, .int v_at, .int v_isWrong, .int v_letters, .int v_matched, .ref a_this_rows, .int v_manyRows, .long v_digested]))]) (va_runV (As := [.int t_3]) (rest := []) ⟨hx, hb, hml, hown, hts⟩ (c_X6_holds l D cI cM cL F hc_6) (cwV 1 hts gX6_remove_X6_holds rfl rfl rfl (by decide +kernel) ⟨Nat.le_of_ble_eq_true rfl, Nat.le_of_ble_eq_true rfl⟩) (mPreV (ci := 5) (q0 := 0) (r := (RX6, TX6, 16)) hP hD hK hN [0] (by decide) rfl rfl rfl) rfl rfl hl.1 rfl (lv_room (Nat.le_of_ble_eq_true rfl)) dX6_remove_28 ⟨Nat.le_of_ble_eq_true rfl, Nat.le_of_ble_eq_true rfl⟩) hP hD hS hA [0] [1, 2] rfl rfl (by decide) (by decide) (fun H locs hP hD hS => ?_)
    have hP : va_P D vwCl [(a_this_s, .inl (cI, 31, .inl v_s)), (a_this_saved, .inl (cI, 186, .inl v_saved)), (a_this, .inr (5, [.int v_thrown_5, .ref a_this_s, .ref a_this_aside, .ref a_this_saved, .int v_savedMany, .ref a_this_text, .int v_length, .ref a_this_states, .int v_many, .int v_at, .int v_isWrong, .int v_letters, .int v_matched, .ref a_this_rows, .int v_manyRows, .long v_digested]))] H := hP
    have hD : va_D A [(a_this_s, .inl (cI, 31, .inl v_s)), (a_this_saved, .inl (cI, 186, .inl v_saved)), (a_this, .inr (5, [.int v_thrown_5, .ref a_this_s, .ref a_this_aside, .ref a_this_saved, .int v_savedMany, .ref a_this_text, .int v_length, .ref a_this_states, .int v_many, .int v_at, .int v_isWrong, .int v_letters, .int v_matched, .ref a_this_rows, .int v_manyRows, .long v_digested]))] := hD
    refine lv_if_ne (tgt := 36) hx hb dX6_remove_31 (by decide) (fun c_18 => ?_) (fun c_18 => ?_)
    · have hden := ifn_s hden c_18
      refine lv_aload_n hx hb dX6_remove_36 rfl (lv_at hl 0 rfl) ?_
      obtain ⟨⟨v_savedMany_7, v_saved_8⟩, hc_9, hden⟩ := bnd_s hden
      refine m_cv (wc := [(a_this, .inr (5, [.int v_thrown_5, .ref a_this_s, .ref a_this_aside, .ref a_this_saved, .int v_savedMany, .ref a_this_text, .int v_length, .ref a_this_states, .int v_many, .int v_at, .int v_isWrong, .int v_letters, .int v_matched, .ref a_this_rows, .int v_manyRows, .long v_digested])), (a_this_s, .inl (cI, 31, .inl v_s)), (a_this_saved, .inl (cI, 186, .inl v_saved))]) (wr := []) (wc' := [(a_this, .inr (5, [.int v_thrown_5, .ref a_this_s, .ref a_this_aside, .ref a_this_saved, .int v_savedMany_7, .ref a_this_text, .int v_length, .ref a_this_states, .int v_many, .int v_at, .int v_isWrong, .int v_letters, .int v_matched, .ref a_this_rows, .int v_manyRows, .long v_digested])), (a_this_s, .inl (cI, 31, .inl v_s)), (a_this_saved, .inl (cI, 186, .inl v_saved_8))]) (va_runV (As := []) (rest := []) ⟨hx, hb, hml, hown, hts⟩ (c_X6_save l D cI cM cL F hc_9) (cwV 0 hts gX6_remove_X6_save rfl rfl rfl (by decide +kernel) ⟨Nat.le_of_ble_eq_true rfl, Nat.le_of_ble_eq_true rfl⟩) (mPreV (ci := 5) (q0 := 0) (r := (RX6, TX6, 16)) hP hD hK hN [2, 0, 1] (by decide) rfl rfl rfl) rfl rfl hl.1 rfl (lv_room (Nat.le_of_ble_eq_true rfl)) dX6_remove_37 ⟨Nat.le_of_ble_eq_true rfl, Nat.le_of_ble_eq_true rfl⟩) hP hD hS hA [2, 0, 1] [] rfl rfl (by decide) (by decide) (fun H locs hP hD hS => ?_)
      have hP : va_P D vwCl [(a_this, .inr (5, [.int v_thrown_5, .ref a_this_s, .ref a_this_aside, .ref a_this_saved, .int v_savedMany_7, .ref a_this_text, .int v_length, .ref a_this_states, .int v_many, .int v_at, .int v_isWrong, .int v_letters, .int v_matched, .ref a_this_rows, .int v_manyRows, .long v_digested])), (a_this_s, .inl (cI, 31, .inl v_s)), (a_this_saved, .inl (cI, 186, .inl v_saved_8))] H := hP
      have hD : va_D A [(a_this, .inr (5, [.int v_thrown_5, .ref a_this_s, .ref a_this_aside, .ref a_this_saved, .int v_savedMany_7, .ref a_this_text, .int v_length, .ref a_this_states, .int v_many, .int v_at, .int v_isWrong, .int v_letters, .int v_matched, .ref a_this_rows, .int v_manyRows, .long v_digested])), (a_this_s, .inl (cI, 31, .inl v_s)), (a_this_saved, .inl (cI, 186, .inl v_saved_8))] := hD
      refine lv_aload_n hx hb dX6_remove_40 rfl (lv_at hl 0 rfl) ?_
      refine va_get (D := D) (ci := 5) (v := .ref a_this_s) (C := RX6) (T := TX6) (N := 16) hx hb hts hin_X6 hown hK hP 0 rfl rfl 1 (by decide) w_7 (fun _ h9 => h9) rfl dX6_remove_41 ?_
      refine lv_bipush (v := 8) hx hb dX6_remove_44 (by decide) ?_
      refine lv_iload_n hx hb dX6_remove_46 rfl (lv_at hl 1 rfl) ?_
      refine lv_iadd hx hb dX6_remove_47 ?_
      obtain ⟨hg_10, hden⟩ := grd_s hden
      refine va_iald hx hb hK hP 1 0 rfl rfl (inb_in hg_10) dX6_remove_48 ?_
      refine lv_topi (fun x2_11 ex2_11 => ?_)
      have hden := nm_s hden ex2_11
      refine lv_istore_n (lv' := [(2, .int x2_11), (0, .ref a_this), (1, .int p1)]) hx hb dX6_remove_49 rfl hl (by decide) rfl (fun ls hl => ?_)
      refine lv_aload_n hx hb dX6_remove_50 rfl (lv_at hl 1 rfl) ?_
      refine va_get (D := D) (ci := 5) (v := .ref a_this_s) (C := RX6) (T := TX6) (N := 16) hx hb hts hin_X6 hown hK hP 0 rfl rfl 1 (by decide) w_7 (fun _ h9 => h9) rfl dX6_remove_51 ?_
      refine lv_iconst (v := 0) hx hb dX6_remove_54 (by decide) ?_
      refine lv_iload_n hx hb dX6_remove_55 rfl (lv_at hl 2 rfl) ?_
      refine lv_iadd hx hb dX6_remove_56 ?_
      refine lv_iconst (v := 0) hx hb dX6_remove_57 (by decide) ?_
      obtain ⟨hg_12, hden⟩ := grd_s hden
      refine va_iast hx hb hK hP hD hS 1 0 rfl rfl (inb_in hg_12) dX6_remove_58 (fun H locs hP hD hS => ?_)
      obtain ⟨v_s_13, ev_s_13, hden⟩ := nm_x hden
      have hP : va_P D vwCl [(a_this, .inr (5, [.int v_thrown_5, .ref a_this_s, .ref a_this_aside, .ref a_this_saved, .int v_savedMany_7, .ref a_this_text, .int v_length, .ref a_this_states, .int v_many, .int v_at, .int v_isWrong, .int v_letters, .int v_matched, .ref a_this_rows, .int v_manyRows, .long v_digested])), (a_this_s, .inl (cI, 31, .inl v_s_13)), (a_this_saved, .inl (cI, 186, .inl v_saved_8))] H := by rw [ev_s_13]; exact hP
      have hD : va_D A [(a_this, .inr (5, [.int v_thrown_5, .ref a_this_s, .ref a_this_aside, .ref a_this_saved, .int v_savedMany_7, .ref a_this_text, .int v_length, .ref a_this_states, .int v_many, .int v_at, .int v_isWrong, .int v_letters, .int v_matched, .ref a_this_rows, .int v_manyRows, .long v_digested])), (a_this_s, .inl (cI, 31, .inl v_s_13)), (a_this_saved, .inl (cI, 186, .inl v_saved_8))] := by rw [ev_s_13]; exact hD
      refine lv_aload_n hx hb dX6_remove_59 rfl (lv_at hl 1 rfl) ?_
      refine va_get (D := D) (ci := 5) (v := .ref a_this_s) (C := RX6) (T := TX6) (N := 16) hx hb hts hin_X6 hown hK hP 0 rfl rfl 1 (by decide) w_7 (fun _ h9 => h9) rfl dX6_remove_60 ?_
      refine lv_bipush (v := 8) hx hb dX6_remove_63 (by decide) ?_
      refine lv_iload_n hx hb dX6_remove_65 rfl (lv_at hl 2 rfl) ?_
      refine lv_iadd hx hb dX6_remove_66 ?_
      refine lv_iconst (v := 0) hx hb dX6_remove_67 (by decide) ?_
      obtain ⟨hg_14, hden⟩ := grd_s hden
      refine va_iast hx hb hK hP hD hS 1 0 rfl rfl (inb_in hg_14) dX6_remove_68 (fun H locs hP hD hS => ?_)
      obtain ⟨v_s_15, ev_s_15, hden⟩ := nm_x hden
      have hP : va_P D vwCl [(a_this, .inr (5, [.int v_thrown_5, .ref a_this_s, .ref a_this_aside, .ref a_this_saved, .int v_savedMany_7, .ref a_this_text, .int v_length, .ref a_this_states, .int v_many, .int v_at, .int v_isWrong, .int v_letters, .int v_matched, .ref a_this_rows, .int v_manyRows, .long v_digested])), (a_this_s, .inl (cI, 31, .inl v_s_15)), (a_this_saved, .inl (cI, 186, .inl v_saved_8))] H := by rw [ev_s_15]; exact hP
      have hD : va_D A [(a_this, .inr (5, [.int v_thrown_5, .ref a_this_s, .ref a_this_aside, .ref a_this_saved, .int v_savedMany_7, .ref a_this_text, .int v_length, .ref a_this_states, .int v_many, .int v_at, .int v_isWrong, .int v_letters, .int v_matched, .ref a_this_rows, .int v_manyRows, .long v_digested])), (a_this_s, .inl (cI, 31, .inl v_s_15)), (a_this_saved, .inl (cI, 186, .inl v_saved_8))] := by rw [ev_s_15]; exact hD
      refine lv_aload_n hx hb dX6_remove_69 rfl (lv_at hl 1 rfl) ?_
      refine va_get (D := D) (ci := 5) (v := .ref a_this_s) (C := RX6) (T := TX6) (N := 16) hx hb hts hin_X6 hown hK hP 0 rfl rfl 1 (by decide) w_7 (fun _ h9 => h9) rfl dX6_remove_70 ?_
      refine lv_bipush (v := 16) hx hb dX6_remove_73 (by decide) ?_
      refine lv_iload_n hx hb dX6_remove_75 rfl (lv_at hl 2 rfl) ?_
      refine lv_iadd hx hb dX6_remove_76 ?_
      refine lv_iconst (v := (-1)) hx hb dX6_remove_77 (by decide) ?_
      obtain ⟨hg_16, hden⟩ := grd_s hden
      refine va_iast hx hb hK hP hD hS 1 0 rfl rfl (inb_in hg_16) dX6_remove_78 (fun H locs hP hD hS => ?_)
      obtain ⟨v_s_17, ev_s_17, hden⟩ := nm_x hden
      have hP : va_P D vwCl [(a_this, .inr (5, [.int v_thrown_5, .ref a_this_s, .ref a_this_aside, .ref a_this_saved, .int v_savedMany_7, .ref a_this_text, .int v_length, .ref a_this_states, .int v_many, .int v_at, .int v_isWrong, .int v_letters, .int v_matched, .ref a_this_rows, .int v_manyRows, .long v_digested])), (a_this_s, .inl (cI, 31, .inl v_s_17)), (a_this_saved, .inl (cI, 186, .inl v_saved_8))] H := by rw [ev_s_17]; exact hP
      have hD : va_D A [(a_this, .inr (5, [.int v_thrown_5, .ref a_this_s, .ref a_this_aside, .ref a_this_saved, .int v_savedMany_7, .ref a_this_text, .int v_length, .ref a_this_states, .int v_many, .int v_at, .int v_isWrong, .int v_letters, .int v_matched, .ref a_this_rows, .int v_manyRows, .long v_digested])), (a_this_s, .inl (cI, 31, .inl v_s_17)), (a_this_saved, .inl (cI, 186, .inl v_saved_8))] := by rw [ev_s_17]; exact hD
      refine lv_iload_n hx hb dX6_remove_79 rfl (lv_at hl 0 rfl) ?_
      subst hQe
      cases hden
      exact m_ri hx hb hr hP hD hS [0, 1, 2] (by decide) rfl rfl dX6_remove_80 hlocks
    · have hden := if_s hden c_18
      refine lv_iconst (v := 0) hx hb dX6_remove_34 (by decide) ?_
      subst hQe
      cases hden
      exact m_ri hx hb hr hP hD hS [2, 0, 1] (by decide) rfl rfl dX6_remove_35 hlocks
  clear ej28
  refine lv_if_ne (tgt := 15) hx hb dX6_remove_8 (by decide) (fun c_22 => ?_) (fun c_22 => ?_)
  · have hden := ifn_s hden c_22
    refine lv_aload_n hx hb dX6_remove_15 rfl (lv_at hl 0 rfl) ?_
    refine lv_iload_n hx hb dX6_remove_16 rfl (lv_at hl 1 rfl) ?_
    obtain ⟨r_19, hc_20, hden⟩ := bnd_s hden
    refine m_ci (wc := [(a_this, .inr (5, [.int v_thrown, .ref a_this_s, .ref a_this_aside, .ref a_this_saved, .int v_savedMany, .ref a_this_text, .int v_length, .ref a_this_states, .int v_many, .int v_at, .int v_isWrong, .int v_letters, .int v_matched, .ref a_this_rows, .int v_manyRows, .long v_digested])), (a_this_s, .inl (cI, 31, .inl v_s))]) (wr := [(a_this_saved, .inl (cI, 186, .inl v_saved))]) (wc' := [(a_this, .inr (5, [.int v_thrown, .ref a_this_s, .ref a_this_aside, .ref a_this_saved, .int v_savedMany, .ref a_this_text, .int v_length, .ref a_this_states, .int v_many, .int v_at, .int v_isWrong, .int v_letters, .int v_matched, .ref a_this_rows, .int v_manyRows, .long v_digested])), (a_this_s, .inl (cI, 31, .inl v_s))]) (va_runV (As := [.int p1]) (rest := [.ref a_this]) ⟨hx, hb, hml, hown, hts⟩ (c_X6_isThere l D cI cM cL F hc_20) (cwV 1 hts gX6_remove_X6_isThere rfl rfl rfl (by decide +kernel) ⟨Nat.le_of_ble_eq_true rfl, Nat.le_of_ble_eq_true rfl⟩) (mPreV (ci := 5) (q0 := 0) (r := (RX6, TX6, 16)) hP hD hK hN [0, 1] (by decide) rfl rfl rfl) rfl rfl hl.1 rfl (lv_room (Nat.le_of_ble_eq_true rfl)) dX6_remove_17 ⟨Nat.le_of_ble_eq_true rfl, Nat.le_of_ble_eq_true rfl⟩) hP hD hS hA [0, 1] [2] rfl rfl (by decide) (by decide) (fun H locs hP hD hS => ?_)
    have hP : va_P D vwCl [(a_this_saved, .inl (cI, 186, .inl v_saved)), (a_this, .inr (5, [.int v_thrown, .ref a_this_s, .ref a_this_aside, .ref a_this_saved, .int v_savedMany, .ref a_this_text, .int v_length, .ref a_this_states, .int v_many, .int v_at, .int v_isWrong, .int v_letters, .int v_matched, .ref a_this_rows, .int v_manyRows, .long v_digested])), (a_this_s, .inl (cI, 31, .inl v_s))] H := hP
    have hD : va_D A [(a_this_saved, .inl (cI, 186, .inl v_saved)), (a_this, .inr (5, [.int v_thrown, .ref a_this_s, .ref a_this_aside, .ref a_this_saved, .int v_savedMany, .ref a_this_text, .int v_length, .ref a_this_states, .int v_many, .int v_at, .int v_isWrong, .int v_letters, .int v_matched, .ref a_this_rows, .int v_manyRows, .long v_digested])), (a_this_s, .inl (cI, 31, .inl v_s))] := hD
    refine lv_if_ne (tgt := 27) hx hb dX6_remove_20 (by decide) (fun c_21 => ?_) (fun c_21 => ?_)
    · have hden := ifn_s hden c_21
      refine lv_iconst (v := 0) hx hb dX6_remove_27 (by decide) ?_
      exact hj28 0 _ _ (mSubP hP [1, 2, 0] rfl) (hD.sub [1, 2, 0] (by decide) rfl) hS ls (lv_sub hl [0, 1] rfl) hden
    · have hden := if_s hden c_21
      refine lv_iconst (v := 2) hx hb dX6_remove_23 (by decide) ?_
      refine lv_goto (tgt := 28) hx hb dX6_remove_24 (by decide) ?_
      exact hj28 2 _ _ (mSubP hP [1, 2, 0] rfl) (hD.sub [1, 2, 0] (by decide) rfl) hS ls (lv_sub hl [0, 1] rfl) hden
  · have hden := if_s hden c_22
    refine lv_iconst (v := 1) hx hb dX6_remove_11 (by decide) ?_
    refine lv_goto (tgt := 28) hx hb dX6_remove_12 (by decide) ?_
    exact hj28 1 _ _ (mSubP hP [0, 1, 2] rfl) (hD.sub [0, 1, 2] (by decide) rfl) hS ls (lv_sub hl [0, 1] rfl) hden
def D_X6_rule (F : Nat) (p1 : Int32) (v_thrown : Int32) (v_savedMany : Int32) (v_s : (Nat → Int32)) (v_saved : (Nat → Int32)) : Option (Int32 × Int32 × Int32 × (Nat → Int32) × (Nat → Int32)) := bnd (D_X6_in F p1 0 2) (fun r_1 => jp (fun (t_3 : Int32) => bnd (D_X6_holds F t_3 v_thrown) (fun (r_4, v_thrown_5) => (if r_4 = 0 then some (0, v_thrown_5, v_savedMany, v_saved, v_s) else bnd (D_X6_save F v_savedMany v_s v_saved) (fun (v_savedMany_7, v_saved_8) => grd (inb 24 31) (nm (v_s (24 : Int32).toNatClampNeg) (fun x2_11 => grd (inb 24 31) (nm (upd v_s (24 : Int32).toNatClampNeg p1) (fun v_s_13 => some (x2_11, v_thrown_5, v_savedMany_7, v_saved_8, v_s_13))))))))) (fun j15 => (if r_1 = 0 then j15 1 else j15 0)))
def rm_X6_rule : Room := { frames := 1, cells := 0, slots := 0, locals := 22 }
set_option maxHeartbeats 4000000 in
set_option maxRecDepth 100000 in
theorem c_X6_rule (l : Launch) (D : va_G) (cI cM cL : ClassId) (F : Nat) {a_this a_this_s a_this_aside a_this_saved a_this_text a_this_states a_this_rows : Nat} {sz : Nat} {v_thrown v_savedMany v_length v_many v_at v_isWrong v_letters v_matched v_manyRows : Int32} {v_digested : Int64} {v_s v_saved : Nat → Int32} {p1 : Int32} {r0 : Int32} {w_thrown : Int32} {w_savedMany : Int32} {w_saved : (Nat → Int32)} {w_s : (Nat → Int32)} (hden : D_X6_rule F p1 v_thrown v_savedMany v_s v_saved = some (r0, w_thrown, w_savedMany, w_saved, w_s)) : Met l yX6_rule wsX6_rule rm_X6_rule (va_Pc [.ref a_this, .int p1] (mB D (mTy cI cM cL) sz [(a_this, .inr (5, [.int v_thrown, .ref a_this_s, .ref a_this_aside, .ref a_this_saved, .int v_savedMany, .ref a_this_text, .int v_length, .ref a_this_states, .int v_many, .int v_at, .int v_isWrong, .int v_letters, .int v_matched, .ref a_this_rows, .int v_manyRows, .long v_digested])), (a_this_s, .inl (cI, 31, .inl v_s)), (a_this_saved, .inl (cI, 186, .inl v_saved))])) (mQi D (va_A [(a_this, .inr (5, [.int v_thrown, .ref a_this_s, .ref a_this_aside, .ref a_this_saved, .int v_savedMany, .ref a_this_text, .int v_length, .ref a_this_states, .int v_many, .int v_at, .int v_isWrong, .int v_letters, .int v_matched, .ref a_this_rows, .int v_manyRows, .long v_digested])), (a_this_s, .inl (cI, 31, .inl v_s)), (a_this_saved, .inl (cI, 186, .inl v_saved))] sz) [(a_this, .inr (5, [.int w_thrown, .ref a_this_s, .ref a_this_aside, .ref a_this_saved, .int w_savedMany, .ref a_this_text, .int v_length, .ref a_this_states, .int v_many, .int v_at, .int v_isWrong, .int v_letters, .int v_matched, .ref a_this_rows, .int v_manyRows, .long v_digested])), (a_this_s, .inl (cI, 31, .inl w_s)), (a_this_saved, .inl (cI, 186, .inl w_saved))] r0) 0 0 (va_A [(a_this, .inr (5, [.int v_thrown, .ref a_this_s, .ref a_this_aside, .ref a_this_saved, .int v_savedMany, .ref a_this_text, .int v_length, .ref a_this_states, .int v_many, .int v_at, .int v_isWrong, .int v_letters, .int v_matched, .ref a_this_rows, .int v_manyRows, .long v_digested])), (a_this_s, .inl (cI, 31, .inl v_s)), (a_this_saved, .inl (cI, 186, .inl v_saved))] sz) := by
  refine Met.ofW (cc := cX6_rule) (maxL := 3) (ret := (some .int)) (by decide) rfl ?_
  intro p e s m args below meth c s₁ B hml hv
  obtain ⟨rfl, hsz, hP, hK, hN, hD0⟩ := hv
  have hx := B.exec
  have hb := B.bytes
  have hr := B.returns
  have hts := atoms_spec (ws := wsX6_rule) B.pre
  have hown : s.vm.findClass RX6 = some m.cls := findClass_of_methodNamed B.named
  have hlocks := B.notSynchronized
  subst hsz
  have hD := hD0.self (sz := s.heap.size)
  generalize hAe : va_A [(a_this, .inr (5, [.int v_thrown, .ref a_this_s, .ref a_this_aside, .ref a_this_saved, .int v_savedMany, .ref a_this_text, .int v_length, .ref a_this_states, .int v_many, .int v_at, .int v_isWrong, .int v_letters, .int v_matched, .ref a_this_rows, .int v_manyRows, .long v_digested])), (a_this_s, .inl (cI, 31, .inl v_s)), (a_this_saved, .inl (cI, 186, .inl v_saved))] s.heap.size = A at hD ⊢
  have hA : ∀ q : Nat, s.heap.size ≤ q → A q := fun q h => by rw [← hAe]; exact Or.inr h
  have hS : va_S A s.heap s.heap [] := va_S.rf
  have hl := lv_entry ([.ref a_this, .int p1]) (n := 3) (Nat.le_of_ble_eq_true rfl)
  rw [lg_entry_eq]
  generalize (lg_sl ([.ref a_this, .int p1]) ++ List.replicate (3 - (lg_sl ([.ref a_this, .int p1])).length) Slot.unset).toArray = ls at hl ⊢
  have hl : lv_has ls 3 [(0, .ref a_this), (1, .int p1)] := hl
  change W p l e rm_X6_rule s m (([.ref a_this, .int p1] : List Value).toArray) below meth c s.heap [] 0 0 _ (F0 m 0 ls [])
  generalize hQe : MQ below (mQi D A [(a_this, .inr (5, [.int w_thrown, .ref a_this_s, .ref a_this_aside, .ref a_this_saved, .int w_savedMany, .ref a_this_text, .int v_length, .ref a_this_states, .int v_many, .int v_at, .int v_isWrong, .int v_letters, .int v_matched, .ref a_this_rows, .int v_manyRows, .long v_digested])), (a_this_s, .inl (cI, 31, .inl w_s)), (a_this_saved, .inl (cI, 186, .inl w_saved))] r0) (([.ref a_this, .int p1] : List Value).toArray) s 0 0 A = Q
  rw [D_X6_rule] at hden
  have hin_X6 : ∀ w ∈ wsX60, w ∈ wsX6_rule := by decide +kernel
  have w_7 := hts (.fieldLink RX6 7 "FallingPatternsModel" "s" "[I") (by decide +kernel)
  refine lv_aload_n hx hb dX6_rule_0 rfl (lv_at hl 0 rfl) ?_
  refine lv_iload_n hx hb dX6_rule_1 rfl (lv_at hl 1 rfl) ?_
  refine lv_iconst (v := 0) hx hb dX6_rule_2 (by decide) ?_
  refine lv_iconst (v := 2) hx hb dX6_rule_3 (by decide) ?_
  obtain ⟨r_1, hc_2, hden⟩ := bnd_s hden
  refine m_ci (wc := []) (wr := [(a_this, .inr (5, [.int v_thrown, .ref a_this_s, .ref a_this_aside, .ref a_this_saved, .int v_savedMany, .ref a_this_text, .int v_length, .ref a_this_states, .int v_many, .int v_at, .int v_isWrong, .int v_letters, .int v_matched, .ref a_this_rows, .int v_manyRows, .long v_digested])), (a_this_s, .inl (cI, 31, .inl v_s)), (a_this_saved, .inl (cI, 186, .inl v_saved))]) (wc' := []) (va_runS (As := [.int p1, .int 0, .int 2]) (rest := [.ref a_this]) ⟨hx, hb, hml, hown, hts⟩ (c_X6_in l D cI cM cL F hc_2) (va_cwS 3 hts gX6_rule_X6_in rfl rfl rfl (by decide +kernel) ⟨Nat.le_of_ble_eq_true rfl, Nat.le_of_ble_eq_true rfl⟩) (mPreS hP hD hK hN [] (by decide) rfl) rfl rfl hl.1 rfl (lv_room (Nat.le_of_ble_eq_true rfl)) dX6_rule_4 ⟨Nat.le_of_ble_eq_true rfl, Nat.le_of_ble_eq_true rfl⟩) hP hD hS hA [] [0, 1, 2] rfl rfl (by decide) (by decide) (fun H locs hP hD hS => ?_)
  have hP : va_P D vwCl [(a_this, .inr (5, [.int v_thrown, .ref a_this_s, .ref a_this_aside, .ref a_this_saved, .int v_savedMany, .ref a_this_text, .int v_length, .ref a_this_states, .int v_many, .int v_at, .int v_isWrong, .int v_letters, .int v_matched, .ref a_this_rows, .int v_manyRows, .long v_digested])), (a_this_s, .inl (cI, 31, .inl v_s)), (a_this_saved, .inl (cI, 186, .inl v_saved))] H := hP
  have hD : va_D A [(a_this, .inr (5, [.int v_thrown, .ref a_this_s, .ref a_this_aside, .ref a_this_saved, .int v_savedMany, .ref a_this_text, .int v_length, .ref a_this_states, .int v_many, .int v_at, .int v_isWrong, .int v_letters, .int v_matched, .ref a_this_rows, .int v_manyRows, .long v_digested])), (a_this_s, .inl (cI, 31, .inl v_s)), (a_this_saved, .inl (cI, 186, .inl v_saved))] := hD
  obtain ⟨j15, ej15, hden⟩ := jp_s hden
  have hj15 : ∀ (t_3 : Int32) (H : Heap) (locs : List Loc), va_P D vwCl [(a_this, .inr (5, [.int v_thrown, .ref a_this_s, .ref a_this_aside, .ref a_this_saved, .int v_savedMany, .ref a_this_text, .int v_length, .ref a_this_states, .int v_many, .int v_at, .int v_isWrong, .int v_letters, .int v_matched, .ref a_this_rows, .int v_manyRows, .long v_digested])), (a_this_s, .inl (cI, 31, .inl v_s)), (a_this_saved, .inl (cI, 186, .inl v_saved))] H → va_D A [(a_this, .inr (5, [.int v_thrown, .ref a_this_s, .ref a_this_aside, .ref a_this_saved, .int v_savedMany, .ref a_this_text, .int v_length, .ref a_this_states, .int v_many, .int v_at, .int v_isWrong, .int v_letters, .int v_matched, .ref a_this_rows, .int v_manyRows, .long v_digested])), (a_this_s, .inl (cI, 31, .inl v_s)), (a_this_saved, .inl (cI, 186, .inl v_saved))] → va_S A s.heap H locs → ∀ ls : Array Slot, lv_has ls 3 [(0, .ref a_this), (1, .int p1)] → j15 t_3 = some (r0, w_thrown, w_savedMany, w_saved, w_s) → W p l e rm_X6_rule s m (([.ref a_this, .int p1] : List Value).toArray) below meth c H locs 0 0 Q (F0 m 15 ls [.int t_3, .ref a_this]) := by
    intro t_3 H locs hP hD hS ls hl hden
    rw [ej15] at hden
    obtain ⟨⟨r_4, v_thrown_5⟩, hc_6, hden⟩ := bnd_s hden
    refine m_ci (wc := [(a_this, .inr (5, [.int v_thrown, .ref a_this_s, .ref a_this_aside, .ref a_this_saved, .int v_savedMany, .ref a_this_text, .int v_length, .ref a_this_states, .int v_many, .int v_at, .int v_isWrong, .int v_letters, .int v_matched, .ref a_this_rows, .int v_manyRows, .long v_digested]))]) (wr := [(a_this_s, .inl (cI, 31, .inl v_s)), (a_this_saved, .inl (cI, 186, .inl v_saved))]) (wc' := [(a_this, .inr (5, [.int v_thrown_5, .ref a_this_s, .ref a_this_aside, .ref a_this_saved, .int v_savedMany, .ref a_this_text, .int v_length, .ref a_this_states, .int v_many, .int v_at, .int v_isWrong, .int v_letters, .int v_matched, .ref a_this_rows, .int v_manyRows, .long v_digested]))]) (va_runV (As := [.int t_3]) (rest := []) ⟨hx, hb, hml, hown, hts⟩ (c_X6_holds l D cI cM cL F hc_6) (cwV 1 hts gX6_rule_X6_holds rfl rfl rfl (by decide +kernel) ⟨Nat.le_of_ble_eq_true rfl, Nat.le_of_ble_eq_true rfl⟩) (mPreV (ci := 5) (q0 := 0) (r := (RX6, TX6, 16)) hP hD hK hN [0] (by decide) rfl rfl rfl) rfl rfl hl.1 rfl (lv_room (Nat.le_of_ble_eq_true rfl)) dX6_rule_15 ⟨Nat.le_of_ble_eq_true rfl, Nat.le_of_ble_eq_true rfl⟩) hP hD hS hA [0] [1, 2] rfl rfl (by decide) (by decide) (fun H locs hP hD hS => ?_)
    have hP : va_P D vwCl [(a_this_s, .inl (cI, 31, .inl v_s)), (a_this_saved, .inl (cI, 186, .inl v_saved)), (a_this, .inr (5, [.int v_thrown_5, .ref a_this_s, .ref a_this_aside, .ref a_this_saved, .int v_savedMany, .ref a_this_text, .int v_length, .ref a_this_states, .int v_many, .int v_at, .int v_isWrong, .int v_letters, .int v_matched, .ref a_this_rows, .int v_manyRows, .long v_digested]))] H := hP
    have hD : va_D A [(a_this_s, .inl (cI, 31, .inl v_s)), (a_this_saved, .inl (cI, 186, .inl v_saved)), (a_this, .inr (5, [.int v_thrown_5, .ref a_this_s, .ref a_this_aside, .ref a_this_saved, .int v_savedMany, .ref a_this_text, .int v_length, .ref a_this_states, .int v_many, .int v_at, .int v_isWrong, .int v_letters, .int v_matched, .ref a_this_rows, .int v_manyRows, .long v_digested]))] := hD
    refine lv_if_ne (tgt := 23) hx hb dX6_rule_18 (by decide) (fun c_14 => ?_) (fun c_14 => ?_)
    · have hden := ifn_s hden c_14
      refine lv_aload_n hx hb dX6_rule_23 rfl (lv_at hl 0 rfl) ?_
      obtain ⟨⟨v_savedMany_7, v_saved_8⟩, hc_9, hden⟩ := bnd_s hden
      refine m_cv (wc := [(a_this, .inr (5, [.int v_thrown_5, .ref a_this_s, .ref a_this_aside, .ref a_this_saved, .int v_savedMany, .ref a_this_text, .int v_length, .ref a_this_states, .int v_many, .int v_at, .int v_isWrong, .int v_letters, .int v_matched, .ref a_this_rows, .int v_manyRows, .long v_digested])), (a_this_s, .inl (cI, 31, .inl v_s)), (a_this_saved, .inl (cI, 186, .inl v_saved))]) (wr := []) (wc' := [(a_this, .inr (5, [.int v_thrown_5, .ref a_this_s, .ref a_this_aside, .ref a_this_saved, .int v_savedMany_7, .ref a_this_text, .int v_length, .ref a_this_states, .int v_many, .int v_at, .int v_isWrong, .int v_letters, .int v_matched, .ref a_this_rows, .int v_manyRows, .long v_digested])), (a_this_s, .inl (cI, 31, .inl v_s)), (a_this_saved, .inl (cI, 186, .inl v_saved_8))]) (va_runV (As := []) (rest := []) ⟨hx, hb, hml, hown, hts⟩ (c_X6_save l D cI cM cL F hc_9) (cwV 0 hts gX6_rule_X6_save rfl rfl rfl (by decide +kernel) ⟨Nat.le_of_ble_eq_true rfl, Nat.le_of_ble_eq_true rfl⟩) (mPreV (ci := 5) (q0 := 0) (r := (RX6, TX6, 16)) hP hD hK hN [2, 0, 1] (by decide) rfl rfl rfl) rfl rfl hl.1 rfl (lv_room (Nat.le_of_ble_eq_true rfl)) dX6_rule_24 ⟨Nat.le_of_ble_eq_true rfl, Nat.le_of_ble_eq_true rfl⟩) hP hD hS hA [2, 0, 1] [] rfl rfl (by decide) (by decide) (fun H locs hP hD hS => ?_)
      have hP : va_P D vwCl [(a_this, .inr (5, [.int v_thrown_5, .ref a_this_s, .ref a_this_aside, .ref a_this_saved, .int v_savedMany_7, .ref a_this_text, .int v_length, .ref a_this_states, .int v_many, .int v_at, .int v_isWrong, .int v_letters, .int v_matched, .ref a_this_rows, .int v_manyRows, .long v_digested])), (a_this_s, .inl (cI, 31, .inl v_s)), (a_this_saved, .inl (cI, 186, .inl v_saved_8))] H := hP
      have hD : va_D A [(a_this, .inr (5, [.int v_thrown_5, .ref a_this_s, .ref a_this_aside, .ref a_this_saved, .int v_savedMany_7, .ref a_this_text, .int v_length, .ref a_this_states, .int v_many, .int v_at, .int v_isWrong, .int v_letters, .int v_matched, .ref a_this_rows, .int v_manyRows, .long v_digested])), (a_this_s, .inl (cI, 31, .inl v_s)), (a_this_saved, .inl (cI, 186, .inl v_saved_8))] := hD
      refine lv_aload_n hx hb dX6_rule_27 rfl (lv_at hl 0 rfl) ?_
      refine va_get (D := D) (ci := 5) (v := .ref a_this_s) (C := RX6) (T := TX6) (N := 16) hx hb hts hin_X6 hown hK hP 0 rfl rfl 1 (by decide) w_7 (fun _ h9 => h9) rfl dX6_rule_28 ?_
      refine lv_bipush (v := 24) hx hb dX6_rule_31 (by decide) ?_
      obtain ⟨hg_10, hden⟩ := grd_s hden
      refine va_iald hx hb hK hP 1 0 rfl rfl (inb_in hg_10) dX6_rule_33 ?_
      refine lv_topi (fun x2_11 ex2_11 => ?_)
      have hden := nm_s hden ex2_11
      refine lv_istore_n (lv' := [(2, .int x2_11), (0, .ref a_this), (1, .int p1)]) hx hb dX6_rule_34 rfl hl (by decide) rfl (fun ls hl => ?_)
      refine lv_aload_n hx hb dX6_rule_35 rfl (lv_at hl 1 rfl) ?_
      refine va_get (D := D) (ci := 5) (v := .ref a_this_s) (C := RX6) (T := TX6) (N := 16) hx hb hts hin_X6 hown hK hP 0 rfl rfl 1 (by decide) w_7 (fun _ h9 => h9) rfl dX6_rule_36 ?_
      refine lv_bipush (v := 24) hx hb dX6_rule_39 (by decide) ?_
      refine lv_iload_n hx hb dX6_rule_41 rfl (lv_at hl 2 rfl) ?_
      obtain ⟨hg_12, hden⟩ := grd_s hden
      refine va_iast hx hb hK hP hD hS 1 0 rfl rfl (inb_in hg_12) dX6_rule_42 (fun H locs hP hD hS => ?_)
      obtain ⟨v_s_13, ev_s_13, hden⟩ := nm_x hden
      have hP : va_P D vwCl [(a_this, .inr (5, [.int v_thrown_5, .ref a_this_s, .ref a_this_aside, .ref a_this_saved, .int v_savedMany_7, .ref a_this_text, .int v_length, .ref a_this_states, .int v_many, .int v_at, .int v_isWrong, .int v_letters, .int v_matched, .ref a_this_rows, .int v_manyRows, .long v_digested])), (a_this_s, .inl (cI, 31, .inl v_s_13)), (a_this_saved, .inl (cI, 186, .inl v_saved_8))] H := by rw [ev_s_13]; exact hP
      have hD : va_D A [(a_this, .inr (5, [.int v_thrown_5, .ref a_this_s, .ref a_this_aside, .ref a_this_saved, .int v_savedMany_7, .ref a_this_text, .int v_length, .ref a_this_states, .int v_many, .int v_at, .int v_isWrong, .int v_letters, .int v_matched, .ref a_this_rows, .int v_manyRows, .long v_digested])), (a_this_s, .inl (cI, 31, .inl v_s_13)), (a_this_saved, .inl (cI, 186, .inl v_saved_8))] := by rw [ev_s_13]; exact hD
      refine lv_iload_n hx hb dX6_rule_43 rfl (lv_at hl 0 rfl) ?_
      subst hQe
      cases hden
      exact m_ri hx hb hr hP hD hS [0, 1, 2] (by decide) rfl rfl dX6_rule_44 hlocks
    · have hden := if_s hden c_14
      refine lv_iconst (v := 0) hx hb dX6_rule_21 (by decide) ?_
      subst hQe
      cases hden
      exact m_ri hx hb hr hP hD hS [2, 0, 1] (by decide) rfl rfl dX6_rule_22 hlocks
  clear ej15
  refine lv_if_eq (tgt := 14) hx hb dX6_rule_7 (by decide) (fun c_15 => ?_) (fun c_15 => ?_)
  · have hden := if_s hden c_15
    refine lv_iconst (v := 1) hx hb dX6_rule_14 (by decide) ?_
    exact hj15 1 _ _ (mSubP hP [0, 1, 2] rfl) (hD.sub [0, 1, 2] (by decide) rfl) hS ls (lv_sub hl [0, 1] rfl) hden
  · have hden := ifn_s hden c_15
    refine lv_iconst (v := 0) hx hb dX6_rule_10 (by decide) ?_
    refine lv_goto (tgt := 15) hx hb dX6_rule_11 (by decide) ?_
    exact hj15 0 _ _ (mSubP hP [0, 1, 2] rfl) (hD.sub [0, 1, 2] (by decide) rfl) hS ls (lv_sub hl [0, 1] rfl) hden
def D_X6_feedAll (F : Nat) (v_at : Int32) (v_isWrong : Int32) (v_letters : Int32) (v_matched : Int32) (v_length : Int32) (v_text : (Nat → Int32)) (v_s : (Nat → Int32)) (v_thrown : Int32) (v_savedMany : Int32) (v_saved : (Nat → Int32)) : Option (Int32 × Int32 × Int32 × Int32 × Int32 × (Nat → Int32) × Int32 × Int32 × (Nat → Int32) × Int32) := bnd (D_X6_goLetters F 0 v_at v_isWrong v_letters v_matched v_length v_text v_s) (fun (v_at_1, v_isWrong_2, v_letters_3, v_matched_4, v_s_5) => jp (fun (t_7 : Int32) => bnd (D_X6_holds F t_7 v_thrown) (fun (r_8, v_thrown_9) => (if r_8 = 0 then some (0, v_at_1, v_isWrong_2, v_letters_3, v_matched_4, v_s_5, v_thrown_9, v_savedMany, v_saved, v_length) else bnd (D_X6_save F v_savedMany v_s_5 v_saved) (fun (v_savedMany_11, v_saved_12) => bnd (D_X6_goLetters F 1 v_at_1 v_isWrong_2 v_letters_3 v_matched_4 v_length v_text v_s_5) (fun (v_at_14, v_isWrong_15, v_letters_16, v_matched_17, v_s_18) => some (v_matched_17, v_at_14, v_isWrong_15, v_letters_16, v_matched_17, v_s_18, v_thrown_9, v_savedMany_11, v_saved_12, 0)))))) (fun j47 => jp (fun (_ : Unit) => j47 1) (fun j20 => (if v_isWrong_2 = 0 then (if v_length = 0 then j20 () else grd (inb 25 31) ((if ((v_s_5 (25 : Int32).toNatClampNeg) + v_letters_3) ≤ 9999 then j47 0 else j47 2))) else j20 ()))))
def rm_X6_feedAll : Room := { frames := 10, cells := 0, slots := 0, locals := 225 }
set_option maxHeartbeats 4000000 in
set_option maxRecDepth 100000 in
theorem c_X6_feedAll (l : Launch) (D : va_G) (cI cM cL : ClassId) (F : Nat) {a_this a_this_s a_this_aside a_this_saved a_this_text a_this_states a_this_rows : Nat} {sz : Nat} {v_thrown v_savedMany v_length v_many v_at v_isWrong v_letters v_matched v_manyRows : Int32} {v_digested : Int64} {v_text v_s v_saved : Nat → Int32} {r0 : Int32} {w_at : Int32} {w_isWrong : Int32} {w_letters : Int32} {w_matched : Int32} {w_s : (Nat → Int32)} {w_thrown : Int32} {w_savedMany : Int32} {w_saved : (Nat → Int32)} {w_length : Int32} (hden : D_X6_feedAll F v_at v_isWrong v_letters v_matched v_length v_text v_s v_thrown v_savedMany v_saved = some (r0, w_at, w_isWrong, w_letters, w_matched, w_s, w_thrown, w_savedMany, w_saved, w_length)) : Met l yX6_feedAll wsX6_feedAll rm_X6_feedAll (va_Pc [.ref a_this] (mB D (mTy cI cM cL) sz [(a_this, .inr (5, [.int v_thrown, .ref a_this_s, .ref a_this_aside, .ref a_this_saved, .int v_savedMany, .ref a_this_text, .int v_length, .ref a_this_states, .int v_many, .int v_at, .int v_isWrong, .int v_letters, .int v_matched, .ref a_this_rows, .int v_manyRows, .long v_digested])), (a_this_text, .inl (cI, 60, .inl v_text)), (a_this_s, .inl (cI, 31, .inl v_s)), (a_this_saved, .inl (cI, 186, .inl v_saved))])) (mQi D (va_A [(a_this, .inr (5, [.int v_thrown, .ref a_this_s, .ref a_this_aside, .ref a_this_saved, .int v_savedMany, .ref a_this_text, .int v_length, .ref a_this_states, .int v_many, .int v_at, .int v_isWrong, .int v_letters, .int v_matched, .ref a_this_rows, .int v_manyRows, .long v_digested])), (a_this_text, .inl (cI, 60, .inl v_text)), (a_this_s, .inl (cI, 31, .inl v_s)), (a_this_saved, .inl (cI, 186, .inl v_saved))] sz) [(a_this, .inr (5, [.int w_thrown, .ref a_this_s, .ref a_this_aside, .ref a_this_saved, .int w_savedMany, .ref a_this_text, .int w_length, .ref a_this_states, .int v_many, .int w_at, .int w_isWrong, .int w_letters, .int w_matched, .ref a_this_rows, .int v_manyRows, .long v_digested])), (a_this_text, .inl (cI, 60, .inl v_text)), (a_this_s, .inl (cI, 31, .inl w_s)), (a_this_saved, .inl (cI, 186, .inl w_saved))] r0) 0 0 (va_A [(a_this, .inr (5, [.int v_thrown, .ref a_this_s, .ref a_this_aside, .ref a_this_saved, .int v_savedMany, .ref a_this_text, .int v_length, .ref a_this_states, .int v_many, .int v_at, .int v_isWrong, .int v_letters, .int v_matched, .ref a_this_rows, .int v_manyRows, .long v_digested])), (a_this_text, .inl (cI, 60, .inl v_text)), (a_this_s, .inl (cI, 31, .inl v_s)), (a_this_saved, .inl (cI, 186, .inl v_saved))] sz) := by
  refine Met.ofW (cc := cX6_feedAll) (maxL := 1) (ret := (some .int)) (by decide) rfl ?_
  intro p e s m args below meth c s₁ B hml hv
  obtain ⟨rfl, hsz, hP, hK, hN, hD0⟩ := hv
  have hx := B.exec
  have hb := B.bytes
  have hr := B.returns
  have hts := atoms_spec (ws := wsX6_feedAll) B.pre
  have hown : s.vm.findClass RX6 = some m.cls := findClass_of_methodNamed B.named
  have hlocks := B.notSynchronized
  subst hsz
  have hD := hD0.self (sz := s.heap.size)
  generalize hAe : va_A [(a_this, .inr (5, [.int v_thrown, .ref a_this_s, .ref a_this_aside, .ref a_this_saved, .int v_savedMany, .ref a_this_text, .int v_length, .ref a_this_states, .int v_many, .int v_at, .int v_isWrong, .int v_letters, .int v_matched, .ref a_this_rows, .int v_manyRows, .long v_digested])), (a_this_text, .inl (cI, 60, .inl v_text)), (a_this_s, .inl (cI, 31, .inl v_s)), (a_this_saved, .inl (cI, 186, .inl v_saved))] s.heap.size = A at hD ⊢
  have hA : ∀ q : Nat, s.heap.size ≤ q → A q := fun q h => by rw [← hAe]; exact Or.inr h
  have hS : va_S A s.heap s.heap [] := va_S.rf
  have hl := lv_entry ([.ref a_this]) (n := 1) (Nat.le_of_ble_eq_true rfl)
  rw [lg_entry_eq]
  generalize (lg_sl ([.ref a_this]) ++ List.replicate (1 - (lg_sl ([.ref a_this])).length) Slot.unset).toArray = ls at hl ⊢
  have hl : lv_has ls 1 [(0, .ref a_this)] := hl
  change W p l e rm_X6_feedAll s m (([.ref a_this] : List Value).toArray) below meth c s.heap [] 0 0 _ (F0 m 0 ls [])
  generalize hQe : MQ below (mQi D A [(a_this, .inr (5, [.int w_thrown, .ref a_this_s, .ref a_this_aside, .ref a_this_saved, .int w_savedMany, .ref a_this_text, .int w_length, .ref a_this_states, .int v_many, .int w_at, .int w_isWrong, .int w_letters, .int w_matched, .ref a_this_rows, .int v_manyRows, .long v_digested])), (a_this_text, .inl (cI, 60, .inl v_text)), (a_this_s, .inl (cI, 31, .inl w_s)), (a_this_saved, .inl (cI, 186, .inl w_saved))] r0) (([.ref a_this] : List Value).toArray) s 0 0 A = Q
  rw [D_X6_feedAll] at hden
  have hin_X6 : ∀ w ∈ wsX60, w ∈ wsX6_feedAll := by decide +kernel
  have w_121 := hts (.fieldLink RX6 121 "FallingPatternsModel" "isWrong" "Z") (by decide +kernel)
  have w_131 := hts (.fieldLink RX6 131 "FallingPatternsModel" "length" "I") (by decide +kernel)
  have w_128 := hts (.fieldLink RX6 128 "FallingPatternsModel" "matched" "I") (by decide +kernel)
  have w_7 := hts (.fieldLink RX6 7 "FallingPatternsModel" "s" "[I") (by decide +kernel)
  have w_125 := hts (.fieldLink RX6 125 "FallingPatternsModel" "letters" "I") (by decide +kernel)
  refine lv_aload_n hx hb dX6_feedAll_0 rfl (lv_at hl 0 rfl) ?_
  refine lv_iconst (v := 0) hx hb dX6_feedAll_1 (by decide) ?_
  obtain ⟨⟨v_at_1, v_isWrong_2, v_letters_3, v_matched_4, v_s_5⟩, hc_6, hden⟩ := bnd_s hden
  refine m_cv (wc := [(a_this, .inr (5, [.int v_thrown, .ref a_this_s, .ref a_this_aside, .ref a_this_saved, .int v_savedMany, .ref a_this_text, .int v_length, .ref a_this_states, .int v_many, .int v_at, .int v_isWrong, .int v_letters, .int v_matched, .ref a_this_rows, .int v_manyRows, .long v_digested])), (a_this_text, .inl (cI, 60, .inl v_text)), (a_this_s, .inl (cI, 31, .inl v_s))]) (wr := [(a_this_saved, .inl (cI, 186, .inl v_saved))]) (wc' := [(a_this, .inr (5, [.int v_thrown, .ref a_this_s, .ref a_this_aside, .ref a_this_saved, .int v_savedMany, .ref a_this_text, .int v_length, .ref a_this_states, .int v_many, .int v_at_1, .int v_isWrong_2, .int v_letters_3, .int v_matched_4, .ref a_this_rows, .int v_manyRows, .long v_digested])), (a_this_text, .inl (cI, 60, .inl v_text)), (a_this_s, .inl (cI, 31, .inl v_s_5))]) (va_runV (As := [.int 0]) (rest := []) ⟨hx, hb, hml, hown, hts⟩ (c_X6_goLetters l D cI cM cL F hc_6) (cwV 1 hts gX6_feedAll_X6_goLetters rfl rfl rfl (by decide +kernel) ⟨Nat.le_of_ble_eq_true rfl, Nat.le_of_ble_eq_true rfl⟩) (mPreV (ci := 5) (q0 := 0) (r := (RX6, TX6, 16)) hP hD hK hN [0, 1, 2] (by decide) rfl rfl rfl) rfl rfl hl.1 rfl (lv_room (Nat.le_of_ble_eq_true rfl)) dX6_feedAll_2 ⟨Nat.le_of_ble_eq_true rfl, Nat.le_of_ble_eq_true rfl⟩) hP hD hS hA [0, 1, 2] [3] rfl rfl (by decide) (by decide) (fun H locs hP hD hS => ?_)
  have hP : va_P D vwCl [(a_this_saved, .inl (cI, 186, .inl v_saved)), (a_this, .inr (5, [.int v_thrown, .ref a_this_s, .ref a_this_aside, .ref a_this_saved, .int v_savedMany, .ref a_this_text, .int v_length, .ref a_this_states, .int v_many, .int v_at_1, .int v_isWrong_2, .int v_letters_3, .int v_matched_4, .ref a_this_rows, .int v_manyRows, .long v_digested])), (a_this_text, .inl (cI, 60, .inl v_text)), (a_this_s, .inl (cI, 31, .inl v_s_5))] H := hP
  have hD : va_D A [(a_this_saved, .inl (cI, 186, .inl v_saved)), (a_this, .inr (5, [.int v_thrown, .ref a_this_s, .ref a_this_aside, .ref a_this_saved, .int v_savedMany, .ref a_this_text, .int v_length, .ref a_this_states, .int v_many, .int v_at_1, .int v_isWrong_2, .int v_letters_3, .int v_matched_4, .ref a_this_rows, .int v_manyRows, .long v_digested])), (a_this_text, .inl (cI, 60, .inl v_text)), (a_this_s, .inl (cI, 31, .inl v_s_5))] := hD
  refine lv_aload_n hx hb dX6_feedAll_5 rfl (lv_at hl 0 rfl) ?_
  refine lv_aload_n hx hb dX6_feedAll_6 rfl (lv_at hl 0 rfl) ?_
  refine va_get (D := D) (ci := 5) (v := .int v_isWrong_2) (C := RX6) (T := TX6) (N := 16) hx hb hts hin_X6 hown hK hP 1 rfl rfl 10 (by decide) w_121 (fun _ h9 => h9) rfl dX6_feedAll_7 ?_
  obtain ⟨j47, ej47, hden⟩ := jp_s hden
  have hj47 : ∀ (t_7 : Int32) (H : Heap) (locs : List Loc), va_P D vwCl [(a_this, .inr (5, [.int v_thrown, .ref a_this_s, .ref a_this_aside, .ref a_this_saved, .int v_savedMany, .ref a_this_text, .int v_length, .ref a_this_states, .int v_many, .int v_at_1, .int v_isWrong_2, .int v_letters_3, .int v_matched_4, .ref a_this_rows, .int v_manyRows, .long v_digested])), (a_this_text, .inl (cI, 60, .inl v_text)), (a_this_s, .inl (cI, 31, .inl v_s_5)), (a_this_saved, .inl (cI, 186, .inl v_saved))] H → va_D A [(a_this, .inr (5, [.int v_thrown, .ref a_this_s, .ref a_this_aside, .ref a_this_saved, .int v_savedMany, .ref a_this_text, .int v_length, .ref a_this_states, .int v_many, .int v_at_1, .int v_isWrong_2, .int v_letters_3, .int v_matched_4, .ref a_this_rows, .int v_manyRows, .long v_digested])), (a_this_text, .inl (cI, 60, .inl v_text)), (a_this_s, .inl (cI, 31, .inl v_s_5)), (a_this_saved, .inl (cI, 186, .inl v_saved))] → va_S A s.heap H locs → ∀ ls : Array Slot, lv_has ls 1 [(0, .ref a_this)] → j47 t_7 = some (r0, w_at, w_isWrong, w_letters, w_matched, w_s, w_thrown, w_savedMany, w_saved, w_length) → W p l e rm_X6_feedAll s m (([.ref a_this] : List Value).toArray) below meth c H locs 0 0 Q (F0 m 47 ls [.int t_7, .ref a_this]) := by
    intro t_7 H locs hP hD hS ls hl hden
    rw [ej47] at hden
    obtain ⟨⟨r_8, v_thrown_9⟩, hc_10, hden⟩ := bnd_s hden
    refine m_ci (wc := [(a_this, .inr (5, [.int v_thrown, .ref a_this_s, .ref a_this_aside, .ref a_this_saved, .int v_savedMany, .ref a_this_text, .int v_length, .ref a_this_states, .int v_many, .int v_at_1, .int v_isWrong_2, .int v_letters_3, .int v_matched_4, .ref a_this_rows, .int v_manyRows, .long v_digested]))]) (wr := [(a_this_text, .inl (cI, 60, .inl v_text)), (a_this_s, .inl (cI, 31, .inl v_s_5)), (a_this_saved, .inl (cI, 186, .inl v_saved))]) (wc' := [(a_this, .inr (5, [.int v_thrown_9, .ref a_this_s, .ref a_this_aside, .ref a_this_saved, .int v_savedMany, .ref a_this_text, .int v_length, .ref a_this_states, .int v_many, .int v_at_1, .int v_isWrong_2, .int v_letters_3, .int v_matched_4, .ref a_this_rows, .int v_manyRows, .long v_digested]))]) (va_runV (As := [.int t_7]) (rest := []) ⟨hx, hb, hml, hown, hts⟩ (c_X6_holds l D cI cM cL F hc_10) (cwV 1 hts gX6_feedAll_X6_holds rfl rfl rfl (by decide +kernel) ⟨Nat.le_of_ble_eq_true rfl, Nat.le_of_ble_eq_true rfl⟩) (mPreV (ci := 5) (q0 := 0) (r := (RX6, TX6, 16)) hP hD hK hN [0] (by decide) rfl rfl rfl) rfl rfl hl.1 rfl (lv_room (Nat.le_of_ble_eq_true rfl)) dX6_feedAll_47 ⟨Nat.le_of_ble_eq_true rfl, Nat.le_of_ble_eq_true rfl⟩) hP hD hS hA [0] [1, 2, 3] rfl rfl (by decide) (by decide) (fun H locs hP hD hS => ?_)
    have hP : va_P D vwCl [(a_this_text, .inl (cI, 60, .inl v_text)), (a_this_s, .inl (cI, 31, .inl v_s_5)), (a_this_saved, .inl (cI, 186, .inl v_saved)), (a_this, .inr (5, [.int v_thrown_9, .ref a_this_s, .ref a_this_aside, .ref a_this_saved, .int v_savedMany, .ref a_this_text, .int v_length, .ref a_this_states, .int v_many, .int v_at_1, .int v_isWrong_2, .int v_letters_3, .int v_matched_4, .ref a_this_rows, .int v_manyRows, .long v_digested]))] H := hP
    have hD : va_D A [(a_this_text, .inl (cI, 60, .inl v_text)), (a_this_s, .inl (cI, 31, .inl v_s_5)), (a_this_saved, .inl (cI, 186, .inl v_saved)), (a_this, .inr (5, [.int v_thrown_9, .ref a_this_s, .ref a_this_aside, .ref a_this_saved, .int v_savedMany, .ref a_this_text, .int v_length, .ref a_this_states, .int v_many, .int v_at_1, .int v_isWrong_2, .int v_letters_3, .int v_matched_4, .ref a_this_rows, .int v_manyRows, .long v_digested]))] := hD
    refine lv_if_ne (tgt := 55) hx hb dX6_feedAll_50 (by decide) (fun c_20 => ?_) (fun c_20 => ?_)
    · have hden := ifn_s hden c_20
      refine lv_aload_n hx hb dX6_feedAll_55 rfl (lv_at hl 0 rfl) ?_
      obtain ⟨⟨v_savedMany_11, v_saved_12⟩, hc_13, hden⟩ := bnd_s hden
      refine m_cv (wc := [(a_this, .inr (5, [.int v_thrown_9, .ref a_this_s, .ref a_this_aside, .ref a_this_saved, .int v_savedMany, .ref a_this_text, .int v_length, .ref a_this_states, .int v_many, .int v_at_1, .int v_isWrong_2, .int v_letters_3, .int v_matched_4, .ref a_this_rows, .int v_manyRows, .long v_digested])), (a_this_s, .inl (cI, 31, .inl v_s_5)), (a_this_saved, .inl (cI, 186, .inl v_saved))]) (wr := [(a_this_text, .inl (cI, 60, .inl v_text))]) (wc' := [(a_this, .inr (5, [.int v_thrown_9, .ref a_this_s, .ref a_this_aside, .ref a_this_saved, .int v_savedMany_11, .ref a_this_text, .int v_length, .ref a_this_states, .int v_many, .int v_at_1, .int v_isWrong_2, .int v_letters_3, .int v_matched_4, .ref a_this_rows, .int v_manyRows, .long v_digested])), (a_this_s, .inl (cI, 31, .inl v_s_5)), (a_this_saved, .inl (cI, 186, .inl v_saved_12))]) (va_runV (As := []) (rest := []) ⟨hx, hb, hml, hown, hts⟩ (c_X6_save l D cI cM cL F hc_13) (cwV 0 hts gX6_feedAll_X6_save rfl rfl rfl (by decide +kernel) ⟨Nat.le_of_ble_eq_true rfl, Nat.le_of_ble_eq_true rfl⟩) (mPreV (ci := 5) (q0 := 0) (r := (RX6, TX6, 16)) hP hD hK hN [3, 1, 2] (by decide) rfl rfl rfl) rfl rfl hl.1 rfl (lv_room (Nat.le_of_ble_eq_true rfl)) dX6_feedAll_56 ⟨Nat.le_of_ble_eq_true rfl, Nat.le_of_ble_eq_true rfl⟩) hP hD hS hA [3, 1, 2] [0] rfl rfl (by decide) (by decide) (fun H locs hP hD hS => ?_)
      have hP : va_P D vwCl [(a_this_text, .inl (cI, 60, .inl v_text)), (a_this, .inr (5, [.int v_thrown_9, .ref a_this_s, .ref a_this_aside, .ref a_this_saved, .int v_savedMany_11, .ref a_this_text, .int v_length, .ref a_this_states, .int v_many, .int v_at_1, .int v_isWrong_2, .int v_letters_3, .int v_matched_4, .ref a_this_rows, .int v_manyRows, .long v_digested])), (a_this_s, .inl (cI, 31, .inl v_s_5)), (a_this_saved, .inl (cI, 186, .inl v_saved_12))] H := hP
      have hD : va_D A [(a_this_text, .inl (cI, 60, .inl v_text)), (a_this, .inr (5, [.int v_thrown_9, .ref a_this_s, .ref a_this_aside, .ref a_this_saved, .int v_savedMany_11, .ref a_this_text, .int v_length, .ref a_this_states, .int v_many, .int v_at_1, .int v_isWrong_2, .int v_letters_3, .int v_matched_4, .ref a_this_rows, .int v_manyRows, .long v_digested])), (a_this_s, .inl (cI, 31, .inl v_s_5)), (a_this_saved, .inl (cI, 186, .inl v_saved_12))] := hD
      refine lv_aload_n hx hb dX6_feedAll_59 rfl (lv_at hl 0 rfl) ?_
      refine lv_iconst (v := 1) hx hb dX6_feedAll_60 (by decide) ?_
      obtain ⟨⟨v_at_14, v_isWrong_15, v_letters_16, v_matched_17, v_s_18⟩, hc_19, hden⟩ := bnd_s hden
      refine m_cv (wc := [(a_this, .inr (5, [.int v_thrown_9, .ref a_this_s, .ref a_this_aside, .ref a_this_saved, .int v_savedMany_11, .ref a_this_text, .int v_length, .ref a_this_states, .int v_many, .int v_at_1, .int v_isWrong_2, .int v_letters_3, .int v_matched_4, .ref a_this_rows, .int v_manyRows, .long v_digested])), (a_this_text, .inl (cI, 60, .inl v_text)), (a_this_s, .inl (cI, 31, .inl v_s_5))]) (wr := [(a_this_saved, .inl (cI, 186, .inl v_saved_12))]) (wc' := [(a_this, .inr (5, [.int v_thrown_9, .ref a_this_s, .ref a_this_aside, .ref a_this_saved, .int v_savedMany_11, .ref a_this_text, .int v_length, .ref a_this_states, .int v_many, .int v_at_14, .int v_isWrong_15, .int v_letters_16, .int v_matched_17, .ref a_this_rows, .int v_manyRows, .long v_digested])), (a_this_text, .inl (cI, 60, .inl v_text)), (a_this_s, .inl (cI, 31, .inl v_s_18))]) (va_runV (As := [.int 1]) (rest := []) ⟨hx, hb, hml, hown, hts⟩ (c_X6_goLetters l D cI cM cL F hc_19) (cwV 1 hts gX6_feedAll_X6_goLetters rfl rfl rfl (by decide +kernel) ⟨Nat.le_of_ble_eq_true rfl, Nat.le_of_ble_eq_true rfl⟩) (mPreV (ci := 5) (q0 := 0) (r := (RX6, TX6, 16)) hP hD hK hN [1, 0, 2] (by decide) rfl rfl rfl) rfl rfl hl.1 rfl (lv_room (Nat.le_of_ble_eq_true rfl)) dX6_feedAll_61 ⟨Nat.le_of_ble_eq_true rfl, Nat.le_of_ble_eq_true rfl⟩) hP hD hS hA [1, 0, 2] [3] rfl rfl (by decide) (by decide) (fun H locs hP hD hS => ?_)
      have hP : va_P D vwCl [(a_this_saved, .inl (cI, 186, .inl v_saved_12)), (a_this, .inr (5, [.int v_thrown_9, .ref a_this_s, .ref a_this_aside, .ref a_this_saved, .int v_savedMany_11, .ref a_this_text, .int v_length, .ref a_this_states, .int v_many, .int v_at_14, .int v_isWrong_15, .int v_letters_16, .int v_matched_17, .ref a_this_rows, .int v_manyRows, .long v_digested])), (a_this_text, .inl (cI, 60, .inl v_text)), (a_this_s, .inl (cI, 31, .inl v_s_18))] H := hP
      have hD : va_D A [(a_this_saved, .inl (cI, 186, .inl v_saved_12)), (a_this, .inr (5, [.int v_thrown_9, .ref a_this_s, .ref a_this_aside, .ref a_this_saved, .int v_savedMany_11, .ref a_this_text, .int v_length, .ref a_this_states, .int v_many, .int v_at_14, .int v_isWrong_15, .int v_letters_16, .int v_matched_17, .ref a_this_rows, .int v_manyRows, .long v_digested])), (a_this_text, .inl (cI, 60, .inl v_text)), (a_this_s, .inl (cI, 31, .inl v_s_18))] := hD
      refine lv_aload_n hx hb dX6_feedAll_64 rfl (lv_at hl 0 rfl) ?_
      refine lv_iconst (v := 0) hx hb dX6_feedAll_65 (by decide) ?_
      refine va_put (D := D) (ci := 5) (v := .int 0) (ty := .int) (C := RX6) (T := TX6) (N := 16) hx hb hts hin_X6 tyX6 tyX6_ok nmX6 hown hK hP hD hS 1 rfl rfl 6 (by decide) w_131 (fun _ h9 => h9) rfl (by decide +kernel) rfl rfl (Nat.le_of_ble_eq_true rfl) dX6_feedAll_66 (fun H locs hP hD hS => ?_)
      have hP : va_P D vwCl [(a_this_saved, .inl (cI, 186, .inl v_saved_12)), (a_this, .inr (5, [.int v_thrown_9, .ref a_this_s, .ref a_this_aside, .ref a_this_saved, .int v_savedMany_11, .ref a_this_text, .int 0, .ref a_this_states, .int v_many, .int v_at_14, .int v_isWrong_15, .int v_letters_16, .int v_matched_17, .ref a_this_rows, .int v_manyRows, .long v_digested])), (a_this_text, .inl (cI, 60, .inl v_text)), (a_this_s, .inl (cI, 31, .inl v_s_18))] H := hP
      have hD : va_D A [(a_this_saved, .inl (cI, 186, .inl v_saved_12)), (a_this, .inr (5, [.int v_thrown_9, .ref a_this_s, .ref a_this_aside, .ref a_this_saved, .int v_savedMany_11, .ref a_this_text, .int 0, .ref a_this_states, .int v_many, .int v_at_14, .int v_isWrong_15, .int v_letters_16, .int v_matched_17, .ref a_this_rows, .int v_manyRows, .long v_digested])), (a_this_text, .inl (cI, 60, .inl v_text)), (a_this_s, .inl (cI, 31, .inl v_s_18))] := hD
      refine lv_aload_n hx hb dX6_feedAll_69 rfl (lv_at hl 0 rfl) ?_
      refine va_get (D := D) (ci := 5) (v := .int v_matched_17) (C := RX6) (T := TX6) (N := 16) hx hb hts hin_X6 hown hK hP 1 rfl rfl 12 (by decide) w_128 (fun _ h9 => h9) rfl dX6_feedAll_70 ?_
      subst hQe
      cases hden
      exact m_ri hx hb hr hP hD hS [1, 2, 3, 0] (by decide) rfl rfl dX6_feedAll_73 hlocks
    · have hden := if_s hden c_20
      refine lv_iconst (v := 0) hx hb dX6_feedAll_53 (by decide) ?_
      subst hQe
      cases hden
      exact m_ri hx hb hr hP hD hS [3, 0, 1, 2] (by decide) rfl rfl dX6_feedAll_54 hlocks
  clear ej47
  obtain ⟨j20, ej20, hden⟩ := jp_s hden
  have hj20 : ∀  (H : Heap) (locs : List Loc), va_P D vwCl [(a_this, .inr (5, [.int v_thrown, .ref a_this_s, .ref a_this_aside, .ref a_this_saved, .int v_savedMany, .ref a_this_text, .int v_length, .ref a_this_states, .int v_many, .int v_at_1, .int v_isWrong_2, .int v_letters_3, .int v_matched_4, .ref a_this_rows, .int v_manyRows, .long v_digested])), (a_this_text, .inl (cI, 60, .inl v_text)), (a_this_s, .inl (cI, 31, .inl v_s_5)), (a_this_saved, .inl (cI, 186, .inl v_saved))] H → va_D A [(a_this, .inr (5, [.int v_thrown, .ref a_this_s, .ref a_this_aside, .ref a_this_saved, .int v_savedMany, .ref a_this_text, .int v_length, .ref a_this_states, .int v_many, .int v_at_1, .int v_isWrong_2, .int v_letters_3, .int v_matched_4, .ref a_this_rows, .int v_manyRows, .long v_digested])), (a_this_text, .inl (cI, 60, .inl v_text)), (a_this_s, .inl (cI, 31, .inl v_s_5)), (a_this_saved, .inl (cI, 186, .inl v_saved))] → va_S A s.heap H locs → ∀ ls : Array Slot, lv_has ls 1 [(0, .ref a_this)] → j20 () = some (r0, w_at, w_isWrong, w_letters, w_matched, w_s, w_thrown, w_savedMany, w_saved, w_length) → W p l e rm_X6_feedAll s m (([.ref a_this] : List Value).toArray) below meth c H locs 0 0 Q (F0 m 20 ls [.ref a_this]) := by
    intro H locs hP hD hS ls hl hden
    rw [ej20] at hden
    refine lv_iconst (v := 1) hx hb dX6_feedAll_20 (by decide) ?_
    refine lv_goto (tgt := 47) hx hb dX6_feedAll_21 (by decide) ?_
    exact hj47 1 _ _ (mSubP hP [0, 1, 2, 3] rfl) (hD.sub [0, 1, 2, 3] (by decide) rfl) hS ls (lv_sub hl [0] rfl) hden
  clear ej20
  refine lv_if_ne (tgt := 20) hx hb dX6_feedAll_10 (by decide) (fun c_24 => ?_) (fun c_24 => ?_)
  · have hden := ifn_s hden c_24
    exact hj20 _ _ (mSubP hP [1, 2, 3, 0] rfl) (hD.sub [1, 2, 3, 0] (by decide) rfl) hS ls (lv_sub hl [0] rfl) hden
  · have hden := if_s hden c_24
    refine lv_aload_n hx hb dX6_feedAll_13 rfl (lv_at hl 0 rfl) ?_
    refine va_get (D := D) (ci := 5) (v := .int v_length) (C := RX6) (T := TX6) (N := 16) hx hb hts hin_X6 hown hK hP 1 rfl rfl 6 (by decide) w_131 (fun _ h9 => h9) rfl dX6_feedAll_14 ?_
    refine lv_if_ne (tgt := 24) hx hb dX6_feedAll_17 (by decide) (fun c_23 => ?_) (fun c_23 => ?_)
    · have hden := ifn_s hden c_23
      refine lv_aload_n hx hb dX6_feedAll_24 rfl (lv_at hl 0 rfl) ?_
      refine va_get (D := D) (ci := 5) (v := .ref a_this_s) (C := RX6) (T := TX6) (N := 16) hx hb hts hin_X6 hown hK hP 1 rfl rfl 1 (by decide) w_7 (fun _ h9 => h9) rfl dX6_feedAll_25 ?_
      refine lv_bipush (v := 25) hx hb dX6_feedAll_28 (by decide) ?_
      obtain ⟨hg_21, hden⟩ := grd_s hden
      refine va_iald hx hb hK hP 3 0 rfl rfl (inb_in hg_21) dX6_feedAll_30 ?_
      refine lv_aload_n hx hb dX6_feedAll_31 rfl (lv_at hl 0 rfl) ?_
      refine va_get (D := D) (ci := 5) (v := .int v_letters_3) (C := RX6) (T := TX6) (N := 16) hx hb hts hin_X6 hown hK hP 1 rfl rfl 11 (by decide) w_125 (fun _ h9 => h9) rfl dX6_feedAll_32 ?_
      refine lv_iadd hx hb dX6_feedAll_35 ?_
      refine lv_sipush (v := 9999) hx hb dX6_feedAll_36 (by decide) ?_
      refine lv_icmp_le (tgt := 46) hx hb dX6_feedAll_39 (by decide) (fun c_22 => ?_) (fun c_22 => ?_)
      · have hden := if_s hden c_22
        refine lv_iconst (v := 0) hx hb dX6_feedAll_46 (by decide) ?_
        exact hj47 0 _ _ (mSubP hP [1, 2, 3, 0] rfl) (hD.sub [1, 2, 3, 0] (by decide) rfl) hS ls (lv_sub hl [0] rfl) hden
      · have hden := ifn_s hden c_22
        refine lv_iconst (v := 2) hx hb dX6_feedAll_42 (by decide) ?_
        refine lv_goto (tgt := 47) hx hb dX6_feedAll_43 (by decide) ?_
        exact hj47 2 _ _ (mSubP hP [1, 2, 3, 0] rfl) (hD.sub [1, 2, 3, 0] (by decide) rfl) hS ls (lv_sub hl [0] rfl) hden
    · have hden := if_s hden c_23
      exact hj20 _ _ (mSubP hP [1, 2, 3, 0] rfl) (hD.sub [1, 2, 3, 0] (by decide) rfl) hS ls (lv_sub hl [0] rfl) hden
def D_X6_append (F : Nat) (p1 : Int32) (v_length : Int32) (v_thrown : Int32) (v_text : (Nat → Int32)) : Option (Int32 × Int32 × (Nat → Int32) × Int32) := bnd (D_X6_in F p1 33 126) (fun r_1 => jp (fun (t_3 : Int32) => bnd (D_X6_holds F t_3 v_thrown) (fun (r_4, v_thrown_5) => (if r_4 = 0 then some (0, v_thrown_5, v_text, v_length) else grd (inb v_length 60) (nm (upd v_text v_length.toNatClampNeg p1) (fun v_text_8 => nm (v_length + 1) (fun f_length_9 => some (f_length_9, v_thrown_5, v_text_8, f_length_9))))))) (fun j30 => (if r_1 = 0 then j30 1 else (if v_length = 60 then j30 2 else j30 0))))
def rm_X6_append : Room := { frames := 1, cells := 0, slots := 0, locals := 22 }
set_option maxHeartbeats 4000000 in
set_option maxRecDepth 100000 in
theorem c_X6_append (l : Launch) (D : va_G) (cI cM cL : ClassId) (F : Nat) {a_this a_this_s a_this_aside a_this_saved a_this_text a_this_states a_this_rows : Nat} {sz : Nat} {v_thrown v_savedMany v_length v_many v_at v_isWrong v_letters v_matched v_manyRows : Int32} {v_digested : Int64} {v_text : Nat → Int32} {p1 : Int32} {r0 : Int32} {w_thrown : Int32} {w_text : (Nat → Int32)} {w_length : Int32} (hden : D_X6_append F p1 v_length v_thrown v_text = some (r0, w_thrown, w_text, w_length)) : Met l yX6_append wsX6_append rm_X6_append (va_Pc [.ref a_this, .int p1] (mB D (mTy cI cM cL) sz [(a_this, .inr (5, [.int v_thrown, .ref a_this_s, .ref a_this_aside, .ref a_this_saved, .int v_savedMany, .ref a_this_text, .int v_length, .ref a_this_states, .int v_many, .int v_at, .int v_isWrong, .int v_letters, .int v_matched, .ref a_this_rows, .int v_manyRows, .long v_digested])), (a_this_text, .inl (cI, 60, .inl v_text))])) (mQi D (va_A [(a_this, .inr (5, [.int v_thrown, .ref a_this_s, .ref a_this_aside, .ref a_this_saved, .int v_savedMany, .ref a_this_text, .int v_length, .ref a_this_states, .int v_many, .int v_at, .int v_isWrong, .int v_letters, .int v_matched, .ref a_this_rows, .int v_manyRows, .long v_digested])), (a_this_text, .inl (cI, 60, .inl v_text))] sz) [(a_this, .inr (5, [.int w_thrown, .ref a_this_s, .ref a_this_aside, .ref a_this_saved, .int v_savedMany, .ref a_this_text, .int w_length, .ref a_this_states, .int v_many, .int v_at, .int v_isWrong, .int v_letters, .int v_matched, .ref a_this_rows, .int v_manyRows, .long v_digested])), (a_this_text, .inl (cI, 60, .inl w_text))] r0) 0 0 (va_A [(a_this, .inr (5, [.int v_thrown, .ref a_this_s, .ref a_this_aside, .ref a_this_saved, .int v_savedMany, .ref a_this_text, .int v_length, .ref a_this_states, .int v_many, .int v_at, .int v_isWrong, .int v_letters, .int v_matched, .ref a_this_rows, .int v_manyRows, .long v_digested])), (a_this_text, .inl (cI, 60, .inl v_text))] sz) := by
  refine Met.ofW (cc := cX6_append) (maxL := 2) (ret := (some .int)) (by decide) rfl ?_
  intro p e s m args below meth c s₁ B hml hv
  obtain ⟨rfl, hsz, hP, hK, hN, hD0⟩ := hv
  have hx := B.exec
  have hb := B.bytes
  have hr := B.returns
  have hts := atoms_spec (ws := wsX6_append) B.pre
  have hown : s.vm.findClass RX6 = some m.cls := findClass_of_methodNamed B.named
  have hlocks := B.notSynchronized
  subst hsz
  have hD := hD0.self (sz := s.heap.size)
  generalize hAe : va_A [(a_this, .inr (5, [.int v_thrown, .ref a_this_s, .ref a_this_aside, .ref a_this_saved, .int v_savedMany, .ref a_this_text, .int v_length, .ref a_this_states, .int v_many, .int v_at, .int v_isWrong, .int v_letters, .int v_matched, .ref a_this_rows, .int v_manyRows, .long v_digested])), (a_this_text, .inl (cI, 60, .inl v_text))] s.heap.size = A at hD ⊢
  have hA : ∀ q : Nat, s.heap.size ≤ q → A q := fun q h => by rw [← hAe]; exact Or.inr h
  have hS : va_S A s.heap s.heap [] := va_S.rf
  have hl := lv_entry ([.ref a_this, .int p1]) (n := 2) (Nat.le_of_ble_eq_true rfl)
  rw [lg_entry_eq]
  generalize (lg_sl ([.ref a_this, .int p1]) ++ List.replicate (2 - (lg_sl ([.ref a_this, .int p1])).length) Slot.unset).toArray = ls at hl ⊢
  have hl : lv_has ls 2 [(0, .ref a_this), (1, .int p1)] := hl
  change W p l e rm_X6_append s m (([.ref a_this, .int p1] : List Value).toArray) below meth c s.heap [] 0 0 _ (F0 m 0 ls [])
  generalize hQe : MQ below (mQi D A [(a_this, .inr (5, [.int w_thrown, .ref a_this_s, .ref a_this_aside, .ref a_this_saved, .int v_savedMany, .ref a_this_text, .int w_length, .ref a_this_states, .int v_many, .int v_at, .int v_isWrong, .int v_letters, .int v_matched, .ref a_this_rows, .int v_manyRows, .long v_digested])), (a_this_text, .inl (cI, 60, .inl w_text))] r0) (([.ref a_this, .int p1] : List Value).toArray) s 0 0 A = Q
  rw [D_X6_append] at hden
  have hin_X6 : ∀ w ∈ wsX60, w ∈ wsX6_append := by decide +kernel
  have w_19 := hts (.fieldLink RX6 19 "FallingPatternsModel" "text" "[I") (by decide +kernel)
  have w_131 := hts (.fieldLink RX6 131 "FallingPatternsModel" "length" "I") (by decide +kernel)
  refine lv_aload_n hx hb dX6_append_0 rfl (lv_at hl 0 rfl) ?_
  refine lv_iload_n hx hb dX6_append_1 rfl (lv_at hl 1 rfl) ?_
  refine lv_bipush (v := 33) hx hb dX6_append_2 (by decide) ?_
  refine lv_bipush (v := 126) hx hb dX6_append_4 (by decide) ?_
  obtain ⟨r_1, hc_2, hden⟩ := bnd_s hden
  refine m_ci (wc := []) (wr := [(a_this, .inr (5, [.int v_thrown, .ref a_this_s, .ref a_this_aside, .ref a_this_saved, .int v_savedMany, .ref a_this_text, .int v_length, .ref a_this_states, .int v_many, .int v_at, .int v_isWrong, .int v_letters, .int v_matched, .ref a_this_rows, .int v_manyRows, .long v_digested])), (a_this_text, .inl (cI, 60, .inl v_text))]) (wc' := []) (va_runS (As := [.int p1, .int 33, .int 126]) (rest := [.ref a_this]) ⟨hx, hb, hml, hown, hts⟩ (c_X6_in l D cI cM cL F hc_2) (va_cwS 3 hts gX6_append_X6_in rfl rfl rfl (by decide +kernel) ⟨Nat.le_of_ble_eq_true rfl, Nat.le_of_ble_eq_true rfl⟩) (mPreS hP hD hK hN [] (by decide) rfl) rfl rfl hl.1 rfl (lv_room (Nat.le_of_ble_eq_true rfl)) dX6_append_6 ⟨Nat.le_of_ble_eq_true rfl, Nat.le_of_ble_eq_true rfl⟩) hP hD hS hA [] [0, 1] rfl rfl (by decide) (by decide) (fun H locs hP hD hS => ?_)
  have hP : va_P D vwCl [(a_this, .inr (5, [.int v_thrown, .ref a_this_s, .ref a_this_aside, .ref a_this_saved, .int v_savedMany, .ref a_this_text, .int v_length, .ref a_this_states, .int v_many, .int v_at, .int v_isWrong, .int v_letters, .int v_matched, .ref a_this_rows, .int v_manyRows, .long v_digested])), (a_this_text, .inl (cI, 60, .inl v_text))] H := hP
  have hD : va_D A [(a_this, .inr (5, [.int v_thrown, .ref a_this_s, .ref a_this_aside, .ref a_this_saved, .int v_savedMany, .ref a_this_text, .int v_length, .ref a_this_states, .int v_many, .int v_at, .int v_isWrong, .int v_letters, .int v_matched, .ref a_this_rows, .int v_manyRows, .long v_digested])), (a_this_text, .inl (cI, 60, .inl v_text))] := hD
  obtain ⟨j30, ej30, hden⟩ := jp_s hden
  have hj30 : ∀ (t_3 : Int32) (H : Heap) (locs : List Loc), va_P D vwCl [(a_this, .inr (5, [.int v_thrown, .ref a_this_s, .ref a_this_aside, .ref a_this_saved, .int v_savedMany, .ref a_this_text, .int v_length, .ref a_this_states, .int v_many, .int v_at, .int v_isWrong, .int v_letters, .int v_matched, .ref a_this_rows, .int v_manyRows, .long v_digested])), (a_this_text, .inl (cI, 60, .inl v_text))] H → va_D A [(a_this, .inr (5, [.int v_thrown, .ref a_this_s, .ref a_this_aside, .ref a_this_saved, .int v_savedMany, .ref a_this_text, .int v_length, .ref a_this_states, .int v_many, .int v_at, .int v_isWrong, .int v_letters, .int v_matched, .ref a_this_rows, .int v_manyRows, .long v_digested])), (a_this_text, .inl (cI, 60, .inl v_text))] → va_S A s.heap H locs → ∀ ls : Array Slot, lv_has ls 2 [(0, .ref a_this), (1, .int p1)] → j30 t_3 = some (r0, w_thrown, w_text, w_length) → W p l e rm_X6_append s m (([.ref a_this, .int p1] : List Value).toArray) below meth c H locs 0 0 Q (F0 m 30 ls [.int t_3, .ref a_this]) := by
    intro t_3 H locs hP hD hS ls hl hden
    rw [ej30] at hden
    obtain ⟨⟨r_4, v_thrown_5⟩, hc_6, hden⟩ := bnd_s hden
    refine m_ci (wc := [(a_this, .inr (5, [.int v_thrown, .ref a_this_s, .ref a_this_aside, .ref a_this_saved, .int v_savedMany, .ref a_this_text, .int v_length, .ref a_this_states, .int v_many, .int v_at, .int v_isWrong, .int v_letters, .int v_matched, .ref a_this_rows, .int v_manyRows, .long v_digested]))]) (wr := [(a_this_text, .inl (cI, 60, .inl v_text))]) (wc' := [(a_this, .inr (5, [.int v_thrown_5, .ref a_this_s, .ref a_this_aside, .ref a_this_saved, .int v_savedMany, .ref a_this_text, .int v_length, .ref a_this_states, .int v_many, .int v_at, .int v_isWrong, .int v_letters, .int v_matched, .ref a_this_rows, .int v_manyRows, .long v_digested]))]) (va_runV (As := [.int t_3]) (rest := []) ⟨hx, hb, hml, hown, hts⟩ (c_X6_holds l D cI cM cL F hc_6) (cwV 1 hts gX6_append_X6_holds rfl rfl rfl (by decide +kernel) ⟨Nat.le_of_ble_eq_true rfl, Nat.le_of_ble_eq_true rfl⟩) (mPreV (ci := 5) (q0 := 0) (r := (RX6, TX6, 16)) hP hD hK hN [0] (by decide) rfl rfl rfl) rfl rfl hl.1 rfl (lv_room (Nat.le_of_ble_eq_true rfl)) dX6_append_30 ⟨Nat.le_of_ble_eq_true rfl, Nat.le_of_ble_eq_true rfl⟩) hP hD hS hA [0] [1] rfl rfl (by decide) (by decide) (fun H locs hP hD hS => ?_)
    have hP : va_P D vwCl [(a_this_text, .inl (cI, 60, .inl v_text)), (a_this, .inr (5, [.int v_thrown_5, .ref a_this_s, .ref a_this_aside, .ref a_this_saved, .int v_savedMany, .ref a_this_text, .int v_length, .ref a_this_states, .int v_many, .int v_at, .int v_isWrong, .int v_letters, .int v_matched, .ref a_this_rows, .int v_manyRows, .long v_digested]))] H := hP
    have hD : va_D A [(a_this_text, .inl (cI, 60, .inl v_text)), (a_this, .inr (5, [.int v_thrown_5, .ref a_this_s, .ref a_this_aside, .ref a_this_saved, .int v_savedMany, .ref a_this_text, .int v_length, .ref a_this_states, .int v_many, .int v_at, .int v_isWrong, .int v_letters, .int v_matched, .ref a_this_rows, .int v_manyRows, .long v_digested]))] := hD
    refine lv_if_ne (tgt := 38) hx hb dX6_append_33 (by decide) (fun c_10 => ?_) (fun c_10 => ?_)
    · have hden := ifn_s hden c_10
      refine lv_aload_n hx hb dX6_append_38 rfl (lv_at hl 0 rfl) ?_
      refine va_get (D := D) (ci := 5) (v := .ref a_this_text) (C := RX6) (T := TX6) (N := 16) hx hb hts hin_X6 hown hK hP 1 rfl rfl 5 (by decide) w_19 (fun _ h9 => h9) rfl dX6_append_39 ?_
      refine lv_aload_n hx hb dX6_append_42 rfl (lv_at hl 0 rfl) ?_
      refine va_get (D := D) (ci := 5) (v := .int v_length) (C := RX6) (T := TX6) (N := 16) hx hb hts hin_X6 hown hK hP 1 rfl rfl 6 (by decide) w_131 (fun _ h9 => h9) rfl dX6_append_43 ?_
      refine lv_iload_n hx hb dX6_append_46 rfl (lv_at hl 1 rfl) ?_
      obtain ⟨hg_7, hden⟩ := grd_s hden
      refine va_iast hx hb hK hP hD hS 0 0 rfl rfl (inb_in hg_7) dX6_append_47 (fun H locs hP hD hS => ?_)
      obtain ⟨v_text_8, ev_text_8, hden⟩ := nm_x hden
      have hP : va_P D vwCl [(a_this_text, .inl (cI, 60, .inl v_text_8)), (a_this, .inr (5, [.int v_thrown_5, .ref a_this_s, .ref a_this_aside, .ref a_this_saved, .int v_savedMany, .ref a_this_text, .int v_length, .ref a_this_states, .int v_many, .int v_at, .int v_isWrong, .int v_letters, .int v_matched, .ref a_this_rows, .int v_manyRows, .long v_digested]))] H := by rw [ev_text_8]; exact hP
      have hD : va_D A [(a_this_text, .inl (cI, 60, .inl v_text_8)), (a_this, .inr (5, [.int v_thrown_5, .ref a_this_s, .ref a_this_aside, .ref a_this_saved, .int v_savedMany, .ref a_this_text, .int v_length, .ref a_this_states, .int v_many, .int v_at, .int v_isWrong, .int v_letters, .int v_matched, .ref a_this_rows, .int v_manyRows, .long v_digested]))] := by rw [ev_text_8]; exact hD
      refine lv_aload_n hx hb dX6_append_48 rfl (lv_at hl 0 rfl) ?_
      refine lv_dup hx hb dX6_append_49 rfl ?_
      refine va_get (D := D) (ci := 5) (v := .int v_length) (C := RX6) (T := TX6) (N := 16) hx hb hts hin_X6 hown hK hP 1 rfl rfl 6 (by decide) w_131 (fun _ h9 => h9) rfl dX6_append_50 ?_
      refine lv_iconst (v := 1) hx hb dX6_append_53 (by decide) ?_
      refine lv_iadd hx hb dX6_append_54 ?_
      refine lv_topi (fun f_length_9 ef_length_9 => ?_)
      have hden := nm_s hden ef_length_9
      refine va_put (D := D) (ci := 5) (v := .int f_length_9) (ty := .int) (C := RX6) (T := TX6) (N := 16) hx hb hts hin_X6 tyX6 tyX6_ok nmX6 hown hK hP hD hS 1 rfl rfl 6 (by decide) w_131 (fun _ h9 => h9) rfl (by decide +kernel) rfl rfl (Nat.le_of_ble_eq_true rfl) dX6_append_55 (fun H locs hP hD hS => ?_)
      have hP : va_P D vwCl [(a_this_text, .inl (cI, 60, .inl v_text_8)), (a_this, .inr (5, [.int v_thrown_5, .ref a_this_s, .ref a_this_aside, .ref a_this_saved, .int v_savedMany, .ref a_this_text, .int f_length_9, .ref a_this_states, .int v_many, .int v_at, .int v_isWrong, .int v_letters, .int v_matched, .ref a_this_rows, .int v_manyRows, .long v_digested]))] H := hP
      have hD : va_D A [(a_this_text, .inl (cI, 60, .inl v_text_8)), (a_this, .inr (5, [.int v_thrown_5, .ref a_this_s, .ref a_this_aside, .ref a_this_saved, .int v_savedMany, .ref a_this_text, .int f_length_9, .ref a_this_states, .int v_many, .int v_at, .int v_isWrong, .int v_letters, .int v_matched, .ref a_this_rows, .int v_manyRows, .long v_digested]))] := hD
      refine lv_aload_n hx hb dX6_append_58 rfl (lv_at hl 0 rfl) ?_
      refine va_get (D := D) (ci := 5) (v := .int f_length_9) (C := RX6) (T := TX6) (N := 16) hx hb hts hin_X6 hown hK hP 1 rfl rfl 6 (by decide) w_131 (fun _ h9 => h9) rfl dX6_append_59 ?_
      subst hQe
      cases hden
      exact m_ri hx hb hr hP hD hS [1, 0] (by decide) rfl rfl dX6_append_62 hlocks
    · have hden := if_s hden c_10
      refine lv_iconst (v := 0) hx hb dX6_append_36 (by decide) ?_
      subst hQe
      cases hden
      exact m_ri hx hb hr hP hD hS [1, 0] (by decide) rfl rfl dX6_append_37 hlocks
  clear ej30
  refine lv_if_ne (tgt := 16) hx hb dX6_append_9 (by decide) (fun c_12 => ?_) (fun c_12 => ?_)
  · have hden := ifn_s hden c_12
    refine lv_aload_n hx hb dX6_append_16 rfl (lv_at hl 0 rfl) ?_
    refine va_get (D := D) (ci := 5) (v := .int v_length) (C := RX6) (T := TX6) (N := 16) hx hb hts hin_X6 hown hK hP 0 rfl rfl 6 (by decide) w_131 (fun _ h9 => h9) rfl dX6_append_17 ?_
    refine lv_bipush (v := 60) hx hb dX6_append_20 (by decide) ?_
    refine lv_icmp_ne (tgt := 29) hx hb dX6_append_22 (by decide) (fun c_11 => ?_) (fun c_11 => ?_)
    · have hden := ifn_s hden c_11
      refine lv_iconst (v := 0) hx hb dX6_append_29 (by decide) ?_
      exact hj30 0 _ _ (mSubP hP [0, 1] rfl) (hD.sub [0, 1] (by decide) rfl) hS ls (lv_sub hl [0, 1] rfl) hden
    · have hden := if_s hden c_11
      refine lv_iconst (v := 2) hx hb dX6_append_25 (by decide) ?_
      refine lv_goto (tgt := 30) hx hb dX6_append_26 (by decide) ?_
      exact hj30 2 _ _ (mSubP hP [0, 1] rfl) (hD.sub [0, 1] (by decide) rfl) hS ls (lv_sub hl [0, 1] rfl) hden
  · have hden := if_s hden c_12
    refine lv_iconst (v := 1) hx hb dX6_append_12 (by decide) ?_
    refine lv_goto (tgt := 30) hx hb dX6_append_13 (by decide) ?_
    exact hj30 1 _ _ (mSubP hP [0, 1] rfl) (hD.sub [0, 1] (by decide) rfl) hS ls (lv_sub hl [0, 1] rfl) hden
def D_X6_clearBuffer (F : Nat) (v_thrown : Int32) (v_length : Int32) : Option (Int32 × Int32 × Int32) := some (v_length, 0, 0)
def rm_X6_clearBuffer : Room := { frames := 0, cells := 0, slots := 0, locals := 0 }
set_option maxHeartbeats 4000000 in
set_option maxRecDepth 100000 in
theorem c_X6_clearBuffer (l : Launch) (D : va_G) (cI cM cL : ClassId) (F : Nat) {a_this a_this_s a_this_aside a_this_saved a_this_text a_this_states a_this_rows : Nat} {sz : Nat} {v_thrown v_savedMany v_length v_many v_at v_isWrong v_letters v_matched v_manyRows : Int32} {v_digested : Int64} {r0 : Int32} {w_thrown : Int32} {w_length : Int32} (hden : D_X6_clearBuffer F v_thrown v_length = some (r0, w_thrown, w_length)) : Met l yX6_clearBuffer wsX6_clearBuffer rm_X6_clearBuffer (va_Pc [.ref a_this] (mB D (mTy cI cM cL) sz [(a_this, .inr (5, [.int v_thrown, .ref a_this_s, .ref a_this_aside, .ref a_this_saved, .int v_savedMany, .ref a_this_text, .int v_length, .ref a_this_states, .int v_many, .int v_at, .int v_isWrong, .int v_letters, .int v_matched, .ref a_this_rows, .int v_manyRows, .long v_digested]))])) (mQi D (va_A [(a_this, .inr (5, [.int v_thrown, .ref a_this_s, .ref a_this_aside, .ref a_this_saved, .int v_savedMany, .ref a_this_text, .int v_length, .ref a_this_states, .int v_many, .int v_at, .int v_isWrong, .int v_letters, .int v_matched, .ref a_this_rows, .int v_manyRows, .long v_digested]))] sz) [(a_this, .inr (5, [.int w_thrown, .ref a_this_s, .ref a_this_aside, .ref a_this_saved, .int v_savedMany, .ref a_this_text, .int w_length, .ref a_this_states, .int v_many, .int v_at, .int v_isWrong, .int v_letters, .int v_matched, .ref a_this_rows, .int v_manyRows, .long v_digested]))] r0) 0 0 (va_A [(a_this, .inr (5, [.int v_thrown, .ref a_this_s, .ref a_this_aside, .ref a_this_saved, .int v_savedMany, .ref a_this_text, .int v_length, .ref a_this_states, .int v_many, .int v_at, .int v_isWrong, .int v_letters, .int v_matched, .ref a_this_rows, .int v_manyRows, .long v_digested]))] sz) := by
  refine Met.ofW (cc := cX6_clearBuffer) (maxL := 2) (ret := (some .int)) (by decide) rfl ?_
  intro p e s m args below meth c s₁ B hml hv
  obtain ⟨rfl, hsz, hP, hK, hN, hD0⟩ := hv
  have hx := B.exec
  have hb := B.bytes
  have hr := B.returns
  have hts := atoms_spec (ws := wsX6_clearBuffer) B.pre
  have hown : s.vm.findClass RX6 = some m.cls := findClass_of_methodNamed B.named
  have hlocks := B.notSynchronized
  subst hsz
  have hD := hD0.self (sz := s.heap.size)
  generalize hAe : va_A [(a_this, .inr (5, [.int v_thrown, .ref a_this_s, .ref a_this_aside, .ref a_this_saved, .int v_savedMany, .ref a_this_text, .int v_length, .ref a_this_states, .int v_many, .int v_at, .int v_isWrong, .int v_letters, .int v_matched, .ref a_this_rows, .int v_manyRows, .long v_digested]))] s.heap.size = A at hD ⊢
  have hA : ∀ q : Nat, s.heap.size ≤ q → A q := fun q h => by rw [← hAe]; exact Or.inr h
  have hS : va_S A s.heap s.heap [] := va_S.rf
  have hl := lv_entry ([.ref a_this]) (n := 2) (Nat.le_of_ble_eq_true rfl)
  rw [lg_entry_eq]
  generalize (lg_sl ([.ref a_this]) ++ List.replicate (2 - (lg_sl ([.ref a_this])).length) Slot.unset).toArray = ls at hl ⊢
  have hl : lv_has ls 2 [(0, .ref a_this)] := hl
  change W p l e rm_X6_clearBuffer s m (([.ref a_this] : List Value).toArray) below meth c s.heap [] 0 0 _ (F0 m 0 ls [])
  generalize hQe : MQ below (mQi D A [(a_this, .inr (5, [.int w_thrown, .ref a_this_s, .ref a_this_aside, .ref a_this_saved, .int v_savedMany, .ref a_this_text, .int w_length, .ref a_this_states, .int v_many, .int v_at, .int v_isWrong, .int v_letters, .int v_matched, .ref a_this_rows, .int v_manyRows, .long v_digested]))] r0) (([.ref a_this] : List Value).toArray) s 0 0 A = Q
  rw [D_X6_clearBuffer] at hden
  have hin_X6 : ∀ w ∈ wsX60, w ∈ wsX6_clearBuffer := by decide +kernel
  have w_31 := hts (.fieldLink RX6 31 "FallingPatternsModel" "thrown" "I") (by decide +kernel)
  have w_131 := hts (.fieldLink RX6 131 "FallingPatternsModel" "length" "I") (by decide +kernel)
  refine lv_aload_n hx hb dX6_clearBuffer_0 rfl (lv_at hl 0 rfl) ?_
  refine lv_iconst (v := 0) hx hb dX6_clearBuffer_1 (by decide) ?_
  refine va_put (D := D) (ci := 5) (v := .int 0) (ty := .int) (C := RX6) (T := TX6) (N := 16) hx hb hts hin_X6 tyX6 tyX6_ok nmX6 hown hK hP hD hS 0 rfl rfl 0 (by decide) w_31 (fun _ h9 => h9) rfl (by decide +kernel) rfl rfl (Nat.le_of_ble_eq_true rfl) dX6_clearBuffer_2 (fun H locs hP hD hS => ?_)
  have hP : va_P D vwCl [(a_this, .inr (5, [.int 0, .ref a_this_s, .ref a_this_aside, .ref a_this_saved, .int v_savedMany, .ref a_this_text, .int v_length, .ref a_this_states, .int v_many, .int v_at, .int v_isWrong, .int v_letters, .int v_matched, .ref a_this_rows, .int v_manyRows, .long v_digested]))] H := hP
  have hD : va_D A [(a_this, .inr (5, [.int 0, .ref a_this_s, .ref a_this_aside, .ref a_this_saved, .int v_savedMany, .ref a_this_text, .int v_length, .ref a_this_states, .int v_many, .int v_at, .int v_isWrong, .int v_letters, .int v_matched, .ref a_this_rows, .int v_manyRows, .long v_digested]))] := hD
  refine lv_aload_n hx hb dX6_clearBuffer_5 rfl (lv_at hl 0 rfl) ?_
  refine va_get (D := D) (ci := 5) (v := .int v_length) (C := RX6) (T := TX6) (N := 16) hx hb hts hin_X6 hown hK hP 0 rfl rfl 6 (by decide) w_131 (fun _ h9 => h9) rfl dX6_clearBuffer_6 ?_
  refine lv_istore_n (lv' := [(1, .int v_length), (0, .ref a_this)]) hx hb dX6_clearBuffer_9 rfl hl (by decide) rfl (fun ls hl => ?_)
  refine lv_aload_n hx hb dX6_clearBuffer_10 rfl (lv_at hl 1 rfl) ?_
  refine lv_iconst (v := 0) hx hb dX6_clearBuffer_11 (by decide) ?_
  refine va_put (D := D) (ci := 5) (v := .int 0) (ty := .int) (C := RX6) (T := TX6) (N := 16) hx hb hts hin_X6 tyX6 tyX6_ok nmX6 hown hK hP hD hS 0 rfl rfl 6 (by decide) w_131 (fun _ h9 => h9) rfl (by decide +kernel) rfl rfl (Nat.le_of_ble_eq_true rfl) dX6_clearBuffer_12 (fun H locs hP hD hS => ?_)
  have hP : va_P D vwCl [(a_this, .inr (5, [.int 0, .ref a_this_s, .ref a_this_aside, .ref a_this_saved, .int v_savedMany, .ref a_this_text, .int 0, .ref a_this_states, .int v_many, .int v_at, .int v_isWrong, .int v_letters, .int v_matched, .ref a_this_rows, .int v_manyRows, .long v_digested]))] H := hP
  have hD : va_D A [(a_this, .inr (5, [.int 0, .ref a_this_s, .ref a_this_aside, .ref a_this_saved, .int v_savedMany, .ref a_this_text, .int 0, .ref a_this_states, .int v_many, .int v_at, .int v_isWrong, .int v_letters, .int v_matched, .ref a_this_rows, .int v_manyRows, .long v_digested]))] := hD
  refine lv_iload_n hx hb dX6_clearBuffer_15 rfl (lv_at hl 0 rfl) ?_
  subst hQe
  cases hden
  exact m_ri hx hb hr hP hD hS [0] (by decide) rfl rfl dX6_clearBuffer_16 hlocks
def D_X6_firstError (F : Nat) (p1 : Int32) (v_thrown : Int32) (v_at : Int32) (v_isWrong : Int32) (v_letters : Int32) (v_matched : Int32) (v_length : Int32) (v_text : (Nat → Int32)) (v_s : (Nat → Int32)) (v_manyRows : Int32) (v_rows : (Nat → Int32)) : Option (Int32 × Int32 × Int32 × Int32 × Int32 × Int32 × (Nat → Int32) × Int32 × (Nat → Int32)) := (if p1 = 0 then bnd (D_X6_goLetters F 0 v_at v_isWrong v_letters v_matched v_length v_text v_s) (fun (v_at_1, v_isWrong_2, v_letters_3, v_matched_4, v_s_5) => some (v_at_1, 0, v_at_1, v_isWrong_2, v_letters_3, v_matched_4, v_s_5, v_manyRows, v_rows)) else bnd (D_X6_goPatterns F v_at v_isWrong v_manyRows v_length v_rows v_text) (fun (v_at_7, v_isWrong_8, v_manyRows_9, v_rows_10) => some (v_at_7, 0, v_at_7, v_isWrong_8, v_letters, v_matched, v_s, v_manyRows_9, v_rows_10)))
def rm_X6_firstError : Room := { frames := 10, cells := 0, slots := 0, locals := 225 }
set_option maxHeartbeats 4000000 in
set_option maxRecDepth 100000 in
theorem c_X6_firstError (l : Launch) (D : va_G) (cI cM cL : ClassId) (F : Nat) {a_this a_this_s a_this_aside a_this_saved a_this_text a_this_states a_this_rows : Nat} {sz : Nat} {v_thrown v_savedMany v_length v_many v_at v_isWrong v_letters v_matched v_manyRows : Int32} {v_digested : Int64} {v_text v_s v_rows : Nat → Int32} {p1 : Int32} {r0 : Int32} {w_thrown : Int32} {w_at : Int32} {w_isWrong : Int32} {w_letters : Int32} {w_matched : Int32} {w_s : (Nat → Int32)} {w_manyRows : Int32} {w_rows : (Nat → Int32)} (hden : D_X6_firstError F p1 v_thrown v_at v_isWrong v_letters v_matched v_length v_text v_s v_manyRows v_rows = some (r0, w_thrown, w_at, w_isWrong, w_letters, w_matched, w_s, w_manyRows, w_rows)) : Met l yX6_firstError wsX6_firstError rm_X6_firstError (va_Pc [.ref a_this, .int p1] (mB D (mTy cI cM cL) sz [(a_this, .inr (5, [.int v_thrown, .ref a_this_s, .ref a_this_aside, .ref a_this_saved, .int v_savedMany, .ref a_this_text, .int v_length, .ref a_this_states, .int v_many, .int v_at, .int v_isWrong, .int v_letters, .int v_matched, .ref a_this_rows, .int v_manyRows, .long v_digested])), (a_this_text, .inl (cI, 60, .inl v_text)), (a_this_s, .inl (cI, 31, .inl v_s)), (a_this_rows, .inl (cI, 31, .inl v_rows))])) (mQi D (va_A [(a_this, .inr (5, [.int v_thrown, .ref a_this_s, .ref a_this_aside, .ref a_this_saved, .int v_savedMany, .ref a_this_text, .int v_length, .ref a_this_states, .int v_many, .int v_at, .int v_isWrong, .int v_letters, .int v_matched, .ref a_this_rows, .int v_manyRows, .long v_digested])), (a_this_text, .inl (cI, 60, .inl v_text)), (a_this_s, .inl (cI, 31, .inl v_s)), (a_this_rows, .inl (cI, 31, .inl v_rows))] sz) [(a_this, .inr (5, [.int w_thrown, .ref a_this_s, .ref a_this_aside, .ref a_this_saved, .int v_savedMany, .ref a_this_text, .int v_length, .ref a_this_states, .int v_many, .int w_at, .int w_isWrong, .int w_letters, .int w_matched, .ref a_this_rows, .int w_manyRows, .long v_digested])), (a_this_text, .inl (cI, 60, .inl v_text)), (a_this_s, .inl (cI, 31, .inl w_s)), (a_this_rows, .inl (cI, 31, .inl w_rows))] r0) 0 0 (va_A [(a_this, .inr (5, [.int v_thrown, .ref a_this_s, .ref a_this_aside, .ref a_this_saved, .int v_savedMany, .ref a_this_text, .int v_length, .ref a_this_states, .int v_many, .int v_at, .int v_isWrong, .int v_letters, .int v_matched, .ref a_this_rows, .int v_manyRows, .long v_digested])), (a_this_text, .inl (cI, 60, .inl v_text)), (a_this_s, .inl (cI, 31, .inl v_s)), (a_this_rows, .inl (cI, 31, .inl v_rows))] sz) := by
  refine Met.ofW (cc := cX6_firstError) (maxL := 2) (ret := (some .int)) (by decide) rfl ?_
  intro p e s m args below meth c s₁ B hml hv
  obtain ⟨rfl, hsz, hP, hK, hN, hD0⟩ := hv
  have hx := B.exec
  have hb := B.bytes
  have hr := B.returns
  have hts := atoms_spec (ws := wsX6_firstError) B.pre
  have hown : s.vm.findClass RX6 = some m.cls := findClass_of_methodNamed B.named
  have hlocks := B.notSynchronized
  subst hsz
  have hD := hD0.self (sz := s.heap.size)
  generalize hAe : va_A [(a_this, .inr (5, [.int v_thrown, .ref a_this_s, .ref a_this_aside, .ref a_this_saved, .int v_savedMany, .ref a_this_text, .int v_length, .ref a_this_states, .int v_many, .int v_at, .int v_isWrong, .int v_letters, .int v_matched, .ref a_this_rows, .int v_manyRows, .long v_digested])), (a_this_text, .inl (cI, 60, .inl v_text)), (a_this_s, .inl (cI, 31, .inl v_s)), (a_this_rows, .inl (cI, 31, .inl v_rows))] s.heap.size = A at hD ⊢
  have hA : ∀ q : Nat, s.heap.size ≤ q → A q := fun q h => by rw [← hAe]; exact Or.inr h
  have hS : va_S A s.heap s.heap [] := va_S.rf
  have hl := lv_entry ([.ref a_this, .int p1]) (n := 2) (Nat.le_of_ble_eq_true rfl)
  rw [lg_entry_eq]
  generalize (lg_sl ([.ref a_this, .int p1]) ++ List.replicate (2 - (lg_sl ([.ref a_this, .int p1])).length) Slot.unset).toArray = ls at hl ⊢
  have hl : lv_has ls 2 [(0, .ref a_this), (1, .int p1)] := hl
  change W p l e rm_X6_firstError s m (([.ref a_this, .int p1] : List Value).toArray) below meth c s.heap [] 0 0 _ (F0 m 0 ls [])
  generalize hQe : MQ below (mQi D A [(a_this, .inr (5, [.int w_thrown, .ref a_this_s, .ref a_this_aside, .ref a_this_saved, .int v_savedMany, .ref a_this_text, .int v_length, .ref a_this_states, .int v_many, .int w_at, .int w_isWrong, .int w_letters, .int w_matched, .ref a_this_rows, .int w_manyRows, .long v_digested])), (a_this_text, .inl (cI, 60, .inl v_text)), (a_this_s, .inl (cI, 31, .inl w_s)), (a_this_rows, .inl (cI, 31, .inl w_rows))] r0) (([.ref a_this, .int p1] : List Value).toArray) s 0 0 A = Q
  rw [D_X6_firstError] at hden
  have hin_X6 : ∀ w ∈ wsX60, w ∈ wsX6_firstError := by decide +kernel
  have w_31 := hts (.fieldLink RX6 31 "FallingPatternsModel" "thrown" "I") (by decide +kernel)
  have w_118 := hts (.fieldLink RX6 118 "FallingPatternsModel" "at" "I") (by decide +kernel)
  refine lv_aload_n hx hb dX6_firstError_0 rfl (lv_at hl 0 rfl) ?_
  refine lv_iconst (v := 0) hx hb dX6_firstError_1 (by decide) ?_
  refine va_put (D := D) (ci := 5) (v := .int 0) (ty := .int) (C := RX6) (T := TX6) (N := 16) hx hb hts hin_X6 tyX6 tyX6_ok nmX6 hown hK hP hD hS 0 rfl rfl 0 (by decide) w_31 (fun _ h9 => h9) rfl (by decide +kernel) rfl rfl (Nat.le_of_ble_eq_true rfl) dX6_firstError_2 (fun H locs hP hD hS => ?_)
  have hP : va_P D vwCl [(a_this, .inr (5, [.int 0, .ref a_this_s, .ref a_this_aside, .ref a_this_saved, .int v_savedMany, .ref a_this_text, .int v_length, .ref a_this_states, .int v_many, .int v_at, .int v_isWrong, .int v_letters, .int v_matched, .ref a_this_rows, .int v_manyRows, .long v_digested])), (a_this_text, .inl (cI, 60, .inl v_text)), (a_this_s, .inl (cI, 31, .inl v_s)), (a_this_rows, .inl (cI, 31, .inl v_rows))] H := hP
  have hD : va_D A [(a_this, .inr (5, [.int 0, .ref a_this_s, .ref a_this_aside, .ref a_this_saved, .int v_savedMany, .ref a_this_text, .int v_length, .ref a_this_states, .int v_many, .int v_at, .int v_isWrong, .int v_letters, .int v_matched, .ref a_this_rows, .int v_manyRows, .long v_digested])), (a_this_text, .inl (cI, 60, .inl v_text)), (a_this_s, .inl (cI, 31, .inl v_s)), (a_this_rows, .inl (cI, 31, .inl v_rows))] := hD
  refine lv_iload_n hx hb dX6_firstError_5 rfl (lv_at hl 1 rfl) ?_
  refine lv_if_eq (tgt := 16) hx hb dX6_firstError_6 (by decide) (fun c_12 => ?_) (fun c_12 => ?_)
  · have hden := if_s hden c_12
    refine lv_aload_n hx hb dX6_firstError_16 rfl (lv_at hl 0 rfl) ?_
    refine lv_iconst (v := 0) hx hb dX6_firstError_17 (by decide) ?_
    obtain ⟨⟨v_at_1, v_isWrong_2, v_letters_3, v_matched_4, v_s_5⟩, hc_6, hden⟩ := bnd_s hden
    refine m_cv (wc := [(a_this, .inr (5, [.int 0, .ref a_this_s, .ref a_this_aside, .ref a_this_saved, .int v_savedMany, .ref a_this_text, .int v_length, .ref a_this_states, .int v_many, .int v_at, .int v_isWrong, .int v_letters, .int v_matched, .ref a_this_rows, .int v_manyRows, .long v_digested])), (a_this_text, .inl (cI, 60, .inl v_text)), (a_this_s, .inl (cI, 31, .inl v_s))]) (wr := [(a_this_rows, .inl (cI, 31, .inl v_rows))]) (wc' := [(a_this, .inr (5, [.int 0, .ref a_this_s, .ref a_this_aside, .ref a_this_saved, .int v_savedMany, .ref a_this_text, .int v_length, .ref a_this_states, .int v_many, .int v_at_1, .int v_isWrong_2, .int v_letters_3, .int v_matched_4, .ref a_this_rows, .int v_manyRows, .long v_digested])), (a_this_text, .inl (cI, 60, .inl v_text)), (a_this_s, .inl (cI, 31, .inl v_s_5))]) (va_runV (As := [.int 0]) (rest := []) ⟨hx, hb, hml, hown, hts⟩ (c_X6_goLetters l D cI cM cL F hc_6) (cwV 1 hts gX6_firstError_X6_goLetters rfl rfl rfl (by decide +kernel) ⟨Nat.le_of_ble_eq_true rfl, Nat.le_of_ble_eq_true rfl⟩) (mPreV (ci := 5) (q0 := 0) (r := (RX6, TX6, 16)) hP hD hK hN [0, 1, 2] (by decide) rfl rfl rfl) rfl rfl hl.1 rfl (lv_room (Nat.le_of_ble_eq_true rfl)) dX6_firstError_18 ⟨Nat.le_of_ble_eq_true rfl, Nat.le_of_ble_eq_true rfl⟩) hP hD hS hA [0, 1, 2] [3] rfl rfl (by decide) (by decide) (fun H locs hP hD hS => ?_)
    have hP : va_P D vwCl [(a_this_rows, .inl (cI, 31, .inl v_rows)), (a_this, .inr (5, [.int 0, .ref a_this_s, .ref a_this_aside, .ref a_this_saved, .int v_savedMany, .ref a_this_text, .int v_length, .ref a_this_states, .int v_many, .int v_at_1, .int v_isWrong_2, .int v_letters_3, .int v_matched_4, .ref a_this_rows, .int v_manyRows, .long v_digested])), (a_this_text, .inl (cI, 60, .inl v_text)), (a_this_s, .inl (cI, 31, .inl v_s_5))] H := hP
    have hD : va_D A [(a_this_rows, .inl (cI, 31, .inl v_rows)), (a_this, .inr (5, [.int 0, .ref a_this_s, .ref a_this_aside, .ref a_this_saved, .int v_savedMany, .ref a_this_text, .int v_length, .ref a_this_states, .int v_many, .int v_at_1, .int v_isWrong_2, .int v_letters_3, .int v_matched_4, .ref a_this_rows, .int v_manyRows, .long v_digested])), (a_this_text, .inl (cI, 60, .inl v_text)), (a_this_s, .inl (cI, 31, .inl v_s_5))] := hD
    refine lv_aload_n hx hb dX6_firstError_21 rfl (lv_at hl 0 rfl) ?_
    refine va_get (D := D) (ci := 5) (v := .int v_at_1) (C := RX6) (T := TX6) (N := 16) hx hb hts hin_X6 hown hK hP 1 rfl rfl 9 (by decide) w_118 (fun _ h9 => h9) rfl dX6_firstError_22 ?_
    subst hQe
    cases hden
    exact m_ri hx hb hr hP hD hS [1, 2, 3, 0] (by decide) rfl rfl dX6_firstError_25 hlocks
  · have hden := ifn_s hden c_12
    refine lv_aload_n hx hb dX6_firstError_9 rfl (lv_at hl 0 rfl) ?_
    obtain ⟨⟨v_at_7, v_isWrong_8, v_manyRows_9, v_rows_10⟩, hc_11, hden⟩ := bnd_s hden
    refine m_cv (wc := [(a_this, .inr (5, [.int 0, .ref a_this_s, .ref a_this_aside, .ref a_this_saved, .int v_savedMany, .ref a_this_text, .int v_length, .ref a_this_states, .int v_many, .int v_at, .int v_isWrong, .int v_letters, .int v_matched, .ref a_this_rows, .int v_manyRows, .long v_digested])), (a_this_rows, .inl (cI, 31, .inl v_rows)), (a_this_text, .inl (cI, 60, .inl v_text))]) (wr := [(a_this_s, .inl (cI, 31, .inl v_s))]) (wc' := [(a_this, .inr (5, [.int 0, .ref a_this_s, .ref a_this_aside, .ref a_this_saved, .int v_savedMany, .ref a_this_text, .int v_length, .ref a_this_states, .int v_many, .int v_at_7, .int v_isWrong_8, .int v_letters, .int v_matched, .ref a_this_rows, .int v_manyRows_9, .long v_digested])), (a_this_rows, .inl (cI, 31, .inl v_rows_10)), (a_this_text, .inl (cI, 60, .inl v_text))]) (va_runV (As := []) (rest := []) ⟨hx, hb, hml, hown, hts⟩ (c_X6_goPatterns l D cI cM cL F hc_11) (cwV 0 hts gX6_firstError_X6_goPatterns rfl rfl rfl (by decide +kernel) ⟨Nat.le_of_ble_eq_true rfl, Nat.le_of_ble_eq_true rfl⟩) (mPreV (ci := 5) (q0 := 0) (r := (RX6, TX6, 16)) hP hD hK hN [0, 3, 1] (by decide) rfl rfl rfl) rfl rfl hl.1 rfl (lv_room (Nat.le_of_ble_eq_true rfl)) dX6_firstError_10 ⟨Nat.le_of_ble_eq_true rfl, Nat.le_of_ble_eq_true rfl⟩) hP hD hS hA [0, 3, 1] [2] rfl rfl (by decide) (by decide) (fun H locs hP hD hS => ?_)
    have hP : va_P D vwCl [(a_this_s, .inl (cI, 31, .inl v_s)), (a_this, .inr (5, [.int 0, .ref a_this_s, .ref a_this_aside, .ref a_this_saved, .int v_savedMany, .ref a_this_text, .int v_length, .ref a_this_states, .int v_many, .int v_at_7, .int v_isWrong_8, .int v_letters, .int v_matched, .ref a_this_rows, .int v_manyRows_9, .long v_digested])), (a_this_rows, .inl (cI, 31, .inl v_rows_10)), (a_this_text, .inl (cI, 60, .inl v_text))] H := hP
    have hD : va_D A [(a_this_s, .inl (cI, 31, .inl v_s)), (a_this, .inr (5, [.int 0, .ref a_this_s, .ref a_this_aside, .ref a_this_saved, .int v_savedMany, .ref a_this_text, .int v_length, .ref a_this_states, .int v_many, .int v_at_7, .int v_isWrong_8, .int v_letters, .int v_matched, .ref a_this_rows, .int v_manyRows_9, .long v_digested])), (a_this_rows, .inl (cI, 31, .inl v_rows_10)), (a_this_text, .inl (cI, 60, .inl v_text))] := hD
    refine lv_goto (tgt := 21) hx hb dX6_firstError_13 (by decide) ?_
    refine lv_aload_n hx hb dX6_firstError_21 rfl (lv_at hl 0 rfl) ?_
    refine va_get (D := D) (ci := 5) (v := .int v_at_7) (C := RX6) (T := TX6) (N := 16) hx hb hts hin_X6 hown hK hP 1 rfl rfl 9 (by decide) w_118 (fun _ h9 => h9) rfl dX6_firstError_22 ?_
    subst hQe
    cases hden
    exact m_ri hx hb hr hP hD hS [1, 3, 0, 2] (by decide) rfl rfl dX6_firstError_25 hlocks
def L_X6_undo_33 (F : Nat) (v_savedMany : Int32) (v_thrown : Int32) (v_saved : (Nat → Int32)) : Nat → Int32 → (Nat → Int32) → Option (Int32 × Int32 × Int32 × (Nat → Int32))
  | 0, _, _ => none
  | n + 1, x1_6, v_s_7 => (if 31 ≤ x1_6 then some (v_savedMany, v_thrown, v_savedMany, v_s_7) else grd (inb (((31 : Int32) * v_savedMany) + x1_6) 186) (nm (v_saved (((31 : Int32) * v_savedMany) + x1_6).toNatClampNeg) (fun y_9 => grd (inb x1_6 31) (nm (upd v_s_7 x1_6.toNatClampNeg y_9) (fun v_s_11 => nm (x1_6 + 1) (fun x1_12 => L_X6_undo_33 F v_savedMany v_thrown v_saved n x1_12 v_s_11))))))
def D_X6_undo (F : Nat) (v_savedMany : Int32) (v_thrown : Int32) (v_saved : (Nat → Int32)) (v_s : (Nat → Int32)) : Option (Int32 × Int32 × Int32 × (Nat → Int32)) := jp (fun (t_1 : Int32) => bnd (D_X6_holds F t_1 v_thrown) (fun (r_2, v_thrown_3) => (if r_2 = 0 then some (0, v_thrown_3, v_savedMany, v_s) else nm (v_savedMany - 1) (fun f_savedMany_5 => L_X6_undo_33 F f_savedMany_5 v_thrown_3 v_saved F 0 v_s)))) (fun j13 => (if v_savedMany ≤ 0 then j13 1 else j13 0))
def rm_X6_undo : Room := { frames := 1, cells := 0, slots := 0, locals := 21 }
set_option maxHeartbeats 4000000 in
set_option maxRecDepth 100000 in
theorem c_X6_undo (l : Launch) (D : va_G) (cI cM cL : ClassId) (F : Nat) {a_this a_this_s a_this_aside a_this_saved a_this_text a_this_states a_this_rows : Nat} {sz : Nat} {v_thrown v_savedMany v_length v_many v_at v_isWrong v_letters v_matched v_manyRows : Int32} {v_digested : Int64} {v_saved v_s : Nat → Int32} {r0 : Int32} {w_thrown : Int32} {w_savedMany : Int32} {w_s : (Nat → Int32)} (hden : D_X6_undo F v_savedMany v_thrown v_saved v_s = some (r0, w_thrown, w_savedMany, w_s)) : Met l yX6_undo wsX6_undo rm_X6_undo (va_Pc [.ref a_this] (mB D (mTy cI cM cL) sz [(a_this, .inr (5, [.int v_thrown, .ref a_this_s, .ref a_this_aside, .ref a_this_saved, .int v_savedMany, .ref a_this_text, .int v_length, .ref a_this_states, .int v_many, .int v_at, .int v_isWrong, .int v_letters, .int v_matched, .ref a_this_rows, .int v_manyRows, .long v_digested])), (a_this_saved, .inl (cI, 186, .inl v_saved)), (a_this_s, .inl (cI, 31, .inl v_s))])) (mQi D (va_A [(a_this, .inr (5, [.int v_thrown, .ref a_this_s, .ref a_this_aside, .ref a_this_saved, .int v_savedMany, .ref a_this_text, .int v_length, .ref a_this_states, .int v_many, .int v_at, .int v_isWrong, .int v_letters, .int v_matched, .ref a_this_rows, .int v_manyRows, .long v_digested])), (a_this_saved, .inl (cI, 186, .inl v_saved)), (a_this_s, .inl (cI, 31, .inl v_s))] sz) [(a_this, .inr (5, [.int w_thrown, .ref a_this_s, .ref a_this_aside, .ref a_this_saved, .int w_savedMany, .ref a_this_text, .int v_length, .ref a_this_states, .int v_many, .int v_at, .int v_isWrong, .int v_letters, .int v_matched, .ref a_this_rows, .int v_manyRows, .long v_digested])), (a_this_saved, .inl (cI, 186, .inl v_saved)), (a_this_s, .inl (cI, 31, .inl w_s))] r0) 0 0 (va_A [(a_this, .inr (5, [.int v_thrown, .ref a_this_s, .ref a_this_aside, .ref a_this_saved, .int v_savedMany, .ref a_this_text, .int v_length, .ref a_this_states, .int v_many, .int v_at, .int v_isWrong, .int v_letters, .int v_matched, .ref a_this_rows, .int v_manyRows, .long v_digested])), (a_this_saved, .inl (cI, 186, .inl v_saved)), (a_this_s, .inl (cI, 31, .inl v_s))] sz) := by
  refine Met.ofW (cc := cX6_undo) (maxL := 2) (ret := (some .int)) (by decide) rfl ?_
  intro p e s m args below meth c s₁ B hml hv
  obtain ⟨rfl, hsz, hP, hK, hN, hD0⟩ := hv
  have hx := B.exec
  have hb := B.bytes
  have hr := B.returns
  have hts := atoms_spec (ws := wsX6_undo) B.pre
  have hown : s.vm.findClass RX6 = some m.cls := findClass_of_methodNamed B.named
  have hlocks := B.notSynchronized
  subst hsz
  have hD := hD0.self (sz := s.heap.size)
  generalize hAe : va_A [(a_this, .inr (5, [.int v_thrown, .ref a_this_s, .ref a_this_aside, .ref a_this_saved, .int v_savedMany, .ref a_this_text, .int v_length, .ref a_this_states, .int v_many, .int v_at, .int v_isWrong, .int v_letters, .int v_matched, .ref a_this_rows, .int v_manyRows, .long v_digested])), (a_this_saved, .inl (cI, 186, .inl v_saved)), (a_this_s, .inl (cI, 31, .inl v_s))] s.heap.size = A at hD ⊢
  have hA : ∀ q : Nat, s.heap.size ≤ q → A q := fun q h => by rw [← hAe]; exact Or.inr h
  have hS : va_S A s.heap s.heap [] := va_S.rf
  have hl := lv_entry ([.ref a_this]) (n := 2) (Nat.le_of_ble_eq_true rfl)
  rw [lg_entry_eq]
  generalize (lg_sl ([.ref a_this]) ++ List.replicate (2 - (lg_sl ([.ref a_this])).length) Slot.unset).toArray = ls at hl ⊢
  have hl : lv_has ls 2 [(0, .ref a_this)] := hl
  change W p l e rm_X6_undo s m (([.ref a_this] : List Value).toArray) below meth c s.heap [] 0 0 _ (F0 m 0 ls [])
  generalize hQe : MQ below (mQi D A [(a_this, .inr (5, [.int w_thrown, .ref a_this_s, .ref a_this_aside, .ref a_this_saved, .int w_savedMany, .ref a_this_text, .int v_length, .ref a_this_states, .int v_many, .int v_at, .int v_isWrong, .int v_letters, .int v_matched, .ref a_this_rows, .int v_manyRows, .long v_digested])), (a_this_saved, .inl (cI, 186, .inl v_saved)), (a_this_s, .inl (cI, 31, .inl w_s))] r0) (([.ref a_this] : List Value).toArray) s 0 0 A = Q
  rw [D_X6_undo] at hden
  have hin_X6 : ∀ w ∈ wsX60, w ∈ wsX6_undo := by decide +kernel
  have w_35 := hts (.fieldLink RX6 35 "FallingPatternsModel" "savedMany" "I") (by decide +kernel)
  have w_7 := hts (.fieldLink RX6 7 "FallingPatternsModel" "s" "[I") (by decide +kernel)
  have w_16 := hts (.fieldLink RX6 16 "FallingPatternsModel" "saved" "[I") (by decide +kernel)
  refine lv_aload_n hx hb dX6_undo_0 rfl (lv_at hl 0 rfl) ?_
  refine lv_aload_n hx hb dX6_undo_1 rfl (lv_at hl 0 rfl) ?_
  refine va_get (D := D) (ci := 5) (v := .int v_savedMany) (C := RX6) (T := TX6) (N := 16) hx hb hts hin_X6 hown hK hP 0 rfl rfl 4 (by decide) w_35 (fun _ h9 => h9) rfl dX6_undo_2 ?_
  obtain ⟨j13, ej13, hden⟩ := jp_s hden
  have hj13 : ∀ (t_1 : Int32) (H : Heap) (locs : List Loc), va_P D vwCl [(a_this, .inr (5, [.int v_thrown, .ref a_this_s, .ref a_this_aside, .ref a_this_saved, .int v_savedMany, .ref a_this_text, .int v_length, .ref a_this_states, .int v_many, .int v_at, .int v_isWrong, .int v_letters, .int v_matched, .ref a_this_rows, .int v_manyRows, .long v_digested])), (a_this_saved, .inl (cI, 186, .inl v_saved)), (a_this_s, .inl (cI, 31, .inl v_s))] H → va_D A [(a_this, .inr (5, [.int v_thrown, .ref a_this_s, .ref a_this_aside, .ref a_this_saved, .int v_savedMany, .ref a_this_text, .int v_length, .ref a_this_states, .int v_many, .int v_at, .int v_isWrong, .int v_letters, .int v_matched, .ref a_this_rows, .int v_manyRows, .long v_digested])), (a_this_saved, .inl (cI, 186, .inl v_saved)), (a_this_s, .inl (cI, 31, .inl v_s))] → va_S A s.heap H locs → ∀ ls : Array Slot, lv_has ls 2 [(0, .ref a_this)] → j13 t_1 = some (r0, w_thrown, w_savedMany, w_s) → W p l e rm_X6_undo s m (([.ref a_this] : List Value).toArray) below meth c H locs 0 0 Q (F0 m 13 ls [.int t_1, .ref a_this]) := by
    intro t_1 H locs hP hD hS ls hl hden
    rw [ej13] at hden
    obtain ⟨⟨r_2, v_thrown_3⟩, hc_4, hden⟩ := bnd_s hden
    refine m_ci (wc := [(a_this, .inr (5, [.int v_thrown, .ref a_this_s, .ref a_this_aside, .ref a_this_saved, .int v_savedMany, .ref a_this_text, .int v_length, .ref a_this_states, .int v_many, .int v_at, .int v_isWrong, .int v_letters, .int v_matched, .ref a_this_rows, .int v_manyRows, .long v_digested]))]) (wr := [(a_this_saved, .inl (cI, 186, .inl v_saved)), (a_this_s, .inl (cI, 31, .inl v_s))]) (wc' := [(a_this, .inr (5, [.int v_thrown_3, .ref a_this_s, .ref a_this_aside, .ref a_this_saved, .int v_savedMany, .ref a_this_text, .int v_length, .ref a_this_states, .int v_many, .int v_at, .int v_isWrong, .int v_letters, .int v_matched, .ref a_this_rows, .int v_manyRows, .long v_digested]))]) (va_runV (As := [.int t_1]) (rest := []) ⟨hx, hb, hml, hown, hts⟩ (c_X6_holds l D cI cM cL F hc_4) (cwV 1 hts gX6_undo_X6_holds rfl rfl rfl (by decide +kernel) ⟨Nat.le_of_ble_eq_true rfl, Nat.le_of_ble_eq_true rfl⟩) (mPreV (ci := 5) (q0 := 0) (r := (RX6, TX6, 16)) hP hD hK hN [0] (by decide) rfl rfl rfl) rfl rfl hl.1 rfl (lv_room (Nat.le_of_ble_eq_true rfl)) dX6_undo_13 ⟨Nat.le_of_ble_eq_true rfl, Nat.le_of_ble_eq_true rfl⟩) hP hD hS hA [0] [1, 2] rfl rfl (by decide) (by decide) (fun H locs hP hD hS => ?_)
    have hP : va_P D vwCl [(a_this_saved, .inl (cI, 186, .inl v_saved)), (a_this_s, .inl (cI, 31, .inl v_s)), (a_this, .inr (5, [.int v_thrown_3, .ref a_this_s, .ref a_this_aside, .ref a_this_saved, .int v_savedMany, .ref a_this_text, .int v_length, .ref a_this_states, .int v_many, .int v_at, .int v_isWrong, .int v_letters, .int v_matched, .ref a_this_rows, .int v_manyRows, .long v_digested]))] H := hP
    have hD : va_D A [(a_this_saved, .inl (cI, 186, .inl v_saved)), (a_this_s, .inl (cI, 31, .inl v_s)), (a_this, .inr (5, [.int v_thrown_3, .ref a_this_s, .ref a_this_aside, .ref a_this_saved, .int v_savedMany, .ref a_this_text, .int v_length, .ref a_this_states, .int v_many, .int v_at, .int v_isWrong, .int v_letters, .int v_matched, .ref a_this_rows, .int v_manyRows, .long v_digested]))] := hD
    refine lv_if_ne (tgt := 21) hx hb dX6_undo_16 (by decide) (fun c_23 => ?_) (fun c_23 => ?_)
    · have hden := ifn_s hden c_23
      refine lv_aload_n hx hb dX6_undo_21 rfl (lv_at hl 0 rfl) ?_
      refine lv_dup hx hb dX6_undo_22 rfl ?_
      refine va_get (D := D) (ci := 5) (v := .int v_savedMany) (C := RX6) (T := TX6) (N := 16) hx hb hts hin_X6 hown hK hP 2 rfl rfl 4 (by decide) w_35 (fun _ h9 => h9) rfl dX6_undo_23 ?_
      refine lv_iconst (v := 1) hx hb dX6_undo_26 (by decide) ?_
      refine lv_isub hx hb dX6_undo_27 ?_
      refine lv_topi (fun f_savedMany_5 ef_savedMany_5 => ?_)
      have hden := nm_s hden ef_savedMany_5
      refine va_put (D := D) (ci := 5) (v := .int f_savedMany_5) (ty := .int) (C := RX6) (T := TX6) (N := 16) hx hb hts hin_X6 tyX6 tyX6_ok nmX6 hown hK hP hD hS 2 rfl rfl 4 (by decide) w_35 (fun _ h9 => h9) rfl (by decide +kernel) rfl rfl (Nat.le_of_ble_eq_true rfl) dX6_undo_28 (fun H locs hP hD hS => ?_)
      have hP : va_P D vwCl [(a_this_saved, .inl (cI, 186, .inl v_saved)), (a_this_s, .inl (cI, 31, .inl v_s)), (a_this, .inr (5, [.int v_thrown_3, .ref a_this_s, .ref a_this_aside, .ref a_this_saved, .int f_savedMany_5, .ref a_this_text, .int v_length, .ref a_this_states, .int v_many, .int v_at, .int v_isWrong, .int v_letters, .int v_matched, .ref a_this_rows, .int v_manyRows, .long v_digested]))] H := hP
      have hD : va_D A [(a_this_saved, .inl (cI, 186, .inl v_saved)), (a_this_s, .inl (cI, 31, .inl v_s)), (a_this, .inr (5, [.int v_thrown_3, .ref a_this_s, .ref a_this_aside, .ref a_this_saved, .int f_savedMany_5, .ref a_this_text, .int v_length, .ref a_this_states, .int v_many, .int v_at, .int v_isWrong, .int v_letters, .int v_matched, .ref a_this_rows, .int v_manyRows, .long v_digested]))] := hD
      refine lv_iconst (v := 0) hx hb dX6_undo_31 (by decide) ?_
      refine lv_istore_n (lv' := [(1, .int 0), (0, .ref a_this)]) hx hb dX6_undo_32 rfl hl (by decide) rfl (fun ls hl => ?_)
      have hL33__16 : ∀ (n : Nat) (x1_14 : Int32) (v_s_15 : (Nat → Int32)) (H : Heap) (locs : List Loc), va_P D vwCl [(a_this, .inr (5, [.int v_thrown_3, .ref a_this_s, .ref a_this_aside, .ref a_this_saved, .int f_savedMany_5, .ref a_this_text, .int v_length, .ref a_this_states, .int v_many, .int v_at, .int v_isWrong, .int v_letters, .int v_matched, .ref a_this_rows, .int v_manyRows, .long v_digested])), (a_this_saved, .inl (cI, 186, .inl v_saved)), (a_this_s, .inl (cI, 31, .inl v_s_15))] H → va_D A [(a_this, .inr (5, [.int v_thrown_3, .ref a_this_s, .ref a_this_aside, .ref a_this_saved, .int f_savedMany_5, .ref a_this_text, .int v_length, .ref a_this_states, .int v_many, .int v_at, .int v_isWrong, .int v_letters, .int v_matched, .ref a_this_rows, .int v_manyRows, .long v_digested])), (a_this_saved, .inl (cI, 186, .inl v_saved)), (a_this_s, .inl (cI, 31, .inl v_s_15))] → va_S A s.heap H locs → ∀ ls : Array Slot, lv_has ls 2 [(0, .ref a_this), (1, .int x1_14)] → L_X6_undo_33 F f_savedMany_5 v_thrown_3 v_saved n x1_14 v_s_15 = some (r0, w_thrown, w_savedMany, w_s) → W p l e rm_X6_undo s m (([.ref a_this] : List Value).toArray) below meth c H locs 0 0 Q (F0 m 33 ls []) := by
        intro n
        induction n with
        | zero => intro x1_14 v_s_15 H locs hP hD hS ls hl hden; exact no_none hden
        | succ n ih =>
          intro x1_14 v_s_15 H locs hP hD hS ls hl hden
          rw [L_X6_undo_33] at hden
          refine lv_iload_n hx hb dX6_undo_33 rfl (lv_at hl 1 rfl) ?_
          refine lv_bipush (v := 31) hx hb dX6_undo_34 (by decide) ?_
          refine lv_icmp_ge (tgt := 65) hx hb dX6_undo_36 (by decide) (fun c_22 => ?_) (fun c_22 => ?_)
          · have hden := if_s hden c_22
            refine lv_aload_n hx hb dX6_undo_65 rfl (lv_at hl 0 rfl) ?_
            refine va_get (D := D) (ci := 5) (v := .int f_savedMany_5) (C := RX6) (T := TX6) (N := 16) hx hb hts hin_X6 hown hK hP 0 rfl rfl 4 (by decide) w_35 (fun _ h9 => h9) rfl dX6_undo_66 ?_
            subst hQe
            cases hden
            exact m_ri hx hb hr hP hD hS [0, 1, 2] (by decide) rfl rfl dX6_undo_69 hlocks
          · have hden := ifn_s hden c_22
            refine lv_aload_n hx hb dX6_undo_39 rfl (lv_at hl 0 rfl) ?_
            refine va_get (D := D) (ci := 5) (v := .ref a_this_s) (C := RX6) (T := TX6) (N := 16) hx hb hts hin_X6 hown hK hP 0 rfl rfl 1 (by decide) w_7 (fun _ h9 => h9) rfl dX6_undo_40 ?_
            refine lv_iload_n hx hb dX6_undo_43 rfl (lv_at hl 1 rfl) ?_
            refine lv_aload_n hx hb dX6_undo_44 rfl (lv_at hl 0 rfl) ?_
            refine va_get (D := D) (ci := 5) (v := .ref a_this_saved) (C := RX6) (T := TX6) (N := 16) hx hb hts hin_X6 hown hK hP 0 rfl rfl 3 (by decide) w_16 (fun _ h9 => h9) rfl dX6_undo_45 ?_
            refine lv_bipush (v := 31) hx hb dX6_undo_48 (by decide) ?_
            refine lv_aload_n hx hb dX6_undo_50 rfl (lv_at hl 0 rfl) ?_
            refine va_get (D := D) (ci := 5) (v := .int f_savedMany_5) (C := RX6) (T := TX6) (N := 16) hx hb hts hin_X6 hown hK hP 0 rfl rfl 4 (by decide) w_35 (fun _ h9 => h9) rfl dX6_undo_51 ?_
            refine lv_imul hx hb dX6_undo_54 ?_
            refine lv_iload_n hx hb dX6_undo_55 rfl (lv_at hl 1 rfl) ?_
            refine lv_iadd hx hb dX6_undo_56 ?_
            obtain ⟨hg_17, hden⟩ := grd_s hden
            refine va_iald hx hb hK hP 1 0 rfl rfl (inb_in hg_17) dX6_undo_57 ?_
            refine lv_topi (fun y_18 ey_18 => ?_)
            have hden := nm_s hden ey_18
            obtain ⟨hg_19, hden⟩ := grd_s hden
            refine va_iast hx hb hK hP hD hS 2 0 rfl rfl (inb_in hg_19) dX6_undo_58 (fun H locs hP hD hS => ?_)
            obtain ⟨v_s_20, ev_s_20, hden⟩ := nm_x hden
            have hP : va_P D vwCl [(a_this, .inr (5, [.int v_thrown_3, .ref a_this_s, .ref a_this_aside, .ref a_this_saved, .int f_savedMany_5, .ref a_this_text, .int v_length, .ref a_this_states, .int v_many, .int v_at, .int v_isWrong, .int v_letters, .int v_matched, .ref a_this_rows, .int v_manyRows, .long v_digested])), (a_this_saved, .inl (cI, 186, .inl v_saved)), (a_this_s, .inl (cI, 31, .inl v_s_20))] H := by rw [ev_s_20]; exact hP
            have hD : va_D A [(a_this, .inr (5, [.int v_thrown_3, .ref a_this_s, .ref a_this_aside, .ref a_this_saved, .int f_savedMany_5, .ref a_this_text, .int v_length, .ref a_this_states, .int v_many, .int v_at, .int v_isWrong, .int v_letters, .int v_matched, .ref a_this_rows, .int v_manyRows, .long v_digested])), (a_this_saved, .inl (cI, 186, .inl v_saved)), (a_this_s, .inl (cI, 31, .inl v_s_20))] := by rw [ev_s_20]; exact hD
            obtain ⟨x1_21, ex1_21, hden⟩ := nm_x hden
            refine lv_iinc (v := x1_21) (lv' := [(1, .int x1_21), (0, .ref a_this)]) hx hb dX6_undo_59 hl (k := 1) rfl (by rw [ex1_21]; rfl) (by decide) rfl (fun ls hl => ?_)
            refine lv_goto (tgt := 33) hx hb dX6_undo_62 (by decide) ?_
            exact ih x1_21 v_s_20 _ _ (mSubP hP [0, 1, 2] rfl) (hD.sub [0, 1, 2] (by decide) rfl) hS ls (lv_sub hl [1, 0] rfl) hden
      exact hL33__16 F 0 v_s _ _ (mSubP hP [2, 0, 1] rfl) (hD.sub [2, 0, 1] (by decide) rfl) hS ls (lv_sub hl [1, 0] rfl) hden
    · have hden := if_s hden c_23
      refine lv_iconst (v := 0) hx hb dX6_undo_19 (by decide) ?_
      subst hQe
      cases hden
      exact m_ri hx hb hr hP hD hS [2, 0, 1] (by decide) rfl rfl dX6_undo_20 hlocks
  clear ej13
  refine lv_if_le (tgt := 12) hx hb dX6_undo_5 (by decide) (fun c_24 => ?_) (fun c_24 => ?_)
  · have hden := if_s hden c_24
    refine lv_iconst (v := 1) hx hb dX6_undo_12 (by decide) ?_
    exact hj13 1 _ _ (mSubP hP [0, 1, 2] rfl) (hD.sub [0, 1, 2] (by decide) rfl) hS ls (lv_sub hl [0] rfl) hden
  · have hden := ifn_s hden c_24
    refine lv_iconst (v := 0) hx hb dX6_undo_8 (by decide) ?_
    refine lv_goto (tgt := 13) hx hb dX6_undo_9 (by decide) ?_
    exact hj13 0 _ _ (mSubP hP [0, 1, 2] rfl) (hD.sub [0, 1, 2] (by decide) rfl) hS ls (lv_sub hl [0] rfl) hden
def L_X6_parts_5 (F : Nat) (y1 : Int32) (y2 : Int32) (v_s : (Nat → Int32)) : Nat → Int32 → Int32 → Option (Int32)
  | 0, _, _ => none
  | n + 1, x3_1, x4_2 => (if 8 ≤ x4_2 then some (x3_1) else jp (fun (t_3 : Int32) => grd (inb ((0 : Int32) + t_3) 31) (nm (v_s ((0 : Int32) + t_3).toNatClampNeg) (fun x5_5 => jp (fun (t_6 : Int32) => grd (inb ((0 : Int32) + t_6) 31) (nm (v_s ((0 : Int32) + t_6).toNatClampNeg) (fun x6_8 => (if x4_2 = y1 then nm (x3_1 + 0) (fun x3_9 => nm (x4_2 + 1) (fun x4_10 => L_X6_parts_5 F y1 y2 v_s n x3_9 x4_10)) else bnd (D_X6_isThere F x4_2 v_s) (fun r_11 => (if r_11 = 0 then nm (x3_1 + 0) (fun x3_13 => nm (x4_2 + 1) (fun x4_14 => L_X6_parts_5 F y1 y2 v_s n x3_13 x4_14)) else bnd (D_X6_isPart F x5_5 x6_8) (fun r_15 => (if r_15 = 0 then nm (x3_1 + 0) (fun x3_17 => nm (x4_2 + 1) (fun x4_18 => L_X6_parts_5 F y1 y2 v_s n x3_17 x4_18)) else nm (x3_1 + 1) (fun x3_19 => nm (x4_2 + 1) (fun x4_20 => L_X6_parts_5 F y1 y2 v_s n x3_19 x4_20)))))))))) (fun j46 => (if y2 = 0 then j46 x4_2 else j46 y1))))) (fun j27 => (if y2 = 0 then j27 y1 else j27 x4_2)))
def D_X6_parts (F : Nat) (p1 : Int32) (p2 : Int32) (v_s : (Nat → Int32)) : Option (Int32) := L_X6_parts_5 F p1 p2 v_s F 0 0
def rm_X6_parts : Room := { frames := 3, cells := 0, slots := 0, locals := 65 }
set_option maxHeartbeats 4000000 in
set_option maxRecDepth 100000 in
theorem c_X6_parts (l : Launch) (D : va_G) (cI cM cL : ClassId) (F : Nat) {a_this a_this_s a_this_aside a_this_saved a_this_text a_this_states a_this_rows : Nat} {sz : Nat} {v_thrown v_savedMany v_length v_many v_at v_isWrong v_letters v_matched v_manyRows : Int32} {v_digested : Int64} {v_s : Nat → Int32} {p1 : Int32} {p2 : Int32} {r0 : Int32} (hden : D_X6_parts F p1 p2 v_s = some (r0)) : Met l yX6_parts wsX6_parts rm_X6_parts (va_Pc [.ref a_this, .int p1, .int p2] (mB D (mTy cI cM cL) sz [(a_this, .inr (5, [.int v_thrown, .ref a_this_s, .ref a_this_aside, .ref a_this_saved, .int v_savedMany, .ref a_this_text, .int v_length, .ref a_this_states, .int v_many, .int v_at, .int v_isWrong, .int v_letters, .int v_matched, .ref a_this_rows, .int v_manyRows, .long v_digested])), (a_this_s, .inl (cI, 31, .inl v_s))])) (mQi D (va_A [(a_this, .inr (5, [.int v_thrown, .ref a_this_s, .ref a_this_aside, .ref a_this_saved, .int v_savedMany, .ref a_this_text, .int v_length, .ref a_this_states, .int v_many, .int v_at, .int v_isWrong, .int v_letters, .int v_matched, .ref a_this_rows, .int v_manyRows, .long v_digested])), (a_this_s, .inl (cI, 31, .inl v_s))] sz) [(a_this, .inr (5, [.int v_thrown, .ref a_this_s, .ref a_this_aside, .ref a_this_saved, .int v_savedMany, .ref a_this_text, .int v_length, .ref a_this_states, .int v_many, .int v_at, .int v_isWrong, .int v_letters, .int v_matched, .ref a_this_rows, .int v_manyRows, .long v_digested])), (a_this_s, .inl (cI, 31, .inl v_s))] r0) 0 0 (va_A [(a_this, .inr (5, [.int v_thrown, .ref a_this_s, .ref a_this_aside, .ref a_this_saved, .int v_savedMany, .ref a_this_text, .int v_length, .ref a_this_states, .int v_many, .int v_at, .int v_isWrong, .int v_letters, .int v_matched, .ref a_this_rows, .int v_manyRows, .long v_digested])), (a_this_s, .inl (cI, 31, .inl v_s))] sz) := by
  refine Met.ofW (cc := cX6_parts) (maxL := 7) (ret := (some .int)) (by decide) rfl ?_
  intro p e s m args below meth c s₁ B hml hv
  obtain ⟨rfl, hsz, hP, hK, hN, hD0⟩ := hv
  have hx := B.exec
  have hb := B.bytes
  have hr := B.returns
  have hts := atoms_spec (ws := wsX6_parts) B.pre
  have hown : s.vm.findClass RX6 = some m.cls := findClass_of_methodNamed B.named
  have hlocks := B.notSynchronized
  subst hsz
  have hD := hD0.self (sz := s.heap.size)
  generalize hAe : va_A [(a_this, .inr (5, [.int v_thrown, .ref a_this_s, .ref a_this_aside, .ref a_this_saved, .int v_savedMany, .ref a_this_text, .int v_length, .ref a_this_states, .int v_many, .int v_at, .int v_isWrong, .int v_letters, .int v_matched, .ref a_this_rows, .int v_manyRows, .long v_digested])), (a_this_s, .inl (cI, 31, .inl v_s))] s.heap.size = A at hD ⊢
  have hA : ∀ q : Nat, s.heap.size ≤ q → A q := fun q h => by rw [← hAe]; exact Or.inr h
  have hS : va_S A s.heap s.heap [] := va_S.rf
  have hl := lv_entry ([.ref a_this, .int p1, .int p2]) (n := 7) (Nat.le_of_ble_eq_true rfl)
  rw [lg_entry_eq]
  generalize (lg_sl ([.ref a_this, .int p1, .int p2]) ++ List.replicate (7 - (lg_sl ([.ref a_this, .int p1, .int p2])).length) Slot.unset).toArray = ls at hl ⊢
  have hl : lv_has ls 7 [(0, .ref a_this), (1, .int p1), (2, .int p2)] := hl
  change W p l e rm_X6_parts s m (([.ref a_this, .int p1, .int p2] : List Value).toArray) below meth c s.heap [] 0 0 _ (F0 m 0 ls [])
  generalize hQe : MQ below (mQi D A [(a_this, .inr (5, [.int v_thrown, .ref a_this_s, .ref a_this_aside, .ref a_this_saved, .int v_savedMany, .ref a_this_text, .int v_length, .ref a_this_states, .int v_many, .int v_at, .int v_isWrong, .int v_letters, .int v_matched, .ref a_this_rows, .int v_manyRows, .long v_digested])), (a_this_s, .inl (cI, 31, .inl v_s))] r0) (([.ref a_this, .int p1, .int p2] : List Value).toArray) s 0 0 A = Q
  rw [D_X6_parts] at hden
  have hin_X6 : ∀ w ∈ wsX60, w ∈ wsX6_parts := by decide +kernel
  have w_7 := hts (.fieldLink RX6 7 "FallingPatternsModel" "s" "[I") (by decide +kernel)
  refine lv_iconst (v := 0) hx hb dX6_parts_0 (by decide) ?_
  refine lv_istore_n (lv' := [(3, .int 0), (0, .ref a_this), (1, .int p1), (2, .int p2)]) hx hb dX6_parts_1 rfl hl (by decide) rfl (fun ls hl => ?_)
  refine lv_iconst (v := 0) hx hb dX6_parts_2 (by decide) ?_
  refine lv_istore (lv' := [(4, .int 0), (3, .int 0), (0, .ref a_this), (1, .int p1), (2, .int p2)]) hx hb dX6_parts_3 hl (by decide) rfl (fun ls hl => ?_)
  have hL5__29 : ∀ (n : Nat) (x3_27 : Int32) (x4_28 : Int32) (H : Heap) (locs : List Loc), va_P D vwCl [(a_this, .inr (5, [.int v_thrown, .ref a_this_s, .ref a_this_aside, .ref a_this_saved, .int v_savedMany, .ref a_this_text, .int v_length, .ref a_this_states, .int v_many, .int v_at, .int v_isWrong, .int v_letters, .int v_matched, .ref a_this_rows, .int v_manyRows, .long v_digested])), (a_this_s, .inl (cI, 31, .inl v_s))] H → va_D A [(a_this, .inr (5, [.int v_thrown, .ref a_this_s, .ref a_this_aside, .ref a_this_saved, .int v_savedMany, .ref a_this_text, .int v_length, .ref a_this_states, .int v_many, .int v_at, .int v_isWrong, .int v_letters, .int v_matched, .ref a_this_rows, .int v_manyRows, .long v_digested])), (a_this_s, .inl (cI, 31, .inl v_s))] → va_S A s.heap H locs → ∀ ls : Array Slot, lv_has ls 7 [(0, .ref a_this), (1, .int p1), (2, .int p2), (3, .int x3_27), (4, .int x4_28)] → L_X6_parts_5 F p1 p2 v_s n x3_27 x4_28 = some (r0) → W p l e rm_X6_parts s m (([.ref a_this, .int p1, .int p2] : List Value).toArray) below meth c H locs 0 0 Q (F0 m 5 ls []) := by
    intro n
    induction n with
    | zero => intro x3_27 x4_28 H locs hP hD hS ls hl hden; exact no_none hden
    | succ n ih =>
      intro x3_27 x4_28 H locs hP hD hS ls hl hden
      rw [L_X6_parts_5] at hden
      refine lv_iload hx hb dX6_parts_5 (lv_at hl 4 rfl) ?_
      refine lv_bipush (v := 8) hx hb dX6_parts_7 (by decide) ?_
      refine lv_icmp_ge (tgt := 89) hx hb dX6_parts_9 (by decide) (fun c_53 => ?_) (fun c_53 => ?_)
      · have hden := if_s hden c_53
        refine lv_iload_n hx hb dX6_parts_89 rfl (lv_at hl 3 rfl) ?_
        subst hQe
        cases hden
        exact m_ri hx hb hr hP hD hS [0, 1] (by decide) rfl rfl dX6_parts_90 hlocks
      · have hden := ifn_s hden c_53
        refine lv_aload_n hx hb dX6_parts_12 rfl (lv_at hl 0 rfl) ?_
        refine va_get (D := D) (ci := 5) (v := .ref a_this_s) (C := RX6) (T := TX6) (N := 16) hx hb hts hin_X6 hown hK hP 0 rfl rfl 1 (by decide) w_7 (fun _ h9 => h9) rfl dX6_parts_13 ?_
        refine lv_iconst (v := 0) hx hb dX6_parts_16 (by decide) ?_
        refine lv_iload_n hx hb dX6_parts_17 rfl (lv_at hl 2 rfl) ?_
        obtain ⟨j27, ej27, hden⟩ := jp_s hden
        have hj27 : ∀ (t_30 : Int32) (H : Heap) (locs : List Loc), va_P D vwCl [(a_this, .inr (5, [.int v_thrown, .ref a_this_s, .ref a_this_aside, .ref a_this_saved, .int v_savedMany, .ref a_this_text, .int v_length, .ref a_this_states, .int v_many, .int v_at, .int v_isWrong, .int v_letters, .int v_matched, .ref a_this_rows, .int v_manyRows, .long v_digested])), (a_this_s, .inl (cI, 31, .inl v_s))] H → va_D A [(a_this, .inr (5, [.int v_thrown, .ref a_this_s, .ref a_this_aside, .ref a_this_saved, .int v_savedMany, .ref a_this_text, .int v_length, .ref a_this_states, .int v_many, .int v_at, .int v_isWrong, .int v_letters, .int v_matched, .ref a_this_rows, .int v_manyRows, .long v_digested])), (a_this_s, .inl (cI, 31, .inl v_s))] → va_S A s.heap H locs → ∀ ls : Array Slot, lv_has ls 7 [(0, .ref a_this), (1, .int p1), (2, .int p2), (3, .int x3_27), (4, .int x4_28)] → j27 t_30 = some (r0) → W p l e rm_X6_parts s m (([.ref a_this, .int p1, .int p2] : List Value).toArray) below meth c H locs 0 0 Q (F0 m 27 ls [.int t_30, .int 0, .ref a_this_s]) := by
          intro t_30 H locs hP hD hS ls hl hden
          rw [ej27] at hden
          refine lv_iadd hx hb dX6_parts_27 ?_
          obtain ⟨hg_31, hden⟩ := grd_s hden
          refine va_iald hx hb hK hP 1 0 rfl rfl (inb_in hg_31) dX6_parts_28 ?_
          refine lv_topi (fun x5_32 ex5_32 => ?_)
          have hden := nm_s hden ex5_32
          refine lv_istore (lv' := [(5, .int x5_32), (0, .ref a_this), (1, .int p1), (2, .int p2), (3, .int x3_27), (4, .int x4_28)]) hx hb dX6_parts_29 hl (by decide) rfl (fun ls hl => ?_)
          refine lv_aload_n hx hb dX6_parts_31 rfl (lv_at hl 1 rfl) ?_
          refine va_get (D := D) (ci := 5) (v := .ref a_this_s) (C := RX6) (T := TX6) (N := 16) hx hb hts hin_X6 hown hK hP 0 rfl rfl 1 (by decide) w_7 (fun _ h9 => h9) rfl dX6_parts_32 ?_
          refine lv_iconst (v := 0) hx hb dX6_parts_35 (by decide) ?_
          refine lv_iload_n hx hb dX6_parts_36 rfl (lv_at hl 3 rfl) ?_
          obtain ⟨j46, ej46, hden⟩ := jp_s hden
          have hj46 : ∀ (t_33 : Int32) (H : Heap) (locs : List Loc), va_P D vwCl [(a_this, .inr (5, [.int v_thrown, .ref a_this_s, .ref a_this_aside, .ref a_this_saved, .int v_savedMany, .ref a_this_text, .int v_length, .ref a_this_states, .int v_many, .int v_at, .int v_isWrong, .int v_letters, .int v_matched, .ref a_this_rows, .int v_manyRows, .long v_digested])), (a_this_s, .inl (cI, 31, .inl v_s))] H → va_D A [(a_this, .inr (5, [.int v_thrown, .ref a_this_s, .ref a_this_aside, .ref a_this_saved, .int v_savedMany, .ref a_this_text, .int v_length, .ref a_this_states, .int v_many, .int v_at, .int v_isWrong, .int v_letters, .int v_matched, .ref a_this_rows, .int v_manyRows, .long v_digested])), (a_this_s, .inl (cI, 31, .inl v_s))] → va_S A s.heap H locs → ∀ ls : Array Slot, lv_has ls 7 [(0, .ref a_this), (1, .int p1), (2, .int p2), (3, .int x3_27), (4, .int x4_28), (5, .int x5_32)] → j46 t_33 = some (r0) → W p l e rm_X6_parts s m (([.ref a_this, .int p1, .int p2] : List Value).toArray) below meth c H locs 0 0 Q (F0 m 46 ls [.int t_33, .int 0, .ref a_this_s]) := by
            intro t_33 H locs hP hD hS ls hl hden
            rw [ej46] at hden
            refine lv_iadd hx hb dX6_parts_46 ?_
            obtain ⟨hg_34, hden⟩ := grd_s hden
            refine va_iald hx hb hK hP 1 0 rfl rfl (inb_in hg_34) dX6_parts_47 ?_
            refine lv_topi (fun x6_35 ex6_35 => ?_)
            have hden := nm_s hden ex6_35
            refine lv_istore (lv' := [(6, .int x6_35), (0, .ref a_this), (1, .int p1), (2, .int p2), (3, .int x3_27), (4, .int x4_28), (5, .int x5_32)]) hx hb dX6_parts_48 hl (by decide) rfl (fun ls hl => ?_)
            refine lv_iload_n hx hb dX6_parts_50 rfl (lv_at hl 4 rfl) ?_
            refine lv_iload hx hb dX6_parts_51 (lv_at hl 5 rfl) ?_
            refine lv_iload_n hx hb dX6_parts_53 rfl (lv_at hl 2 rfl) ?_
            refine lv_icmp_eq (tgt := 80) hx hb dX6_parts_54 (by decide) (fun c_50 => ?_) (fun c_50 => ?_)
            · have hden := if_s hden c_50
              refine lv_iconst (v := 0) hx hb dX6_parts_80 (by decide) ?_
              refine lv_iadd hx hb dX6_parts_81 ?_
              refine lv_topi (fun x3_36 ex3_36 => ?_)
              have hden := nm_s hden ex3_36
              refine lv_istore_n (lv' := [(3, .int x3_36), (6, .int x6_35), (0, .ref a_this), (1, .int p1), (2, .int p2), (4, .int x4_28), (5, .int x5_32)]) hx hb dX6_parts_82 rfl hl (by decide) rfl (fun ls hl => ?_)
              obtain ⟨x4_37, ex4_37, hden⟩ := nm_x hden
              refine lv_iinc (v := x4_37) (lv' := [(4, .int x4_37), (3, .int x3_36), (6, .int x6_35), (0, .ref a_this), (1, .int p1), (2, .int p2), (5, .int x5_32)]) hx hb dX6_parts_83 hl (k := 5) rfl (by rw [ex4_37]; rfl) (by decide) rfl (fun ls hl => ?_)
              refine lv_goto (tgt := 5) hx hb dX6_parts_86 (by decide) ?_
              exact ih x3_36 x4_37 _ _ (mSubP hP [0, 1] rfl) (hD.sub [0, 1] (by decide) rfl) hS ls (lv_sub hl [3, 4, 5, 1, 0] rfl) hden
            · have hden := ifn_s hden c_50
              refine lv_aload_n hx hb dX6_parts_57 rfl (lv_at hl 1 rfl) ?_
              refine lv_iload hx hb dX6_parts_58 (lv_at hl 5 rfl) ?_
              obtain ⟨r_38, hc_39, hden⟩ := bnd_s hden
              refine m_ci (wc := [(a_this, .inr (5, [.int v_thrown, .ref a_this_s, .ref a_this_aside, .ref a_this_saved, .int v_savedMany, .ref a_this_text, .int v_length, .ref a_this_states, .int v_many, .int v_at, .int v_isWrong, .int v_letters, .int v_matched, .ref a_this_rows, .int v_manyRows, .long v_digested])), (a_this_s, .inl (cI, 31, .inl v_s))]) (wr := []) (wc' := [(a_this, .inr (5, [.int v_thrown, .ref a_this_s, .ref a_this_aside, .ref a_this_saved, .int v_savedMany, .ref a_this_text, .int v_length, .ref a_this_states, .int v_many, .int v_at, .int v_isWrong, .int v_letters, .int v_matched, .ref a_this_rows, .int v_manyRows, .long v_digested])), (a_this_s, .inl (cI, 31, .inl v_s))]) (va_runV (As := [.int x4_28]) (rest := [.int x3_27]) ⟨hx, hb, hml, hown, hts⟩ (c_X6_isThere l D cI cM cL F hc_39) (cwV 1 hts gX6_parts_X6_isThere rfl rfl rfl (by decide +kernel) ⟨Nat.le_of_ble_eq_true rfl, Nat.le_of_ble_eq_true rfl⟩) (mPreV (ci := 5) (q0 := 0) (r := (RX6, TX6, 16)) hP hD hK hN [0, 1] (by decide) rfl rfl rfl) rfl rfl hl.1 rfl (lv_room (Nat.le_of_ble_eq_true rfl)) dX6_parts_60 ⟨Nat.le_of_ble_eq_true rfl, Nat.le_of_ble_eq_true rfl⟩) hP hD hS hA [0, 1] [] rfl rfl (by decide) (by decide) (fun H locs hP hD hS => ?_)
              have hP : va_P D vwCl [(a_this, .inr (5, [.int v_thrown, .ref a_this_s, .ref a_this_aside, .ref a_this_saved, .int v_savedMany, .ref a_this_text, .int v_length, .ref a_this_states, .int v_many, .int v_at, .int v_isWrong, .int v_letters, .int v_matched, .ref a_this_rows, .int v_manyRows, .long v_digested])), (a_this_s, .inl (cI, 31, .inl v_s))] H := hP
              have hD : va_D A [(a_this, .inr (5, [.int v_thrown, .ref a_this_s, .ref a_this_aside, .ref a_this_saved, .int v_savedMany, .ref a_this_text, .int v_length, .ref a_this_states, .int v_many, .int v_at, .int v_isWrong, .int v_letters, .int v_matched, .ref a_this_rows, .int v_manyRows, .long v_digested])), (a_this_s, .inl (cI, 31, .inl v_s))] := hD
              refine lv_if_eq (tgt := 80) hx hb dX6_parts_63 (by decide) (fun c_49 => ?_) (fun c_49 => ?_)
              · have hden := if_s hden c_49
                refine lv_iconst (v := 0) hx hb dX6_parts_80 (by decide) ?_
                refine lv_iadd hx hb dX6_parts_81 ?_
                refine lv_topi (fun x3_40 ex3_40 => ?_)
                have hden := nm_s hden ex3_40
                refine lv_istore_n (lv' := [(3, .int x3_40), (6, .int x6_35), (0, .ref a_this), (1, .int p1), (2, .int p2), (4, .int x4_28), (5, .int x5_32)]) hx hb dX6_parts_82 rfl hl (by decide) rfl (fun ls hl => ?_)
                obtain ⟨x4_41, ex4_41, hden⟩ := nm_x hden
                refine lv_iinc (v := x4_41) (lv' := [(4, .int x4_41), (3, .int x3_40), (6, .int x6_35), (0, .ref a_this), (1, .int p1), (2, .int p2), (5, .int x5_32)]) hx hb dX6_parts_83 hl (k := 5) rfl (by rw [ex4_41]; rfl) (by decide) rfl (fun ls hl => ?_)
                refine lv_goto (tgt := 5) hx hb dX6_parts_86 (by decide) ?_
                exact ih x3_40 x4_41 _ _ (mSubP hP [0, 1] rfl) (hD.sub [0, 1] (by decide) rfl) hS ls (lv_sub hl [3, 4, 5, 1, 0] rfl) hden
              · have hden := ifn_s hden c_49
                refine lv_iload hx hb dX6_parts_66 (lv_at hl 6 rfl) ?_
                refine lv_iload hx hb dX6_parts_68 (lv_at hl 0 rfl) ?_
                obtain ⟨r_42, hc_43, hden⟩ := bnd_s hden
                refine m_ci (wc := []) (wr := [(a_this, .inr (5, [.int v_thrown, .ref a_this_s, .ref a_this_aside, .ref a_this_saved, .int v_savedMany, .ref a_this_text, .int v_length, .ref a_this_states, .int v_many, .int v_at, .int v_isWrong, .int v_letters, .int v_matched, .ref a_this_rows, .int v_manyRows, .long v_digested])), (a_this_s, .inl (cI, 31, .inl v_s))]) (wc' := []) (va_runS (As := [.int x5_32, .int x6_35]) (rest := [.int x3_27]) ⟨hx, hb, hml, hown, hts⟩ (c_X6_isPart l D cI cM cL F hc_43) (va_cwS 2 hts gX6_parts_X6_isPart rfl rfl rfl (by decide +kernel) ⟨Nat.le_of_ble_eq_true rfl, Nat.le_of_ble_eq_true rfl⟩) (mPreS hP hD hK hN [] (by decide) rfl) rfl rfl hl.1 rfl (lv_room (Nat.le_of_ble_eq_true rfl)) dX6_parts_70 ⟨Nat.le_of_ble_eq_true rfl, Nat.le_of_ble_eq_true rfl⟩) hP hD hS hA [] [0, 1] rfl rfl (by decide) (by decide) (fun H locs hP hD hS => ?_)
                have hP : va_P D vwCl [(a_this, .inr (5, [.int v_thrown, .ref a_this_s, .ref a_this_aside, .ref a_this_saved, .int v_savedMany, .ref a_this_text, .int v_length, .ref a_this_states, .int v_many, .int v_at, .int v_isWrong, .int v_letters, .int v_matched, .ref a_this_rows, .int v_manyRows, .long v_digested])), (a_this_s, .inl (cI, 31, .inl v_s))] H := hP
                have hD : va_D A [(a_this, .inr (5, [.int v_thrown, .ref a_this_s, .ref a_this_aside, .ref a_this_saved, .int v_savedMany, .ref a_this_text, .int v_length, .ref a_this_states, .int v_many, .int v_at, .int v_isWrong, .int v_letters, .int v_matched, .ref a_this_rows, .int v_manyRows, .long v_digested])), (a_this_s, .inl (cI, 31, .inl v_s))] := hD
                refine lv_if_eq (tgt := 80) hx hb dX6_parts_73 (by decide) (fun c_48 => ?_) (fun c_48 => ?_)
                · have hden := if_s hden c_48
                  refine lv_iconst (v := 0) hx hb dX6_parts_80 (by decide) ?_
                  refine lv_iadd hx hb dX6_parts_81 ?_
                  refine lv_topi (fun x3_44 ex3_44 => ?_)
                  have hden := nm_s hden ex3_44
                  refine lv_istore_n (lv' := [(3, .int x3_44), (6, .int x6_35), (0, .ref a_this), (1, .int p1), (2, .int p2), (4, .int x4_28), (5, .int x5_32)]) hx hb dX6_parts_82 rfl hl (by decide) rfl (fun ls hl => ?_)
                  obtain ⟨x4_45, ex4_45, hden⟩ := nm_x hden
                  refine lv_iinc (v := x4_45) (lv' := [(4, .int x4_45), (3, .int x3_44), (6, .int x6_35), (0, .ref a_this), (1, .int p1), (2, .int p2), (5, .int x5_32)]) hx hb dX6_parts_83 hl (k := 5) rfl (by rw [ex4_45]; rfl) (by decide) rfl (fun ls hl => ?_)
                  refine lv_goto (tgt := 5) hx hb dX6_parts_86 (by decide) ?_
                  exact ih x3_44 x4_45 _ _ (mSubP hP [0, 1] rfl) (hD.sub [0, 1] (by decide) rfl) hS ls (lv_sub hl [3, 4, 5, 1, 0] rfl) hden
                · have hden := ifn_s hden c_48
                  refine lv_iconst (v := 1) hx hb dX6_parts_76 (by decide) ?_
                  refine lv_goto (tgt := 81) hx hb dX6_parts_77 (by decide) ?_
                  refine lv_iadd hx hb dX6_parts_81 ?_
                  refine lv_topi (fun x3_46 ex3_46 => ?_)
                  have hden := nm_s hden ex3_46
                  refine lv_istore_n (lv' := [(3, .int x3_46), (6, .int x6_35), (0, .ref a_this), (1, .int p1), (2, .int p2), (4, .int x4_28), (5, .int x5_32)]) hx hb dX6_parts_82 rfl hl (by decide) rfl (fun ls hl => ?_)
                  obtain ⟨x4_47, ex4_47, hden⟩ := nm_x hden
                  refine lv_iinc (v := x4_47) (lv' := [(4, .int x4_47), (3, .int x3_46), (6, .int x6_35), (0, .ref a_this), (1, .int p1), (2, .int p2), (5, .int x5_32)]) hx hb dX6_parts_83 hl (k := 5) rfl (by rw [ex4_47]; rfl) (by decide) rfl (fun ls hl => ?_)
                  refine lv_goto (tgt := 5) hx hb dX6_parts_86 (by decide) ?_
                  exact ih x3_46 x4_47 _ _ (mSubP hP [0, 1] rfl) (hD.sub [0, 1] (by decide) rfl) hS ls (lv_sub hl [3, 4, 5, 1, 0] rfl) hden
          clear ej46
          refine lv_if_eq (tgt := 44) hx hb dX6_parts_37 (by decide) (fun c_51 => ?_) (fun c_51 => ?_)
          · have hden := if_s hden c_51
            refine lv_iload hx hb dX6_parts_44 (lv_at hl 5 rfl) ?_
            exact hj46 x4_28 _ _ (mSubP hP [0, 1] rfl) (hD.sub [0, 1] (by decide) rfl) hS ls (lv_sub hl [1, 2, 3, 4, 5, 0] rfl) hden
          · have hden := ifn_s hden c_51
            refine lv_iload_n hx hb dX6_parts_40 rfl (lv_at hl 2 rfl) ?_
            refine lv_goto (tgt := 46) hx hb dX6_parts_41 (by decide) ?_
            exact hj46 p1 _ _ (mSubP hP [0, 1] rfl) (hD.sub [0, 1] (by decide) rfl) hS ls (lv_sub hl [1, 2, 3, 4, 5, 0] rfl) hden
        clear ej27
        refine lv_if_eq (tgt := 26) hx hb dX6_parts_18 (by decide) (fun c_52 => ?_) (fun c_52 => ?_)
        · have hden := if_s hden c_52
          refine lv_iload_n hx hb dX6_parts_26 rfl (lv_at hl 1 rfl) ?_
          exact hj27 p1 _ _ (mSubP hP [0, 1] rfl) (hD.sub [0, 1] (by decide) rfl) hS ls (lv_sub hl [0, 1, 2, 3, 4] rfl) hden
        · have hden := ifn_s hden c_52
          refine lv_iload hx hb dX6_parts_21 (lv_at hl 4 rfl) ?_
          refine lv_goto (tgt := 27) hx hb dX6_parts_23 (by decide) ?_
          exact hj27 x4_28 _ _ (mSubP hP [0, 1] rfl) (hD.sub [0, 1] (by decide) rfl) hS ls (lv_sub hl [0, 1, 2, 3, 4] rfl) hden
  exact hL5__29 F 0 0 _ _ (mSubP hP [0, 1] rfl) (hD.sub [0, 1] (by decide) rfl) hS ls (lv_sub hl [2, 3, 4, 1, 0] rfl) hden
def D_X6_patternOf (F : Nat) (p1 : Int32) (p2 : Int32) (v_s : (Nat → Int32)) (v_states : (Nat → Int32)) : Option (Int32) := (if p2 = 0 then bnd (D_X6_isThere F p1 v_s) (fun r_1 => (if r_1 = 0 then some (0) else grd (inb ((0 : Int32) + p1) 31) (bnd (D_X6_lengthOf F (v_s ((0 : Int32) + p1).toNatClampNeg)) (fun r_4 => some (r_4))))) else (if p2 = 1 then grd (inb ((8 : Int32) + p1) 31) (some ((v_s ((8 : Int32) + p1).toNatClampNeg))) else (if p2 = 2 then grd (inb ((16 : Int32) + p1) 31) (some ((v_s ((16 : Int32) + p1).toNatClampNeg))) else (if p2 = 3 then bnd (D_X6_isThere F p1 v_s) (fun r_12 => (if r_12 = 0 then some ((-1)) else grd (inb ((0 : Int32) + p1) 31) (bnd (D_X6_numberOf F (v_s ((0 : Int32) + p1).toNatClampNeg) v_states) (fun r_15 => some (r_15))))) else bnd (D_X6_isThere F p1 v_s) (fun r_19 => (if r_19 = 0 then some (0) else jp (fun (t_21 : Int32) => bnd (D_X6_parts F p1 t_21 v_s) (fun r_22 => some (r_22))) (fun j121 => (if p2 = 5 then j121 1 else j121 0))))))))
def rm_X6_patternOf : Room := { frames := 4, cells := 0, slots := 0, locals := 91 }
set_option maxHeartbeats 4000000 in
set_option maxRecDepth 100000 in
theorem c_X6_patternOf (l : Launch) (D : va_G) (cI cM cL : ClassId) (F : Nat) {a_this a_this_s a_this_aside a_this_saved a_this_text a_this_states a_this_rows : Nat} {sz : Nat} {v_thrown v_savedMany v_length v_many v_at v_isWrong v_letters v_matched v_manyRows : Int32} {v_digested : Int64} {v_s v_states : Nat → Int32} {p1 : Int32} {p2 : Int32} {r0 : Int32} (hden : D_X6_patternOf F p1 p2 v_s v_states = some (r0)) : Met l yX6_patternOf wsX6_patternOf rm_X6_patternOf (va_Pc [.ref a_this, .int p1, .int p2] (mB D (mTy cI cM cL) sz [(a_this, .inr (5, [.int v_thrown, .ref a_this_s, .ref a_this_aside, .ref a_this_saved, .int v_savedMany, .ref a_this_text, .int v_length, .ref a_this_states, .int v_many, .int v_at, .int v_isWrong, .int v_letters, .int v_matched, .ref a_this_rows, .int v_manyRows, .long v_digested])), (a_this_s, .inl (cI, 31, .inl v_s)), (a_this_states, .inl (cI, 66, .inl v_states))])) (mQi D (va_A [(a_this, .inr (5, [.int v_thrown, .ref a_this_s, .ref a_this_aside, .ref a_this_saved, .int v_savedMany, .ref a_this_text, .int v_length, .ref a_this_states, .int v_many, .int v_at, .int v_isWrong, .int v_letters, .int v_matched, .ref a_this_rows, .int v_manyRows, .long v_digested])), (a_this_s, .inl (cI, 31, .inl v_s)), (a_this_states, .inl (cI, 66, .inl v_states))] sz) [(a_this, .inr (5, [.int v_thrown, .ref a_this_s, .ref a_this_aside, .ref a_this_saved, .int v_savedMany, .ref a_this_text, .int v_length, .ref a_this_states, .int v_many, .int v_at, .int v_isWrong, .int v_letters, .int v_matched, .ref a_this_rows, .int v_manyRows, .long v_digested])), (a_this_s, .inl (cI, 31, .inl v_s)), (a_this_states, .inl (cI, 66, .inl v_states))] r0) 0 0 (va_A [(a_this, .inr (5, [.int v_thrown, .ref a_this_s, .ref a_this_aside, .ref a_this_saved, .int v_savedMany, .ref a_this_text, .int v_length, .ref a_this_states, .int v_many, .int v_at, .int v_isWrong, .int v_letters, .int v_matched, .ref a_this_rows, .int v_manyRows, .long v_digested])), (a_this_s, .inl (cI, 31, .inl v_s)), (a_this_states, .inl (cI, 66, .inl v_states))] sz) := by
  refine Met.ofW (cc := cX6_patternOf) (maxL := 3) (ret := (some .int)) (by decide) rfl ?_
  intro p e s m args below meth c s₁ B hml hv
  obtain ⟨rfl, hsz, hP, hK, hN, hD0⟩ := hv
  have hx := B.exec
  have hb := B.bytes
  have hr := B.returns
  have hts := atoms_spec (ws := wsX6_patternOf) B.pre
  have hown : s.vm.findClass RX6 = some m.cls := findClass_of_methodNamed B.named
  have hlocks := B.notSynchronized
  subst hsz
  have hD := hD0.self (sz := s.heap.size)
  generalize hAe : va_A [(a_this, .inr (5, [.int v_thrown, .ref a_this_s, .ref a_this_aside, .ref a_this_saved, .int v_savedMany, .ref a_this_text, .int v_length, .ref a_this_states, .int v_many, .int v_at, .int v_isWrong, .int v_letters, .int v_matched, .ref a_this_rows, .int v_manyRows, .long v_digested])), (a_this_s, .inl (cI, 31, .inl v_s)), (a_this_states, .inl (cI, 66, .inl v_states))] s.heap.size = A at hD ⊢
  have hA : ∀ q : Nat, s.heap.size ≤ q → A q := fun q h => by rw [← hAe]; exact Or.inr h
  have hS : va_S A s.heap s.heap [] := va_S.rf
  have hl := lv_entry ([.ref a_this, .int p1, .int p2]) (n := 3) (Nat.le_of_ble_eq_true rfl)
  rw [lg_entry_eq]
  generalize (lg_sl ([.ref a_this, .int p1, .int p2]) ++ List.replicate (3 - (lg_sl ([.ref a_this, .int p1, .int p2])).length) Slot.unset).toArray = ls at hl ⊢
  have hl : lv_has ls 3 [(0, .ref a_this), (1, .int p1), (2, .int p2)] := hl
  change W p l e rm_X6_patternOf s m (([.ref a_this, .int p1, .int p2] : List Value).toArray) below meth c s.heap [] 0 0 _ (F0 m 0 ls [])
  generalize hQe : MQ below (mQi D A [(a_this, .inr (5, [.int v_thrown, .ref a_this_s, .ref a_this_aside, .ref a_this_saved, .int v_savedMany, .ref a_this_text, .int v_length, .ref a_this_states, .int v_many, .int v_at, .int v_isWrong, .int v_letters, .int v_matched, .ref a_this_rows, .int v_manyRows, .long v_digested])), (a_this_s, .inl (cI, 31, .inl v_s)), (a_this_states, .inl (cI, 66, .inl v_states))] r0) (([.ref a_this, .int p1, .int p2] : List Value).toArray) s 0 0 A = Q
  rw [D_X6_patternOf] at hden
  have hin_X6 : ∀ w ∈ wsX60, w ∈ wsX6_patternOf := by decide +kernel
  have w_7 := hts (.fieldLink RX6 7 "FallingPatternsModel" "s" "[I") (by decide +kernel)
  refine lv_iload_n hx hb dX6_patternOf_0 rfl (lv_at hl 2 rfl) ?_
  by_cases c_7 : p2 = 0
  · have hden := if_s hden c_7
    refine lv_tableIn (off := 31) (tgt := 32) hx hb dX6_patternOf_1 (by rw [c_7]; decide) (by rw [c_7]; decide) (by rw [c_7]; rfl) (by decide) ?_
    refine lv_aload_n hx hb dX6_patternOf_32 rfl (lv_at hl 0 rfl) ?_
    refine lv_iload_n hx hb dX6_patternOf_33 rfl (lv_at hl 1 rfl) ?_
    obtain ⟨r_1, hc_2, hden⟩ := bnd_s hden
    refine m_ci (wc := [(a_this, .inr (5, [.int v_thrown, .ref a_this_s, .ref a_this_aside, .ref a_this_saved, .int v_savedMany, .ref a_this_text, .int v_length, .ref a_this_states, .int v_many, .int v_at, .int v_isWrong, .int v_letters, .int v_matched, .ref a_this_rows, .int v_manyRows, .long v_digested])), (a_this_s, .inl (cI, 31, .inl v_s))]) (wr := [(a_this_states, .inl (cI, 66, .inl v_states))]) (wc' := [(a_this, .inr (5, [.int v_thrown, .ref a_this_s, .ref a_this_aside, .ref a_this_saved, .int v_savedMany, .ref a_this_text, .int v_length, .ref a_this_states, .int v_many, .int v_at, .int v_isWrong, .int v_letters, .int v_matched, .ref a_this_rows, .int v_manyRows, .long v_digested])), (a_this_s, .inl (cI, 31, .inl v_s))]) (va_runV (As := [.int p1]) (rest := []) ⟨hx, hb, hml, hown, hts⟩ (c_X6_isThere l D cI cM cL F hc_2) (cwV 1 hts gX6_patternOf_X6_isThere rfl rfl rfl (by decide +kernel) ⟨Nat.le_of_ble_eq_true rfl, Nat.le_of_ble_eq_true rfl⟩) (mPreV (ci := 5) (q0 := 0) (r := (RX6, TX6, 16)) hP hD hK hN [0, 1] (by decide) rfl rfl rfl) rfl rfl hl.1 rfl (lv_room (Nat.le_of_ble_eq_true rfl)) dX6_patternOf_34 ⟨Nat.le_of_ble_eq_true rfl, Nat.le_of_ble_eq_true rfl⟩) hP hD hS hA [0, 1] [2] rfl rfl (by decide) (by decide) (fun H locs hP hD hS => ?_)
    have hP : va_P D vwCl [(a_this_states, .inl (cI, 66, .inl v_states)), (a_this, .inr (5, [.int v_thrown, .ref a_this_s, .ref a_this_aside, .ref a_this_saved, .int v_savedMany, .ref a_this_text, .int v_length, .ref a_this_states, .int v_many, .int v_at, .int v_isWrong, .int v_letters, .int v_matched, .ref a_this_rows, .int v_manyRows, .long v_digested])), (a_this_s, .inl (cI, 31, .inl v_s))] H := hP
    have hD : va_D A [(a_this_states, .inl (cI, 66, .inl v_states)), (a_this, .inr (5, [.int v_thrown, .ref a_this_s, .ref a_this_aside, .ref a_this_saved, .int v_savedMany, .ref a_this_text, .int v_length, .ref a_this_states, .int v_many, .int v_at, .int v_isWrong, .int v_letters, .int v_matched, .ref a_this_rows, .int v_manyRows, .long v_digested])), (a_this_s, .inl (cI, 31, .inl v_s))] := hD
    refine lv_if_eq (tgt := 54) hx hb dX6_patternOf_37 (by decide) (fun c_6 => ?_) (fun c_6 => ?_)
    · have hden := if_s hden c_6
      refine lv_iconst (v := 0) hx hb dX6_patternOf_54 (by decide) ?_
      subst hQe
      cases hden
      exact m_ri hx hb hr hP hD hS [1, 2, 0] (by decide) rfl rfl dX6_patternOf_55 hlocks
    · have hden := ifn_s hden c_6
      refine lv_aload_n hx hb dX6_patternOf_40 rfl (lv_at hl 0 rfl) ?_
      refine va_get (D := D) (ci := 5) (v := .ref a_this_s) (C := RX6) (T := TX6) (N := 16) hx hb hts hin_X6 hown hK hP 1 rfl rfl 1 (by decide) w_7 (fun _ h9 => h9) rfl dX6_patternOf_41 ?_
      refine lv_iconst (v := 0) hx hb dX6_patternOf_44 (by decide) ?_
      refine lv_iload_n hx hb dX6_patternOf_45 rfl (lv_at hl 1 rfl) ?_
      refine lv_iadd hx hb dX6_patternOf_46 ?_
      obtain ⟨hg_3, hden⟩ := grd_s hden
      refine va_iald hx hb hK hP 2 0 rfl rfl (inb_in hg_3) dX6_patternOf_47 ?_
      obtain ⟨r_4, hc_5, hden⟩ := bnd_s hden
      refine m_ci (wc := []) (wr := [(a_this_states, .inl (cI, 66, .inl v_states)), (a_this, .inr (5, [.int v_thrown, .ref a_this_s, .ref a_this_aside, .ref a_this_saved, .int v_savedMany, .ref a_this_text, .int v_length, .ref a_this_states, .int v_many, .int v_at, .int v_isWrong, .int v_letters, .int v_matched, .ref a_this_rows, .int v_manyRows, .long v_digested])), (a_this_s, .inl (cI, 31, .inl v_s))]) (wc' := []) (va_runS (As := [.int (v_s ((0 : Int32) + p1).toNatClampNeg)]) (rest := []) ⟨hx, hb, hml, hown, hts⟩ (c_X6_lengthOf l D cI cM cL F hc_5) (va_cwS 1 hts gX6_patternOf_X6_lengthOf rfl rfl rfl (by decide +kernel) ⟨Nat.le_of_ble_eq_true rfl, Nat.le_of_ble_eq_true rfl⟩) (mPreS hP hD hK hN [] (by decide) rfl) rfl rfl hl.1 rfl (lv_room (Nat.le_of_ble_eq_true rfl)) dX6_patternOf_48 ⟨Nat.le_of_ble_eq_true rfl, Nat.le_of_ble_eq_true rfl⟩) hP hD hS hA [] [0, 1, 2] rfl rfl (by decide) (by decide) (fun H locs hP hD hS => ?_)
      have hP : va_P D vwCl [(a_this_states, .inl (cI, 66, .inl v_states)), (a_this, .inr (5, [.int v_thrown, .ref a_this_s, .ref a_this_aside, .ref a_this_saved, .int v_savedMany, .ref a_this_text, .int v_length, .ref a_this_states, .int v_many, .int v_at, .int v_isWrong, .int v_letters, .int v_matched, .ref a_this_rows, .int v_manyRows, .long v_digested])), (a_this_s, .inl (cI, 31, .inl v_s))] H := hP
      have hD : va_D A [(a_this_states, .inl (cI, 66, .inl v_states)), (a_this, .inr (5, [.int v_thrown, .ref a_this_s, .ref a_this_aside, .ref a_this_saved, .int v_savedMany, .ref a_this_text, .int v_length, .ref a_this_states, .int v_many, .int v_at, .int v_isWrong, .int v_letters, .int v_matched, .ref a_this_rows, .int v_manyRows, .long v_digested])), (a_this_s, .inl (cI, 31, .inl v_s))] := hD
      refine lv_goto (tgt := 55) hx hb dX6_patternOf_51 (by decide) ?_
      subst hQe
      cases hden
      exact m_ri hx hb hr hP hD hS [1, 2, 0] (by decide) rfl rfl dX6_patternOf_55 hlocks
  have hden := ifn_s hden c_7
  by_cases c_9 : p2 = 1
  · have hden := if_s hden c_9
    refine lv_tableIn (off := 55) (tgt := 56) hx hb dX6_patternOf_1 (by rw [c_9]; decide) (by rw [c_9]; decide) (by rw [c_9]; rfl) (by decide) ?_
    refine lv_aload_n hx hb dX6_patternOf_56 rfl (lv_at hl 0 rfl) ?_
    refine va_get (D := D) (ci := 5) (v := .ref a_this_s) (C := RX6) (T := TX6) (N := 16) hx hb hts hin_X6 hown hK hP 0 rfl rfl 1 (by decide) w_7 (fun _ h9 => h9) rfl dX6_patternOf_57 ?_
    refine lv_bipush (v := 8) hx hb dX6_patternOf_60 (by decide) ?_
    refine lv_iload_n hx hb dX6_patternOf_62 rfl (lv_at hl 1 rfl) ?_
    refine lv_iadd hx hb dX6_patternOf_63 ?_
    obtain ⟨hg_8, hden⟩ := grd_s hden
    refine va_iald hx hb hK hP 1 0 rfl rfl (inb_in hg_8) dX6_patternOf_64 ?_
    subst hQe
    cases hden
    exact m_ri hx hb hr hP hD hS [0, 1, 2] (by decide) rfl rfl dX6_patternOf_65 hlocks
  have hden := ifn_s hden c_9
  by_cases c_11 : p2 = 2
  · have hden := if_s hden c_11
    refine lv_tableIn (off := 65) (tgt := 66) hx hb dX6_patternOf_1 (by rw [c_11]; decide) (by rw [c_11]; decide) (by rw [c_11]; rfl) (by decide) ?_
    refine lv_aload_n hx hb dX6_patternOf_66 rfl (lv_at hl 0 rfl) ?_
    refine va_get (D := D) (ci := 5) (v := .ref a_this_s) (C := RX6) (T := TX6) (N := 16) hx hb hts hin_X6 hown hK hP 0 rfl rfl 1 (by decide) w_7 (fun _ h9 => h9) rfl dX6_patternOf_67 ?_
    refine lv_bipush (v := 16) hx hb dX6_patternOf_70 (by decide) ?_
    refine lv_iload_n hx hb dX6_patternOf_72 rfl (lv_at hl 1 rfl) ?_
    refine lv_iadd hx hb dX6_patternOf_73 ?_
    obtain ⟨hg_10, hden⟩ := grd_s hden
    refine va_iald hx hb hK hP 1 0 rfl rfl (inb_in hg_10) dX6_patternOf_74 ?_
    subst hQe
    cases hden
    exact m_ri hx hb hr hP hD hS [0, 1, 2] (by decide) rfl rfl dX6_patternOf_75 hlocks
  have hden := ifn_s hden c_11
  by_cases c_18 : p2 = 3
  · have hden := if_s hden c_18
    refine lv_tableIn (off := 75) (tgt := 76) hx hb dX6_patternOf_1 (by rw [c_18]; decide) (by rw [c_18]; decide) (by rw [c_18]; rfl) (by decide) ?_
    refine lv_aload_n hx hb dX6_patternOf_76 rfl (lv_at hl 0 rfl) ?_
    refine lv_iload_n hx hb dX6_patternOf_77 rfl (lv_at hl 1 rfl) ?_
    obtain ⟨r_12, hc_13, hden⟩ := bnd_s hden
    refine m_ci (wc := [(a_this, .inr (5, [.int v_thrown, .ref a_this_s, .ref a_this_aside, .ref a_this_saved, .int v_savedMany, .ref a_this_text, .int v_length, .ref a_this_states, .int v_many, .int v_at, .int v_isWrong, .int v_letters, .int v_matched, .ref a_this_rows, .int v_manyRows, .long v_digested])), (a_this_s, .inl (cI, 31, .inl v_s))]) (wr := [(a_this_states, .inl (cI, 66, .inl v_states))]) (wc' := [(a_this, .inr (5, [.int v_thrown, .ref a_this_s, .ref a_this_aside, .ref a_this_saved, .int v_savedMany, .ref a_this_text, .int v_length, .ref a_this_states, .int v_many, .int v_at, .int v_isWrong, .int v_letters, .int v_matched, .ref a_this_rows, .int v_manyRows, .long v_digested])), (a_this_s, .inl (cI, 31, .inl v_s))]) (va_runV (As := [.int p1]) (rest := []) ⟨hx, hb, hml, hown, hts⟩ (c_X6_isThere l D cI cM cL F hc_13) (cwV 1 hts gX6_patternOf_X6_isThere rfl rfl rfl (by decide +kernel) ⟨Nat.le_of_ble_eq_true rfl, Nat.le_of_ble_eq_true rfl⟩) (mPreV (ci := 5) (q0 := 0) (r := (RX6, TX6, 16)) hP hD hK hN [0, 1] (by decide) rfl rfl rfl) rfl rfl hl.1 rfl (lv_room (Nat.le_of_ble_eq_true rfl)) dX6_patternOf_78 ⟨Nat.le_of_ble_eq_true rfl, Nat.le_of_ble_eq_true rfl⟩) hP hD hS hA [0, 1] [2] rfl rfl (by decide) (by decide) (fun H locs hP hD hS => ?_)
    have hP : va_P D vwCl [(a_this_states, .inl (cI, 66, .inl v_states)), (a_this, .inr (5, [.int v_thrown, .ref a_this_s, .ref a_this_aside, .ref a_this_saved, .int v_savedMany, .ref a_this_text, .int v_length, .ref a_this_states, .int v_many, .int v_at, .int v_isWrong, .int v_letters, .int v_matched, .ref a_this_rows, .int v_manyRows, .long v_digested])), (a_this_s, .inl (cI, 31, .inl v_s))] H := hP
    have hD : va_D A [(a_this_states, .inl (cI, 66, .inl v_states)), (a_this, .inr (5, [.int v_thrown, .ref a_this_s, .ref a_this_aside, .ref a_this_saved, .int v_savedMany, .ref a_this_text, .int v_length, .ref a_this_states, .int v_many, .int v_at, .int v_isWrong, .int v_letters, .int v_matched, .ref a_this_rows, .int v_manyRows, .long v_digested])), (a_this_s, .inl (cI, 31, .inl v_s))] := hD
    refine lv_if_eq (tgt := 99) hx hb dX6_patternOf_81 (by decide) (fun c_17 => ?_) (fun c_17 => ?_)
    · have hden := if_s hden c_17
      refine lv_iconst (v := (-1)) hx hb dX6_patternOf_99 (by decide) ?_
      subst hQe
      cases hden
      exact m_ri hx hb hr hP hD hS [1, 2, 0] (by decide) rfl rfl dX6_patternOf_100 hlocks
    · have hden := ifn_s hden c_17
      refine lv_aload_n hx hb dX6_patternOf_84 rfl (lv_at hl 0 rfl) ?_
      refine lv_aload_n hx hb dX6_patternOf_85 rfl (lv_at hl 0 rfl) ?_
      refine va_get (D := D) (ci := 5) (v := .ref a_this_s) (C := RX6) (T := TX6) (N := 16) hx hb hts hin_X6 hown hK hP 1 rfl rfl 1 (by decide) w_7 (fun _ h9 => h9) rfl dX6_patternOf_86 ?_
      refine lv_iconst (v := 0) hx hb dX6_patternOf_89 (by decide) ?_
      refine lv_iload_n hx hb dX6_patternOf_90 rfl (lv_at hl 1 rfl) ?_
      refine lv_iadd hx hb dX6_patternOf_91 ?_
      obtain ⟨hg_14, hden⟩ := grd_s hden
      refine va_iald hx hb hK hP 2 0 rfl rfl (inb_in hg_14) dX6_patternOf_92 ?_
      obtain ⟨r_15, hc_16, hden⟩ := bnd_s hden
      refine m_ci (wc := [(a_this, .inr (5, [.int v_thrown, .ref a_this_s, .ref a_this_aside, .ref a_this_saved, .int v_savedMany, .ref a_this_text, .int v_length, .ref a_this_states, .int v_many, .int v_at, .int v_isWrong, .int v_letters, .int v_matched, .ref a_this_rows, .int v_manyRows, .long v_digested])), (a_this_states, .inl (cI, 66, .inl v_states))]) (wr := [(a_this_s, .inl (cI, 31, .inl v_s))]) (wc' := [(a_this, .inr (5, [.int v_thrown, .ref a_this_s, .ref a_this_aside, .ref a_this_saved, .int v_savedMany, .ref a_this_text, .int v_length, .ref a_this_states, .int v_many, .int v_at, .int v_isWrong, .int v_letters, .int v_matched, .ref a_this_rows, .int v_manyRows, .long v_digested])), (a_this_states, .inl (cI, 66, .inl v_states))]) (va_runV (As := [.int (v_s ((0 : Int32) + p1).toNatClampNeg)]) (rest := []) ⟨hx, hb, hml, hown, hts⟩ (c_X6_numberOf l D cI cM cL F hc_16) (cwV 1 hts gX6_patternOf_X6_numberOf rfl rfl rfl (by decide +kernel) ⟨Nat.le_of_ble_eq_true rfl, Nat.le_of_ble_eq_true rfl⟩) (mPreV (ci := 5) (q0 := 0) (r := (RX6, TX6, 16)) hP hD hK hN [1, 0] (by decide) rfl rfl rfl) rfl rfl hl.1 rfl (lv_room (Nat.le_of_ble_eq_true rfl)) dX6_patternOf_93 ⟨Nat.le_of_ble_eq_true rfl, Nat.le_of_ble_eq_true rfl⟩) hP hD hS hA [1, 0] [2] rfl rfl (by decide) (by decide) (fun H locs hP hD hS => ?_)
      have hP : va_P D vwCl [(a_this_s, .inl (cI, 31, .inl v_s)), (a_this, .inr (5, [.int v_thrown, .ref a_this_s, .ref a_this_aside, .ref a_this_saved, .int v_savedMany, .ref a_this_text, .int v_length, .ref a_this_states, .int v_many, .int v_at, .int v_isWrong, .int v_letters, .int v_matched, .ref a_this_rows, .int v_manyRows, .long v_digested])), (a_this_states, .inl (cI, 66, .inl v_states))] H := hP
      have hD : va_D A [(a_this_s, .inl (cI, 31, .inl v_s)), (a_this, .inr (5, [.int v_thrown, .ref a_this_s, .ref a_this_aside, .ref a_this_saved, .int v_savedMany, .ref a_this_text, .int v_length, .ref a_this_states, .int v_many, .int v_at, .int v_isWrong, .int v_letters, .int v_matched, .ref a_this_rows, .int v_manyRows, .long v_digested])), (a_this_states, .inl (cI, 66, .inl v_states))] := hD
      refine lv_goto (tgt := 100) hx hb dX6_patternOf_96 (by decide) ?_
      subst hQe
      cases hden
      exact m_ri hx hb hr hP hD hS [1, 0, 2] (by decide) rfl rfl dX6_patternOf_100 hlocks
  have hden := ifn_s hden c_18
  refine lv_tableOut (tgt := 101) hx hb dX6_patternOf_1 (tsw_out4 c_7 c_9 c_11 c_18) (by decide) ?_
  refine lv_aload_n hx hb dX6_patternOf_101 rfl (lv_at hl 0 rfl) ?_
  refine lv_iload_n hx hb dX6_patternOf_102 rfl (lv_at hl 1 rfl) ?_
  obtain ⟨r_19, hc_20, hden⟩ := bnd_s hden
  refine m_ci (wc := [(a_this, .inr (5, [.int v_thrown, .ref a_this_s, .ref a_this_aside, .ref a_this_saved, .int v_savedMany, .ref a_this_text, .int v_length, .ref a_this_states, .int v_many, .int v_at, .int v_isWrong, .int v_letters, .int v_matched, .ref a_this_rows, .int v_manyRows, .long v_digested])), (a_this_s, .inl (cI, 31, .inl v_s))]) (wr := [(a_this_states, .inl (cI, 66, .inl v_states))]) (wc' := [(a_this, .inr (5, [.int v_thrown, .ref a_this_s, .ref a_this_aside, .ref a_this_saved, .int v_savedMany, .ref a_this_text, .int v_length, .ref a_this_states, .int v_many, .int v_at, .int v_isWrong, .int v_letters, .int v_matched, .ref a_this_rows, .int v_manyRows, .long v_digested])), (a_this_s, .inl (cI, 31, .inl v_s))]) (va_runV (As := [.int p1]) (rest := []) ⟨hx, hb, hml, hown, hts⟩ (c_X6_isThere l D cI cM cL F hc_20) (cwV 1 hts gX6_patternOf_X6_isThere rfl rfl rfl (by decide +kernel) ⟨Nat.le_of_ble_eq_true rfl, Nat.le_of_ble_eq_true rfl⟩) (mPreV (ci := 5) (q0 := 0) (r := (RX6, TX6, 16)) hP hD hK hN [0, 1] (by decide) rfl rfl rfl) rfl rfl hl.1 rfl (lv_room (Nat.le_of_ble_eq_true rfl)) dX6_patternOf_103 ⟨Nat.le_of_ble_eq_true rfl, Nat.le_of_ble_eq_true rfl⟩) hP hD hS hA [0, 1] [2] rfl rfl (by decide) (by decide) (fun H locs hP hD hS => ?_)
  have hP : va_P D vwCl [(a_this_states, .inl (cI, 66, .inl v_states)), (a_this, .inr (5, [.int v_thrown, .ref a_this_s, .ref a_this_aside, .ref a_this_saved, .int v_savedMany, .ref a_this_text, .int v_length, .ref a_this_states, .int v_many, .int v_at, .int v_isWrong, .int v_letters, .int v_matched, .ref a_this_rows, .int v_manyRows, .long v_digested])), (a_this_s, .inl (cI, 31, .inl v_s))] H := hP
  have hD : va_D A [(a_this_states, .inl (cI, 66, .inl v_states)), (a_this, .inr (5, [.int v_thrown, .ref a_this_s, .ref a_this_aside, .ref a_this_saved, .int v_savedMany, .ref a_this_text, .int v_length, .ref a_this_states, .int v_many, .int v_at, .int v_isWrong, .int v_letters, .int v_matched, .ref a_this_rows, .int v_manyRows, .long v_digested])), (a_this_s, .inl (cI, 31, .inl v_s))] := hD
  refine lv_if_eq (tgt := 127) hx hb dX6_patternOf_106 (by decide) (fun c_25 => ?_) (fun c_25 => ?_)
  · have hden := if_s hden c_25
    refine lv_iconst (v := 0) hx hb dX6_patternOf_127 (by decide) ?_
    subst hQe
    cases hden
    exact m_ri hx hb hr hP hD hS [1, 2, 0] (by decide) rfl rfl dX6_patternOf_128 hlocks
  · have hden := ifn_s hden c_25
    refine lv_aload_n hx hb dX6_patternOf_109 rfl (lv_at hl 0 rfl) ?_
    refine lv_iload_n hx hb dX6_patternOf_110 rfl (lv_at hl 1 rfl) ?_
    refine lv_iload_n hx hb dX6_patternOf_111 rfl (lv_at hl 2 rfl) ?_
    refine lv_iconst (v := 5) hx hb dX6_patternOf_112 (by decide) ?_
    obtain ⟨j121, ej121, hden⟩ := jp_s hden
    have hj121 : ∀ (t_21 : Int32) (H : Heap) (locs : List Loc), va_P D vwCl [(a_this, .inr (5, [.int v_thrown, .ref a_this_s, .ref a_this_aside, .ref a_this_saved, .int v_savedMany, .ref a_this_text, .int v_length, .ref a_this_states, .int v_many, .int v_at, .int v_isWrong, .int v_letters, .int v_matched, .ref a_this_rows, .int v_manyRows, .long v_digested])), (a_this_s, .inl (cI, 31, .inl v_s)), (a_this_states, .inl (cI, 66, .inl v_states))] H → va_D A [(a_this, .inr (5, [.int v_thrown, .ref a_this_s, .ref a_this_aside, .ref a_this_saved, .int v_savedMany, .ref a_this_text, .int v_length, .ref a_this_states, .int v_many, .int v_at, .int v_isWrong, .int v_letters, .int v_matched, .ref a_this_rows, .int v_manyRows, .long v_digested])), (a_this_s, .inl (cI, 31, .inl v_s)), (a_this_states, .inl (cI, 66, .inl v_states))] → va_S A s.heap H locs → ∀ ls : Array Slot, lv_has ls 3 [] → j121 t_21 = some (r0) → W p l e rm_X6_patternOf s m (([.ref a_this, .int p1, .int p2] : List Value).toArray) below meth c H locs 0 0 Q (F0 m 121 ls [.int t_21, .int p1, .ref a_this]) := by
      intro t_21 H locs hP hD hS ls hl hden
      rw [ej121] at hden
      obtain ⟨r_22, hc_23, hden⟩ := bnd_s hden
      refine m_ci (wc := [(a_this, .inr (5, [.int v_thrown, .ref a_this_s, .ref a_this_aside, .ref a_this_saved, .int v_savedMany, .ref a_this_text, .int v_length, .ref a_this_states, .int v_many, .int v_at, .int v_isWrong, .int v_letters, .int v_matched, .ref a_this_rows, .int v_manyRows, .long v_digested])), (a_this_s, .inl (cI, 31, .inl v_s))]) (wr := [(a_this_states, .inl (cI, 66, .inl v_states))]) (wc' := [(a_this, .inr (5, [.int v_thrown, .ref a_this_s, .ref a_this_aside, .ref a_this_saved, .int v_savedMany, .ref a_this_text, .int v_length, .ref a_this_states, .int v_many, .int v_at, .int v_isWrong, .int v_letters, .int v_matched, .ref a_this_rows, .int v_manyRows, .long v_digested])), (a_this_s, .inl (cI, 31, .inl v_s))]) (va_runV (As := [.int p1, .int t_21]) (rest := []) ⟨hx, hb, hml, hown, hts⟩ (c_X6_parts l D cI cM cL F hc_23) (cwV 2 hts gX6_patternOf_X6_parts rfl rfl rfl (by decide +kernel) ⟨Nat.le_of_ble_eq_true rfl, Nat.le_of_ble_eq_true rfl⟩) (mPreV (ci := 5) (q0 := 0) (r := (RX6, TX6, 16)) hP hD hK hN [0, 1] (by decide) rfl rfl rfl) rfl rfl hl.1 rfl (lv_room (Nat.le_of_ble_eq_true rfl)) dX6_patternOf_121 ⟨Nat.le_of_ble_eq_true rfl, Nat.le_of_ble_eq_true rfl⟩) hP hD hS hA [0, 1] [2] rfl rfl (by decide) (by decide) (fun H locs hP hD hS => ?_)
      have hP : va_P D vwCl [(a_this_states, .inl (cI, 66, .inl v_states)), (a_this, .inr (5, [.int v_thrown, .ref a_this_s, .ref a_this_aside, .ref a_this_saved, .int v_savedMany, .ref a_this_text, .int v_length, .ref a_this_states, .int v_many, .int v_at, .int v_isWrong, .int v_letters, .int v_matched, .ref a_this_rows, .int v_manyRows, .long v_digested])), (a_this_s, .inl (cI, 31, .inl v_s))] H := hP
      have hD : va_D A [(a_this_states, .inl (cI, 66, .inl v_states)), (a_this, .inr (5, [.int v_thrown, .ref a_this_s, .ref a_this_aside, .ref a_this_saved, .int v_savedMany, .ref a_this_text, .int v_length, .ref a_this_states, .int v_many, .int v_at, .int v_isWrong, .int v_letters, .int v_matched, .ref a_this_rows, .int v_manyRows, .long v_digested])), (a_this_s, .inl (cI, 31, .inl v_s))] := hD
      refine lv_goto (tgt := 128) hx hb dX6_patternOf_124 (by decide) ?_
      subst hQe
      cases hden
      exact m_ri hx hb hr hP hD hS [1, 2, 0] (by decide) rfl rfl dX6_patternOf_128 hlocks
    clear ej121
    refine lv_icmp_ne (tgt := 120) hx hb dX6_patternOf_113 (by decide) (fun c_24 => ?_) (fun c_24 => ?_)
    · have hden := ifn_s hden c_24
      refine lv_iconst (v := 0) hx hb dX6_patternOf_120 (by decide) ?_
      exact hj121 0 _ _ (mSubP hP [1, 2, 0] rfl) (hD.sub [1, 2, 0] (by decide) rfl) hS ls (lv_sub hl [] rfl) hden
    · have hden := if_s hden c_24
      refine lv_iconst (v := 1) hx hb dX6_patternOf_116 (by decide) ?_
      refine lv_goto (tgt := 121) hx hb dX6_patternOf_117 (by decide) ?_
      exact hj121 1 _ _ (mSubP hP [1, 2, 0] rfl) (hD.sub [1, 2, 0] (by decide) rfl) hS ls (lv_sub hl [] rfl) hden
def D_X6_pattern (F : Nat) (p1 : Int32) (p2 : Int32) (v_states : (Nat → Int32)) (v_many : Int32) (v_s : (Nat → Int32)) (v_thrown : Int32) : Option (Int32 × (Nat → Int32) × Int32 × Int32) := bnd (D_X6_list F v_states v_many v_s) (fun (v_states_1, v_many_2) => bnd (D_X6_in F p1 0 7) (fun r_4 => jp (fun (t_6 : Int32) => bnd (D_X6_holds F t_6 v_thrown) (fun (r_7, v_thrown_8) => (if r_7 = 0 then some (0, v_states_1, v_many_2, v_thrown_8) else bnd (D_X6_patternOf F p1 p2 v_s v_states_1) (fun r_10 => some (r_10, v_states_1, v_many_2, v_thrown_8))))) (fun j33 => (if r_4 = 0 then j33 1 else bnd (D_X6_in F p2 0 5) (fun r_13 => (if r_13 = 0 then j33 2 else j33 0))))))
def rm_X6_pattern : Room := { frames := 5, cells := 0, slots := 0, locals := 113 }
set_option maxHeartbeats 4000000 in
set_option maxRecDepth 100000 in
theorem c_X6_pattern (l : Launch) (D : va_G) (cI cM cL : ClassId) (F : Nat) {a_this a_this_s a_this_aside a_this_saved a_this_text a_this_states a_this_rows : Nat} {sz : Nat} {v_thrown v_savedMany v_length v_many v_at v_isWrong v_letters v_matched v_manyRows : Int32} {v_digested : Int64} {v_states v_s : Nat → Int32} {p1 : Int32} {p2 : Int32} {r0 : Int32} {w_states : (Nat → Int32)} {w_many : Int32} {w_thrown : Int32} (hden : D_X6_pattern F p1 p2 v_states v_many v_s v_thrown = some (r0, w_states, w_many, w_thrown)) : Met l yX6_pattern wsX6_pattern rm_X6_pattern (va_Pc [.ref a_this, .int p1, .int p2] (mB D (mTy cI cM cL) sz [(a_this, .inr (5, [.int v_thrown, .ref a_this_s, .ref a_this_aside, .ref a_this_saved, .int v_savedMany, .ref a_this_text, .int v_length, .ref a_this_states, .int v_many, .int v_at, .int v_isWrong, .int v_letters, .int v_matched, .ref a_this_rows, .int v_manyRows, .long v_digested])), (a_this_states, .inl (cI, 66, .inl v_states)), (a_this_s, .inl (cI, 31, .inl v_s))])) (mQi D (va_A [(a_this, .inr (5, [.int v_thrown, .ref a_this_s, .ref a_this_aside, .ref a_this_saved, .int v_savedMany, .ref a_this_text, .int v_length, .ref a_this_states, .int v_many, .int v_at, .int v_isWrong, .int v_letters, .int v_matched, .ref a_this_rows, .int v_manyRows, .long v_digested])), (a_this_states, .inl (cI, 66, .inl v_states)), (a_this_s, .inl (cI, 31, .inl v_s))] sz) [(a_this, .inr (5, [.int w_thrown, .ref a_this_s, .ref a_this_aside, .ref a_this_saved, .int v_savedMany, .ref a_this_text, .int v_length, .ref a_this_states, .int w_many, .int v_at, .int v_isWrong, .int v_letters, .int v_matched, .ref a_this_rows, .int v_manyRows, .long v_digested])), (a_this_states, .inl (cI, 66, .inl w_states)), (a_this_s, .inl (cI, 31, .inl v_s))] r0) 0 0 (va_A [(a_this, .inr (5, [.int v_thrown, .ref a_this_s, .ref a_this_aside, .ref a_this_saved, .int v_savedMany, .ref a_this_text, .int v_length, .ref a_this_states, .int v_many, .int v_at, .int v_isWrong, .int v_letters, .int v_matched, .ref a_this_rows, .int v_manyRows, .long v_digested])), (a_this_states, .inl (cI, 66, .inl v_states)), (a_this_s, .inl (cI, 31, .inl v_s))] sz) := by
  refine Met.ofW (cc := cX6_pattern) (maxL := 3) (ret := (some .int)) (by decide) rfl ?_
  intro p e s m args below meth c s₁ B hml hv
  obtain ⟨rfl, hsz, hP, hK, hN, hD0⟩ := hv
  have hx := B.exec
  have hb := B.bytes
  have hr := B.returns
  have hts := atoms_spec (ws := wsX6_pattern) B.pre
  have hown : s.vm.findClass RX6 = some m.cls := findClass_of_methodNamed B.named
  have hlocks := B.notSynchronized
  subst hsz
  have hD := hD0.self (sz := s.heap.size)
  generalize hAe : va_A [(a_this, .inr (5, [.int v_thrown, .ref a_this_s, .ref a_this_aside, .ref a_this_saved, .int v_savedMany, .ref a_this_text, .int v_length, .ref a_this_states, .int v_many, .int v_at, .int v_isWrong, .int v_letters, .int v_matched, .ref a_this_rows, .int v_manyRows, .long v_digested])), (a_this_states, .inl (cI, 66, .inl v_states)), (a_this_s, .inl (cI, 31, .inl v_s))] s.heap.size = A at hD ⊢
  have hA : ∀ q : Nat, s.heap.size ≤ q → A q := fun q h => by rw [← hAe]; exact Or.inr h
  have hS : va_S A s.heap s.heap [] := va_S.rf
  have hl := lv_entry ([.ref a_this, .int p1, .int p2]) (n := 3) (Nat.le_of_ble_eq_true rfl)
  rw [lg_entry_eq]
  generalize (lg_sl ([.ref a_this, .int p1, .int p2]) ++ List.replicate (3 - (lg_sl ([.ref a_this, .int p1, .int p2])).length) Slot.unset).toArray = ls at hl ⊢
  have hl : lv_has ls 3 [(0, .ref a_this), (1, .int p1), (2, .int p2)] := hl
  change W p l e rm_X6_pattern s m (([.ref a_this, .int p1, .int p2] : List Value).toArray) below meth c s.heap [] 0 0 _ (F0 m 0 ls [])
  generalize hQe : MQ below (mQi D A [(a_this, .inr (5, [.int w_thrown, .ref a_this_s, .ref a_this_aside, .ref a_this_saved, .int v_savedMany, .ref a_this_text, .int v_length, .ref a_this_states, .int w_many, .int v_at, .int v_isWrong, .int v_letters, .int v_matched, .ref a_this_rows, .int v_manyRows, .long v_digested])), (a_this_states, .inl (cI, 66, .inl w_states)), (a_this_s, .inl (cI, 31, .inl v_s))] r0) (([.ref a_this, .int p1, .int p2] : List Value).toArray) s 0 0 A = Q
  rw [D_X6_pattern] at hden
  refine lv_aload_n hx hb dX6_pattern_0 rfl (lv_at hl 0 rfl) ?_
  obtain ⟨⟨v_states_1, v_many_2⟩, hc_3, hden⟩ := bnd_s hden
  refine m_cv (wc := [(a_this, .inr (5, [.int v_thrown, .ref a_this_s, .ref a_this_aside, .ref a_this_saved, .int v_savedMany, .ref a_this_text, .int v_length, .ref a_this_states, .int v_many, .int v_at, .int v_isWrong, .int v_letters, .int v_matched, .ref a_this_rows, .int v_manyRows, .long v_digested])), (a_this_states, .inl (cI, 66, .inl v_states)), (a_this_s, .inl (cI, 31, .inl v_s))]) (wr := []) (wc' := [(a_this, .inr (5, [.int v_thrown, .ref a_this_s, .ref a_this_aside, .ref a_this_saved, .int v_savedMany, .ref a_this_text, .int v_length, .ref a_this_states, .int v_many_2, .int v_at, .int v_isWrong, .int v_letters, .int v_matched, .ref a_this_rows, .int v_manyRows, .long v_digested])), (a_this_states, .inl (cI, 66, .inl v_states_1)), (a_this_s, .inl (cI, 31, .inl v_s))]) (va_runV (As := []) (rest := []) ⟨hx, hb, hml, hown, hts⟩ (c_X6_list l D cI cM cL F hc_3) (cwV 0 hts gX6_pattern_X6_list rfl rfl rfl (by decide +kernel) ⟨Nat.le_of_ble_eq_true rfl, Nat.le_of_ble_eq_true rfl⟩) (mPreV (ci := 5) (q0 := 0) (r := (RX6, TX6, 16)) hP hD hK hN [0, 1, 2] (by decide) rfl rfl rfl) rfl rfl hl.1 rfl (lv_room (Nat.le_of_ble_eq_true rfl)) dX6_pattern_1 ⟨Nat.le_of_ble_eq_true rfl, Nat.le_of_ble_eq_true rfl⟩) hP hD hS hA [0, 1, 2] [] rfl rfl (by decide) (by decide) (fun H locs hP hD hS => ?_)
  have hP : va_P D vwCl [(a_this, .inr (5, [.int v_thrown, .ref a_this_s, .ref a_this_aside, .ref a_this_saved, .int v_savedMany, .ref a_this_text, .int v_length, .ref a_this_states, .int v_many_2, .int v_at, .int v_isWrong, .int v_letters, .int v_matched, .ref a_this_rows, .int v_manyRows, .long v_digested])), (a_this_states, .inl (cI, 66, .inl v_states_1)), (a_this_s, .inl (cI, 31, .inl v_s))] H := hP
  have hD : va_D A [(a_this, .inr (5, [.int v_thrown, .ref a_this_s, .ref a_this_aside, .ref a_this_saved, .int v_savedMany, .ref a_this_text, .int v_length, .ref a_this_states, .int v_many_2, .int v_at, .int v_isWrong, .int v_letters, .int v_matched, .ref a_this_rows, .int v_manyRows, .long v_digested])), (a_this_states, .inl (cI, 66, .inl v_states_1)), (a_this_s, .inl (cI, 31, .inl v_s))] := hD
  refine lv_aload_n hx hb dX6_pattern_4 rfl (lv_at hl 0 rfl) ?_
  refine lv_iload_n hx hb dX6_pattern_5 rfl (lv_at hl 1 rfl) ?_
  refine lv_iconst (v := 0) hx hb dX6_pattern_6 (by decide) ?_
  refine lv_bipush (v := 7) hx hb dX6_pattern_7 (by decide) ?_
  obtain ⟨r_4, hc_5, hden⟩ := bnd_s hden
  refine m_ci (wc := []) (wr := [(a_this, .inr (5, [.int v_thrown, .ref a_this_s, .ref a_this_aside, .ref a_this_saved, .int v_savedMany, .ref a_this_text, .int v_length, .ref a_this_states, .int v_many_2, .int v_at, .int v_isWrong, .int v_letters, .int v_matched, .ref a_this_rows, .int v_manyRows, .long v_digested])), (a_this_states, .inl (cI, 66, .inl v_states_1)), (a_this_s, .inl (cI, 31, .inl v_s))]) (wc' := []) (va_runS (As := [.int p1, .int 0, .int 7]) (rest := [.ref a_this]) ⟨hx, hb, hml, hown, hts⟩ (c_X6_in l D cI cM cL F hc_5) (va_cwS 3 hts gX6_pattern_X6_in rfl rfl rfl (by decide +kernel) ⟨Nat.le_of_ble_eq_true rfl, Nat.le_of_ble_eq_true rfl⟩) (mPreS hP hD hK hN [] (by decide) rfl) rfl rfl hl.1 rfl (lv_room (Nat.le_of_ble_eq_true rfl)) dX6_pattern_9 ⟨Nat.le_of_ble_eq_true rfl, Nat.le_of_ble_eq_true rfl⟩) hP hD hS hA [] [0, 1, 2] rfl rfl (by decide) (by decide) (fun H locs hP hD hS => ?_)
  have hP : va_P D vwCl [(a_this, .inr (5, [.int v_thrown, .ref a_this_s, .ref a_this_aside, .ref a_this_saved, .int v_savedMany, .ref a_this_text, .int v_length, .ref a_this_states, .int v_many_2, .int v_at, .int v_isWrong, .int v_letters, .int v_matched, .ref a_this_rows, .int v_manyRows, .long v_digested])), (a_this_states, .inl (cI, 66, .inl v_states_1)), (a_this_s, .inl (cI, 31, .inl v_s))] H := hP
  have hD : va_D A [(a_this, .inr (5, [.int v_thrown, .ref a_this_s, .ref a_this_aside, .ref a_this_saved, .int v_savedMany, .ref a_this_text, .int v_length, .ref a_this_states, .int v_many_2, .int v_at, .int v_isWrong, .int v_letters, .int v_matched, .ref a_this_rows, .int v_manyRows, .long v_digested])), (a_this_states, .inl (cI, 66, .inl v_states_1)), (a_this_s, .inl (cI, 31, .inl v_s))] := hD
  obtain ⟨j33, ej33, hden⟩ := jp_s hden
  have hj33 : ∀ (t_6 : Int32) (H : Heap) (locs : List Loc), va_P D vwCl [(a_this, .inr (5, [.int v_thrown, .ref a_this_s, .ref a_this_aside, .ref a_this_saved, .int v_savedMany, .ref a_this_text, .int v_length, .ref a_this_states, .int v_many_2, .int v_at, .int v_isWrong, .int v_letters, .int v_matched, .ref a_this_rows, .int v_manyRows, .long v_digested])), (a_this_states, .inl (cI, 66, .inl v_states_1)), (a_this_s, .inl (cI, 31, .inl v_s))] H → va_D A [(a_this, .inr (5, [.int v_thrown, .ref a_this_s, .ref a_this_aside, .ref a_this_saved, .int v_savedMany, .ref a_this_text, .int v_length, .ref a_this_states, .int v_many_2, .int v_at, .int v_isWrong, .int v_letters, .int v_matched, .ref a_this_rows, .int v_manyRows, .long v_digested])), (a_this_states, .inl (cI, 66, .inl v_states_1)), (a_this_s, .inl (cI, 31, .inl v_s))] → va_S A s.heap H locs → ∀ ls : Array Slot, lv_has ls 3 [(0, .ref a_this), (1, .int p1), (2, .int p2)] → j33 t_6 = some (r0, w_states, w_many, w_thrown) → W p l e rm_X6_pattern s m (([.ref a_this, .int p1, .int p2] : List Value).toArray) below meth c H locs 0 0 Q (F0 m 33 ls [.int t_6, .ref a_this]) := by
    intro t_6 H locs hP hD hS ls hl hden
    rw [ej33] at hden
    obtain ⟨⟨r_7, v_thrown_8⟩, hc_9, hden⟩ := bnd_s hden
    refine m_ci (wc := [(a_this, .inr (5, [.int v_thrown, .ref a_this_s, .ref a_this_aside, .ref a_this_saved, .int v_savedMany, .ref a_this_text, .int v_length, .ref a_this_states, .int v_many_2, .int v_at, .int v_isWrong, .int v_letters, .int v_matched, .ref a_this_rows, .int v_manyRows, .long v_digested]))]) (wr := [(a_this_states, .inl (cI, 66, .inl v_states_1)), (a_this_s, .inl (cI, 31, .inl v_s))]) (wc' := [(a_this, .inr (5, [.int v_thrown_8, .ref a_this_s, .ref a_this_aside, .ref a_this_saved, .int v_savedMany, .ref a_this_text, .int v_length, .ref a_this_states, .int v_many_2, .int v_at, .int v_isWrong, .int v_letters, .int v_matched, .ref a_this_rows, .int v_manyRows, .long v_digested]))]) (va_runV (As := [.int t_6]) (rest := []) ⟨hx, hb, hml, hown, hts⟩ (c_X6_holds l D cI cM cL F hc_9) (cwV 1 hts gX6_pattern_X6_holds rfl rfl rfl (by decide +kernel) ⟨Nat.le_of_ble_eq_true rfl, Nat.le_of_ble_eq_true rfl⟩) (mPreV (ci := 5) (q0 := 0) (r := (RX6, TX6, 16)) hP hD hK hN [0] (by decide) rfl rfl rfl) rfl rfl hl.1 rfl (lv_room (Nat.le_of_ble_eq_true rfl)) dX6_pattern_33 ⟨Nat.le_of_ble_eq_true rfl, Nat.le_of_ble_eq_true rfl⟩) hP hD hS hA [0] [1, 2] rfl rfl (by decide) (by decide) (fun H locs hP hD hS => ?_)
    have hP : va_P D vwCl [(a_this_states, .inl (cI, 66, .inl v_states_1)), (a_this_s, .inl (cI, 31, .inl v_s)), (a_this, .inr (5, [.int v_thrown_8, .ref a_this_s, .ref a_this_aside, .ref a_this_saved, .int v_savedMany, .ref a_this_text, .int v_length, .ref a_this_states, .int v_many_2, .int v_at, .int v_isWrong, .int v_letters, .int v_matched, .ref a_this_rows, .int v_manyRows, .long v_digested]))] H := hP
    have hD : va_D A [(a_this_states, .inl (cI, 66, .inl v_states_1)), (a_this_s, .inl (cI, 31, .inl v_s)), (a_this, .inr (5, [.int v_thrown_8, .ref a_this_s, .ref a_this_aside, .ref a_this_saved, .int v_savedMany, .ref a_this_text, .int v_length, .ref a_this_states, .int v_many_2, .int v_at, .int v_isWrong, .int v_letters, .int v_matched, .ref a_this_rows, .int v_manyRows, .long v_digested]))] := hD
    refine lv_if_eq (tgt := 48) hx hb dX6_pattern_36 (by decide) (fun c_12 => ?_) (fun c_12 => ?_)
    · have hden := if_s hden c_12
      refine lv_iconst (v := 0) hx hb dX6_pattern_48 (by decide) ?_
      subst hQe
      cases hden
      exact m_ri hx hb hr hP hD hS [2, 0, 1] (by decide) rfl rfl dX6_pattern_49 hlocks
    · have hden := ifn_s hden c_12
      refine lv_aload_n hx hb dX6_pattern_39 rfl (lv_at hl 0 rfl) ?_
      refine lv_iload_n hx hb dX6_pattern_40 rfl (lv_at hl 1 rfl) ?_
      refine lv_iload_n hx hb dX6_pattern_41 rfl (lv_at hl 2 rfl) ?_
      obtain ⟨r_10, hc_11, hden⟩ := bnd_s hden
      refine m_ci (wc := [(a_this, .inr (5, [.int v_thrown_8, .ref a_this_s, .ref a_this_aside, .ref a_this_saved, .int v_savedMany, .ref a_this_text, .int v_length, .ref a_this_states, .int v_many_2, .int v_at, .int v_isWrong, .int v_letters, .int v_matched, .ref a_this_rows, .int v_manyRows, .long v_digested])), (a_this_s, .inl (cI, 31, .inl v_s)), (a_this_states, .inl (cI, 66, .inl v_states_1))]) (wr := []) (wc' := [(a_this, .inr (5, [.int v_thrown_8, .ref a_this_s, .ref a_this_aside, .ref a_this_saved, .int v_savedMany, .ref a_this_text, .int v_length, .ref a_this_states, .int v_many_2, .int v_at, .int v_isWrong, .int v_letters, .int v_matched, .ref a_this_rows, .int v_manyRows, .long v_digested])), (a_this_s, .inl (cI, 31, .inl v_s)), (a_this_states, .inl (cI, 66, .inl v_states_1))]) (va_runV (As := [.int p1, .int p2]) (rest := []) ⟨hx, hb, hml, hown, hts⟩ (c_X6_patternOf l D cI cM cL F hc_11) (cwV 2 hts gX6_pattern_X6_patternOf rfl rfl rfl (by decide +kernel) ⟨Nat.le_of_ble_eq_true rfl, Nat.le_of_ble_eq_true rfl⟩) (mPreV (ci := 5) (q0 := 0) (r := (RX6, TX6, 16)) hP hD hK hN [2, 1, 0] (by decide) rfl rfl rfl) rfl rfl hl.1 rfl (lv_room (Nat.le_of_ble_eq_true rfl)) dX6_pattern_42 ⟨Nat.le_of_ble_eq_true rfl, Nat.le_of_ble_eq_true rfl⟩) hP hD hS hA [2, 1, 0] [] rfl rfl (by decide) (by decide) (fun H locs hP hD hS => ?_)
      have hP : va_P D vwCl [(a_this, .inr (5, [.int v_thrown_8, .ref a_this_s, .ref a_this_aside, .ref a_this_saved, .int v_savedMany, .ref a_this_text, .int v_length, .ref a_this_states, .int v_many_2, .int v_at, .int v_isWrong, .int v_letters, .int v_matched, .ref a_this_rows, .int v_manyRows, .long v_digested])), (a_this_s, .inl (cI, 31, .inl v_s)), (a_this_states, .inl (cI, 66, .inl v_states_1))] H := hP
      have hD : va_D A [(a_this, .inr (5, [.int v_thrown_8, .ref a_this_s, .ref a_this_aside, .ref a_this_saved, .int v_savedMany, .ref a_this_text, .int v_length, .ref a_this_states, .int v_many_2, .int v_at, .int v_isWrong, .int v_letters, .int v_matched, .ref a_this_rows, .int v_manyRows, .long v_digested])), (a_this_s, .inl (cI, 31, .inl v_s)), (a_this_states, .inl (cI, 66, .inl v_states_1))] := hD
      refine lv_goto (tgt := 49) hx hb dX6_pattern_45 (by decide) ?_
      subst hQe
      cases hden
      exact m_ri hx hb hr hP hD hS [0, 2, 1] (by decide) rfl rfl dX6_pattern_49 hlocks
  clear ej33
  refine lv_if_ne (tgt := 19) hx hb dX6_pattern_12 (by decide) (fun c_16 => ?_) (fun c_16 => ?_)
  · have hden := ifn_s hden c_16
    refine lv_iload_n hx hb dX6_pattern_19 rfl (lv_at hl 2 rfl) ?_
    refine lv_iconst (v := 0) hx hb dX6_pattern_20 (by decide) ?_
    refine lv_iconst (v := 5) hx hb dX6_pattern_21 (by decide) ?_
    obtain ⟨r_13, hc_14, hden⟩ := bnd_s hden
    refine m_ci (wc := []) (wr := [(a_this, .inr (5, [.int v_thrown, .ref a_this_s, .ref a_this_aside, .ref a_this_saved, .int v_savedMany, .ref a_this_text, .int v_length, .ref a_this_states, .int v_many_2, .int v_at, .int v_isWrong, .int v_letters, .int v_matched, .ref a_this_rows, .int v_manyRows, .long v_digested])), (a_this_states, .inl (cI, 66, .inl v_states_1)), (a_this_s, .inl (cI, 31, .inl v_s))]) (wc' := []) (va_runS (As := [.int p2, .int 0, .int 5]) (rest := [.ref a_this]) ⟨hx, hb, hml, hown, hts⟩ (c_X6_in l D cI cM cL F hc_14) (va_cwS 3 hts gX6_pattern_X6_in rfl rfl rfl (by decide +kernel) ⟨Nat.le_of_ble_eq_true rfl, Nat.le_of_ble_eq_true rfl⟩) (mPreS hP hD hK hN [] (by decide) rfl) rfl rfl hl.1 rfl (lv_room (Nat.le_of_ble_eq_true rfl)) dX6_pattern_22 ⟨Nat.le_of_ble_eq_true rfl, Nat.le_of_ble_eq_true rfl⟩) hP hD hS hA [] [0, 1, 2] rfl rfl (by decide) (by decide) (fun H locs hP hD hS => ?_)
    have hP : va_P D vwCl [(a_this, .inr (5, [.int v_thrown, .ref a_this_s, .ref a_this_aside, .ref a_this_saved, .int v_savedMany, .ref a_this_text, .int v_length, .ref a_this_states, .int v_many_2, .int v_at, .int v_isWrong, .int v_letters, .int v_matched, .ref a_this_rows, .int v_manyRows, .long v_digested])), (a_this_states, .inl (cI, 66, .inl v_states_1)), (a_this_s, .inl (cI, 31, .inl v_s))] H := hP
    have hD : va_D A [(a_this, .inr (5, [.int v_thrown, .ref a_this_s, .ref a_this_aside, .ref a_this_saved, .int v_savedMany, .ref a_this_text, .int v_length, .ref a_this_states, .int v_many_2, .int v_at, .int v_isWrong, .int v_letters, .int v_matched, .ref a_this_rows, .int v_manyRows, .long v_digested])), (a_this_states, .inl (cI, 66, .inl v_states_1)), (a_this_s, .inl (cI, 31, .inl v_s))] := hD
    refine lv_if_ne (tgt := 32) hx hb dX6_pattern_25 (by decide) (fun c_15 => ?_) (fun c_15 => ?_)
    · have hden := ifn_s hden c_15
      refine lv_iconst (v := 0) hx hb dX6_pattern_32 (by decide) ?_
      exact hj33 0 _ _ (mSubP hP [0, 1, 2] rfl) (hD.sub [0, 1, 2] (by decide) rfl) hS ls (lv_sub hl [0, 1, 2] rfl) hden
    · have hden := if_s hden c_15
      refine lv_iconst (v := 2) hx hb dX6_pattern_28 (by decide) ?_
      refine lv_goto (tgt := 33) hx hb dX6_pattern_29 (by decide) ?_
      exact hj33 2 _ _ (mSubP hP [0, 1, 2] rfl) (hD.sub [0, 1, 2] (by decide) rfl) hS ls (lv_sub hl [0, 1, 2] rfl) hden
  · have hden := if_s hden c_16
    refine lv_iconst (v := 1) hx hb dX6_pattern_15 (by decide) ?_
    refine lv_goto (tgt := 33) hx hb dX6_pattern_16 (by decide) ?_
    exact hj33 1 _ _ (mSubP hP [0, 1, 2] rfl) (hD.sub [0, 1, 2] (by decide) rfl) hS ls (lv_sub hl [0, 1, 2] rfl) hden
def D_X6_letterOf (F : Nat) (p1 : Int32) (p2 : Int32) (v_s : (Nat → Int32)) : Option (Int32) := bnd (D_X6_isThere F p1 v_s) (fun r_1 => jp (fun (t_3 : Int32) => (if t_3 ≤ p2 then some ((-1)) else grd (inb ((0 : Int32) + p1) 31) (some ((((v_s ((0 : Int32) + p1).toNatClampNeg) >>> (((2 : Int32) * ((t_3 - 1) - p2)) &&& 31)) &&& 3))))) (fun j23 => (if r_1 = 0 then j23 0 else grd (inb ((0 : Int32) + p1) 31) (bnd (D_X6_lengthOf F (v_s ((0 : Int32) + p1).toNatClampNeg)) (fun r_7 => j23 r_7)))))
def rm_X6_letterOf : Room := { frames := 1, cells := 0, slots := 0, locals := 21 }
set_option maxHeartbeats 4000000 in
set_option maxRecDepth 100000 in
theorem c_X6_letterOf (l : Launch) (D : va_G) (cI cM cL : ClassId) (F : Nat) {a_this a_this_s a_this_aside a_this_saved a_this_text a_this_states a_this_rows : Nat} {sz : Nat} {v_thrown v_savedMany v_length v_many v_at v_isWrong v_letters v_matched v_manyRows : Int32} {v_digested : Int64} {v_s : Nat → Int32} {p1 : Int32} {p2 : Int32} {r0 : Int32} (hden : D_X6_letterOf F p1 p2 v_s = some (r0)) : Met l yX6_letterOf wsX6_letterOf rm_X6_letterOf (va_Pc [.ref a_this, .int p1, .int p2] (mB D (mTy cI cM cL) sz [(a_this, .inr (5, [.int v_thrown, .ref a_this_s, .ref a_this_aside, .ref a_this_saved, .int v_savedMany, .ref a_this_text, .int v_length, .ref a_this_states, .int v_many, .int v_at, .int v_isWrong, .int v_letters, .int v_matched, .ref a_this_rows, .int v_manyRows, .long v_digested])), (a_this_s, .inl (cI, 31, .inl v_s))])) (mQi D (va_A [(a_this, .inr (5, [.int v_thrown, .ref a_this_s, .ref a_this_aside, .ref a_this_saved, .int v_savedMany, .ref a_this_text, .int v_length, .ref a_this_states, .int v_many, .int v_at, .int v_isWrong, .int v_letters, .int v_matched, .ref a_this_rows, .int v_manyRows, .long v_digested])), (a_this_s, .inl (cI, 31, .inl v_s))] sz) [(a_this, .inr (5, [.int v_thrown, .ref a_this_s, .ref a_this_aside, .ref a_this_saved, .int v_savedMany, .ref a_this_text, .int v_length, .ref a_this_states, .int v_many, .int v_at, .int v_isWrong, .int v_letters, .int v_matched, .ref a_this_rows, .int v_manyRows, .long v_digested])), (a_this_s, .inl (cI, 31, .inl v_s))] r0) 0 0 (va_A [(a_this, .inr (5, [.int v_thrown, .ref a_this_s, .ref a_this_aside, .ref a_this_saved, .int v_savedMany, .ref a_this_text, .int v_length, .ref a_this_states, .int v_many, .int v_at, .int v_isWrong, .int v_letters, .int v_matched, .ref a_this_rows, .int v_manyRows, .long v_digested])), (a_this_s, .inl (cI, 31, .inl v_s))] sz) := by
  refine Met.ofW (cc := cX6_letterOf) (maxL := 4) (ret := (some .int)) (by decide) rfl ?_
  intro p e s m args below meth c s₁ B hml hv
  obtain ⟨rfl, hsz, hP, hK, hN, hD0⟩ := hv
  have hx := B.exec
  have hb := B.bytes
  have hr := B.returns
  have hts := atoms_spec (ws := wsX6_letterOf) B.pre
  have hown : s.vm.findClass RX6 = some m.cls := findClass_of_methodNamed B.named
  have hlocks := B.notSynchronized
  subst hsz
  have hD := hD0.self (sz := s.heap.size)
  generalize hAe : va_A [(a_this, .inr (5, [.int v_thrown, .ref a_this_s, .ref a_this_aside, .ref a_this_saved, .int v_savedMany, .ref a_this_text, .int v_length, .ref a_this_states, .int v_many, .int v_at, .int v_isWrong, .int v_letters, .int v_matched, .ref a_this_rows, .int v_manyRows, .long v_digested])), (a_this_s, .inl (cI, 31, .inl v_s))] s.heap.size = A at hD ⊢
  have hA : ∀ q : Nat, s.heap.size ≤ q → A q := fun q h => by rw [← hAe]; exact Or.inr h
  have hS : va_S A s.heap s.heap [] := va_S.rf
  have hl := lv_entry ([.ref a_this, .int p1, .int p2]) (n := 4) (Nat.le_of_ble_eq_true rfl)
  rw [lg_entry_eq]
  generalize (lg_sl ([.ref a_this, .int p1, .int p2]) ++ List.replicate (4 - (lg_sl ([.ref a_this, .int p1, .int p2])).length) Slot.unset).toArray = ls at hl ⊢
  have hl : lv_has ls 4 [(0, .ref a_this), (1, .int p1), (2, .int p2)] := hl
  change W p l e rm_X6_letterOf s m (([.ref a_this, .int p1, .int p2] : List Value).toArray) below meth c s.heap [] 0 0 _ (F0 m 0 ls [])
  generalize hQe : MQ below (mQi D A [(a_this, .inr (5, [.int v_thrown, .ref a_this_s, .ref a_this_aside, .ref a_this_saved, .int v_savedMany, .ref a_this_text, .int v_length, .ref a_this_states, .int v_many, .int v_at, .int v_isWrong, .int v_letters, .int v_matched, .ref a_this_rows, .int v_manyRows, .long v_digested])), (a_this_s, .inl (cI, 31, .inl v_s))] r0) (([.ref a_this, .int p1, .int p2] : List Value).toArray) s 0 0 A = Q
  rw [D_X6_letterOf] at hden
  have hin_X6 : ∀ w ∈ wsX60, w ∈ wsX6_letterOf := by decide +kernel
  have w_7 := hts (.fieldLink RX6 7 "FallingPatternsModel" "s" "[I") (by decide +kernel)
  refine lv_aload_n hx hb dX6_letterOf_0 rfl (lv_at hl 0 rfl) ?_
  refine lv_iload_n hx hb dX6_letterOf_1 rfl (lv_at hl 1 rfl) ?_
  obtain ⟨r_1, hc_2, hden⟩ := bnd_s hden
  refine m_ci (wc := [(a_this, .inr (5, [.int v_thrown, .ref a_this_s, .ref a_this_aside, .ref a_this_saved, .int v_savedMany, .ref a_this_text, .int v_length, .ref a_this_states, .int v_many, .int v_at, .int v_isWrong, .int v_letters, .int v_matched, .ref a_this_rows, .int v_manyRows, .long v_digested])), (a_this_s, .inl (cI, 31, .inl v_s))]) (wr := []) (wc' := [(a_this, .inr (5, [.int v_thrown, .ref a_this_s, .ref a_this_aside, .ref a_this_saved, .int v_savedMany, .ref a_this_text, .int v_length, .ref a_this_states, .int v_many, .int v_at, .int v_isWrong, .int v_letters, .int v_matched, .ref a_this_rows, .int v_manyRows, .long v_digested])), (a_this_s, .inl (cI, 31, .inl v_s))]) (va_runV (As := [.int p1]) (rest := []) ⟨hx, hb, hml, hown, hts⟩ (c_X6_isThere l D cI cM cL F hc_2) (cwV 1 hts gX6_letterOf_X6_isThere rfl rfl rfl (by decide +kernel) ⟨Nat.le_of_ble_eq_true rfl, Nat.le_of_ble_eq_true rfl⟩) (mPreV (ci := 5) (q0 := 0) (r := (RX6, TX6, 16)) hP hD hK hN [0, 1] (by decide) rfl rfl rfl) rfl rfl hl.1 rfl (lv_room (Nat.le_of_ble_eq_true rfl)) dX6_letterOf_2 ⟨Nat.le_of_ble_eq_true rfl, Nat.le_of_ble_eq_true rfl⟩) hP hD hS hA [0, 1] [] rfl rfl (by decide) (by decide) (fun H locs hP hD hS => ?_)
  have hP : va_P D vwCl [(a_this, .inr (5, [.int v_thrown, .ref a_this_s, .ref a_this_aside, .ref a_this_saved, .int v_savedMany, .ref a_this_text, .int v_length, .ref a_this_states, .int v_many, .int v_at, .int v_isWrong, .int v_letters, .int v_matched, .ref a_this_rows, .int v_manyRows, .long v_digested])), (a_this_s, .inl (cI, 31, .inl v_s))] H := hP
  have hD : va_D A [(a_this, .inr (5, [.int v_thrown, .ref a_this_s, .ref a_this_aside, .ref a_this_saved, .int v_savedMany, .ref a_this_text, .int v_length, .ref a_this_states, .int v_many, .int v_at, .int v_isWrong, .int v_letters, .int v_matched, .ref a_this_rows, .int v_manyRows, .long v_digested])), (a_this_s, .inl (cI, 31, .inl v_s))] := hD
  obtain ⟨j23, ej23, hden⟩ := jp_s hden
  have hj23 : ∀ (t_3 : Int32) (H : Heap) (locs : List Loc), va_P D vwCl [(a_this, .inr (5, [.int v_thrown, .ref a_this_s, .ref a_this_aside, .ref a_this_saved, .int v_savedMany, .ref a_this_text, .int v_length, .ref a_this_states, .int v_many, .int v_at, .int v_isWrong, .int v_letters, .int v_matched, .ref a_this_rows, .int v_manyRows, .long v_digested])), (a_this_s, .inl (cI, 31, .inl v_s))] H → va_D A [(a_this, .inr (5, [.int v_thrown, .ref a_this_s, .ref a_this_aside, .ref a_this_saved, .int v_savedMany, .ref a_this_text, .int v_length, .ref a_this_states, .int v_many, .int v_at, .int v_isWrong, .int v_letters, .int v_matched, .ref a_this_rows, .int v_manyRows, .long v_digested])), (a_this_s, .inl (cI, 31, .inl v_s))] → va_S A s.heap H locs → ∀ ls : Array Slot, lv_has ls 4 [(0, .ref a_this), (1, .int p1), (2, .int p2)] → j23 t_3 = some (r0) → W p l e rm_X6_letterOf s m (([.ref a_this, .int p1, .int p2] : List Value).toArray) below meth c H locs 0 0 Q (F0 m 23 ls [.int t_3]) := by
    intro t_3 H locs hP hD hS ls hl hden
    rw [ej23] at hden
    refine lv_istore_n (lv' := [(3, .int t_3), (0, .ref a_this), (1, .int p1), (2, .int p2)]) hx hb dX6_letterOf_23 rfl hl (by decide) rfl (fun ls hl => ?_)
    refine lv_iload_n hx hb dX6_letterOf_24 rfl (lv_at hl 3 rfl) ?_
    refine lv_iload_n hx hb dX6_letterOf_25 rfl (lv_at hl 0 rfl) ?_
    refine lv_icmp_ge (tgt := 50) hx hb dX6_letterOf_26 (by decide) (fun c_5 => ?_) (fun c_5 => ?_)
    · have hden := if_s hden c_5
      refine lv_iconst (v := (-1)) hx hb dX6_letterOf_50 (by decide) ?_
      subst hQe
      cases hden
      exact m_ri hx hb hr hP hD hS [0, 1] (by decide) rfl rfl dX6_letterOf_51 hlocks
    · have hden := ifn_s hden c_5
      refine lv_aload_n hx hb dX6_letterOf_29 rfl (lv_at hl 1 rfl) ?_
      refine va_get (D := D) (ci := 5) (v := .ref a_this_s) (C := RX6) (T := TX6) (N := 16) hx hb hts hin_X6 hown hK hP 0 rfl rfl 1 (by decide) w_7 (fun _ h9 => h9) rfl dX6_letterOf_30 ?_
      refine lv_iconst (v := 0) hx hb dX6_letterOf_33 (by decide) ?_
      refine lv_iload_n hx hb dX6_letterOf_34 rfl (lv_at hl 2 rfl) ?_
      refine lv_iadd hx hb dX6_letterOf_35 ?_
      obtain ⟨hg_4, hden⟩ := grd_s hden
      refine va_iald hx hb hK hP 1 0 rfl rfl (inb_in hg_4) dX6_letterOf_36 ?_
      refine lv_iconst (v := 2) hx hb dX6_letterOf_37 (by decide) ?_
      refine lv_iload_n hx hb dX6_letterOf_38 rfl (lv_at hl 0 rfl) ?_
      refine lv_iconst (v := 1) hx hb dX6_letterOf_39 (by decide) ?_
      refine lv_isub hx hb dX6_letterOf_40 ?_
      refine lv_iload_n hx hb dX6_letterOf_41 rfl (lv_at hl 3 rfl) ?_
      refine lv_isub hx hb dX6_letterOf_42 ?_
      refine lv_imul hx hb dX6_letterOf_43 ?_
      refine lv_ishr hx hb dX6_letterOf_44 ?_
      refine lv_iconst (v := 3) hx hb dX6_letterOf_45 (by decide) ?_
      refine lv_iand hx hb dX6_letterOf_46 ?_
      refine lv_goto (tgt := 51) hx hb dX6_letterOf_47 (by decide) ?_
      subst hQe
      cases hden
      exact m_ri hx hb hr hP hD hS [0, 1] (by decide) rfl rfl dX6_letterOf_51 hlocks
  clear ej23
  refine lv_if_eq (tgt := 22) hx hb dX6_letterOf_5 (by decide) (fun c_9 => ?_) (fun c_9 => ?_)
  · have hden := if_s hden c_9
    refine lv_iconst (v := 0) hx hb dX6_letterOf_22 (by decide) ?_
    exact hj23 0 _ _ (mSubP hP [0, 1] rfl) (hD.sub [0, 1] (by decide) rfl) hS ls (lv_sub hl [0, 1, 2] rfl) hden
  · have hden := ifn_s hden c_9
    refine lv_aload_n hx hb dX6_letterOf_8 rfl (lv_at hl 0 rfl) ?_
    refine va_get (D := D) (ci := 5) (v := .ref a_this_s) (C := RX6) (T := TX6) (N := 16) hx hb hts hin_X6 hown hK hP 0 rfl rfl 1 (by decide) w_7 (fun _ h9 => h9) rfl dX6_letterOf_9 ?_
    refine lv_iconst (v := 0) hx hb dX6_letterOf_12 (by decide) ?_
    refine lv_iload_n hx hb dX6_letterOf_13 rfl (lv_at hl 1 rfl) ?_
    refine lv_iadd hx hb dX6_letterOf_14 ?_
    obtain ⟨hg_6, hden⟩ := grd_s hden
    refine va_iald hx hb hK hP 1 0 rfl rfl (inb_in hg_6) dX6_letterOf_15 ?_
    obtain ⟨r_7, hc_8, hden⟩ := bnd_s hden
    refine m_ci (wc := []) (wr := [(a_this, .inr (5, [.int v_thrown, .ref a_this_s, .ref a_this_aside, .ref a_this_saved, .int v_savedMany, .ref a_this_text, .int v_length, .ref a_this_states, .int v_many, .int v_at, .int v_isWrong, .int v_letters, .int v_matched, .ref a_this_rows, .int v_manyRows, .long v_digested])), (a_this_s, .inl (cI, 31, .inl v_s))]) (wc' := []) (va_runS (As := [.int (v_s ((0 : Int32) + p1).toNatClampNeg)]) (rest := []) ⟨hx, hb, hml, hown, hts⟩ (c_X6_lengthOf l D cI cM cL F hc_8) (va_cwS 1 hts gX6_letterOf_X6_lengthOf rfl rfl rfl (by decide +kernel) ⟨Nat.le_of_ble_eq_true rfl, Nat.le_of_ble_eq_true rfl⟩) (mPreS hP hD hK hN [] (by decide) rfl) rfl rfl hl.1 rfl (lv_room (Nat.le_of_ble_eq_true rfl)) dX6_letterOf_16 ⟨Nat.le_of_ble_eq_true rfl, Nat.le_of_ble_eq_true rfl⟩) hP hD hS hA [] [0, 1] rfl rfl (by decide) (by decide) (fun H locs hP hD hS => ?_)
    have hP : va_P D vwCl [(a_this, .inr (5, [.int v_thrown, .ref a_this_s, .ref a_this_aside, .ref a_this_saved, .int v_savedMany, .ref a_this_text, .int v_length, .ref a_this_states, .int v_many, .int v_at, .int v_isWrong, .int v_letters, .int v_matched, .ref a_this_rows, .int v_manyRows, .long v_digested])), (a_this_s, .inl (cI, 31, .inl v_s))] H := hP
    have hD : va_D A [(a_this, .inr (5, [.int v_thrown, .ref a_this_s, .ref a_this_aside, .ref a_this_saved, .int v_savedMany, .ref a_this_text, .int v_length, .ref a_this_states, .int v_many, .int v_at, .int v_isWrong, .int v_letters, .int v_matched, .ref a_this_rows, .int v_manyRows, .long v_digested])), (a_this_s, .inl (cI, 31, .inl v_s))] := hD
    refine lv_goto (tgt := 23) hx hb dX6_letterOf_19 (by decide) ?_
    exact hj23 r_7 _ _ (mSubP hP [0, 1] rfl) (hD.sub [0, 1] (by decide) rfl) hS ls (lv_sub hl [0, 1, 2] rfl) hden
def D_X6_letter (F : Nat) (p1 : Int32) (p2 : Int32) (v_thrown : Int32) (v_s : (Nat → Int32)) : Option (Int32 × Int32) := bnd (D_X6_in F p1 0 7) (fun r_1 => jp (fun (t_3 : Int32) => bnd (D_X6_holds F t_3 v_thrown) (fun (r_4, v_thrown_5) => (if r_4 = 0 then some (0, v_thrown_5) else bnd (D_X6_letterOf F p1 p2 v_s) (fun r_7 => some (r_7, v_thrown_5))))) (fun j30 => (if r_1 = 0 then j30 1 else bnd (D_X6_in F p2 0 7) (fun r_10 => (if r_10 = 0 then j30 2 else j30 0)))))
def rm_X6_letter : Room := { frames := 2, cells := 0, slots := 0, locals := 44 }
set_option maxHeartbeats 4000000 in
set_option maxRecDepth 100000 in
theorem c_X6_letter (l : Launch) (D : va_G) (cI cM cL : ClassId) (F : Nat) {a_this a_this_s a_this_aside a_this_saved a_this_text a_this_states a_this_rows : Nat} {sz : Nat} {v_thrown v_savedMany v_length v_many v_at v_isWrong v_letters v_matched v_manyRows : Int32} {v_digested : Int64} {v_s : Nat → Int32} {p1 : Int32} {p2 : Int32} {r0 : Int32} {w_thrown : Int32} (hden : D_X6_letter F p1 p2 v_thrown v_s = some (r0, w_thrown)) : Met l yX6_letter wsX6_letter rm_X6_letter (va_Pc [.ref a_this, .int p1, .int p2] (mB D (mTy cI cM cL) sz [(a_this, .inr (5, [.int v_thrown, .ref a_this_s, .ref a_this_aside, .ref a_this_saved, .int v_savedMany, .ref a_this_text, .int v_length, .ref a_this_states, .int v_many, .int v_at, .int v_isWrong, .int v_letters, .int v_matched, .ref a_this_rows, .int v_manyRows, .long v_digested])), (a_this_s, .inl (cI, 31, .inl v_s))])) (mQi D (va_A [(a_this, .inr (5, [.int v_thrown, .ref a_this_s, .ref a_this_aside, .ref a_this_saved, .int v_savedMany, .ref a_this_text, .int v_length, .ref a_this_states, .int v_many, .int v_at, .int v_isWrong, .int v_letters, .int v_matched, .ref a_this_rows, .int v_manyRows, .long v_digested])), (a_this_s, .inl (cI, 31, .inl v_s))] sz) [(a_this, .inr (5, [.int w_thrown, .ref a_this_s, .ref a_this_aside, .ref a_this_saved, .int v_savedMany, .ref a_this_text, .int v_length, .ref a_this_states, .int v_many, .int v_at, .int v_isWrong, .int v_letters, .int v_matched, .ref a_this_rows, .int v_manyRows, .long v_digested])), (a_this_s, .inl (cI, 31, .inl v_s))] r0) 0 0 (va_A [(a_this, .inr (5, [.int v_thrown, .ref a_this_s, .ref a_this_aside, .ref a_this_saved, .int v_savedMany, .ref a_this_text, .int v_length, .ref a_this_states, .int v_many, .int v_at, .int v_isWrong, .int v_letters, .int v_matched, .ref a_this_rows, .int v_manyRows, .long v_digested])), (a_this_s, .inl (cI, 31, .inl v_s))] sz) := by
  refine Met.ofW (cc := cX6_letter) (maxL := 3) (ret := (some .int)) (by decide) rfl ?_
  intro p e s m args below meth c s₁ B hml hv
  obtain ⟨rfl, hsz, hP, hK, hN, hD0⟩ := hv
  have hx := B.exec
  have hb := B.bytes
  have hr := B.returns
  have hts := atoms_spec (ws := wsX6_letter) B.pre
  have hown : s.vm.findClass RX6 = some m.cls := findClass_of_methodNamed B.named
  have hlocks := B.notSynchronized
  subst hsz
  have hD := hD0.self (sz := s.heap.size)
  generalize hAe : va_A [(a_this, .inr (5, [.int v_thrown, .ref a_this_s, .ref a_this_aside, .ref a_this_saved, .int v_savedMany, .ref a_this_text, .int v_length, .ref a_this_states, .int v_many, .int v_at, .int v_isWrong, .int v_letters, .int v_matched, .ref a_this_rows, .int v_manyRows, .long v_digested])), (a_this_s, .inl (cI, 31, .inl v_s))] s.heap.size = A at hD ⊢
  have hA : ∀ q : Nat, s.heap.size ≤ q → A q := fun q h => by rw [← hAe]; exact Or.inr h
  have hS : va_S A s.heap s.heap [] := va_S.rf
  have hl := lv_entry ([.ref a_this, .int p1, .int p2]) (n := 3) (Nat.le_of_ble_eq_true rfl)
  rw [lg_entry_eq]
  generalize (lg_sl ([.ref a_this, .int p1, .int p2]) ++ List.replicate (3 - (lg_sl ([.ref a_this, .int p1, .int p2])).length) Slot.unset).toArray = ls at hl ⊢
  have hl : lv_has ls 3 [(0, .ref a_this), (1, .int p1), (2, .int p2)] := hl
  change W p l e rm_X6_letter s m (([.ref a_this, .int p1, .int p2] : List Value).toArray) below meth c s.heap [] 0 0 _ (F0 m 0 ls [])
  generalize hQe : MQ below (mQi D A [(a_this, .inr (5, [.int w_thrown, .ref a_this_s, .ref a_this_aside, .ref a_this_saved, .int v_savedMany, .ref a_this_text, .int v_length, .ref a_this_states, .int v_many, .int v_at, .int v_isWrong, .int v_letters, .int v_matched, .ref a_this_rows, .int v_manyRows, .long v_digested])), (a_this_s, .inl (cI, 31, .inl v_s))] r0) (([.ref a_this, .int p1, .int p2] : List Value).toArray) s 0 0 A = Q
  rw [D_X6_letter] at hden
  refine lv_aload_n hx hb dX6_letter_0 rfl (lv_at hl 0 rfl) ?_
  refine lv_iload_n hx hb dX6_letter_1 rfl (lv_at hl 1 rfl) ?_
  refine lv_iconst (v := 0) hx hb dX6_letter_2 (by decide) ?_
  refine lv_bipush (v := 7) hx hb dX6_letter_3 (by decide) ?_
  obtain ⟨r_1, hc_2, hden⟩ := bnd_s hden
  refine m_ci (wc := []) (wr := [(a_this, .inr (5, [.int v_thrown, .ref a_this_s, .ref a_this_aside, .ref a_this_saved, .int v_savedMany, .ref a_this_text, .int v_length, .ref a_this_states, .int v_many, .int v_at, .int v_isWrong, .int v_letters, .int v_matched, .ref a_this_rows, .int v_manyRows, .long v_digested])), (a_this_s, .inl (cI, 31, .inl v_s))]) (wc' := []) (va_runS (As := [.int p1, .int 0, .int 7]) (rest := [.ref a_this]) ⟨hx, hb, hml, hown, hts⟩ (c_X6_in l D cI cM cL F hc_2) (va_cwS 3 hts gX6_letter_X6_in rfl rfl rfl (by decide +kernel) ⟨Nat.le_of_ble_eq_true rfl, Nat.le_of_ble_eq_true rfl⟩) (mPreS hP hD hK hN [] (by decide) rfl) rfl rfl hl.1 rfl (lv_room (Nat.le_of_ble_eq_true rfl)) dX6_letter_5 ⟨Nat.le_of_ble_eq_true rfl, Nat.le_of_ble_eq_true rfl⟩) hP hD hS hA [] [0, 1] rfl rfl (by decide) (by decide) (fun H locs hP hD hS => ?_)
  have hP : va_P D vwCl [(a_this, .inr (5, [.int v_thrown, .ref a_this_s, .ref a_this_aside, .ref a_this_saved, .int v_savedMany, .ref a_this_text, .int v_length, .ref a_this_states, .int v_many, .int v_at, .int v_isWrong, .int v_letters, .int v_matched, .ref a_this_rows, .int v_manyRows, .long v_digested])), (a_this_s, .inl (cI, 31, .inl v_s))] H := hP
  have hD : va_D A [(a_this, .inr (5, [.int v_thrown, .ref a_this_s, .ref a_this_aside, .ref a_this_saved, .int v_savedMany, .ref a_this_text, .int v_length, .ref a_this_states, .int v_many, .int v_at, .int v_isWrong, .int v_letters, .int v_matched, .ref a_this_rows, .int v_manyRows, .long v_digested])), (a_this_s, .inl (cI, 31, .inl v_s))] := hD
  obtain ⟨j30, ej30, hden⟩ := jp_s hden
  have hj30 : ∀ (t_3 : Int32) (H : Heap) (locs : List Loc), va_P D vwCl [(a_this, .inr (5, [.int v_thrown, .ref a_this_s, .ref a_this_aside, .ref a_this_saved, .int v_savedMany, .ref a_this_text, .int v_length, .ref a_this_states, .int v_many, .int v_at, .int v_isWrong, .int v_letters, .int v_matched, .ref a_this_rows, .int v_manyRows, .long v_digested])), (a_this_s, .inl (cI, 31, .inl v_s))] H → va_D A [(a_this, .inr (5, [.int v_thrown, .ref a_this_s, .ref a_this_aside, .ref a_this_saved, .int v_savedMany, .ref a_this_text, .int v_length, .ref a_this_states, .int v_many, .int v_at, .int v_isWrong, .int v_letters, .int v_matched, .ref a_this_rows, .int v_manyRows, .long v_digested])), (a_this_s, .inl (cI, 31, .inl v_s))] → va_S A s.heap H locs → ∀ ls : Array Slot, lv_has ls 3 [(0, .ref a_this), (1, .int p1), (2, .int p2)] → j30 t_3 = some (r0, w_thrown) → W p l e rm_X6_letter s m (([.ref a_this, .int p1, .int p2] : List Value).toArray) below meth c H locs 0 0 Q (F0 m 30 ls [.int t_3, .ref a_this]) := by
    intro t_3 H locs hP hD hS ls hl hden
    rw [ej30] at hden
    obtain ⟨⟨r_4, v_thrown_5⟩, hc_6, hden⟩ := bnd_s hden
    refine m_ci (wc := [(a_this, .inr (5, [.int v_thrown, .ref a_this_s, .ref a_this_aside, .ref a_this_saved, .int v_savedMany, .ref a_this_text, .int v_length, .ref a_this_states, .int v_many, .int v_at, .int v_isWrong, .int v_letters, .int v_matched, .ref a_this_rows, .int v_manyRows, .long v_digested]))]) (wr := [(a_this_s, .inl (cI, 31, .inl v_s))]) (wc' := [(a_this, .inr (5, [.int v_thrown_5, .ref a_this_s, .ref a_this_aside, .ref a_this_saved, .int v_savedMany, .ref a_this_text, .int v_length, .ref a_this_states, .int v_many, .int v_at, .int v_isWrong, .int v_letters, .int v_matched, .ref a_this_rows, .int v_manyRows, .long v_digested]))]) (va_runV (As := [.int t_3]) (rest := []) ⟨hx, hb, hml, hown, hts⟩ (c_X6_holds l D cI cM cL F hc_6) (cwV 1 hts gX6_letter_X6_holds rfl rfl rfl (by decide +kernel) ⟨Nat.le_of_ble_eq_true rfl, Nat.le_of_ble_eq_true rfl⟩) (mPreV (ci := 5) (q0 := 0) (r := (RX6, TX6, 16)) hP hD hK hN [0] (by decide) rfl rfl rfl) rfl rfl hl.1 rfl (lv_room (Nat.le_of_ble_eq_true rfl)) dX6_letter_30 ⟨Nat.le_of_ble_eq_true rfl, Nat.le_of_ble_eq_true rfl⟩) hP hD hS hA [0] [1] rfl rfl (by decide) (by decide) (fun H locs hP hD hS => ?_)
    have hP : va_P D vwCl [(a_this_s, .inl (cI, 31, .inl v_s)), (a_this, .inr (5, [.int v_thrown_5, .ref a_this_s, .ref a_this_aside, .ref a_this_saved, .int v_savedMany, .ref a_this_text, .int v_length, .ref a_this_states, .int v_many, .int v_at, .int v_isWrong, .int v_letters, .int v_matched, .ref a_this_rows, .int v_manyRows, .long v_digested]))] H := hP
    have hD : va_D A [(a_this_s, .inl (cI, 31, .inl v_s)), (a_this, .inr (5, [.int v_thrown_5, .ref a_this_s, .ref a_this_aside, .ref a_this_saved, .int v_savedMany, .ref a_this_text, .int v_length, .ref a_this_states, .int v_many, .int v_at, .int v_isWrong, .int v_letters, .int v_matched, .ref a_this_rows, .int v_manyRows, .long v_digested]))] := hD
    refine lv_if_eq (tgt := 45) hx hb dX6_letter_33 (by decide) (fun c_9 => ?_) (fun c_9 => ?_)
    · have hden := if_s hden c_9
      refine lv_iconst (v := 0) hx hb dX6_letter_45 (by decide) ?_
      subst hQe
      cases hden
      exact m_ri hx hb hr hP hD hS [1, 0] (by decide) rfl rfl dX6_letter_46 hlocks
    · have hden := ifn_s hden c_9
      refine lv_aload_n hx hb dX6_letter_36 rfl (lv_at hl 0 rfl) ?_
      refine lv_iload_n hx hb dX6_letter_37 rfl (lv_at hl 1 rfl) ?_
      refine lv_iload_n hx hb dX6_letter_38 rfl (lv_at hl 2 rfl) ?_
      obtain ⟨r_7, hc_8, hden⟩ := bnd_s hden
      refine m_ci (wc := [(a_this, .inr (5, [.int v_thrown_5, .ref a_this_s, .ref a_this_aside, .ref a_this_saved, .int v_savedMany, .ref a_this_text, .int v_length, .ref a_this_states, .int v_many, .int v_at, .int v_isWrong, .int v_letters, .int v_matched, .ref a_this_rows, .int v_manyRows, .long v_digested])), (a_this_s, .inl (cI, 31, .inl v_s))]) (wr := []) (wc' := [(a_this, .inr (5, [.int v_thrown_5, .ref a_this_s, .ref a_this_aside, .ref a_this_saved, .int v_savedMany, .ref a_this_text, .int v_length, .ref a_this_states, .int v_many, .int v_at, .int v_isWrong, .int v_letters, .int v_matched, .ref a_this_rows, .int v_manyRows, .long v_digested])), (a_this_s, .inl (cI, 31, .inl v_s))]) (va_runV (As := [.int p1, .int p2]) (rest := []) ⟨hx, hb, hml, hown, hts⟩ (c_X6_letterOf l D cI cM cL F hc_8) (cwV 2 hts gX6_letter_X6_letterOf rfl rfl rfl (by decide +kernel) ⟨Nat.le_of_ble_eq_true rfl, Nat.le_of_ble_eq_true rfl⟩) (mPreV (ci := 5) (q0 := 0) (r := (RX6, TX6, 16)) hP hD hK hN [1, 0] (by decide) rfl rfl rfl) rfl rfl hl.1 rfl (lv_room (Nat.le_of_ble_eq_true rfl)) dX6_letter_39 ⟨Nat.le_of_ble_eq_true rfl, Nat.le_of_ble_eq_true rfl⟩) hP hD hS hA [1, 0] [] rfl rfl (by decide) (by decide) (fun H locs hP hD hS => ?_)
      have hP : va_P D vwCl [(a_this, .inr (5, [.int v_thrown_5, .ref a_this_s, .ref a_this_aside, .ref a_this_saved, .int v_savedMany, .ref a_this_text, .int v_length, .ref a_this_states, .int v_many, .int v_at, .int v_isWrong, .int v_letters, .int v_matched, .ref a_this_rows, .int v_manyRows, .long v_digested])), (a_this_s, .inl (cI, 31, .inl v_s))] H := hP
      have hD : va_D A [(a_this, .inr (5, [.int v_thrown_5, .ref a_this_s, .ref a_this_aside, .ref a_this_saved, .int v_savedMany, .ref a_this_text, .int v_length, .ref a_this_states, .int v_many, .int v_at, .int v_isWrong, .int v_letters, .int v_matched, .ref a_this_rows, .int v_manyRows, .long v_digested])), (a_this_s, .inl (cI, 31, .inl v_s))] := hD
      refine lv_goto (tgt := 46) hx hb dX6_letter_42 (by decide) ?_
      subst hQe
      cases hden
      exact m_ri hx hb hr hP hD hS [0, 1] (by decide) rfl rfl dX6_letter_46 hlocks
  clear ej30
  refine lv_if_ne (tgt := 15) hx hb dX6_letter_8 (by decide) (fun c_13 => ?_) (fun c_13 => ?_)
  · have hden := ifn_s hden c_13
    refine lv_iload_n hx hb dX6_letter_15 rfl (lv_at hl 2 rfl) ?_
    refine lv_iconst (v := 0) hx hb dX6_letter_16 (by decide) ?_
    refine lv_bipush (v := 7) hx hb dX6_letter_17 (by decide) ?_
    obtain ⟨r_10, hc_11, hden⟩ := bnd_s hden
    refine m_ci (wc := []) (wr := [(a_this, .inr (5, [.int v_thrown, .ref a_this_s, .ref a_this_aside, .ref a_this_saved, .int v_savedMany, .ref a_this_text, .int v_length, .ref a_this_states, .int v_many, .int v_at, .int v_isWrong, .int v_letters, .int v_matched, .ref a_this_rows, .int v_manyRows, .long v_digested])), (a_this_s, .inl (cI, 31, .inl v_s))]) (wc' := []) (va_runS (As := [.int p2, .int 0, .int 7]) (rest := [.ref a_this]) ⟨hx, hb, hml, hown, hts⟩ (c_X6_in l D cI cM cL F hc_11) (va_cwS 3 hts gX6_letter_X6_in rfl rfl rfl (by decide +kernel) ⟨Nat.le_of_ble_eq_true rfl, Nat.le_of_ble_eq_true rfl⟩) (mPreS hP hD hK hN [] (by decide) rfl) rfl rfl hl.1 rfl (lv_room (Nat.le_of_ble_eq_true rfl)) dX6_letter_19 ⟨Nat.le_of_ble_eq_true rfl, Nat.le_of_ble_eq_true rfl⟩) hP hD hS hA [] [0, 1] rfl rfl (by decide) (by decide) (fun H locs hP hD hS => ?_)
    have hP : va_P D vwCl [(a_this, .inr (5, [.int v_thrown, .ref a_this_s, .ref a_this_aside, .ref a_this_saved, .int v_savedMany, .ref a_this_text, .int v_length, .ref a_this_states, .int v_many, .int v_at, .int v_isWrong, .int v_letters, .int v_matched, .ref a_this_rows, .int v_manyRows, .long v_digested])), (a_this_s, .inl (cI, 31, .inl v_s))] H := hP
    have hD : va_D A [(a_this, .inr (5, [.int v_thrown, .ref a_this_s, .ref a_this_aside, .ref a_this_saved, .int v_savedMany, .ref a_this_text, .int v_length, .ref a_this_states, .int v_many, .int v_at, .int v_isWrong, .int v_letters, .int v_matched, .ref a_this_rows, .int v_manyRows, .long v_digested])), (a_this_s, .inl (cI, 31, .inl v_s))] := hD
    refine lv_if_ne (tgt := 29) hx hb dX6_letter_22 (by decide) (fun c_12 => ?_) (fun c_12 => ?_)
    · have hden := ifn_s hden c_12
      refine lv_iconst (v := 0) hx hb dX6_letter_29 (by decide) ?_
      exact hj30 0 _ _ (mSubP hP [0, 1] rfl) (hD.sub [0, 1] (by decide) rfl) hS ls (lv_sub hl [0, 1, 2] rfl) hden
    · have hden := if_s hden c_12
      refine lv_iconst (v := 2) hx hb dX6_letter_25 (by decide) ?_
      refine lv_goto (tgt := 30) hx hb dX6_letter_26 (by decide) ?_
      exact hj30 2 _ _ (mSubP hP [0, 1] rfl) (hD.sub [0, 1] (by decide) rfl) hS ls (lv_sub hl [0, 1, 2] rfl) hden
  · have hden := if_s hden c_13
    refine lv_iconst (v := 1) hx hb dX6_letter_11 (by decide) ?_
    refine lv_goto (tgt := 30) hx hb dX6_letter_12 (by decide) ?_
    exact hj30 1 _ _ (mSubP hP [0, 1] rfl) (hD.sub [0, 1] (by decide) rfl) hS ls (lv_sub hl [0, 1, 2] rfl) hden
def D_X6_stateOf (F : Nat) (p1 : Int32) (p2 : Int32) (v_states : (Nat → Int32)) (v_s : (Nat → Int32)) : Option (Int32) := grd (inb p1 66) (nm (v_states p1.toNatClampNeg) (fun x3_2 => (if p2 = 0 then bnd (D_X6_lengthOf F x3_2) (fun r_3 => some (r_3)) else (if p2 = 1 then (if x3_2 = 1 then some ((-1)) else some ((x3_2 &&& 3))) else (if p2 = 2 then (if x3_2 = 1 then some ((-1)) else bnd (D_X6_back F x3_2 v_s) (fun r_8 => bnd (D_X6_numberOf F r_8 v_states) (fun r_10 => some (r_10)))) else (if p2 = 3 then bnd (D_X6_ending F x3_2 v_s) (fun r_14 => some (r_14)) else (if p2 = 4 then bnd (D_X6_beginning F x3_2 v_s) (fun r_17 => some (r_17)) else bnd (D_X6_behind F x3_2 (p2 - 5) v_s) (fun r_20 => bnd (D_X6_numberOf F r_20 v_states) (fun r_22 => some (r_22))))))))))
def rm_X6_stateOf : Room := { frames := 7, cells := 0, slots := 0, locals := 152 }
set_option maxHeartbeats 4000000 in
set_option maxRecDepth 100000 in
theorem c_X6_stateOf (l : Launch) (D : va_G) (cI cM cL : ClassId) (F : Nat) {a_this a_this_s a_this_aside a_this_saved a_this_text a_this_states a_this_rows : Nat} {sz : Nat} {v_thrown v_savedMany v_length v_many v_at v_isWrong v_letters v_matched v_manyRows : Int32} {v_digested : Int64} {v_states v_s : Nat → Int32} {p1 : Int32} {p2 : Int32} {r0 : Int32} (hden : D_X6_stateOf F p1 p2 v_states v_s = some (r0)) : Met l yX6_stateOf wsX6_stateOf rm_X6_stateOf (va_Pc [.ref a_this, .int p1, .int p2] (mB D (mTy cI cM cL) sz [(a_this, .inr (5, [.int v_thrown, .ref a_this_s, .ref a_this_aside, .ref a_this_saved, .int v_savedMany, .ref a_this_text, .int v_length, .ref a_this_states, .int v_many, .int v_at, .int v_isWrong, .int v_letters, .int v_matched, .ref a_this_rows, .int v_manyRows, .long v_digested])), (a_this_states, .inl (cI, 66, .inl v_states)), (a_this_s, .inl (cI, 31, .inl v_s))])) (mQi D (va_A [(a_this, .inr (5, [.int v_thrown, .ref a_this_s, .ref a_this_aside, .ref a_this_saved, .int v_savedMany, .ref a_this_text, .int v_length, .ref a_this_states, .int v_many, .int v_at, .int v_isWrong, .int v_letters, .int v_matched, .ref a_this_rows, .int v_manyRows, .long v_digested])), (a_this_states, .inl (cI, 66, .inl v_states)), (a_this_s, .inl (cI, 31, .inl v_s))] sz) [(a_this, .inr (5, [.int v_thrown, .ref a_this_s, .ref a_this_aside, .ref a_this_saved, .int v_savedMany, .ref a_this_text, .int v_length, .ref a_this_states, .int v_many, .int v_at, .int v_isWrong, .int v_letters, .int v_matched, .ref a_this_rows, .int v_manyRows, .long v_digested])), (a_this_states, .inl (cI, 66, .inl v_states)), (a_this_s, .inl (cI, 31, .inl v_s))] r0) 0 0 (va_A [(a_this, .inr (5, [.int v_thrown, .ref a_this_s, .ref a_this_aside, .ref a_this_saved, .int v_savedMany, .ref a_this_text, .int v_length, .ref a_this_states, .int v_many, .int v_at, .int v_isWrong, .int v_letters, .int v_matched, .ref a_this_rows, .int v_manyRows, .long v_digested])), (a_this_states, .inl (cI, 66, .inl v_states)), (a_this_s, .inl (cI, 31, .inl v_s))] sz) := by
  refine Met.ofW (cc := cX6_stateOf) (maxL := 4) (ret := (some .int)) (by decide) rfl ?_
  intro p e s m args below meth c s₁ B hml hv
  obtain ⟨rfl, hsz, hP, hK, hN, hD0⟩ := hv
  have hx := B.exec
  have hb := B.bytes
  have hr := B.returns
  have hts := atoms_spec (ws := wsX6_stateOf) B.pre
  have hown : s.vm.findClass RX6 = some m.cls := findClass_of_methodNamed B.named
  have hlocks := B.notSynchronized
  subst hsz
  have hD := hD0.self (sz := s.heap.size)
  generalize hAe : va_A [(a_this, .inr (5, [.int v_thrown, .ref a_this_s, .ref a_this_aside, .ref a_this_saved, .int v_savedMany, .ref a_this_text, .int v_length, .ref a_this_states, .int v_many, .int v_at, .int v_isWrong, .int v_letters, .int v_matched, .ref a_this_rows, .int v_manyRows, .long v_digested])), (a_this_states, .inl (cI, 66, .inl v_states)), (a_this_s, .inl (cI, 31, .inl v_s))] s.heap.size = A at hD ⊢
  have hA : ∀ q : Nat, s.heap.size ≤ q → A q := fun q h => by rw [← hAe]; exact Or.inr h
  have hS : va_S A s.heap s.heap [] := va_S.rf
  have hl := lv_entry ([.ref a_this, .int p1, .int p2]) (n := 4) (Nat.le_of_ble_eq_true rfl)
  rw [lg_entry_eq]
  generalize (lg_sl ([.ref a_this, .int p1, .int p2]) ++ List.replicate (4 - (lg_sl ([.ref a_this, .int p1, .int p2])).length) Slot.unset).toArray = ls at hl ⊢
  have hl : lv_has ls 4 [(0, .ref a_this), (1, .int p1), (2, .int p2)] := hl
  change W p l e rm_X6_stateOf s m (([.ref a_this, .int p1, .int p2] : List Value).toArray) below meth c s.heap [] 0 0 _ (F0 m 0 ls [])
  generalize hQe : MQ below (mQi D A [(a_this, .inr (5, [.int v_thrown, .ref a_this_s, .ref a_this_aside, .ref a_this_saved, .int v_savedMany, .ref a_this_text, .int v_length, .ref a_this_states, .int v_many, .int v_at, .int v_isWrong, .int v_letters, .int v_matched, .ref a_this_rows, .int v_manyRows, .long v_digested])), (a_this_states, .inl (cI, 66, .inl v_states)), (a_this_s, .inl (cI, 31, .inl v_s))] r0) (([.ref a_this, .int p1, .int p2] : List Value).toArray) s 0 0 A = Q
  rw [D_X6_stateOf] at hden
  have hin_X6 : ∀ w ∈ wsX60, w ∈ wsX6_stateOf := by decide +kernel
  have w_22 := hts (.fieldLink RX6 22 "FallingPatternsModel" "states" "[I") (by decide +kernel)
  refine lv_aload_n hx hb dX6_stateOf_0 rfl (lv_at hl 0 rfl) ?_
  refine va_get (D := D) (ci := 5) (v := .ref a_this_states) (C := RX6) (T := TX6) (N := 16) hx hb hts hin_X6 hown hK hP 0 rfl rfl 7 (by decide) w_22 (fun _ h9 => h9) rfl dX6_stateOf_1 ?_
  refine lv_iload_n hx hb dX6_stateOf_4 rfl (lv_at hl 1 rfl) ?_
  obtain ⟨hg_1, hden⟩ := grd_s hden
  refine va_iald hx hb hK hP 1 0 rfl rfl (inb_in hg_1) dX6_stateOf_5 ?_
  refine lv_topi (fun x3_2 ex3_2 => ?_)
  have hden := nm_s hden ex3_2
  refine lv_istore_n (lv' := [(3, .int x3_2), (0, .ref a_this), (1, .int p1), (2, .int p2)]) hx hb dX6_stateOf_6 rfl hl (by decide) rfl (fun ls hl => ?_)
  refine lv_iload_n hx hb dX6_stateOf_7 rfl (lv_at hl 3 rfl) ?_
  by_cases c_5 : p2 = 0
  · have hden := if_s hden c_5
    refine lv_tableIn (off := 36) (tgt := 44) hx hb dX6_stateOf_8 (by rw [c_5]; decide) (by rw [c_5]; decide) (by rw [c_5]; rfl) (by decide) ?_
    refine lv_iload_n hx hb dX6_stateOf_44 rfl (lv_at hl 0 rfl) ?_
    obtain ⟨r_3, hc_4, hden⟩ := bnd_s hden
    refine m_ci (wc := []) (wr := [(a_this, .inr (5, [.int v_thrown, .ref a_this_s, .ref a_this_aside, .ref a_this_saved, .int v_savedMany, .ref a_this_text, .int v_length, .ref a_this_states, .int v_many, .int v_at, .int v_isWrong, .int v_letters, .int v_matched, .ref a_this_rows, .int v_manyRows, .long v_digested])), (a_this_states, .inl (cI, 66, .inl v_states)), (a_this_s, .inl (cI, 31, .inl v_s))]) (wc' := []) (va_runS (As := [.int x3_2]) (rest := []) ⟨hx, hb, hml, hown, hts⟩ (c_X6_lengthOf l D cI cM cL F hc_4) (va_cwS 1 hts gX6_stateOf_X6_lengthOf rfl rfl rfl (by decide +kernel) ⟨Nat.le_of_ble_eq_true rfl, Nat.le_of_ble_eq_true rfl⟩) (mPreS hP hD hK hN [] (by decide) rfl) rfl rfl hl.1 rfl (lv_room (Nat.le_of_ble_eq_true rfl)) dX6_stateOf_45 ⟨Nat.le_of_ble_eq_true rfl, Nat.le_of_ble_eq_true rfl⟩) hP hD hS hA [] [0, 1, 2] rfl rfl (by decide) (by decide) (fun H locs hP hD hS => ?_)
    have hP : va_P D vwCl [(a_this, .inr (5, [.int v_thrown, .ref a_this_s, .ref a_this_aside, .ref a_this_saved, .int v_savedMany, .ref a_this_text, .int v_length, .ref a_this_states, .int v_many, .int v_at, .int v_isWrong, .int v_letters, .int v_matched, .ref a_this_rows, .int v_manyRows, .long v_digested])), (a_this_states, .inl (cI, 66, .inl v_states)), (a_this_s, .inl (cI, 31, .inl v_s))] H := hP
    have hD : va_D A [(a_this, .inr (5, [.int v_thrown, .ref a_this_s, .ref a_this_aside, .ref a_this_saved, .int v_savedMany, .ref a_this_text, .int v_length, .ref a_this_states, .int v_many, .int v_at, .int v_isWrong, .int v_letters, .int v_matched, .ref a_this_rows, .int v_manyRows, .long v_digested])), (a_this_states, .inl (cI, 66, .inl v_states)), (a_this_s, .inl (cI, 31, .inl v_s))] := hD
    subst hQe
    cases hden
    exact m_ri hx hb hr hP hD hS [0, 1, 2] (by decide) rfl rfl dX6_stateOf_48 hlocks
  have hden := ifn_s hden c_5
  by_cases c_7 : p2 = 1
  · have hden := if_s hden c_7
    refine lv_tableIn (off := 41) (tgt := 49) hx hb dX6_stateOf_8 (by rw [c_7]; decide) (by rw [c_7]; decide) (by rw [c_7]; rfl) (by decide) ?_
    refine lv_iload_n hx hb dX6_stateOf_49 rfl (lv_at hl 0 rfl) ?_
    refine lv_iconst (v := 1) hx hb dX6_stateOf_50 (by decide) ?_
    refine lv_icmp_ne (tgt := 58) hx hb dX6_stateOf_51 (by decide) (fun c_6 => ?_) (fun c_6 => ?_)
    · have hden := ifn_s hden c_6
      refine lv_iload_n hx hb dX6_stateOf_58 rfl (lv_at hl 0 rfl) ?_
      refine lv_iconst (v := 3) hx hb dX6_stateOf_59 (by decide) ?_
      refine lv_iand hx hb dX6_stateOf_60 ?_
      subst hQe
      cases hden
      exact m_ri hx hb hr hP hD hS [0, 1, 2] (by decide) rfl rfl dX6_stateOf_61 hlocks
    · have hden := if_s hden c_6
      refine lv_iconst (v := (-1)) hx hb dX6_stateOf_54 (by decide) ?_
      refine lv_goto (tgt := 61) hx hb dX6_stateOf_55 (by decide) ?_
      subst hQe
      cases hden
      exact m_ri hx hb hr hP hD hS [0, 1, 2] (by decide) rfl rfl dX6_stateOf_61 hlocks
  have hden := ifn_s hden c_7
  by_cases c_13 : p2 = 2
  · have hden := if_s hden c_13
    refine lv_tableIn (off := 54) (tgt := 62) hx hb dX6_stateOf_8 (by rw [c_13]; decide) (by rw [c_13]; decide) (by rw [c_13]; rfl) (by decide) ?_
    refine lv_iload_n hx hb dX6_stateOf_62 rfl (lv_at hl 0 rfl) ?_
    refine lv_iconst (v := 1) hx hb dX6_stateOf_63 (by decide) ?_
    refine lv_icmp_ne (tgt := 71) hx hb dX6_stateOf_64 (by decide) (fun c_12 => ?_) (fun c_12 => ?_)
    · have hden := ifn_s hden c_12
      refine lv_aload_n hx hb dX6_stateOf_71 rfl (lv_at hl 1 rfl) ?_
      refine lv_aload_n hx hb dX6_stateOf_72 rfl (lv_at hl 1 rfl) ?_
      refine lv_iload_n hx hb dX6_stateOf_73 rfl (lv_at hl 0 rfl) ?_
      obtain ⟨r_8, hc_9, hden⟩ := bnd_s hden
      refine m_ci (wc := [(a_this, .inr (5, [.int v_thrown, .ref a_this_s, .ref a_this_aside, .ref a_this_saved, .int v_savedMany, .ref a_this_text, .int v_length, .ref a_this_states, .int v_many, .int v_at, .int v_isWrong, .int v_letters, .int v_matched, .ref a_this_rows, .int v_manyRows, .long v_digested])), (a_this_s, .inl (cI, 31, .inl v_s))]) (wr := [(a_this_states, .inl (cI, 66, .inl v_states))]) (wc' := [(a_this, .inr (5, [.int v_thrown, .ref a_this_s, .ref a_this_aside, .ref a_this_saved, .int v_savedMany, .ref a_this_text, .int v_length, .ref a_this_states, .int v_many, .int v_at, .int v_isWrong, .int v_letters, .int v_matched, .ref a_this_rows, .int v_manyRows, .long v_digested])), (a_this_s, .inl (cI, 31, .inl v_s))]) (va_runV (As := [.int x3_2]) (rest := [.ref a_this]) ⟨hx, hb, hml, hown, hts⟩ (c_X6_back l D cI cM cL F hc_9) (cwV 1 hts gX6_stateOf_X6_back rfl rfl rfl (by decide +kernel) ⟨Nat.le_of_ble_eq_true rfl, Nat.le_of_ble_eq_true rfl⟩) (mPreV (ci := 5) (q0 := 0) (r := (RX6, TX6, 16)) hP hD hK hN [0, 2] (by decide) rfl rfl rfl) rfl rfl hl.1 rfl (lv_room (Nat.le_of_ble_eq_true rfl)) dX6_stateOf_74 ⟨Nat.le_of_ble_eq_true rfl, Nat.le_of_ble_eq_true rfl⟩) hP hD hS hA [0, 2] [1] rfl rfl (by decide) (by decide) (fun H locs hP hD hS => ?_)
      have hP : va_P D vwCl [(a_this_states, .inl (cI, 66, .inl v_states)), (a_this, .inr (5, [.int v_thrown, .ref a_this_s, .ref a_this_aside, .ref a_this_saved, .int v_savedMany, .ref a_this_text, .int v_length, .ref a_this_states, .int v_many, .int v_at, .int v_isWrong, .int v_letters, .int v_matched, .ref a_this_rows, .int v_manyRows, .long v_digested])), (a_this_s, .inl (cI, 31, .inl v_s))] H := hP
      have hD : va_D A [(a_this_states, .inl (cI, 66, .inl v_states)), (a_this, .inr (5, [.int v_thrown, .ref a_this_s, .ref a_this_aside, .ref a_this_saved, .int v_savedMany, .ref a_this_text, .int v_length, .ref a_this_states, .int v_many, .int v_at, .int v_isWrong, .int v_letters, .int v_matched, .ref a_this_rows, .int v_manyRows, .long v_digested])), (a_this_s, .inl (cI, 31, .inl v_s))] := hD
      obtain ⟨r_10, hc_11, hden⟩ := bnd_s hden
      refine m_ci (wc := [(a_this, .inr (5, [.int v_thrown, .ref a_this_s, .ref a_this_aside, .ref a_this_saved, .int v_savedMany, .ref a_this_text, .int v_length, .ref a_this_states, .int v_many, .int v_at, .int v_isWrong, .int v_letters, .int v_matched, .ref a_this_rows, .int v_manyRows, .long v_digested])), (a_this_states, .inl (cI, 66, .inl v_states))]) (wr := [(a_this_s, .inl (cI, 31, .inl v_s))]) (wc' := [(a_this, .inr (5, [.int v_thrown, .ref a_this_s, .ref a_this_aside, .ref a_this_saved, .int v_savedMany, .ref a_this_text, .int v_length, .ref a_this_states, .int v_many, .int v_at, .int v_isWrong, .int v_letters, .int v_matched, .ref a_this_rows, .int v_manyRows, .long v_digested])), (a_this_states, .inl (cI, 66, .inl v_states))]) (va_runV (As := [.int r_8]) (rest := []) ⟨hx, hb, hml, hown, hts⟩ (c_X6_numberOf l D cI cM cL F hc_11) (cwV 1 hts gX6_stateOf_X6_numberOf rfl rfl rfl (by decide +kernel) ⟨Nat.le_of_ble_eq_true rfl, Nat.le_of_ble_eq_true rfl⟩) (mPreV (ci := 5) (q0 := 0) (r := (RX6, TX6, 16)) hP hD hK hN [1, 0] (by decide) rfl rfl rfl) rfl rfl hl.1 rfl (lv_room (Nat.le_of_ble_eq_true rfl)) dX6_stateOf_77 ⟨Nat.le_of_ble_eq_true rfl, Nat.le_of_ble_eq_true rfl⟩) hP hD hS hA [1, 0] [2] rfl rfl (by decide) (by decide) (fun H locs hP hD hS => ?_)
      have hP : va_P D vwCl [(a_this_s, .inl (cI, 31, .inl v_s)), (a_this, .inr (5, [.int v_thrown, .ref a_this_s, .ref a_this_aside, .ref a_this_saved, .int v_savedMany, .ref a_this_text, .int v_length, .ref a_this_states, .int v_many, .int v_at, .int v_isWrong, .int v_letters, .int v_matched, .ref a_this_rows, .int v_manyRows, .long v_digested])), (a_this_states, .inl (cI, 66, .inl v_states))] H := hP
      have hD : va_D A [(a_this_s, .inl (cI, 31, .inl v_s)), (a_this, .inr (5, [.int v_thrown, .ref a_this_s, .ref a_this_aside, .ref a_this_saved, .int v_savedMany, .ref a_this_text, .int v_length, .ref a_this_states, .int v_many, .int v_at, .int v_isWrong, .int v_letters, .int v_matched, .ref a_this_rows, .int v_manyRows, .long v_digested])), (a_this_states, .inl (cI, 66, .inl v_states))] := hD
      subst hQe
      cases hden
      exact m_ri hx hb hr hP hD hS [1, 2, 0] (by decide) rfl rfl dX6_stateOf_80 hlocks
    · have hden := if_s hden c_12
      refine lv_iconst (v := (-1)) hx hb dX6_stateOf_67 (by decide) ?_
      refine lv_goto (tgt := 80) hx hb dX6_stateOf_68 (by decide) ?_
      subst hQe
      cases hden
      exact m_ri hx hb hr hP hD hS [0, 1, 2] (by decide) rfl rfl dX6_stateOf_80 hlocks
  have hden := ifn_s hden c_13
  by_cases c_16 : p2 = 3
  · have hden := if_s hden c_16
    refine lv_tableIn (off := 73) (tgt := 81) hx hb dX6_stateOf_8 (by rw [c_16]; decide) (by rw [c_16]; decide) (by rw [c_16]; rfl) (by decide) ?_
    refine lv_aload_n hx hb dX6_stateOf_81 rfl (lv_at hl 1 rfl) ?_
    refine lv_iload_n hx hb dX6_stateOf_82 rfl (lv_at hl 0 rfl) ?_
    obtain ⟨r_14, hc_15, hden⟩ := bnd_s hden
    refine m_ci (wc := [(a_this, .inr (5, [.int v_thrown, .ref a_this_s, .ref a_this_aside, .ref a_this_saved, .int v_savedMany, .ref a_this_text, .int v_length, .ref a_this_states, .int v_many, .int v_at, .int v_isWrong, .int v_letters, .int v_matched, .ref a_this_rows, .int v_manyRows, .long v_digested])), (a_this_s, .inl (cI, 31, .inl v_s))]) (wr := [(a_this_states, .inl (cI, 66, .inl v_states))]) (wc' := [(a_this, .inr (5, [.int v_thrown, .ref a_this_s, .ref a_this_aside, .ref a_this_saved, .int v_savedMany, .ref a_this_text, .int v_length, .ref a_this_states, .int v_many, .int v_at, .int v_isWrong, .int v_letters, .int v_matched, .ref a_this_rows, .int v_manyRows, .long v_digested])), (a_this_s, .inl (cI, 31, .inl v_s))]) (va_runV (As := [.int x3_2]) (rest := []) ⟨hx, hb, hml, hown, hts⟩ (c_X6_ending l D cI cM cL F hc_15) (cwV 1 hts gX6_stateOf_X6_ending rfl rfl rfl (by decide +kernel) ⟨Nat.le_of_ble_eq_true rfl, Nat.le_of_ble_eq_true rfl⟩) (mPreV (ci := 5) (q0 := 0) (r := (RX6, TX6, 16)) hP hD hK hN [0, 2] (by decide) rfl rfl rfl) rfl rfl hl.1 rfl (lv_room (Nat.le_of_ble_eq_true rfl)) dX6_stateOf_83 ⟨Nat.le_of_ble_eq_true rfl, Nat.le_of_ble_eq_true rfl⟩) hP hD hS hA [0, 2] [1] rfl rfl (by decide) (by decide) (fun H locs hP hD hS => ?_)
    have hP : va_P D vwCl [(a_this_states, .inl (cI, 66, .inl v_states)), (a_this, .inr (5, [.int v_thrown, .ref a_this_s, .ref a_this_aside, .ref a_this_saved, .int v_savedMany, .ref a_this_text, .int v_length, .ref a_this_states, .int v_many, .int v_at, .int v_isWrong, .int v_letters, .int v_matched, .ref a_this_rows, .int v_manyRows, .long v_digested])), (a_this_s, .inl (cI, 31, .inl v_s))] H := hP
    have hD : va_D A [(a_this_states, .inl (cI, 66, .inl v_states)), (a_this, .inr (5, [.int v_thrown, .ref a_this_s, .ref a_this_aside, .ref a_this_saved, .int v_savedMany, .ref a_this_text, .int v_length, .ref a_this_states, .int v_many, .int v_at, .int v_isWrong, .int v_letters, .int v_matched, .ref a_this_rows, .int v_manyRows, .long v_digested])), (a_this_s, .inl (cI, 31, .inl v_s))] := hD
    subst hQe
    cases hden
    exact m_ri hx hb hr hP hD hS [1, 0, 2] (by decide) rfl rfl dX6_stateOf_86 hlocks
  have hden := ifn_s hden c_16
  by_cases c_19 : p2 = 4
  · have hden := if_s hden c_19
    refine lv_tableIn (off := 79) (tgt := 87) hx hb dX6_stateOf_8 (by rw [c_19]; decide) (by rw [c_19]; decide) (by rw [c_19]; rfl) (by decide) ?_
    refine lv_aload_n hx hb dX6_stateOf_87 rfl (lv_at hl 1 rfl) ?_
    refine lv_iload_n hx hb dX6_stateOf_88 rfl (lv_at hl 0 rfl) ?_
    obtain ⟨r_17, hc_18, hden⟩ := bnd_s hden
    refine m_ci (wc := [(a_this, .inr (5, [.int v_thrown, .ref a_this_s, .ref a_this_aside, .ref a_this_saved, .int v_savedMany, .ref a_this_text, .int v_length, .ref a_this_states, .int v_many, .int v_at, .int v_isWrong, .int v_letters, .int v_matched, .ref a_this_rows, .int v_manyRows, .long v_digested])), (a_this_s, .inl (cI, 31, .inl v_s))]) (wr := [(a_this_states, .inl (cI, 66, .inl v_states))]) (wc' := [(a_this, .inr (5, [.int v_thrown, .ref a_this_s, .ref a_this_aside, .ref a_this_saved, .int v_savedMany, .ref a_this_text, .int v_length, .ref a_this_states, .int v_many, .int v_at, .int v_isWrong, .int v_letters, .int v_matched, .ref a_this_rows, .int v_manyRows, .long v_digested])), (a_this_s, .inl (cI, 31, .inl v_s))]) (va_runV (As := [.int x3_2]) (rest := []) ⟨hx, hb, hml, hown, hts⟩ (c_X6_beginning l D cI cM cL F hc_18) (cwV 1 hts gX6_stateOf_X6_beginning rfl rfl rfl (by decide +kernel) ⟨Nat.le_of_ble_eq_true rfl, Nat.le_of_ble_eq_true rfl⟩) (mPreV (ci := 5) (q0 := 0) (r := (RX6, TX6, 16)) hP hD hK hN [0, 2] (by decide) rfl rfl rfl) rfl rfl hl.1 rfl (lv_room (Nat.le_of_ble_eq_true rfl)) dX6_stateOf_89 ⟨Nat.le_of_ble_eq_true rfl, Nat.le_of_ble_eq_true rfl⟩) hP hD hS hA [0, 2] [1] rfl rfl (by decide) (by decide) (fun H locs hP hD hS => ?_)
    have hP : va_P D vwCl [(a_this_states, .inl (cI, 66, .inl v_states)), (a_this, .inr (5, [.int v_thrown, .ref a_this_s, .ref a_this_aside, .ref a_this_saved, .int v_savedMany, .ref a_this_text, .int v_length, .ref a_this_states, .int v_many, .int v_at, .int v_isWrong, .int v_letters, .int v_matched, .ref a_this_rows, .int v_manyRows, .long v_digested])), (a_this_s, .inl (cI, 31, .inl v_s))] H := hP
    have hD : va_D A [(a_this_states, .inl (cI, 66, .inl v_states)), (a_this, .inr (5, [.int v_thrown, .ref a_this_s, .ref a_this_aside, .ref a_this_saved, .int v_savedMany, .ref a_this_text, .int v_length, .ref a_this_states, .int v_many, .int v_at, .int v_isWrong, .int v_letters, .int v_matched, .ref a_this_rows, .int v_manyRows, .long v_digested])), (a_this_s, .inl (cI, 31, .inl v_s))] := hD
    subst hQe
    cases hden
    exact m_ri hx hb hr hP hD hS [1, 0, 2] (by decide) rfl rfl dX6_stateOf_92 hlocks
  have hden := ifn_s hden c_19
  refine lv_tableOut (tgt := 93) hx hb dX6_stateOf_8 (tsw_out5 c_5 c_7 c_13 c_16 c_19) (by decide) ?_
  refine lv_aload_n hx hb dX6_stateOf_93 rfl (lv_at hl 1 rfl) ?_
  refine lv_aload_n hx hb dX6_stateOf_94 rfl (lv_at hl 1 rfl) ?_
  refine lv_iload_n hx hb dX6_stateOf_95 rfl (lv_at hl 0 rfl) ?_
  refine lv_iload_n hx hb dX6_stateOf_96 rfl (lv_at hl 3 rfl) ?_
  refine lv_iconst (v := 5) hx hb dX6_stateOf_97 (by decide) ?_
  refine lv_isub hx hb dX6_stateOf_98 ?_
  obtain ⟨r_20, hc_21, hden⟩ := bnd_s hden
  refine m_ci (wc := [(a_this, .inr (5, [.int v_thrown, .ref a_this_s, .ref a_this_aside, .ref a_this_saved, .int v_savedMany, .ref a_this_text, .int v_length, .ref a_this_states, .int v_many, .int v_at, .int v_isWrong, .int v_letters, .int v_matched, .ref a_this_rows, .int v_manyRows, .long v_digested])), (a_this_s, .inl (cI, 31, .inl v_s))]) (wr := [(a_this_states, .inl (cI, 66, .inl v_states))]) (wc' := [(a_this, .inr (5, [.int v_thrown, .ref a_this_s, .ref a_this_aside, .ref a_this_saved, .int v_savedMany, .ref a_this_text, .int v_length, .ref a_this_states, .int v_many, .int v_at, .int v_isWrong, .int v_letters, .int v_matched, .ref a_this_rows, .int v_manyRows, .long v_digested])), (a_this_s, .inl (cI, 31, .inl v_s))]) (va_runV (As := [.int x3_2, .int (p2 - 5)]) (rest := [.ref a_this]) ⟨hx, hb, hml, hown, hts⟩ (c_X6_behind l D cI cM cL F hc_21) (cwV 2 hts gX6_stateOf_X6_behind rfl rfl rfl (by decide +kernel) ⟨Nat.le_of_ble_eq_true rfl, Nat.le_of_ble_eq_true rfl⟩) (mPreV (ci := 5) (q0 := 0) (r := (RX6, TX6, 16)) hP hD hK hN [0, 2] (by decide) rfl rfl rfl) rfl rfl hl.1 rfl (lv_room (Nat.le_of_ble_eq_true rfl)) dX6_stateOf_99 ⟨Nat.le_of_ble_eq_true rfl, Nat.le_of_ble_eq_true rfl⟩) hP hD hS hA [0, 2] [1] rfl rfl (by decide) (by decide) (fun H locs hP hD hS => ?_)
  have hP : va_P D vwCl [(a_this_states, .inl (cI, 66, .inl v_states)), (a_this, .inr (5, [.int v_thrown, .ref a_this_s, .ref a_this_aside, .ref a_this_saved, .int v_savedMany, .ref a_this_text, .int v_length, .ref a_this_states, .int v_many, .int v_at, .int v_isWrong, .int v_letters, .int v_matched, .ref a_this_rows, .int v_manyRows, .long v_digested])), (a_this_s, .inl (cI, 31, .inl v_s))] H := hP
  have hD : va_D A [(a_this_states, .inl (cI, 66, .inl v_states)), (a_this, .inr (5, [.int v_thrown, .ref a_this_s, .ref a_this_aside, .ref a_this_saved, .int v_savedMany, .ref a_this_text, .int v_length, .ref a_this_states, .int v_many, .int v_at, .int v_isWrong, .int v_letters, .int v_matched, .ref a_this_rows, .int v_manyRows, .long v_digested])), (a_this_s, .inl (cI, 31, .inl v_s))] := hD
  obtain ⟨r_22, hc_23, hden⟩ := bnd_s hden
  refine m_ci (wc := [(a_this, .inr (5, [.int v_thrown, .ref a_this_s, .ref a_this_aside, .ref a_this_saved, .int v_savedMany, .ref a_this_text, .int v_length, .ref a_this_states, .int v_many, .int v_at, .int v_isWrong, .int v_letters, .int v_matched, .ref a_this_rows, .int v_manyRows, .long v_digested])), (a_this_states, .inl (cI, 66, .inl v_states))]) (wr := [(a_this_s, .inl (cI, 31, .inl v_s))]) (wc' := [(a_this, .inr (5, [.int v_thrown, .ref a_this_s, .ref a_this_aside, .ref a_this_saved, .int v_savedMany, .ref a_this_text, .int v_length, .ref a_this_states, .int v_many, .int v_at, .int v_isWrong, .int v_letters, .int v_matched, .ref a_this_rows, .int v_manyRows, .long v_digested])), (a_this_states, .inl (cI, 66, .inl v_states))]) (va_runV (As := [.int r_20]) (rest := []) ⟨hx, hb, hml, hown, hts⟩ (c_X6_numberOf l D cI cM cL F hc_23) (cwV 1 hts gX6_stateOf_X6_numberOf rfl rfl rfl (by decide +kernel) ⟨Nat.le_of_ble_eq_true rfl, Nat.le_of_ble_eq_true rfl⟩) (mPreV (ci := 5) (q0 := 0) (r := (RX6, TX6, 16)) hP hD hK hN [1, 0] (by decide) rfl rfl rfl) rfl rfl hl.1 rfl (lv_room (Nat.le_of_ble_eq_true rfl)) dX6_stateOf_102 ⟨Nat.le_of_ble_eq_true rfl, Nat.le_of_ble_eq_true rfl⟩) hP hD hS hA [1, 0] [2] rfl rfl (by decide) (by decide) (fun H locs hP hD hS => ?_)
  have hP : va_P D vwCl [(a_this_s, .inl (cI, 31, .inl v_s)), (a_this, .inr (5, [.int v_thrown, .ref a_this_s, .ref a_this_aside, .ref a_this_saved, .int v_savedMany, .ref a_this_text, .int v_length, .ref a_this_states, .int v_many, .int v_at, .int v_isWrong, .int v_letters, .int v_matched, .ref a_this_rows, .int v_manyRows, .long v_digested])), (a_this_states, .inl (cI, 66, .inl v_states))] H := hP
  have hD : va_D A [(a_this_s, .inl (cI, 31, .inl v_s)), (a_this, .inr (5, [.int v_thrown, .ref a_this_s, .ref a_this_aside, .ref a_this_saved, .int v_savedMany, .ref a_this_text, .int v_length, .ref a_this_states, .int v_many, .int v_at, .int v_isWrong, .int v_letters, .int v_matched, .ref a_this_rows, .int v_manyRows, .long v_digested])), (a_this_states, .inl (cI, 66, .inl v_states))] := hD
  subst hQe
  cases hden
  exact m_ri hx hb hr hP hD hS [1, 2, 0] (by decide) rfl rfl dX6_stateOf_105 hlocks
def D_X6_state_ (F : Nat) (p1 : Int32) (p2 : Int32) (v_states : (Nat → Int32)) (v_many : Int32) (v_s : (Nat → Int32)) (v_thrown : Int32) : Option (Int32 × (Nat → Int32) × Int32 × Int32) := bnd (D_X6_list F v_states v_many v_s) (fun (v_states_1, v_many_2) => bnd (D_X6_in F p1 0 (v_many_2 - 1)) (fun r_4 => jp (fun (t_6 : Int32) => bnd (D_X6_holds F t_6 v_thrown) (fun (r_7, v_thrown_8) => (if r_7 = 0 then some (0, v_states_1, v_many_2, v_thrown_8) else bnd (D_X6_stateOf F p1 p2 v_states_1 v_s) (fun r_10 => some (r_10, v_states_1, v_many_2, v_thrown_8))))) (fun j38 => (if r_4 = 0 then j38 1 else bnd (D_X6_in F p2 0 8) (fun r_13 => (if r_13 = 0 then j38 2 else j38 0))))))
def rm_X6_state_ : Room := { frames := 8, cells := 0, slots := 0, locals := 175 }
set_option maxHeartbeats 4000000 in
set_option maxRecDepth 100000 in
theorem c_X6_state_ (l : Launch) (D : va_G) (cI cM cL : ClassId) (F : Nat) {a_this a_this_s a_this_aside a_this_saved a_this_text a_this_states a_this_rows : Nat} {sz : Nat} {v_thrown v_savedMany v_length v_many v_at v_isWrong v_letters v_matched v_manyRows : Int32} {v_digested : Int64} {v_states v_s : Nat → Int32} {p1 : Int32} {p2 : Int32} {r0 : Int32} {w_states : (Nat → Int32)} {w_many : Int32} {w_thrown : Int32} (hden : D_X6_state_ F p1 p2 v_states v_many v_s v_thrown = some (r0, w_states, w_many, w_thrown)) : Met l yX6_state_ wsX6_state_ rm_X6_state_ (va_Pc [.ref a_this, .int p1, .int p2] (mB D (mTy cI cM cL) sz [(a_this, .inr (5, [.int v_thrown, .ref a_this_s, .ref a_this_aside, .ref a_this_saved, .int v_savedMany, .ref a_this_text, .int v_length, .ref a_this_states, .int v_many, .int v_at, .int v_isWrong, .int v_letters, .int v_matched, .ref a_this_rows, .int v_manyRows, .long v_digested])), (a_this_states, .inl (cI, 66, .inl v_states)), (a_this_s, .inl (cI, 31, .inl v_s))])) (mQi D (va_A [(a_this, .inr (5, [.int v_thrown, .ref a_this_s, .ref a_this_aside, .ref a_this_saved, .int v_savedMany, .ref a_this_text, .int v_length, .ref a_this_states, .int v_many, .int v_at, .int v_isWrong, .int v_letters, .int v_matched, .ref a_this_rows, .int v_manyRows, .long v_digested])), (a_this_states, .inl (cI, 66, .inl v_states)), (a_this_s, .inl (cI, 31, .inl v_s))] sz) [(a_this, .inr (5, [.int w_thrown, .ref a_this_s, .ref a_this_aside, .ref a_this_saved, .int v_savedMany, .ref a_this_text, .int v_length, .ref a_this_states, .int w_many, .int v_at, .int v_isWrong, .int v_letters, .int v_matched, .ref a_this_rows, .int v_manyRows, .long v_digested])), (a_this_states, .inl (cI, 66, .inl w_states)), (a_this_s, .inl (cI, 31, .inl v_s))] r0) 0 0 (va_A [(a_this, .inr (5, [.int v_thrown, .ref a_this_s, .ref a_this_aside, .ref a_this_saved, .int v_savedMany, .ref a_this_text, .int v_length, .ref a_this_states, .int v_many, .int v_at, .int v_isWrong, .int v_letters, .int v_matched, .ref a_this_rows, .int v_manyRows, .long v_digested])), (a_this_states, .inl (cI, 66, .inl v_states)), (a_this_s, .inl (cI, 31, .inl v_s))] sz) := by
  refine Met.ofW (cc := cX6_state_) (maxL := 3) (ret := (some .int)) (by decide) rfl ?_
  intro p e s m args below meth c s₁ B hml hv
  obtain ⟨rfl, hsz, hP, hK, hN, hD0⟩ := hv
  have hx := B.exec
  have hb := B.bytes
  have hr := B.returns
  have hts := atoms_spec (ws := wsX6_state_) B.pre
  have hown : s.vm.findClass RX6 = some m.cls := findClass_of_methodNamed B.named
  have hlocks := B.notSynchronized
  subst hsz
  have hD := hD0.self (sz := s.heap.size)
  generalize hAe : va_A [(a_this, .inr (5, [.int v_thrown, .ref a_this_s, .ref a_this_aside, .ref a_this_saved, .int v_savedMany, .ref a_this_text, .int v_length, .ref a_this_states, .int v_many, .int v_at, .int v_isWrong, .int v_letters, .int v_matched, .ref a_this_rows, .int v_manyRows, .long v_digested])), (a_this_states, .inl (cI, 66, .inl v_states)), (a_this_s, .inl (cI, 31, .inl v_s))] s.heap.size = A at hD ⊢
  have hA : ∀ q : Nat, s.heap.size ≤ q → A q := fun q h => by rw [← hAe]; exact Or.inr h
  have hS : va_S A s.heap s.heap [] := va_S.rf
  have hl := lv_entry ([.ref a_this, .int p1, .int p2]) (n := 3) (Nat.le_of_ble_eq_true rfl)
  rw [lg_entry_eq]
  generalize (lg_sl ([.ref a_this, .int p1, .int p2]) ++ List.replicate (3 - (lg_sl ([.ref a_this, .int p1, .int p2])).length) Slot.unset).toArray = ls at hl ⊢
  have hl : lv_has ls 3 [(0, .ref a_this), (1, .int p1), (2, .int p2)] := hl
  change W p l e rm_X6_state_ s m (([.ref a_this, .int p1, .int p2] : List Value).toArray) below meth c s.heap [] 0 0 _ (F0 m 0 ls [])
  generalize hQe : MQ below (mQi D A [(a_this, .inr (5, [.int w_thrown, .ref a_this_s, .ref a_this_aside, .ref a_this_saved, .int v_savedMany, .ref a_this_text, .int v_length, .ref a_this_states, .int w_many, .int v_at, .int v_isWrong, .int v_letters, .int v_matched, .ref a_this_rows, .int v_manyRows, .long v_digested])), (a_this_states, .inl (cI, 66, .inl w_states)), (a_this_s, .inl (cI, 31, .inl v_s))] r0) (([.ref a_this, .int p1, .int p2] : List Value).toArray) s 0 0 A = Q
  rw [D_X6_state_] at hden
  have hin_X6 : ∀ w ∈ wsX60, w ∈ wsX6_state_ := by decide +kernel
  have w_76 := hts (.fieldLink RX6 76 "FallingPatternsModel" "many" "I") (by decide +kernel)
  refine lv_aload_n hx hb dX6_state__0 rfl (lv_at hl 0 rfl) ?_
  obtain ⟨⟨v_states_1, v_many_2⟩, hc_3, hden⟩ := bnd_s hden
  refine m_cv (wc := [(a_this, .inr (5, [.int v_thrown, .ref a_this_s, .ref a_this_aside, .ref a_this_saved, .int v_savedMany, .ref a_this_text, .int v_length, .ref a_this_states, .int v_many, .int v_at, .int v_isWrong, .int v_letters, .int v_matched, .ref a_this_rows, .int v_manyRows, .long v_digested])), (a_this_states, .inl (cI, 66, .inl v_states)), (a_this_s, .inl (cI, 31, .inl v_s))]) (wr := []) (wc' := [(a_this, .inr (5, [.int v_thrown, .ref a_this_s, .ref a_this_aside, .ref a_this_saved, .int v_savedMany, .ref a_this_text, .int v_length, .ref a_this_states, .int v_many_2, .int v_at, .int v_isWrong, .int v_letters, .int v_matched, .ref a_this_rows, .int v_manyRows, .long v_digested])), (a_this_states, .inl (cI, 66, .inl v_states_1)), (a_this_s, .inl (cI, 31, .inl v_s))]) (va_runV (As := []) (rest := []) ⟨hx, hb, hml, hown, hts⟩ (c_X6_list l D cI cM cL F hc_3) (cwV 0 hts gX6_state__X6_list rfl rfl rfl (by decide +kernel) ⟨Nat.le_of_ble_eq_true rfl, Nat.le_of_ble_eq_true rfl⟩) (mPreV (ci := 5) (q0 := 0) (r := (RX6, TX6, 16)) hP hD hK hN [0, 1, 2] (by decide) rfl rfl rfl) rfl rfl hl.1 rfl (lv_room (Nat.le_of_ble_eq_true rfl)) dX6_state__1 ⟨Nat.le_of_ble_eq_true rfl, Nat.le_of_ble_eq_true rfl⟩) hP hD hS hA [0, 1, 2] [] rfl rfl (by decide) (by decide) (fun H locs hP hD hS => ?_)
  have hP : va_P D vwCl [(a_this, .inr (5, [.int v_thrown, .ref a_this_s, .ref a_this_aside, .ref a_this_saved, .int v_savedMany, .ref a_this_text, .int v_length, .ref a_this_states, .int v_many_2, .int v_at, .int v_isWrong, .int v_letters, .int v_matched, .ref a_this_rows, .int v_manyRows, .long v_digested])), (a_this_states, .inl (cI, 66, .inl v_states_1)), (a_this_s, .inl (cI, 31, .inl v_s))] H := hP
  have hD : va_D A [(a_this, .inr (5, [.int v_thrown, .ref a_this_s, .ref a_this_aside, .ref a_this_saved, .int v_savedMany, .ref a_this_text, .int v_length, .ref a_this_states, .int v_many_2, .int v_at, .int v_isWrong, .int v_letters, .int v_matched, .ref a_this_rows, .int v_manyRows, .long v_digested])), (a_this_states, .inl (cI, 66, .inl v_states_1)), (a_this_s, .inl (cI, 31, .inl v_s))] := hD
  refine lv_aload_n hx hb dX6_state__4 rfl (lv_at hl 0 rfl) ?_
  refine lv_iload_n hx hb dX6_state__5 rfl (lv_at hl 1 rfl) ?_
  refine lv_iconst (v := 0) hx hb dX6_state__6 (by decide) ?_
  refine lv_aload_n hx hb dX6_state__7 rfl (lv_at hl 0 rfl) ?_
  refine va_get (D := D) (ci := 5) (v := .int v_many_2) (C := RX6) (T := TX6) (N := 16) hx hb hts hin_X6 hown hK hP 0 rfl rfl 8 (by decide) w_76 (fun _ h9 => h9) rfl dX6_state__8 ?_
  refine lv_iconst (v := 1) hx hb dX6_state__11 (by decide) ?_
  refine lv_isub hx hb dX6_state__12 ?_
  obtain ⟨r_4, hc_5, hden⟩ := bnd_s hden
  refine m_ci (wc := []) (wr := [(a_this, .inr (5, [.int v_thrown, .ref a_this_s, .ref a_this_aside, .ref a_this_saved, .int v_savedMany, .ref a_this_text, .int v_length, .ref a_this_states, .int v_many_2, .int v_at, .int v_isWrong, .int v_letters, .int v_matched, .ref a_this_rows, .int v_manyRows, .long v_digested])), (a_this_states, .inl (cI, 66, .inl v_states_1)), (a_this_s, .inl (cI, 31, .inl v_s))]) (wc' := []) (va_runS (As := [.int p1, .int 0, .int (v_many_2 - 1)]) (rest := [.ref a_this]) ⟨hx, hb, hml, hown, hts⟩ (c_X6_in l D cI cM cL F hc_5) (va_cwS 3 hts gX6_state__X6_in rfl rfl rfl (by decide +kernel) ⟨Nat.le_of_ble_eq_true rfl, Nat.le_of_ble_eq_true rfl⟩) (mPreS hP hD hK hN [] (by decide) rfl) rfl rfl hl.1 rfl (lv_room (Nat.le_of_ble_eq_true rfl)) dX6_state__13 ⟨Nat.le_of_ble_eq_true rfl, Nat.le_of_ble_eq_true rfl⟩) hP hD hS hA [] [0, 1, 2] rfl rfl (by decide) (by decide) (fun H locs hP hD hS => ?_)
  have hP : va_P D vwCl [(a_this, .inr (5, [.int v_thrown, .ref a_this_s, .ref a_this_aside, .ref a_this_saved, .int v_savedMany, .ref a_this_text, .int v_length, .ref a_this_states, .int v_many_2, .int v_at, .int v_isWrong, .int v_letters, .int v_matched, .ref a_this_rows, .int v_manyRows, .long v_digested])), (a_this_states, .inl (cI, 66, .inl v_states_1)), (a_this_s, .inl (cI, 31, .inl v_s))] H := hP
  have hD : va_D A [(a_this, .inr (5, [.int v_thrown, .ref a_this_s, .ref a_this_aside, .ref a_this_saved, .int v_savedMany, .ref a_this_text, .int v_length, .ref a_this_states, .int v_many_2, .int v_at, .int v_isWrong, .int v_letters, .int v_matched, .ref a_this_rows, .int v_manyRows, .long v_digested])), (a_this_states, .inl (cI, 66, .inl v_states_1)), (a_this_s, .inl (cI, 31, .inl v_s))] := hD
  obtain ⟨j38, ej38, hden⟩ := jp_s hden
  have hj38 : ∀ (t_6 : Int32) (H : Heap) (locs : List Loc), va_P D vwCl [(a_this, .inr (5, [.int v_thrown, .ref a_this_s, .ref a_this_aside, .ref a_this_saved, .int v_savedMany, .ref a_this_text, .int v_length, .ref a_this_states, .int v_many_2, .int v_at, .int v_isWrong, .int v_letters, .int v_matched, .ref a_this_rows, .int v_manyRows, .long v_digested])), (a_this_states, .inl (cI, 66, .inl v_states_1)), (a_this_s, .inl (cI, 31, .inl v_s))] H → va_D A [(a_this, .inr (5, [.int v_thrown, .ref a_this_s, .ref a_this_aside, .ref a_this_saved, .int v_savedMany, .ref a_this_text, .int v_length, .ref a_this_states, .int v_many_2, .int v_at, .int v_isWrong, .int v_letters, .int v_matched, .ref a_this_rows, .int v_manyRows, .long v_digested])), (a_this_states, .inl (cI, 66, .inl v_states_1)), (a_this_s, .inl (cI, 31, .inl v_s))] → va_S A s.heap H locs → ∀ ls : Array Slot, lv_has ls 3 [(0, .ref a_this), (1, .int p1), (2, .int p2)] → j38 t_6 = some (r0, w_states, w_many, w_thrown) → W p l e rm_X6_state_ s m (([.ref a_this, .int p1, .int p2] : List Value).toArray) below meth c H locs 0 0 Q (F0 m 38 ls [.int t_6, .ref a_this]) := by
    intro t_6 H locs hP hD hS ls hl hden
    rw [ej38] at hden
    obtain ⟨⟨r_7, v_thrown_8⟩, hc_9, hden⟩ := bnd_s hden
    refine m_ci (wc := [(a_this, .inr (5, [.int v_thrown, .ref a_this_s, .ref a_this_aside, .ref a_this_saved, .int v_savedMany, .ref a_this_text, .int v_length, .ref a_this_states, .int v_many_2, .int v_at, .int v_isWrong, .int v_letters, .int v_matched, .ref a_this_rows, .int v_manyRows, .long v_digested]))]) (wr := [(a_this_states, .inl (cI, 66, .inl v_states_1)), (a_this_s, .inl (cI, 31, .inl v_s))]) (wc' := [(a_this, .inr (5, [.int v_thrown_8, .ref a_this_s, .ref a_this_aside, .ref a_this_saved, .int v_savedMany, .ref a_this_text, .int v_length, .ref a_this_states, .int v_many_2, .int v_at, .int v_isWrong, .int v_letters, .int v_matched, .ref a_this_rows, .int v_manyRows, .long v_digested]))]) (va_runV (As := [.int t_6]) (rest := []) ⟨hx, hb, hml, hown, hts⟩ (c_X6_holds l D cI cM cL F hc_9) (cwV 1 hts gX6_state__X6_holds rfl rfl rfl (by decide +kernel) ⟨Nat.le_of_ble_eq_true rfl, Nat.le_of_ble_eq_true rfl⟩) (mPreV (ci := 5) (q0 := 0) (r := (RX6, TX6, 16)) hP hD hK hN [0] (by decide) rfl rfl rfl) rfl rfl hl.1 rfl (lv_room (Nat.le_of_ble_eq_true rfl)) dX6_state__38 ⟨Nat.le_of_ble_eq_true rfl, Nat.le_of_ble_eq_true rfl⟩) hP hD hS hA [0] [1, 2] rfl rfl (by decide) (by decide) (fun H locs hP hD hS => ?_)
    have hP : va_P D vwCl [(a_this_states, .inl (cI, 66, .inl v_states_1)), (a_this_s, .inl (cI, 31, .inl v_s)), (a_this, .inr (5, [.int v_thrown_8, .ref a_this_s, .ref a_this_aside, .ref a_this_saved, .int v_savedMany, .ref a_this_text, .int v_length, .ref a_this_states, .int v_many_2, .int v_at, .int v_isWrong, .int v_letters, .int v_matched, .ref a_this_rows, .int v_manyRows, .long v_digested]))] H := hP
    have hD : va_D A [(a_this_states, .inl (cI, 66, .inl v_states_1)), (a_this_s, .inl (cI, 31, .inl v_s)), (a_this, .inr (5, [.int v_thrown_8, .ref a_this_s, .ref a_this_aside, .ref a_this_saved, .int v_savedMany, .ref a_this_text, .int v_length, .ref a_this_states, .int v_many_2, .int v_at, .int v_isWrong, .int v_letters, .int v_matched, .ref a_this_rows, .int v_manyRows, .long v_digested]))] := hD
    refine lv_if_eq (tgt := 53) hx hb dX6_state__41 (by decide) (fun c_12 => ?_) (fun c_12 => ?_)
    · have hden := if_s hden c_12
      refine lv_iconst (v := 0) hx hb dX6_state__53 (by decide) ?_
      subst hQe
      cases hden
      exact m_ri hx hb hr hP hD hS [2, 0, 1] (by decide) rfl rfl dX6_state__54 hlocks
    · have hden := ifn_s hden c_12
      refine lv_aload_n hx hb dX6_state__44 rfl (lv_at hl 0 rfl) ?_
      refine lv_iload_n hx hb dX6_state__45 rfl (lv_at hl 1 rfl) ?_
      refine lv_iload_n hx hb dX6_state__46 rfl (lv_at hl 2 rfl) ?_
      obtain ⟨r_10, hc_11, hden⟩ := bnd_s hden
      refine m_ci (wc := [(a_this, .inr (5, [.int v_thrown_8, .ref a_this_s, .ref a_this_aside, .ref a_this_saved, .int v_savedMany, .ref a_this_text, .int v_length, .ref a_this_states, .int v_many_2, .int v_at, .int v_isWrong, .int v_letters, .int v_matched, .ref a_this_rows, .int v_manyRows, .long v_digested])), (a_this_states, .inl (cI, 66, .inl v_states_1)), (a_this_s, .inl (cI, 31, .inl v_s))]) (wr := []) (wc' := [(a_this, .inr (5, [.int v_thrown_8, .ref a_this_s, .ref a_this_aside, .ref a_this_saved, .int v_savedMany, .ref a_this_text, .int v_length, .ref a_this_states, .int v_many_2, .int v_at, .int v_isWrong, .int v_letters, .int v_matched, .ref a_this_rows, .int v_manyRows, .long v_digested])), (a_this_states, .inl (cI, 66, .inl v_states_1)), (a_this_s, .inl (cI, 31, .inl v_s))]) (va_runV (As := [.int p1, .int p2]) (rest := []) ⟨hx, hb, hml, hown, hts⟩ (c_X6_stateOf l D cI cM cL F hc_11) (cwV 2 hts gX6_state__X6_stateOf rfl rfl rfl (by decide +kernel) ⟨Nat.le_of_ble_eq_true rfl, Nat.le_of_ble_eq_true rfl⟩) (mPreV (ci := 5) (q0 := 0) (r := (RX6, TX6, 16)) hP hD hK hN [2, 0, 1] (by decide) rfl rfl rfl) rfl rfl hl.1 rfl (lv_room (Nat.le_of_ble_eq_true rfl)) dX6_state__47 ⟨Nat.le_of_ble_eq_true rfl, Nat.le_of_ble_eq_true rfl⟩) hP hD hS hA [2, 0, 1] [] rfl rfl (by decide) (by decide) (fun H locs hP hD hS => ?_)
      have hP : va_P D vwCl [(a_this, .inr (5, [.int v_thrown_8, .ref a_this_s, .ref a_this_aside, .ref a_this_saved, .int v_savedMany, .ref a_this_text, .int v_length, .ref a_this_states, .int v_many_2, .int v_at, .int v_isWrong, .int v_letters, .int v_matched, .ref a_this_rows, .int v_manyRows, .long v_digested])), (a_this_states, .inl (cI, 66, .inl v_states_1)), (a_this_s, .inl (cI, 31, .inl v_s))] H := hP
      have hD : va_D A [(a_this, .inr (5, [.int v_thrown_8, .ref a_this_s, .ref a_this_aside, .ref a_this_saved, .int v_savedMany, .ref a_this_text, .int v_length, .ref a_this_states, .int v_many_2, .int v_at, .int v_isWrong, .int v_letters, .int v_matched, .ref a_this_rows, .int v_manyRows, .long v_digested])), (a_this_states, .inl (cI, 66, .inl v_states_1)), (a_this_s, .inl (cI, 31, .inl v_s))] := hD
      refine lv_goto (tgt := 54) hx hb dX6_state__50 (by decide) ?_
      subst hQe
      cases hden
      exact m_ri hx hb hr hP hD hS [0, 1, 2] (by decide) rfl rfl dX6_state__54 hlocks
  clear ej38
  refine lv_if_ne (tgt := 23) hx hb dX6_state__16 (by decide) (fun c_16 => ?_) (fun c_16 => ?_)
  · have hden := ifn_s hden c_16
    refine lv_iload_n hx hb dX6_state__23 rfl (lv_at hl 2 rfl) ?_
    refine lv_iconst (v := 0) hx hb dX6_state__24 (by decide) ?_
    refine lv_bipush (v := 8) hx hb dX6_state__25 (by decide) ?_
    obtain ⟨r_13, hc_14, hden⟩ := bnd_s hden
    refine m_ci (wc := []) (wr := [(a_this, .inr (5, [.int v_thrown, .ref a_this_s, .ref a_this_aside, .ref a_this_saved, .int v_savedMany, .ref a_this_text, .int v_length, .ref a_this_states, .int v_many_2, .int v_at, .int v_isWrong, .int v_letters, .int v_matched, .ref a_this_rows, .int v_manyRows, .long v_digested])), (a_this_states, .inl (cI, 66, .inl v_states_1)), (a_this_s, .inl (cI, 31, .inl v_s))]) (wc' := []) (va_runS (As := [.int p2, .int 0, .int 8]) (rest := [.ref a_this]) ⟨hx, hb, hml, hown, hts⟩ (c_X6_in l D cI cM cL F hc_14) (va_cwS 3 hts gX6_state__X6_in rfl rfl rfl (by decide +kernel) ⟨Nat.le_of_ble_eq_true rfl, Nat.le_of_ble_eq_true rfl⟩) (mPreS hP hD hK hN [] (by decide) rfl) rfl rfl hl.1 rfl (lv_room (Nat.le_of_ble_eq_true rfl)) dX6_state__27 ⟨Nat.le_of_ble_eq_true rfl, Nat.le_of_ble_eq_true rfl⟩) hP hD hS hA [] [0, 1, 2] rfl rfl (by decide) (by decide) (fun H locs hP hD hS => ?_)
    have hP : va_P D vwCl [(a_this, .inr (5, [.int v_thrown, .ref a_this_s, .ref a_this_aside, .ref a_this_saved, .int v_savedMany, .ref a_this_text, .int v_length, .ref a_this_states, .int v_many_2, .int v_at, .int v_isWrong, .int v_letters, .int v_matched, .ref a_this_rows, .int v_manyRows, .long v_digested])), (a_this_states, .inl (cI, 66, .inl v_states_1)), (a_this_s, .inl (cI, 31, .inl v_s))] H := hP
    have hD : va_D A [(a_this, .inr (5, [.int v_thrown, .ref a_this_s, .ref a_this_aside, .ref a_this_saved, .int v_savedMany, .ref a_this_text, .int v_length, .ref a_this_states, .int v_many_2, .int v_at, .int v_isWrong, .int v_letters, .int v_matched, .ref a_this_rows, .int v_manyRows, .long v_digested])), (a_this_states, .inl (cI, 66, .inl v_states_1)), (a_this_s, .inl (cI, 31, .inl v_s))] := hD
    refine lv_if_ne (tgt := 37) hx hb dX6_state__30 (by decide) (fun c_15 => ?_) (fun c_15 => ?_)
    · have hden := ifn_s hden c_15
      refine lv_iconst (v := 0) hx hb dX6_state__37 (by decide) ?_
      exact hj38 0 _ _ (mSubP hP [0, 1, 2] rfl) (hD.sub [0, 1, 2] (by decide) rfl) hS ls (lv_sub hl [0, 1, 2] rfl) hden
    · have hden := if_s hden c_15
      refine lv_iconst (v := 2) hx hb dX6_state__33 (by decide) ?_
      refine lv_goto (tgt := 38) hx hb dX6_state__34 (by decide) ?_
      exact hj38 2 _ _ (mSubP hP [0, 1, 2] rfl) (hD.sub [0, 1, 2] (by decide) rfl) hS ls (lv_sub hl [0, 1, 2] rfl) hden
  · have hden := if_s hden c_16
    refine lv_iconst (v := 1) hx hb dX6_state__19 (by decide) ?_
    refine lv_goto (tgt := 38) hx hb dX6_state__20 (by decide) ?_
    exact hj38 1 _ _ (mSubP hP [0, 1, 2] rfl) (hD.sub [0, 1, 2] (by decide) rfl) hS ls (lv_sub hl [0, 1, 2] rfl) hden
def L_X6_sumOfLengths_4 (F : Nat) (v_s : (Nat → Int32)) : Nat → Int32 → Int32 → Option (Int32)
  | 0, _, _ => none
  | n + 1, x1_1, x2_2 => (if 8 ≤ x2_2 then some (x1_1) else bnd (D_X6_isThere F x2_2 v_s) (fun r_3 => (if r_3 = 0 then nm (x1_1 + 0) (fun x1_5 => nm (x2_2 + 1) (fun x2_6 => L_X6_sumOfLengths_4 F v_s n x1_5 x2_6)) else grd (inb ((0 : Int32) + x2_2) 31) (bnd (D_X6_lengthOf F (v_s ((0 : Int32) + x2_2).toNatClampNeg)) (fun r_8 => nm (x1_1 + r_8) (fun x1_10 => nm (x2_2 + 1) (fun x2_11 => L_X6_sumOfLengths_4 F v_s n x1_10 x2_11)))))))
def D_X6_sumOfLengths (F : Nat) (v_s : (Nat → Int32)) : Option (Int32) := L_X6_sumOfLengths_4 F v_s F 0 0
def rm_X6_sumOfLengths : Room := { frames := 1, cells := 0, slots := 0, locals := 21 }
set_option maxHeartbeats 4000000 in
set_option maxRecDepth 100000 in
theorem c_X6_sumOfLengths (l : Launch) (D : va_G) (cI cM cL : ClassId) (F : Nat) {a_this a_this_s a_this_aside a_this_saved a_this_text a_this_states a_this_rows : Nat} {sz : Nat} {v_thrown v_savedMany v_length v_many v_at v_isWrong v_letters v_matched v_manyRows : Int32} {v_digested : Int64} {v_s : Nat → Int32} {r0 : Int32} (hden : D_X6_sumOfLengths F v_s = some (r0)) : Met l yX6_sumOfLengths wsX6_sumOfLengths rm_X6_sumOfLengths (va_Pc [.ref a_this] (mB D (mTy cI cM cL) sz [(a_this, .inr (5, [.int v_thrown, .ref a_this_s, .ref a_this_aside, .ref a_this_saved, .int v_savedMany, .ref a_this_text, .int v_length, .ref a_this_states, .int v_many, .int v_at, .int v_isWrong, .int v_letters, .int v_matched, .ref a_this_rows, .int v_manyRows, .long v_digested])), (a_this_s, .inl (cI, 31, .inl v_s))])) (mQi D (va_A [(a_this, .inr (5, [.int v_thrown, .ref a_this_s, .ref a_this_aside, .ref a_this_saved, .int v_savedMany, .ref a_this_text, .int v_length, .ref a_this_states, .int v_many, .int v_at, .int v_isWrong, .int v_letters, .int v_matched, .ref a_this_rows, .int v_manyRows, .long v_digested])), (a_this_s, .inl (cI, 31, .inl v_s))] sz) [(a_this, .inr (5, [.int v_thrown, .ref a_this_s, .ref a_this_aside, .ref a_this_saved, .int v_savedMany, .ref a_this_text, .int v_length, .ref a_this_states, .int v_many, .int v_at, .int v_isWrong, .int v_letters, .int v_matched, .ref a_this_rows, .int v_manyRows, .long v_digested])), (a_this_s, .inl (cI, 31, .inl v_s))] r0) 0 0 (va_A [(a_this, .inr (5, [.int v_thrown, .ref a_this_s, .ref a_this_aside, .ref a_this_saved, .int v_savedMany, .ref a_this_text, .int v_length, .ref a_this_states, .int v_many, .int v_at, .int v_isWrong, .int v_letters, .int v_matched, .ref a_this_rows, .int v_manyRows, .long v_digested])), (a_this_s, .inl (cI, 31, .inl v_s))] sz) := by
  refine Met.ofW (cc := cX6_sumOfLengths) (maxL := 3) (ret := (some .int)) (by decide) rfl ?_
  intro p e s m args below meth c s₁ B hml hv
  obtain ⟨rfl, hsz, hP, hK, hN, hD0⟩ := hv
  have hx := B.exec
  have hb := B.bytes
  have hr := B.returns
  have hts := atoms_spec (ws := wsX6_sumOfLengths) B.pre
  have hown : s.vm.findClass RX6 = some m.cls := findClass_of_methodNamed B.named
  have hlocks := B.notSynchronized
  subst hsz
  have hD := hD0.self (sz := s.heap.size)
  generalize hAe : va_A [(a_this, .inr (5, [.int v_thrown, .ref a_this_s, .ref a_this_aside, .ref a_this_saved, .int v_savedMany, .ref a_this_text, .int v_length, .ref a_this_states, .int v_many, .int v_at, .int v_isWrong, .int v_letters, .int v_matched, .ref a_this_rows, .int v_manyRows, .long v_digested])), (a_this_s, .inl (cI, 31, .inl v_s))] s.heap.size = A at hD ⊢
  have hA : ∀ q : Nat, s.heap.size ≤ q → A q := fun q h => by rw [← hAe]; exact Or.inr h
  have hS : va_S A s.heap s.heap [] := va_S.rf
  have hl := lv_entry ([.ref a_this]) (n := 3) (Nat.le_of_ble_eq_true rfl)
  rw [lg_entry_eq]
  generalize (lg_sl ([.ref a_this]) ++ List.replicate (3 - (lg_sl ([.ref a_this])).length) Slot.unset).toArray = ls at hl ⊢
  have hl : lv_has ls 3 [(0, .ref a_this)] := hl
  change W p l e rm_X6_sumOfLengths s m (([.ref a_this] : List Value).toArray) below meth c s.heap [] 0 0 _ (F0 m 0 ls [])
  generalize hQe : MQ below (mQi D A [(a_this, .inr (5, [.int v_thrown, .ref a_this_s, .ref a_this_aside, .ref a_this_saved, .int v_savedMany, .ref a_this_text, .int v_length, .ref a_this_states, .int v_many, .int v_at, .int v_isWrong, .int v_letters, .int v_matched, .ref a_this_rows, .int v_manyRows, .long v_digested])), (a_this_s, .inl (cI, 31, .inl v_s))] r0) (([.ref a_this] : List Value).toArray) s 0 0 A = Q
  rw [D_X6_sumOfLengths] at hden
  have hin_X6 : ∀ w ∈ wsX60, w ∈ wsX6_sumOfLengths := by decide +kernel
  have w_7 := hts (.fieldLink RX6 7 "FallingPatternsModel" "s" "[I") (by decide +kernel)
  refine lv_iconst (v := 0) hx hb dX6_sumOfLengths_0 (by decide) ?_
  refine lv_istore_n (lv' := [(1, .int 0), (0, .ref a_this)]) hx hb dX6_sumOfLengths_1 rfl hl (by decide) rfl (fun ls hl => ?_)
  refine lv_iconst (v := 0) hx hb dX6_sumOfLengths_2 (by decide) ?_
  refine lv_istore_n (lv' := [(2, .int 0), (1, .int 0), (0, .ref a_this)]) hx hb dX6_sumOfLengths_3 rfl hl (by decide) rfl (fun ls hl => ?_)
  have hL4__16 : ∀ (n : Nat) (x1_14 : Int32) (x2_15 : Int32) (H : Heap) (locs : List Loc), va_P D vwCl [(a_this, .inr (5, [.int v_thrown, .ref a_this_s, .ref a_this_aside, .ref a_this_saved, .int v_savedMany, .ref a_this_text, .int v_length, .ref a_this_states, .int v_many, .int v_at, .int v_isWrong, .int v_letters, .int v_matched, .ref a_this_rows, .int v_manyRows, .long v_digested])), (a_this_s, .inl (cI, 31, .inl v_s))] H → va_D A [(a_this, .inr (5, [.int v_thrown, .ref a_this_s, .ref a_this_aside, .ref a_this_saved, .int v_savedMany, .ref a_this_text, .int v_length, .ref a_this_states, .int v_many, .int v_at, .int v_isWrong, .int v_letters, .int v_matched, .ref a_this_rows, .int v_manyRows, .long v_digested])), (a_this_s, .inl (cI, 31, .inl v_s))] → va_S A s.heap H locs → ∀ ls : Array Slot, lv_has ls 3 [(0, .ref a_this), (1, .int x1_14), (2, .int x2_15)] → L_X6_sumOfLengths_4 F v_s n x1_14 x2_15 = some (r0) → W p l e rm_X6_sumOfLengths s m (([.ref a_this] : List Value).toArray) below meth c H locs 0 0 Q (F0 m 4 ls []) := by
    intro n
    induction n with
    | zero => intro x1_14 x2_15 H locs hP hD hS ls hl hden; exact no_none hden
    | succ n ih =>
      intro x1_14 x2_15 H locs hP hD hS ls hl hden
      rw [L_X6_sumOfLengths_4] at hden
      refine lv_iload_n hx hb dX6_sumOfLengths_4 rfl (lv_at hl 2 rfl) ?_
      refine lv_bipush (v := 8) hx hb dX6_sumOfLengths_5 (by decide) ?_
      refine lv_icmp_ge (tgt := 42) hx hb dX6_sumOfLengths_7 (by decide) (fun c_27 => ?_) (fun c_27 => ?_)
      · have hden := if_s hden c_27
        refine lv_iload_n hx hb dX6_sumOfLengths_42 rfl (lv_at hl 1 rfl) ?_
        subst hQe
        cases hden
        exact m_ri hx hb hr hP hD hS [0, 1] (by decide) rfl rfl dX6_sumOfLengths_43 hlocks
      · have hden := ifn_s hden c_27
        refine lv_iload_n hx hb dX6_sumOfLengths_10 rfl (lv_at hl 1 rfl) ?_
        refine lv_aload_n hx hb dX6_sumOfLengths_11 rfl (lv_at hl 0 rfl) ?_
        refine lv_iload_n hx hb dX6_sumOfLengths_12 rfl (lv_at hl 2 rfl) ?_
        obtain ⟨r_17, hc_18, hden⟩ := bnd_s hden
        refine m_ci (wc := [(a_this, .inr (5, [.int v_thrown, .ref a_this_s, .ref a_this_aside, .ref a_this_saved, .int v_savedMany, .ref a_this_text, .int v_length, .ref a_this_states, .int v_many, .int v_at, .int v_isWrong, .int v_letters, .int v_matched, .ref a_this_rows, .int v_manyRows, .long v_digested])), (a_this_s, .inl (cI, 31, .inl v_s))]) (wr := []) (wc' := [(a_this, .inr (5, [.int v_thrown, .ref a_this_s, .ref a_this_aside, .ref a_this_saved, .int v_savedMany, .ref a_this_text, .int v_length, .ref a_this_states, .int v_many, .int v_at, .int v_isWrong, .int v_letters, .int v_matched, .ref a_this_rows, .int v_manyRows, .long v_digested])), (a_this_s, .inl (cI, 31, .inl v_s))]) (va_runV (As := [.int x2_15]) (rest := [.int x1_14]) ⟨hx, hb, hml, hown, hts⟩ (c_X6_isThere l D cI cM cL F hc_18) (cwV 1 hts gX6_sumOfLengths_X6_isThere rfl rfl rfl (by decide +kernel) ⟨Nat.le_of_ble_eq_true rfl, Nat.le_of_ble_eq_true rfl⟩) (mPreV (ci := 5) (q0 := 0) (r := (RX6, TX6, 16)) hP hD hK hN [0, 1] (by decide) rfl rfl rfl) rfl rfl hl.1 rfl (lv_room (Nat.le_of_ble_eq_true rfl)) dX6_sumOfLengths_13 ⟨Nat.le_of_ble_eq_true rfl, Nat.le_of_ble_eq_true rfl⟩) hP hD hS hA [0, 1] [] rfl rfl (by decide) (by decide) (fun H locs hP hD hS => ?_)
        have hP : va_P D vwCl [(a_this, .inr (5, [.int v_thrown, .ref a_this_s, .ref a_this_aside, .ref a_this_saved, .int v_savedMany, .ref a_this_text, .int v_length, .ref a_this_states, .int v_many, .int v_at, .int v_isWrong, .int v_letters, .int v_matched, .ref a_this_rows, .int v_manyRows, .long v_digested])), (a_this_s, .inl (cI, 31, .inl v_s))] H := hP
        have hD : va_D A [(a_this, .inr (5, [.int v_thrown, .ref a_this_s, .ref a_this_aside, .ref a_this_saved, .int v_savedMany, .ref a_this_text, .int v_length, .ref a_this_states, .int v_many, .int v_at, .int v_isWrong, .int v_letters, .int v_matched, .ref a_this_rows, .int v_manyRows, .long v_digested])), (a_this_s, .inl (cI, 31, .inl v_s))] := hD
        refine lv_if_eq (tgt := 33) hx hb dX6_sumOfLengths_16 (by decide) (fun c_26 => ?_) (fun c_26 => ?_)
        · have hden := if_s hden c_26
          refine lv_iconst (v := 0) hx hb dX6_sumOfLengths_33 (by decide) ?_
          refine lv_iadd hx hb dX6_sumOfLengths_34 ?_
          refine lv_topi (fun x1_19 ex1_19 => ?_)
          have hden := nm_s hden ex1_19
          refine lv_istore_n (lv' := [(1, .int x1_19), (0, .ref a_this), (2, .int x2_15)]) hx hb dX6_sumOfLengths_35 rfl hl (by decide) rfl (fun ls hl => ?_)
          obtain ⟨x2_20, ex2_20, hden⟩ := nm_x hden
          refine lv_iinc (v := x2_20) (lv' := [(2, .int x2_20), (1, .int x1_19), (0, .ref a_this)]) hx hb dX6_sumOfLengths_36 hl (k := 2) rfl (by rw [ex2_20]; rfl) (by decide) rfl (fun ls hl => ?_)
          refine lv_goto (tgt := 4) hx hb dX6_sumOfLengths_39 (by decide) ?_
          exact ih x1_19 x2_20 _ _ (mSubP hP [0, 1] rfl) (hD.sub [0, 1] (by decide) rfl) hS ls (lv_sub hl [2, 1, 0] rfl) hden
        · have hden := ifn_s hden c_26
          refine lv_aload_n hx hb dX6_sumOfLengths_19 rfl (lv_at hl 0 rfl) ?_
          refine va_get (D := D) (ci := 5) (v := .ref a_this_s) (C := RX6) (T := TX6) (N := 16) hx hb hts hin_X6 hown hK hP 0 rfl rfl 1 (by decide) w_7 (fun _ h9 => h9) rfl dX6_sumOfLengths_20 ?_
          refine lv_iconst (v := 0) hx hb dX6_sumOfLengths_23 (by decide) ?_
          refine lv_iload_n hx hb dX6_sumOfLengths_24 rfl (lv_at hl 2 rfl) ?_
          refine lv_iadd hx hb dX6_sumOfLengths_25 ?_
          obtain ⟨hg_21, hden⟩ := grd_s hden
          refine va_iald hx hb hK hP 1 0 rfl rfl (inb_in hg_21) dX6_sumOfLengths_26 ?_
          obtain ⟨r_22, hc_23, hden⟩ := bnd_s hden
          refine m_ci (wc := []) (wr := [(a_this, .inr (5, [.int v_thrown, .ref a_this_s, .ref a_this_aside, .ref a_this_saved, .int v_savedMany, .ref a_this_text, .int v_length, .ref a_this_states, .int v_many, .int v_at, .int v_isWrong, .int v_letters, .int v_matched, .ref a_this_rows, .int v_manyRows, .long v_digested])), (a_this_s, .inl (cI, 31, .inl v_s))]) (wc' := []) (va_runS (As := [.int (v_s ((0 : Int32) + x2_15).toNatClampNeg)]) (rest := [.int x1_14]) ⟨hx, hb, hml, hown, hts⟩ (c_X6_lengthOf l D cI cM cL F hc_23) (va_cwS 1 hts gX6_sumOfLengths_X6_lengthOf rfl rfl rfl (by decide +kernel) ⟨Nat.le_of_ble_eq_true rfl, Nat.le_of_ble_eq_true rfl⟩) (mPreS hP hD hK hN [] (by decide) rfl) rfl rfl hl.1 rfl (lv_room (Nat.le_of_ble_eq_true rfl)) dX6_sumOfLengths_27 ⟨Nat.le_of_ble_eq_true rfl, Nat.le_of_ble_eq_true rfl⟩) hP hD hS hA [] [0, 1] rfl rfl (by decide) (by decide) (fun H locs hP hD hS => ?_)
          have hP : va_P D vwCl [(a_this, .inr (5, [.int v_thrown, .ref a_this_s, .ref a_this_aside, .ref a_this_saved, .int v_savedMany, .ref a_this_text, .int v_length, .ref a_this_states, .int v_many, .int v_at, .int v_isWrong, .int v_letters, .int v_matched, .ref a_this_rows, .int v_manyRows, .long v_digested])), (a_this_s, .inl (cI, 31, .inl v_s))] H := hP
          have hD : va_D A [(a_this, .inr (5, [.int v_thrown, .ref a_this_s, .ref a_this_aside, .ref a_this_saved, .int v_savedMany, .ref a_this_text, .int v_length, .ref a_this_states, .int v_many, .int v_at, .int v_isWrong, .int v_letters, .int v_matched, .ref a_this_rows, .int v_manyRows, .long v_digested])), (a_this_s, .inl (cI, 31, .inl v_s))] := hD
          refine lv_goto (tgt := 34) hx hb dX6_sumOfLengths_30 (by decide) ?_
          refine lv_iadd hx hb dX6_sumOfLengths_34 ?_
          refine lv_topi (fun x1_24 ex1_24 => ?_)
          have hden := nm_s hden ex1_24
          refine lv_istore_n (lv' := [(1, .int x1_24), (0, .ref a_this), (2, .int x2_15)]) hx hb dX6_sumOfLengths_35 rfl hl (by decide) rfl (fun ls hl => ?_)
          obtain ⟨x2_25, ex2_25, hden⟩ := nm_x hden
          refine lv_iinc (v := x2_25) (lv' := [(2, .int x2_25), (1, .int x1_24), (0, .ref a_this)]) hx hb dX6_sumOfLengths_36 hl (k := 2) rfl (by rw [ex2_25]; rfl) (by decide) rfl (fun ls hl => ?_)
          refine lv_goto (tgt := 4) hx hb dX6_sumOfLengths_39 (by decide) ?_
          exact ih x1_24 x2_25 _ _ (mSubP hP [0, 1] rfl) (hD.sub [0, 1] (by decide) rfl) hS ls (lv_sub hl [2, 1, 0] rfl) hden
  exact hL4__16 F 0 0 _ _ (mSubP hP [0, 1] rfl) (hD.sub [0, 1] (by decide) rfl) hS ls (lv_sub hl [2, 1, 0] rfl) hden
def D_X6_counted (F : Nat) (p1 : Int32) (v_s : (Nat → Int32)) (v_states : (Nat → Int32)) (v_many : Int32) (v_savedMany : Int32) : Option (Int32) := (if p1 = 0 then bnd (D_X6_beginning F 1 v_s) (fun r_1 => some (r_1)) else (if p1 = 1 then some (v_many) else (if p1 = 2 then bnd (D_X6_state F v_s) (fun r_5 => bnd (D_X6_numberOf F r_5 v_states) (fun r_7 => some (r_7))) else (if p1 = 3 then grd (inb 25 31) (some ((v_s (25 : Int32).toNatClampNeg))) else (if p1 = 4 then grd (inb 27 31) (some ((v_s (27 : Int32).toNatClampNeg))) else (if p1 = 5 then grd (inb 28 31) (some ((v_s (28 : Int32).toNatClampNeg))) else (if p1 = 6 then grd (inb 29 31) (some ((v_s (29 : Int32).toNatClampNeg))) else (if p1 = 7 then grd (inb 30 31) (some ((v_s (30 : Int32).toNatClampNeg))) else (if p1 = 8 then bnd (D_X6_sumOfLengths F v_s) (fun r_20 => some (r_20)) else some (v_savedMany))))))))))
def rm_X6_counted : Room := { frames := 7, cells := 0, slots := 0, locals := 150 }
set_option maxHeartbeats 4000000 in
set_option maxRecDepth 100000 in
theorem c_X6_counted (l : Launch) (D : va_G) (cI cM cL : ClassId) (F : Nat) {a_this a_this_s a_this_aside a_this_saved a_this_text a_this_states a_this_rows : Nat} {sz : Nat} {v_thrown v_savedMany v_length v_many v_at v_isWrong v_letters v_matched v_manyRows : Int32} {v_digested : Int64} {v_s v_states : Nat → Int32} {p1 : Int32} {r0 : Int32} (hden : D_X6_counted F p1 v_s v_states v_many v_savedMany = some (r0)) : Met l yX6_counted wsX6_counted rm_X6_counted (va_Pc [.ref a_this, .int p1] (mB D (mTy cI cM cL) sz [(a_this, .inr (5, [.int v_thrown, .ref a_this_s, .ref a_this_aside, .ref a_this_saved, .int v_savedMany, .ref a_this_text, .int v_length, .ref a_this_states, .int v_many, .int v_at, .int v_isWrong, .int v_letters, .int v_matched, .ref a_this_rows, .int v_manyRows, .long v_digested])), (a_this_s, .inl (cI, 31, .inl v_s)), (a_this_states, .inl (cI, 66, .inl v_states))])) (mQi D (va_A [(a_this, .inr (5, [.int v_thrown, .ref a_this_s, .ref a_this_aside, .ref a_this_saved, .int v_savedMany, .ref a_this_text, .int v_length, .ref a_this_states, .int v_many, .int v_at, .int v_isWrong, .int v_letters, .int v_matched, .ref a_this_rows, .int v_manyRows, .long v_digested])), (a_this_s, .inl (cI, 31, .inl v_s)), (a_this_states, .inl (cI, 66, .inl v_states))] sz) [(a_this, .inr (5, [.int v_thrown, .ref a_this_s, .ref a_this_aside, .ref a_this_saved, .int v_savedMany, .ref a_this_text, .int v_length, .ref a_this_states, .int v_many, .int v_at, .int v_isWrong, .int v_letters, .int v_matched, .ref a_this_rows, .int v_manyRows, .long v_digested])), (a_this_s, .inl (cI, 31, .inl v_s)), (a_this_states, .inl (cI, 66, .inl v_states))] r0) 0 0 (va_A [(a_this, .inr (5, [.int v_thrown, .ref a_this_s, .ref a_this_aside, .ref a_this_saved, .int v_savedMany, .ref a_this_text, .int v_length, .ref a_this_states, .int v_many, .int v_at, .int v_isWrong, .int v_letters, .int v_matched, .ref a_this_rows, .int v_manyRows, .long v_digested])), (a_this_s, .inl (cI, 31, .inl v_s)), (a_this_states, .inl (cI, 66, .inl v_states))] sz) := by
  refine Met.ofW (cc := cX6_counted) (maxL := 2) (ret := (some .int)) (by decide) rfl ?_
  intro p e s m args below meth c s₁ B hml hv
  obtain ⟨rfl, hsz, hP, hK, hN, hD0⟩ := hv
  have hx := B.exec
  have hb := B.bytes
  have hr := B.returns
  have hts := atoms_spec (ws := wsX6_counted) B.pre
  have hown : s.vm.findClass RX6 = some m.cls := findClass_of_methodNamed B.named
  have hlocks := B.notSynchronized
  subst hsz
  have hD := hD0.self (sz := s.heap.size)
  generalize hAe : va_A [(a_this, .inr (5, [.int v_thrown, .ref a_this_s, .ref a_this_aside, .ref a_this_saved, .int v_savedMany, .ref a_this_text, .int v_length, .ref a_this_states, .int v_many, .int v_at, .int v_isWrong, .int v_letters, .int v_matched, .ref a_this_rows, .int v_manyRows, .long v_digested])), (a_this_s, .inl (cI, 31, .inl v_s)), (a_this_states, .inl (cI, 66, .inl v_states))] s.heap.size = A at hD ⊢
  have hA : ∀ q : Nat, s.heap.size ≤ q → A q := fun q h => by rw [← hAe]; exact Or.inr h
  have hS : va_S A s.heap s.heap [] := va_S.rf
  have hl := lv_entry ([.ref a_this, .int p1]) (n := 2) (Nat.le_of_ble_eq_true rfl)
  rw [lg_entry_eq]
  generalize (lg_sl ([.ref a_this, .int p1]) ++ List.replicate (2 - (lg_sl ([.ref a_this, .int p1])).length) Slot.unset).toArray = ls at hl ⊢
  have hl : lv_has ls 2 [(0, .ref a_this), (1, .int p1)] := hl
  change W p l e rm_X6_counted s m (([.ref a_this, .int p1] : List Value).toArray) below meth c s.heap [] 0 0 _ (F0 m 0 ls [])
  generalize hQe : MQ below (mQi D A [(a_this, .inr (5, [.int v_thrown, .ref a_this_s, .ref a_this_aside, .ref a_this_saved, .int v_savedMany, .ref a_this_text, .int v_length, .ref a_this_states, .int v_many, .int v_at, .int v_isWrong, .int v_letters, .int v_matched, .ref a_this_rows, .int v_manyRows, .long v_digested])), (a_this_s, .inl (cI, 31, .inl v_s)), (a_this_states, .inl (cI, 66, .inl v_states))] r0) (([.ref a_this, .int p1] : List Value).toArray) s 0 0 A = Q
  rw [D_X6_counted] at hden
  have hin_X6 : ∀ w ∈ wsX60, w ∈ wsX6_counted := by decide +kernel
  have w_76 := hts (.fieldLink RX6 76 "FallingPatternsModel" "many" "I") (by decide +kernel)
  have w_7 := hts (.fieldLink RX6 7 "FallingPatternsModel" "s" "[I") (by decide +kernel)
  have w_35 := hts (.fieldLink RX6 35 "FallingPatternsModel" "savedMany" "I") (by decide +kernel)
  refine lv_iload_n hx hb dX6_counted_0 rfl (lv_at hl 1 rfl) ?_
  by_cases c_3 : p1 = 0
  · have hden := if_s hden c_3
    refine lv_tableIn (off := 51) (tgt := 52) hx hb dX6_counted_1 (by rw [c_3]; decide) (by rw [c_3]; decide) (by rw [c_3]; rfl) (by decide) ?_
    refine lv_aload_n hx hb dX6_counted_52 rfl (lv_at hl 0 rfl) ?_
    refine lv_iconst (v := 1) hx hb dX6_counted_53 (by decide) ?_
    obtain ⟨r_1, hc_2, hden⟩ := bnd_s hden
    refine m_ci (wc := [(a_this, .inr (5, [.int v_thrown, .ref a_this_s, .ref a_this_aside, .ref a_this_saved, .int v_savedMany, .ref a_this_text, .int v_length, .ref a_this_states, .int v_many, .int v_at, .int v_isWrong, .int v_letters, .int v_matched, .ref a_this_rows, .int v_manyRows, .long v_digested])), (a_this_s, .inl (cI, 31, .inl v_s))]) (wr := [(a_this_states, .inl (cI, 66, .inl v_states))]) (wc' := [(a_this, .inr (5, [.int v_thrown, .ref a_this_s, .ref a_this_aside, .ref a_this_saved, .int v_savedMany, .ref a_this_text, .int v_length, .ref a_this_states, .int v_many, .int v_at, .int v_isWrong, .int v_letters, .int v_matched, .ref a_this_rows, .int v_manyRows, .long v_digested])), (a_this_s, .inl (cI, 31, .inl v_s))]) (va_runV (As := [.int 1]) (rest := []) ⟨hx, hb, hml, hown, hts⟩ (c_X6_beginning l D cI cM cL F hc_2) (cwV 1 hts gX6_counted_X6_beginning rfl rfl rfl (by decide +kernel) ⟨Nat.le_of_ble_eq_true rfl, Nat.le_of_ble_eq_true rfl⟩) (mPreV (ci := 5) (q0 := 0) (r := (RX6, TX6, 16)) hP hD hK hN [0, 1] (by decide) rfl rfl rfl) rfl rfl hl.1 rfl (lv_room (Nat.le_of_ble_eq_true rfl)) dX6_counted_54 ⟨Nat.le_of_ble_eq_true rfl, Nat.le_of_ble_eq_true rfl⟩) hP hD hS hA [0, 1] [2] rfl rfl (by decide) (by decide) (fun H locs hP hD hS => ?_)
    have hP : va_P D vwCl [(a_this_states, .inl (cI, 66, .inl v_states)), (a_this, .inr (5, [.int v_thrown, .ref a_this_s, .ref a_this_aside, .ref a_this_saved, .int v_savedMany, .ref a_this_text, .int v_length, .ref a_this_states, .int v_many, .int v_at, .int v_isWrong, .int v_letters, .int v_matched, .ref a_this_rows, .int v_manyRows, .long v_digested])), (a_this_s, .inl (cI, 31, .inl v_s))] H := hP
    have hD : va_D A [(a_this_states, .inl (cI, 66, .inl v_states)), (a_this, .inr (5, [.int v_thrown, .ref a_this_s, .ref a_this_aside, .ref a_this_saved, .int v_savedMany, .ref a_this_text, .int v_length, .ref a_this_states, .int v_many, .int v_at, .int v_isWrong, .int v_letters, .int v_matched, .ref a_this_rows, .int v_manyRows, .long v_digested])), (a_this_s, .inl (cI, 31, .inl v_s))] := hD
    subst hQe
    cases hden
    exact m_ri hx hb hr hP hD hS [1, 2, 0] (by decide) rfl rfl dX6_counted_57 hlocks
  have hden := ifn_s hden c_3
  by_cases c_4 : p1 = 1
  · have hden := if_s hden c_4
    refine lv_tableIn (off := 57) (tgt := 58) hx hb dX6_counted_1 (by rw [c_4]; decide) (by rw [c_4]; decide) (by rw [c_4]; rfl) (by decide) ?_
    refine lv_aload_n hx hb dX6_counted_58 rfl (lv_at hl 0 rfl) ?_
    refine va_get (D := D) (ci := 5) (v := .int v_many) (C := RX6) (T := TX6) (N := 16) hx hb hts hin_X6 hown hK hP 0 rfl rfl 8 (by decide) w_76 (fun _ h9 => h9) rfl dX6_counted_59 ?_
    subst hQe
    cases hden
    exact m_ri hx hb hr hP hD hS [0, 1, 2] (by decide) rfl rfl dX6_counted_62 hlocks
  have hden := ifn_s hden c_4
  by_cases c_9 : p1 = 2
  · have hden := if_s hden c_9
    refine lv_tableIn (off := 62) (tgt := 63) hx hb dX6_counted_1 (by rw [c_9]; decide) (by rw [c_9]; decide) (by rw [c_9]; rfl) (by decide) ?_
    refine lv_aload_n hx hb dX6_counted_63 rfl (lv_at hl 0 rfl) ?_
    refine lv_aload_n hx hb dX6_counted_64 rfl (lv_at hl 0 rfl) ?_
    obtain ⟨r_5, hc_6, hden⟩ := bnd_s hden
    refine m_ci (wc := [(a_this, .inr (5, [.int v_thrown, .ref a_this_s, .ref a_this_aside, .ref a_this_saved, .int v_savedMany, .ref a_this_text, .int v_length, .ref a_this_states, .int v_many, .int v_at, .int v_isWrong, .int v_letters, .int v_matched, .ref a_this_rows, .int v_manyRows, .long v_digested])), (a_this_s, .inl (cI, 31, .inl v_s))]) (wr := [(a_this_states, .inl (cI, 66, .inl v_states))]) (wc' := [(a_this, .inr (5, [.int v_thrown, .ref a_this_s, .ref a_this_aside, .ref a_this_saved, .int v_savedMany, .ref a_this_text, .int v_length, .ref a_this_states, .int v_many, .int v_at, .int v_isWrong, .int v_letters, .int v_matched, .ref a_this_rows, .int v_manyRows, .long v_digested])), (a_this_s, .inl (cI, 31, .inl v_s))]) (va_runV (As := []) (rest := [.ref a_this]) ⟨hx, hb, hml, hown, hts⟩ (c_X6_state l D cI cM cL F hc_6) (cwV 0 hts gX6_counted_X6_state rfl rfl rfl (by decide +kernel) ⟨Nat.le_of_ble_eq_true rfl, Nat.le_of_ble_eq_true rfl⟩) (mPreV (ci := 5) (q0 := 0) (r := (RX6, TX6, 16)) hP hD hK hN [0, 1] (by decide) rfl rfl rfl) rfl rfl hl.1 rfl (lv_room (Nat.le_of_ble_eq_true rfl)) dX6_counted_65 ⟨Nat.le_of_ble_eq_true rfl, Nat.le_of_ble_eq_true rfl⟩) hP hD hS hA [0, 1] [2] rfl rfl (by decide) (by decide) (fun H locs hP hD hS => ?_)
    have hP : va_P D vwCl [(a_this_states, .inl (cI, 66, .inl v_states)), (a_this, .inr (5, [.int v_thrown, .ref a_this_s, .ref a_this_aside, .ref a_this_saved, .int v_savedMany, .ref a_this_text, .int v_length, .ref a_this_states, .int v_many, .int v_at, .int v_isWrong, .int v_letters, .int v_matched, .ref a_this_rows, .int v_manyRows, .long v_digested])), (a_this_s, .inl (cI, 31, .inl v_s))] H := hP
    have hD : va_D A [(a_this_states, .inl (cI, 66, .inl v_states)), (a_this, .inr (5, [.int v_thrown, .ref a_this_s, .ref a_this_aside, .ref a_this_saved, .int v_savedMany, .ref a_this_text, .int v_length, .ref a_this_states, .int v_many, .int v_at, .int v_isWrong, .int v_letters, .int v_matched, .ref a_this_rows, .int v_manyRows, .long v_digested])), (a_this_s, .inl (cI, 31, .inl v_s))] := hD
    obtain ⟨r_7, hc_8, hden⟩ := bnd_s hden
    refine m_ci (wc := [(a_this, .inr (5, [.int v_thrown, .ref a_this_s, .ref a_this_aside, .ref a_this_saved, .int v_savedMany, .ref a_this_text, .int v_length, .ref a_this_states, .int v_many, .int v_at, .int v_isWrong, .int v_letters, .int v_matched, .ref a_this_rows, .int v_manyRows, .long v_digested])), (a_this_states, .inl (cI, 66, .inl v_states))]) (wr := [(a_this_s, .inl (cI, 31, .inl v_s))]) (wc' := [(a_this, .inr (5, [.int v_thrown, .ref a_this_s, .ref a_this_aside, .ref a_this_saved, .int v_savedMany, .ref a_this_text, .int v_length, .ref a_this_states, .int v_many, .int v_at, .int v_isWrong, .int v_letters, .int v_matched, .ref a_this_rows, .int v_manyRows, .long v_digested])), (a_this_states, .inl (cI, 66, .inl v_states))]) (va_runV (As := [.int r_5]) (rest := []) ⟨hx, hb, hml, hown, hts⟩ (c_X6_numberOf l D cI cM cL F hc_8) (cwV 1 hts gX6_counted_X6_numberOf rfl rfl rfl (by decide +kernel) ⟨Nat.le_of_ble_eq_true rfl, Nat.le_of_ble_eq_true rfl⟩) (mPreV (ci := 5) (q0 := 0) (r := (RX6, TX6, 16)) hP hD hK hN [1, 0] (by decide) rfl rfl rfl) rfl rfl hl.1 rfl (lv_room (Nat.le_of_ble_eq_true rfl)) dX6_counted_68 ⟨Nat.le_of_ble_eq_true rfl, Nat.le_of_ble_eq_true rfl⟩) hP hD hS hA [1, 0] [2] rfl rfl (by decide) (by decide) (fun H locs hP hD hS => ?_)
    have hP : va_P D vwCl [(a_this_s, .inl (cI, 31, .inl v_s)), (a_this, .inr (5, [.int v_thrown, .ref a_this_s, .ref a_this_aside, .ref a_this_saved, .int v_savedMany, .ref a_this_text, .int v_length, .ref a_this_states, .int v_many, .int v_at, .int v_isWrong, .int v_letters, .int v_matched, .ref a_this_rows, .int v_manyRows, .long v_digested])), (a_this_states, .inl (cI, 66, .inl v_states))] H := hP
    have hD : va_D A [(a_this_s, .inl (cI, 31, .inl v_s)), (a_this, .inr (5, [.int v_thrown, .ref a_this_s, .ref a_this_aside, .ref a_this_saved, .int v_savedMany, .ref a_this_text, .int v_length, .ref a_this_states, .int v_many, .int v_at, .int v_isWrong, .int v_letters, .int v_matched, .ref a_this_rows, .int v_manyRows, .long v_digested])), (a_this_states, .inl (cI, 66, .inl v_states))] := hD
    subst hQe
    cases hden
    exact m_ri hx hb hr hP hD hS [1, 0, 2] (by decide) rfl rfl dX6_counted_71 hlocks
  have hden := ifn_s hden c_9
  by_cases c_11 : p1 = 3
  · have hden := if_s hden c_11
    refine lv_tableIn (off := 71) (tgt := 72) hx hb dX6_counted_1 (by rw [c_11]; decide) (by rw [c_11]; decide) (by rw [c_11]; rfl) (by decide) ?_
    refine lv_aload_n hx hb dX6_counted_72 rfl (lv_at hl 0 rfl) ?_
    refine va_get (D := D) (ci := 5) (v := .ref a_this_s) (C := RX6) (T := TX6) (N := 16) hx hb hts hin_X6 hown hK hP 0 rfl rfl 1 (by decide) w_7 (fun _ h9 => h9) rfl dX6_counted_73 ?_
    refine lv_bipush (v := 25) hx hb dX6_counted_76 (by decide) ?_
    obtain ⟨hg_10, hden⟩ := grd_s hden
    refine va_iald hx hb hK hP 1 0 rfl rfl (inb_in hg_10) dX6_counted_78 ?_
    subst hQe
    cases hden
    exact m_ri hx hb hr hP hD hS [0, 1, 2] (by decide) rfl rfl dX6_counted_79 hlocks
  have hden := ifn_s hden c_11
  by_cases c_13 : p1 = 4
  · have hden := if_s hden c_13
    refine lv_tableIn (off := 79) (tgt := 80) hx hb dX6_counted_1 (by rw [c_13]; decide) (by rw [c_13]; decide) (by rw [c_13]; rfl) (by decide) ?_
    refine lv_aload_n hx hb dX6_counted_80 rfl (lv_at hl 0 rfl) ?_
    refine va_get (D := D) (ci := 5) (v := .ref a_this_s) (C := RX6) (T := TX6) (N := 16) hx hb hts hin_X6 hown hK hP 0 rfl rfl 1 (by decide) w_7 (fun _ h9 => h9) rfl dX6_counted_81 ?_
    refine lv_bipush (v := 27) hx hb dX6_counted_84 (by decide) ?_
    obtain ⟨hg_12, hden⟩ := grd_s hden
    refine va_iald hx hb hK hP 1 0 rfl rfl (inb_in hg_12) dX6_counted_86 ?_
    subst hQe
    cases hden
    exact m_ri hx hb hr hP hD hS [0, 1, 2] (by decide) rfl rfl dX6_counted_87 hlocks
  have hden := ifn_s hden c_13
  by_cases c_15 : p1 = 5
  · have hden := if_s hden c_15
    refine lv_tableIn (off := 87) (tgt := 88) hx hb dX6_counted_1 (by rw [c_15]; decide) (by rw [c_15]; decide) (by rw [c_15]; rfl) (by decide) ?_
    refine lv_aload_n hx hb dX6_counted_88 rfl (lv_at hl 0 rfl) ?_
    refine va_get (D := D) (ci := 5) (v := .ref a_this_s) (C := RX6) (T := TX6) (N := 16) hx hb hts hin_X6 hown hK hP 0 rfl rfl 1 (by decide) w_7 (fun _ h9 => h9) rfl dX6_counted_89 ?_
    refine lv_bipush (v := 28) hx hb dX6_counted_92 (by decide) ?_
    obtain ⟨hg_14, hden⟩ := grd_s hden
    refine va_iald hx hb hK hP 1 0 rfl rfl (inb_in hg_14) dX6_counted_94 ?_
    subst hQe
    cases hden
    exact m_ri hx hb hr hP hD hS [0, 1, 2] (by decide) rfl rfl dX6_counted_95 hlocks
  have hden := ifn_s hden c_15
  by_cases c_17 : p1 = 6
  · have hden := if_s hden c_17
    refine lv_tableIn (off := 95) (tgt := 96) hx hb dX6_counted_1 (by rw [c_17]; decide) (by rw [c_17]; decide) (by rw [c_17]; rfl) (by decide) ?_
    refine lv_aload_n hx hb dX6_counted_96 rfl (lv_at hl 0 rfl) ?_
    refine va_get (D := D) (ci := 5) (v := .ref a_this_s) (C := RX6) (T := TX6) (N := 16) hx hb hts hin_X6 hown hK hP 0 rfl rfl 1 (by decide) w_7 (fun _ h9 => h9) rfl dX6_counted_97 ?_
    refine lv_bipush (v := 29) hx hb dX6_counted_100 (by decide) ?_
    obtain ⟨hg_16, hden⟩ := grd_s hden
    refine va_iald hx hb hK hP 1 0 rfl rfl (inb_in hg_16) dX6_counted_102 ?_
    subst hQe
    cases hden
    exact m_ri hx hb hr hP hD hS [0, 1, 2] (by decide) rfl rfl dX6_counted_103 hlocks
  have hden := ifn_s hden c_17
  by_cases c_19 : p1 = 7
  · have hden := if_s hden c_19
    refine lv_tableIn (off := 103) (tgt := 104) hx hb dX6_counted_1 (by rw [c_19]; decide) (by rw [c_19]; decide) (by rw [c_19]; rfl) (by decide) ?_
    refine lv_aload_n hx hb dX6_counted_104 rfl (lv_at hl 0 rfl) ?_
    refine va_get (D := D) (ci := 5) (v := .ref a_this_s) (C := RX6) (T := TX6) (N := 16) hx hb hts hin_X6 hown hK hP 0 rfl rfl 1 (by decide) w_7 (fun _ h9 => h9) rfl dX6_counted_105 ?_
    refine lv_bipush (v := 30) hx hb dX6_counted_108 (by decide) ?_
    obtain ⟨hg_18, hden⟩ := grd_s hden
    refine va_iald hx hb hK hP 1 0 rfl rfl (inb_in hg_18) dX6_counted_110 ?_
    subst hQe
    cases hden
    exact m_ri hx hb hr hP hD hS [0, 1, 2] (by decide) rfl rfl dX6_counted_111 hlocks
  have hden := ifn_s hden c_19
  by_cases c_22 : p1 = 8
  · have hden := if_s hden c_22
    refine lv_tableIn (off := 111) (tgt := 112) hx hb dX6_counted_1 (by rw [c_22]; decide) (by rw [c_22]; decide) (by rw [c_22]; rfl) (by decide) ?_
    refine lv_aload_n hx hb dX6_counted_112 rfl (lv_at hl 0 rfl) ?_
    obtain ⟨r_20, hc_21, hden⟩ := bnd_s hden
    refine m_ci (wc := [(a_this, .inr (5, [.int v_thrown, .ref a_this_s, .ref a_this_aside, .ref a_this_saved, .int v_savedMany, .ref a_this_text, .int v_length, .ref a_this_states, .int v_many, .int v_at, .int v_isWrong, .int v_letters, .int v_matched, .ref a_this_rows, .int v_manyRows, .long v_digested])), (a_this_s, .inl (cI, 31, .inl v_s))]) (wr := [(a_this_states, .inl (cI, 66, .inl v_states))]) (wc' := [(a_this, .inr (5, [.int v_thrown, .ref a_this_s, .ref a_this_aside, .ref a_this_saved, .int v_savedMany, .ref a_this_text, .int v_length, .ref a_this_states, .int v_many, .int v_at, .int v_isWrong, .int v_letters, .int v_matched, .ref a_this_rows, .int v_manyRows, .long v_digested])), (a_this_s, .inl (cI, 31, .inl v_s))]) (va_runV (As := []) (rest := []) ⟨hx, hb, hml, hown, hts⟩ (c_X6_sumOfLengths l D cI cM cL F hc_21) (cwV 0 hts gX6_counted_X6_sumOfLengths rfl rfl rfl (by decide +kernel) ⟨Nat.le_of_ble_eq_true rfl, Nat.le_of_ble_eq_true rfl⟩) (mPreV (ci := 5) (q0 := 0) (r := (RX6, TX6, 16)) hP hD hK hN [0, 1] (by decide) rfl rfl rfl) rfl rfl hl.1 rfl (lv_room (Nat.le_of_ble_eq_true rfl)) dX6_counted_113 ⟨Nat.le_of_ble_eq_true rfl, Nat.le_of_ble_eq_true rfl⟩) hP hD hS hA [0, 1] [2] rfl rfl (by decide) (by decide) (fun H locs hP hD hS => ?_)
    have hP : va_P D vwCl [(a_this_states, .inl (cI, 66, .inl v_states)), (a_this, .inr (5, [.int v_thrown, .ref a_this_s, .ref a_this_aside, .ref a_this_saved, .int v_savedMany, .ref a_this_text, .int v_length, .ref a_this_states, .int v_many, .int v_at, .int v_isWrong, .int v_letters, .int v_matched, .ref a_this_rows, .int v_manyRows, .long v_digested])), (a_this_s, .inl (cI, 31, .inl v_s))] H := hP
    have hD : va_D A [(a_this_states, .inl (cI, 66, .inl v_states)), (a_this, .inr (5, [.int v_thrown, .ref a_this_s, .ref a_this_aside, .ref a_this_saved, .int v_savedMany, .ref a_this_text, .int v_length, .ref a_this_states, .int v_many, .int v_at, .int v_isWrong, .int v_letters, .int v_matched, .ref a_this_rows, .int v_manyRows, .long v_digested])), (a_this_s, .inl (cI, 31, .inl v_s))] := hD
    subst hQe
    cases hden
    exact m_ri hx hb hr hP hD hS [1, 2, 0] (by decide) rfl rfl dX6_counted_116 hlocks
  have hden := ifn_s hden c_22
  refine lv_tableOut (tgt := 117) hx hb dX6_counted_1 (tsw_out9 c_3 c_4 c_9 c_11 c_13 c_15 c_17 c_19 c_22) (by decide) ?_
  refine lv_aload_n hx hb dX6_counted_117 rfl (lv_at hl 0 rfl) ?_
  refine va_get (D := D) (ci := 5) (v := .int v_savedMany) (C := RX6) (T := TX6) (N := 16) hx hb hts hin_X6 hown hK hP 0 rfl rfl 4 (by decide) w_35 (fun _ h9 => h9) rfl dX6_counted_118 ?_
  subst hQe
  cases hden
  exact m_ri hx hb hr hP hD hS [0, 1, 2] (by decide) rfl rfl dX6_counted_121 hlocks
def D_X6_count (F : Nat) (p1 : Int32) (v_states : (Nat → Int32)) (v_many : Int32) (v_s : (Nat → Int32)) (v_thrown : Int32) (v_savedMany : Int32) : Option (Int32 × (Nat → Int32) × Int32 × Int32) := bnd (D_X6_list F v_states v_many v_s) (fun (v_states_1, v_many_2) => bnd (D_X6_in F p1 0 9) (fun r_4 => jp (fun (t_6 : Int32) => bnd (D_X6_holds F t_6 v_thrown) (fun (r_7, v_thrown_8) => (if r_7 = 0 then some (0, v_states_1, v_many_2, v_thrown_8) else bnd (D_X6_counted F p1 v_s v_states_1 v_many_2 v_savedMany) (fun r_10 => some (r_10, v_states_1, v_many_2, v_thrown_8))))) (fun j20 => (if r_4 = 0 then j20 1 else j20 0))))
def rm_X6_count : Room := { frames := 8, cells := 0, slots := 0, locals := 171 }
set_option maxHeartbeats 4000000 in
set_option maxRecDepth 100000 in
theorem c_X6_count (l : Launch) (D : va_G) (cI cM cL : ClassId) (F : Nat) {a_this a_this_s a_this_aside a_this_saved a_this_text a_this_states a_this_rows : Nat} {sz : Nat} {v_thrown v_savedMany v_length v_many v_at v_isWrong v_letters v_matched v_manyRows : Int32} {v_digested : Int64} {v_states v_s : Nat → Int32} {p1 : Int32} {r0 : Int32} {w_states : (Nat → Int32)} {w_many : Int32} {w_thrown : Int32} (hden : D_X6_count F p1 v_states v_many v_s v_thrown v_savedMany = some (r0, w_states, w_many, w_thrown)) : Met l yX6_count wsX6_count rm_X6_count (va_Pc [.ref a_this, .int p1] (mB D (mTy cI cM cL) sz [(a_this, .inr (5, [.int v_thrown, .ref a_this_s, .ref a_this_aside, .ref a_this_saved, .int v_savedMany, .ref a_this_text, .int v_length, .ref a_this_states, .int v_many, .int v_at, .int v_isWrong, .int v_letters, .int v_matched, .ref a_this_rows, .int v_manyRows, .long v_digested])), (a_this_states, .inl (cI, 66, .inl v_states)), (a_this_s, .inl (cI, 31, .inl v_s))])) (mQi D (va_A [(a_this, .inr (5, [.int v_thrown, .ref a_this_s, .ref a_this_aside, .ref a_this_saved, .int v_savedMany, .ref a_this_text, .int v_length, .ref a_this_states, .int v_many, .int v_at, .int v_isWrong, .int v_letters, .int v_matched, .ref a_this_rows, .int v_manyRows, .long v_digested])), (a_this_states, .inl (cI, 66, .inl v_states)), (a_this_s, .inl (cI, 31, .inl v_s))] sz) [(a_this, .inr (5, [.int w_thrown, .ref a_this_s, .ref a_this_aside, .ref a_this_saved, .int v_savedMany, .ref a_this_text, .int v_length, .ref a_this_states, .int w_many, .int v_at, .int v_isWrong, .int v_letters, .int v_matched, .ref a_this_rows, .int v_manyRows, .long v_digested])), (a_this_states, .inl (cI, 66, .inl w_states)), (a_this_s, .inl (cI, 31, .inl v_s))] r0) 0 0 (va_A [(a_this, .inr (5, [.int v_thrown, .ref a_this_s, .ref a_this_aside, .ref a_this_saved, .int v_savedMany, .ref a_this_text, .int v_length, .ref a_this_states, .int v_many, .int v_at, .int v_isWrong, .int v_letters, .int v_matched, .ref a_this_rows, .int v_manyRows, .long v_digested])), (a_this_states, .inl (cI, 66, .inl v_states)), (a_this_s, .inl (cI, 31, .inl v_s))] sz) := by
  refine Met.ofW (cc := cX6_count) (maxL := 2) (ret := (some .int)) (by decide) rfl ?_
  intro p e s m args below meth c s₁ B hml hv
  obtain ⟨rfl, hsz, hP, hK, hN, hD0⟩ := hv
  have hx := B.exec
  have hb := B.bytes
  have hr := B.returns
  have hts := atoms_spec (ws := wsX6_count) B.pre
  have hown : s.vm.findClass RX6 = some m.cls := findClass_of_methodNamed B.named
  have hlocks := B.notSynchronized
  subst hsz
  have hD := hD0.self (sz := s.heap.size)
  generalize hAe : va_A [(a_this, .inr (5, [.int v_thrown, .ref a_this_s, .ref a_this_aside, .ref a_this_saved, .int v_savedMany, .ref a_this_text, .int v_length, .ref a_this_states, .int v_many, .int v_at, .int v_isWrong, .int v_letters, .int v_matched, .ref a_this_rows, .int v_manyRows, .long v_digested])), (a_this_states, .inl (cI, 66, .inl v_states)), (a_this_s, .inl (cI, 31, .inl v_s))] s.heap.size = A at hD ⊢
  have hA : ∀ q : Nat, s.heap.size ≤ q → A q := fun q h => by rw [← hAe]; exact Or.inr h
  have hS : va_S A s.heap s.heap [] := va_S.rf
  have hl := lv_entry ([.ref a_this, .int p1]) (n := 2) (Nat.le_of_ble_eq_true rfl)
  rw [lg_entry_eq]
  generalize (lg_sl ([.ref a_this, .int p1]) ++ List.replicate (2 - (lg_sl ([.ref a_this, .int p1])).length) Slot.unset).toArray = ls at hl ⊢
  have hl : lv_has ls 2 [(0, .ref a_this), (1, .int p1)] := hl
  change W p l e rm_X6_count s m (([.ref a_this, .int p1] : List Value).toArray) below meth c s.heap [] 0 0 _ (F0 m 0 ls [])
  generalize hQe : MQ below (mQi D A [(a_this, .inr (5, [.int w_thrown, .ref a_this_s, .ref a_this_aside, .ref a_this_saved, .int v_savedMany, .ref a_this_text, .int v_length, .ref a_this_states, .int w_many, .int v_at, .int v_isWrong, .int v_letters, .int v_matched, .ref a_this_rows, .int v_manyRows, .long v_digested])), (a_this_states, .inl (cI, 66, .inl w_states)), (a_this_s, .inl (cI, 31, .inl v_s))] r0) (([.ref a_this, .int p1] : List Value).toArray) s 0 0 A = Q
  rw [D_X6_count] at hden
  refine lv_aload_n hx hb dX6_count_0 rfl (lv_at hl 0 rfl) ?_
  obtain ⟨⟨v_states_1, v_many_2⟩, hc_3, hden⟩ := bnd_s hden
  refine m_cv (wc := [(a_this, .inr (5, [.int v_thrown, .ref a_this_s, .ref a_this_aside, .ref a_this_saved, .int v_savedMany, .ref a_this_text, .int v_length, .ref a_this_states, .int v_many, .int v_at, .int v_isWrong, .int v_letters, .int v_matched, .ref a_this_rows, .int v_manyRows, .long v_digested])), (a_this_states, .inl (cI, 66, .inl v_states)), (a_this_s, .inl (cI, 31, .inl v_s))]) (wr := []) (wc' := [(a_this, .inr (5, [.int v_thrown, .ref a_this_s, .ref a_this_aside, .ref a_this_saved, .int v_savedMany, .ref a_this_text, .int v_length, .ref a_this_states, .int v_many_2, .int v_at, .int v_isWrong, .int v_letters, .int v_matched, .ref a_this_rows, .int v_manyRows, .long v_digested])), (a_this_states, .inl (cI, 66, .inl v_states_1)), (a_this_s, .inl (cI, 31, .inl v_s))]) (va_runV (As := []) (rest := []) ⟨hx, hb, hml, hown, hts⟩ (c_X6_list l D cI cM cL F hc_3) (cwV 0 hts gX6_count_X6_list rfl rfl rfl (by decide +kernel) ⟨Nat.le_of_ble_eq_true rfl, Nat.le_of_ble_eq_true rfl⟩) (mPreV (ci := 5) (q0 := 0) (r := (RX6, TX6, 16)) hP hD hK hN [0, 1, 2] (by decide) rfl rfl rfl) rfl rfl hl.1 rfl (lv_room (Nat.le_of_ble_eq_true rfl)) dX6_count_1 ⟨Nat.le_of_ble_eq_true rfl, Nat.le_of_ble_eq_true rfl⟩) hP hD hS hA [0, 1, 2] [] rfl rfl (by decide) (by decide) (fun H locs hP hD hS => ?_)
  have hP : va_P D vwCl [(a_this, .inr (5, [.int v_thrown, .ref a_this_s, .ref a_this_aside, .ref a_this_saved, .int v_savedMany, .ref a_this_text, .int v_length, .ref a_this_states, .int v_many_2, .int v_at, .int v_isWrong, .int v_letters, .int v_matched, .ref a_this_rows, .int v_manyRows, .long v_digested])), (a_this_states, .inl (cI, 66, .inl v_states_1)), (a_this_s, .inl (cI, 31, .inl v_s))] H := hP
  have hD : va_D A [(a_this, .inr (5, [.int v_thrown, .ref a_this_s, .ref a_this_aside, .ref a_this_saved, .int v_savedMany, .ref a_this_text, .int v_length, .ref a_this_states, .int v_many_2, .int v_at, .int v_isWrong, .int v_letters, .int v_matched, .ref a_this_rows, .int v_manyRows, .long v_digested])), (a_this_states, .inl (cI, 66, .inl v_states_1)), (a_this_s, .inl (cI, 31, .inl v_s))] := hD
  refine lv_aload_n hx hb dX6_count_4 rfl (lv_at hl 0 rfl) ?_
  refine lv_iload_n hx hb dX6_count_5 rfl (lv_at hl 1 rfl) ?_
  refine lv_iconst (v := 0) hx hb dX6_count_6 (by decide) ?_
  refine lv_bipush (v := 9) hx hb dX6_count_7 (by decide) ?_
  obtain ⟨r_4, hc_5, hden⟩ := bnd_s hden
  refine m_ci (wc := []) (wr := [(a_this, .inr (5, [.int v_thrown, .ref a_this_s, .ref a_this_aside, .ref a_this_saved, .int v_savedMany, .ref a_this_text, .int v_length, .ref a_this_states, .int v_many_2, .int v_at, .int v_isWrong, .int v_letters, .int v_matched, .ref a_this_rows, .int v_manyRows, .long v_digested])), (a_this_states, .inl (cI, 66, .inl v_states_1)), (a_this_s, .inl (cI, 31, .inl v_s))]) (wc' := []) (va_runS (As := [.int p1, .int 0, .int 9]) (rest := [.ref a_this]) ⟨hx, hb, hml, hown, hts⟩ (c_X6_in l D cI cM cL F hc_5) (va_cwS 3 hts gX6_count_X6_in rfl rfl rfl (by decide +kernel) ⟨Nat.le_of_ble_eq_true rfl, Nat.le_of_ble_eq_true rfl⟩) (mPreS hP hD hK hN [] (by decide) rfl) rfl rfl hl.1 rfl (lv_room (Nat.le_of_ble_eq_true rfl)) dX6_count_9 ⟨Nat.le_of_ble_eq_true rfl, Nat.le_of_ble_eq_true rfl⟩) hP hD hS hA [] [0, 1, 2] rfl rfl (by decide) (by decide) (fun H locs hP hD hS => ?_)
  have hP : va_P D vwCl [(a_this, .inr (5, [.int v_thrown, .ref a_this_s, .ref a_this_aside, .ref a_this_saved, .int v_savedMany, .ref a_this_text, .int v_length, .ref a_this_states, .int v_many_2, .int v_at, .int v_isWrong, .int v_letters, .int v_matched, .ref a_this_rows, .int v_manyRows, .long v_digested])), (a_this_states, .inl (cI, 66, .inl v_states_1)), (a_this_s, .inl (cI, 31, .inl v_s))] H := hP
  have hD : va_D A [(a_this, .inr (5, [.int v_thrown, .ref a_this_s, .ref a_this_aside, .ref a_this_saved, .int v_savedMany, .ref a_this_text, .int v_length, .ref a_this_states, .int v_many_2, .int v_at, .int v_isWrong, .int v_letters, .int v_matched, .ref a_this_rows, .int v_manyRows, .long v_digested])), (a_this_states, .inl (cI, 66, .inl v_states_1)), (a_this_s, .inl (cI, 31, .inl v_s))] := hD
  obtain ⟨j20, ej20, hden⟩ := jp_s hden
  have hj20 : ∀ (t_6 : Int32) (H : Heap) (locs : List Loc), va_P D vwCl [(a_this, .inr (5, [.int v_thrown, .ref a_this_s, .ref a_this_aside, .ref a_this_saved, .int v_savedMany, .ref a_this_text, .int v_length, .ref a_this_states, .int v_many_2, .int v_at, .int v_isWrong, .int v_letters, .int v_matched, .ref a_this_rows, .int v_manyRows, .long v_digested])), (a_this_states, .inl (cI, 66, .inl v_states_1)), (a_this_s, .inl (cI, 31, .inl v_s))] H → va_D A [(a_this, .inr (5, [.int v_thrown, .ref a_this_s, .ref a_this_aside, .ref a_this_saved, .int v_savedMany, .ref a_this_text, .int v_length, .ref a_this_states, .int v_many_2, .int v_at, .int v_isWrong, .int v_letters, .int v_matched, .ref a_this_rows, .int v_manyRows, .long v_digested])), (a_this_states, .inl (cI, 66, .inl v_states_1)), (a_this_s, .inl (cI, 31, .inl v_s))] → va_S A s.heap H locs → ∀ ls : Array Slot, lv_has ls 2 [(0, .ref a_this), (1, .int p1)] → j20 t_6 = some (r0, w_states, w_many, w_thrown) → W p l e rm_X6_count s m (([.ref a_this, .int p1] : List Value).toArray) below meth c H locs 0 0 Q (F0 m 20 ls [.int t_6, .ref a_this]) := by
    intro t_6 H locs hP hD hS ls hl hden
    rw [ej20] at hden
    obtain ⟨⟨r_7, v_thrown_8⟩, hc_9, hden⟩ := bnd_s hden
    refine m_ci (wc := [(a_this, .inr (5, [.int v_thrown, .ref a_this_s, .ref a_this_aside, .ref a_this_saved, .int v_savedMany, .ref a_this_text, .int v_length, .ref a_this_states, .int v_many_2, .int v_at, .int v_isWrong, .int v_letters, .int v_matched, .ref a_this_rows, .int v_manyRows, .long v_digested]))]) (wr := [(a_this_states, .inl (cI, 66, .inl v_states_1)), (a_this_s, .inl (cI, 31, .inl v_s))]) (wc' := [(a_this, .inr (5, [.int v_thrown_8, .ref a_this_s, .ref a_this_aside, .ref a_this_saved, .int v_savedMany, .ref a_this_text, .int v_length, .ref a_this_states, .int v_many_2, .int v_at, .int v_isWrong, .int v_letters, .int v_matched, .ref a_this_rows, .int v_manyRows, .long v_digested]))]) (va_runV (As := [.int t_6]) (rest := []) ⟨hx, hb, hml, hown, hts⟩ (c_X6_holds l D cI cM cL F hc_9) (cwV 1 hts gX6_count_X6_holds rfl rfl rfl (by decide +kernel) ⟨Nat.le_of_ble_eq_true rfl, Nat.le_of_ble_eq_true rfl⟩) (mPreV (ci := 5) (q0 := 0) (r := (RX6, TX6, 16)) hP hD hK hN [0] (by decide) rfl rfl rfl) rfl rfl hl.1 rfl (lv_room (Nat.le_of_ble_eq_true rfl)) dX6_count_20 ⟨Nat.le_of_ble_eq_true rfl, Nat.le_of_ble_eq_true rfl⟩) hP hD hS hA [0] [1, 2] rfl rfl (by decide) (by decide) (fun H locs hP hD hS => ?_)
    have hP : va_P D vwCl [(a_this_states, .inl (cI, 66, .inl v_states_1)), (a_this_s, .inl (cI, 31, .inl v_s)), (a_this, .inr (5, [.int v_thrown_8, .ref a_this_s, .ref a_this_aside, .ref a_this_saved, .int v_savedMany, .ref a_this_text, .int v_length, .ref a_this_states, .int v_many_2, .int v_at, .int v_isWrong, .int v_letters, .int v_matched, .ref a_this_rows, .int v_manyRows, .long v_digested]))] H := hP
    have hD : va_D A [(a_this_states, .inl (cI, 66, .inl v_states_1)), (a_this_s, .inl (cI, 31, .inl v_s)), (a_this, .inr (5, [.int v_thrown_8, .ref a_this_s, .ref a_this_aside, .ref a_this_saved, .int v_savedMany, .ref a_this_text, .int v_length, .ref a_this_states, .int v_many_2, .int v_at, .int v_isWrong, .int v_letters, .int v_matched, .ref a_this_rows, .int v_manyRows, .long v_digested]))] := hD
    refine lv_if_eq (tgt := 34) hx hb dX6_count_23 (by decide) (fun c_12 => ?_) (fun c_12 => ?_)
    · have hden := if_s hden c_12
      refine lv_iconst (v := 0) hx hb dX6_count_34 (by decide) ?_
      subst hQe
      cases hden
      exact m_ri hx hb hr hP hD hS [2, 0, 1] (by decide) rfl rfl dX6_count_35 hlocks
    · have hden := ifn_s hden c_12
      refine lv_aload_n hx hb dX6_count_26 rfl (lv_at hl 0 rfl) ?_
      refine lv_iload_n hx hb dX6_count_27 rfl (lv_at hl 1 rfl) ?_
      obtain ⟨r_10, hc_11, hden⟩ := bnd_s hden
      refine m_ci (wc := [(a_this, .inr (5, [.int v_thrown_8, .ref a_this_s, .ref a_this_aside, .ref a_this_saved, .int v_savedMany, .ref a_this_text, .int v_length, .ref a_this_states, .int v_many_2, .int v_at, .int v_isWrong, .int v_letters, .int v_matched, .ref a_this_rows, .int v_manyRows, .long v_digested])), (a_this_s, .inl (cI, 31, .inl v_s)), (a_this_states, .inl (cI, 66, .inl v_states_1))]) (wr := []) (wc' := [(a_this, .inr (5, [.int v_thrown_8, .ref a_this_s, .ref a_this_aside, .ref a_this_saved, .int v_savedMany, .ref a_this_text, .int v_length, .ref a_this_states, .int v_many_2, .int v_at, .int v_isWrong, .int v_letters, .int v_matched, .ref a_this_rows, .int v_manyRows, .long v_digested])), (a_this_s, .inl (cI, 31, .inl v_s)), (a_this_states, .inl (cI, 66, .inl v_states_1))]) (va_runV (As := [.int p1]) (rest := []) ⟨hx, hb, hml, hown, hts⟩ (c_X6_counted l D cI cM cL F hc_11) (cwV 1 hts gX6_count_X6_counted rfl rfl rfl (by decide +kernel) ⟨Nat.le_of_ble_eq_true rfl, Nat.le_of_ble_eq_true rfl⟩) (mPreV (ci := 5) (q0 := 0) (r := (RX6, TX6, 16)) hP hD hK hN [2, 1, 0] (by decide) rfl rfl rfl) rfl rfl hl.1 rfl (lv_room (Nat.le_of_ble_eq_true rfl)) dX6_count_28 ⟨Nat.le_of_ble_eq_true rfl, Nat.le_of_ble_eq_true rfl⟩) hP hD hS hA [2, 1, 0] [] rfl rfl (by decide) (by decide) (fun H locs hP hD hS => ?_)
      have hP : va_P D vwCl [(a_this, .inr (5, [.int v_thrown_8, .ref a_this_s, .ref a_this_aside, .ref a_this_saved, .int v_savedMany, .ref a_this_text, .int v_length, .ref a_this_states, .int v_many_2, .int v_at, .int v_isWrong, .int v_letters, .int v_matched, .ref a_this_rows, .int v_manyRows, .long v_digested])), (a_this_s, .inl (cI, 31, .inl v_s)), (a_this_states, .inl (cI, 66, .inl v_states_1))] H := hP
      have hD : va_D A [(a_this, .inr (5, [.int v_thrown_8, .ref a_this_s, .ref a_this_aside, .ref a_this_saved, .int v_savedMany, .ref a_this_text, .int v_length, .ref a_this_states, .int v_many_2, .int v_at, .int v_isWrong, .int v_letters, .int v_matched, .ref a_this_rows, .int v_manyRows, .long v_digested])), (a_this_s, .inl (cI, 31, .inl v_s)), (a_this_states, .inl (cI, 66, .inl v_states_1))] := hD
      refine lv_goto (tgt := 35) hx hb dX6_count_31 (by decide) ?_
      subst hQe
      cases hden
      exact m_ri hx hb hr hP hD hS [0, 2, 1] (by decide) rfl rfl dX6_count_35 hlocks
  clear ej20
  refine lv_if_eq (tgt := 19) hx hb dX6_count_12 (by decide) (fun c_13 => ?_) (fun c_13 => ?_)
  · have hden := if_s hden c_13
    refine lv_iconst (v := 1) hx hb dX6_count_19 (by decide) ?_
    exact hj20 1 _ _ (mSubP hP [0, 1, 2] rfl) (hD.sub [0, 1, 2] (by decide) rfl) hS ls (lv_sub hl [0, 1] rfl) hden
  · have hden := ifn_s hden c_13
    refine lv_iconst (v := 0) hx hb dX6_count_15 (by decide) ?_
    refine lv_goto (tgt := 20) hx hb dX6_count_16 (by decide) ?_
    exact hj20 0 _ _ (mSubP hP [0, 1, 2] rfl) (hD.sub [0, 1, 2] (by decide) rfl) hS ls (lv_sub hl [0, 1] rfl) hden
def D_X6_setting (F : Nat) (v_thrown : Int32) (v_s : (Nat → Int32)) : Option (Int32 × Int32) := grd (inb 24 31) (some ((v_s (24 : Int32).toNatClampNeg), 0))
def rm_X6_setting : Room := { frames := 0, cells := 0, slots := 0, locals := 0 }
set_option maxHeartbeats 4000000 in
set_option maxRecDepth 100000 in
theorem c_X6_setting (l : Launch) (D : va_G) (cI cM cL : ClassId) (F : Nat) {a_this a_this_s a_this_aside a_this_saved a_this_text a_this_states a_this_rows : Nat} {sz : Nat} {v_thrown v_savedMany v_length v_many v_at v_isWrong v_letters v_matched v_manyRows : Int32} {v_digested : Int64} {v_s : Nat → Int32} {r0 : Int32} {w_thrown : Int32} (hden : D_X6_setting F v_thrown v_s = some (r0, w_thrown)) : Met l yX6_setting wsX6_setting rm_X6_setting (va_Pc [.ref a_this] (mB D (mTy cI cM cL) sz [(a_this, .inr (5, [.int v_thrown, .ref a_this_s, .ref a_this_aside, .ref a_this_saved, .int v_savedMany, .ref a_this_text, .int v_length, .ref a_this_states, .int v_many, .int v_at, .int v_isWrong, .int v_letters, .int v_matched, .ref a_this_rows, .int v_manyRows, .long v_digested])), (a_this_s, .inl (cI, 31, .inl v_s))])) (mQi D (va_A [(a_this, .inr (5, [.int v_thrown, .ref a_this_s, .ref a_this_aside, .ref a_this_saved, .int v_savedMany, .ref a_this_text, .int v_length, .ref a_this_states, .int v_many, .int v_at, .int v_isWrong, .int v_letters, .int v_matched, .ref a_this_rows, .int v_manyRows, .long v_digested])), (a_this_s, .inl (cI, 31, .inl v_s))] sz) [(a_this, .inr (5, [.int w_thrown, .ref a_this_s, .ref a_this_aside, .ref a_this_saved, .int v_savedMany, .ref a_this_text, .int v_length, .ref a_this_states, .int v_many, .int v_at, .int v_isWrong, .int v_letters, .int v_matched, .ref a_this_rows, .int v_manyRows, .long v_digested])), (a_this_s, .inl (cI, 31, .inl v_s))] r0) 0 0 (va_A [(a_this, .inr (5, [.int v_thrown, .ref a_this_s, .ref a_this_aside, .ref a_this_saved, .int v_savedMany, .ref a_this_text, .int v_length, .ref a_this_states, .int v_many, .int v_at, .int v_isWrong, .int v_letters, .int v_matched, .ref a_this_rows, .int v_manyRows, .long v_digested])), (a_this_s, .inl (cI, 31, .inl v_s))] sz) := by
  refine Met.ofW (cc := cX6_setting) (maxL := 1) (ret := (some .int)) (by decide) rfl ?_
  intro p e s m args below meth c s₁ B hml hv
  obtain ⟨rfl, hsz, hP, hK, hN, hD0⟩ := hv
  have hx := B.exec
  have hb := B.bytes
  have hr := B.returns
  have hts := atoms_spec (ws := wsX6_setting) B.pre
  have hown : s.vm.findClass RX6 = some m.cls := findClass_of_methodNamed B.named
  have hlocks := B.notSynchronized
  subst hsz
  have hD := hD0.self (sz := s.heap.size)
  generalize hAe : va_A [(a_this, .inr (5, [.int v_thrown, .ref a_this_s, .ref a_this_aside, .ref a_this_saved, .int v_savedMany, .ref a_this_text, .int v_length, .ref a_this_states, .int v_many, .int v_at, .int v_isWrong, .int v_letters, .int v_matched, .ref a_this_rows, .int v_manyRows, .long v_digested])), (a_this_s, .inl (cI, 31, .inl v_s))] s.heap.size = A at hD ⊢
  have hA : ∀ q : Nat, s.heap.size ≤ q → A q := fun q h => by rw [← hAe]; exact Or.inr h
  have hS : va_S A s.heap s.heap [] := va_S.rf
  have hl := lv_entry ([.ref a_this]) (n := 1) (Nat.le_of_ble_eq_true rfl)
  rw [lg_entry_eq]
  generalize (lg_sl ([.ref a_this]) ++ List.replicate (1 - (lg_sl ([.ref a_this])).length) Slot.unset).toArray = ls at hl ⊢
  have hl : lv_has ls 1 [(0, .ref a_this)] := hl
  change W p l e rm_X6_setting s m (([.ref a_this] : List Value).toArray) below meth c s.heap [] 0 0 _ (F0 m 0 ls [])
  generalize hQe : MQ below (mQi D A [(a_this, .inr (5, [.int w_thrown, .ref a_this_s, .ref a_this_aside, .ref a_this_saved, .int v_savedMany, .ref a_this_text, .int v_length, .ref a_this_states, .int v_many, .int v_at, .int v_isWrong, .int v_letters, .int v_matched, .ref a_this_rows, .int v_manyRows, .long v_digested])), (a_this_s, .inl (cI, 31, .inl v_s))] r0) (([.ref a_this] : List Value).toArray) s 0 0 A = Q
  rw [D_X6_setting] at hden
  have hin_X6 : ∀ w ∈ wsX60, w ∈ wsX6_setting := by decide +kernel
  have w_31 := hts (.fieldLink RX6 31 "FallingPatternsModel" "thrown" "I") (by decide +kernel)
  have w_7 := hts (.fieldLink RX6 7 "FallingPatternsModel" "s" "[I") (by decide +kernel)
  refine lv_aload_n hx hb dX6_setting_0 rfl (lv_at hl 0 rfl) ?_
  refine lv_iconst (v := 0) hx hb dX6_setting_1 (by decide) ?_
  refine va_put (D := D) (ci := 5) (v := .int 0) (ty := .int) (C := RX6) (T := TX6) (N := 16) hx hb hts hin_X6 tyX6 tyX6_ok nmX6 hown hK hP hD hS 0 rfl rfl 0 (by decide) w_31 (fun _ h9 => h9) rfl (by decide +kernel) rfl rfl (Nat.le_of_ble_eq_true rfl) dX6_setting_2 (fun H locs hP hD hS => ?_)
  have hP : va_P D vwCl [(a_this, .inr (5, [.int 0, .ref a_this_s, .ref a_this_aside, .ref a_this_saved, .int v_savedMany, .ref a_this_text, .int v_length, .ref a_this_states, .int v_many, .int v_at, .int v_isWrong, .int v_letters, .int v_matched, .ref a_this_rows, .int v_manyRows, .long v_digested])), (a_this_s, .inl (cI, 31, .inl v_s))] H := hP
  have hD : va_D A [(a_this, .inr (5, [.int 0, .ref a_this_s, .ref a_this_aside, .ref a_this_saved, .int v_savedMany, .ref a_this_text, .int v_length, .ref a_this_states, .int v_many, .int v_at, .int v_isWrong, .int v_letters, .int v_matched, .ref a_this_rows, .int v_manyRows, .long v_digested])), (a_this_s, .inl (cI, 31, .inl v_s))] := hD
  refine lv_aload_n hx hb dX6_setting_5 rfl (lv_at hl 0 rfl) ?_
  refine va_get (D := D) (ci := 5) (v := .ref a_this_s) (C := RX6) (T := TX6) (N := 16) hx hb hts hin_X6 hown hK hP 0 rfl rfl 1 (by decide) w_7 (fun _ h9 => h9) rfl dX6_setting_6 ?_
  refine lv_bipush (v := 24) hx hb dX6_setting_9 (by decide) ?_
  obtain ⟨hg_1, hden⟩ := grd_s hden
  refine va_iald hx hb hK hP 1 0 rfl rfl (inb_in hg_1) dX6_setting_11 ?_
  subst hQe
  cases hden
  exact m_ri hx hb hr hP hD hS [0, 1] (by decide) rfl rfl dX6_setting_12 hlocks
def L_X6_fed_39 (F : Nat) (k70 : Int32 → Option (Int32)) (y1 : Int32) (y2 : Int32) (y3 : Int32) (y4 : Int32) (y5 : Int32) : Nat → Int32 → Int32 → Option (Int32)
  | 0, _, _ => none
  | n + 1, x6_10, x7_11 => (if x7_11 < 0 then k70 x6_10 else (if ((y5 >>> (x7_11 &&& 31)) &&& 1) = 1 then nm (x7_11 + (-1)) (fun x7_13 => L_X6_fed_39 F k70 y1 y2 y3 y4 y5 n x7_11 x7_13) else nm (x7_11 + (-1)) (fun x7_12 => L_X6_fed_39 F k70 y1 y2 y3 y4 y5 n x6_10 x7_12)))
def D_X6_fed (F : Nat) (p1 : Int32) (p2 : Int32) (v_s : (Nat → Int32)) (v_states : (Nat → Int32)) : Option (Int32) := bnd (D_X6_state F v_s) (fun r_1 => bnd (D_X6_behind F r_1 p1 v_s) (fun r_3 => bnd (D_X6_ending F r_3 v_s) (fun r_5 => grd (inb 25 31) (bnd (D_X6_counting F r_5 (v_s (25 : Int32).toNatClampNeg) v_s) (fun r_8 => L_X6_fed_39 F (fun (x6_18 : Int32) => (if p2 = 0 then bnd (D_X6_numberOf F r_3 v_states) (fun r_30 => some (r_30)) else (if p2 = 1 then bnd (D_X6_fallsOf F r_1 p1 v_s) (fun r_27 => some (r_27)) else (if p2 = 2 then bnd (D_X6_bitsOf F r_8) (fun r_24 => some (r_24)) else some (x6_18))))) p1 p2 r_1 r_3 r_8 F (-1) 7)))))
def rm_X6_fed : Room := { frames := 8, cells := 0, slots := 0, locals := 175 }
set_option maxHeartbeats 4000000 in
set_option maxRecDepth 100000 in
theorem c_X6_fed (l : Launch) (D : va_G) (cI cM cL : ClassId) (F : Nat) {a_this a_this_s a_this_aside a_this_saved a_this_text a_this_states a_this_rows : Nat} {sz : Nat} {v_thrown v_savedMany v_length v_many v_at v_isWrong v_letters v_matched v_manyRows : Int32} {v_digested : Int64} {v_s v_states : Nat → Int32} {p1 : Int32} {p2 : Int32} {r0 : Int32} (hden : D_X6_fed F p1 p2 v_s v_states = some (r0)) : Met l yX6_fed wsX6_fed rm_X6_fed (va_Pc [.ref a_this, .int p1, .int p2] (mB D (mTy cI cM cL) sz [(a_this, .inr (5, [.int v_thrown, .ref a_this_s, .ref a_this_aside, .ref a_this_saved, .int v_savedMany, .ref a_this_text, .int v_length, .ref a_this_states, .int v_many, .int v_at, .int v_isWrong, .int v_letters, .int v_matched, .ref a_this_rows, .int v_manyRows, .long v_digested])), (a_this_s, .inl (cI, 31, .inl v_s)), (a_this_states, .inl (cI, 66, .inl v_states))])) (mQi D (va_A [(a_this, .inr (5, [.int v_thrown, .ref a_this_s, .ref a_this_aside, .ref a_this_saved, .int v_savedMany, .ref a_this_text, .int v_length, .ref a_this_states, .int v_many, .int v_at, .int v_isWrong, .int v_letters, .int v_matched, .ref a_this_rows, .int v_manyRows, .long v_digested])), (a_this_s, .inl (cI, 31, .inl v_s)), (a_this_states, .inl (cI, 66, .inl v_states))] sz) [(a_this, .inr (5, [.int v_thrown, .ref a_this_s, .ref a_this_aside, .ref a_this_saved, .int v_savedMany, .ref a_this_text, .int v_length, .ref a_this_states, .int v_many, .int v_at, .int v_isWrong, .int v_letters, .int v_matched, .ref a_this_rows, .int v_manyRows, .long v_digested])), (a_this_s, .inl (cI, 31, .inl v_s)), (a_this_states, .inl (cI, 66, .inl v_states))] r0) 0 0 (va_A [(a_this, .inr (5, [.int v_thrown, .ref a_this_s, .ref a_this_aside, .ref a_this_saved, .int v_savedMany, .ref a_this_text, .int v_length, .ref a_this_states, .int v_many, .int v_at, .int v_isWrong, .int v_letters, .int v_matched, .ref a_this_rows, .int v_manyRows, .long v_digested])), (a_this_s, .inl (cI, 31, .inl v_s)), (a_this_states, .inl (cI, 66, .inl v_states))] sz) := by
  refine Met.ofW (cc := cX6_fed) (maxL := 8) (ret := (some .int)) (by decide) rfl ?_
  intro p e s m args below meth c s₁ B hml hv
  obtain ⟨rfl, hsz, hP, hK, hN, hD0⟩ := hv
  have hx := B.exec
  have hb := B.bytes
  have hr := B.returns
  have hts := atoms_spec (ws := wsX6_fed) B.pre
  have hown : s.vm.findClass RX6 = some m.cls := findClass_of_methodNamed B.named
  have hlocks := B.notSynchronized
  subst hsz
  have hD := hD0.self (sz := s.heap.size)
  generalize hAe : va_A [(a_this, .inr (5, [.int v_thrown, .ref a_this_s, .ref a_this_aside, .ref a_this_saved, .int v_savedMany, .ref a_this_text, .int v_length, .ref a_this_states, .int v_many, .int v_at, .int v_isWrong, .int v_letters, .int v_matched, .ref a_this_rows, .int v_manyRows, .long v_digested])), (a_this_s, .inl (cI, 31, .inl v_s)), (a_this_states, .inl (cI, 66, .inl v_states))] s.heap.size = A at hD ⊢
  have hA : ∀ q : Nat, s.heap.size ≤ q → A q := fun q h => by rw [← hAe]; exact Or.inr h
  have hS : va_S A s.heap s.heap [] := va_S.rf
  have hl := lv_entry ([.ref a_this, .int p1, .int p2]) (n := 8) (Nat.le_of_ble_eq_true rfl)
  rw [lg_entry_eq]
  generalize (lg_sl ([.ref a_this, .int p1, .int p2]) ++ List.replicate (8 - (lg_sl ([.ref a_this, .int p1, .int p2])).length) Slot.unset).toArray = ls at hl ⊢
  have hl : lv_has ls 8 [(0, .ref a_this), (1, .int p1), (2, .int p2)] := hl
  change W p l e rm_X6_fed s m (([.ref a_this, .int p1, .int p2] : List Value).toArray) below meth c s.heap [] 0 0 _ (F0 m 0 ls [])
  generalize hQe : MQ below (mQi D A [(a_this, .inr (5, [.int v_thrown, .ref a_this_s, .ref a_this_aside, .ref a_this_saved, .int v_savedMany, .ref a_this_text, .int v_length, .ref a_this_states, .int v_many, .int v_at, .int v_isWrong, .int v_letters, .int v_matched, .ref a_this_rows, .int v_manyRows, .long v_digested])), (a_this_s, .inl (cI, 31, .inl v_s)), (a_this_states, .inl (cI, 66, .inl v_states))] r0) (([.ref a_this, .int p1, .int p2] : List Value).toArray) s 0 0 A = Q
  rw [D_X6_fed] at hden
  have hin_X6 : ∀ w ∈ wsX60, w ∈ wsX6_fed := by decide +kernel
  have w_7 := hts (.fieldLink RX6 7 "FallingPatternsModel" "s" "[I") (by decide +kernel)
  refine lv_aload_n hx hb dX6_fed_0 rfl (lv_at hl 0 rfl) ?_
  obtain ⟨r_1, hc_2, hden⟩ := bnd_s hden
  refine m_ci (wc := [(a_this, .inr (5, [.int v_thrown, .ref a_this_s, .ref a_this_aside, .ref a_this_saved, .int v_savedMany, .ref a_this_text, .int v_length, .ref a_this_states, .int v_many, .int v_at, .int v_isWrong, .int v_letters, .int v_matched, .ref a_this_rows, .int v_manyRows, .long v_digested])), (a_this_s, .inl (cI, 31, .inl v_s))]) (wr := [(a_this_states, .inl (cI, 66, .inl v_states))]) (wc' := [(a_this, .inr (5, [.int v_thrown, .ref a_this_s, .ref a_this_aside, .ref a_this_saved, .int v_savedMany, .ref a_this_text, .int v_length, .ref a_this_states, .int v_many, .int v_at, .int v_isWrong, .int v_letters, .int v_matched, .ref a_this_rows, .int v_manyRows, .long v_digested])), (a_this_s, .inl (cI, 31, .inl v_s))]) (va_runV (As := []) (rest := []) ⟨hx, hb, hml, hown, hts⟩ (c_X6_state l D cI cM cL F hc_2) (cwV 0 hts gX6_fed_X6_state rfl rfl rfl (by decide +kernel) ⟨Nat.le_of_ble_eq_true rfl, Nat.le_of_ble_eq_true rfl⟩) (mPreV (ci := 5) (q0 := 0) (r := (RX6, TX6, 16)) hP hD hK hN [0, 1] (by decide) rfl rfl rfl) rfl rfl hl.1 rfl (lv_room (Nat.le_of_ble_eq_true rfl)) dX6_fed_1 ⟨Nat.le_of_ble_eq_true rfl, Nat.le_of_ble_eq_true rfl⟩) hP hD hS hA [0, 1] [2] rfl rfl (by decide) (by decide) (fun H locs hP hD hS => ?_)
  have hP : va_P D vwCl [(a_this_states, .inl (cI, 66, .inl v_states)), (a_this, .inr (5, [.int v_thrown, .ref a_this_s, .ref a_this_aside, .ref a_this_saved, .int v_savedMany, .ref a_this_text, .int v_length, .ref a_this_states, .int v_many, .int v_at, .int v_isWrong, .int v_letters, .int v_matched, .ref a_this_rows, .int v_manyRows, .long v_digested])), (a_this_s, .inl (cI, 31, .inl v_s))] H := hP
  have hD : va_D A [(a_this_states, .inl (cI, 66, .inl v_states)), (a_this, .inr (5, [.int v_thrown, .ref a_this_s, .ref a_this_aside, .ref a_this_saved, .int v_savedMany, .ref a_this_text, .int v_length, .ref a_this_states, .int v_many, .int v_at, .int v_isWrong, .int v_letters, .int v_matched, .ref a_this_rows, .int v_manyRows, .long v_digested])), (a_this_s, .inl (cI, 31, .inl v_s))] := hD
  refine lv_istore_n (lv' := [(3, .int r_1), (0, .ref a_this), (1, .int p1), (2, .int p2)]) hx hb dX6_fed_4 rfl hl (by decide) rfl (fun ls hl => ?_)
  refine lv_aload_n hx hb dX6_fed_5 rfl (lv_at hl 1 rfl) ?_
  refine lv_iload_n hx hb dX6_fed_6 rfl (lv_at hl 0 rfl) ?_
  refine lv_iload_n hx hb dX6_fed_7 rfl (lv_at hl 2 rfl) ?_
  obtain ⟨r_3, hc_4, hden⟩ := bnd_s hden
  refine m_ci (wc := [(a_this, .inr (5, [.int v_thrown, .ref a_this_s, .ref a_this_aside, .ref a_this_saved, .int v_savedMany, .ref a_this_text, .int v_length, .ref a_this_states, .int v_many, .int v_at, .int v_isWrong, .int v_letters, .int v_matched, .ref a_this_rows, .int v_manyRows, .long v_digested])), (a_this_s, .inl (cI, 31, .inl v_s))]) (wr := [(a_this_states, .inl (cI, 66, .inl v_states))]) (wc' := [(a_this, .inr (5, [.int v_thrown, .ref a_this_s, .ref a_this_aside, .ref a_this_saved, .int v_savedMany, .ref a_this_text, .int v_length, .ref a_this_states, .int v_many, .int v_at, .int v_isWrong, .int v_letters, .int v_matched, .ref a_this_rows, .int v_manyRows, .long v_digested])), (a_this_s, .inl (cI, 31, .inl v_s))]) (va_runV (As := [.int r_1, .int p1]) (rest := []) ⟨hx, hb, hml, hown, hts⟩ (c_X6_behind l D cI cM cL F hc_4) (cwV 2 hts gX6_fed_X6_behind rfl rfl rfl (by decide +kernel) ⟨Nat.le_of_ble_eq_true rfl, Nat.le_of_ble_eq_true rfl⟩) (mPreV (ci := 5) (q0 := 0) (r := (RX6, TX6, 16)) hP hD hK hN [1, 2] (by decide) rfl rfl rfl) rfl rfl hl.1 rfl (lv_room (Nat.le_of_ble_eq_true rfl)) dX6_fed_8 ⟨Nat.le_of_ble_eq_true rfl, Nat.le_of_ble_eq_true rfl⟩) hP hD hS hA [1, 2] [0] rfl rfl (by decide) (by decide) (fun H locs hP hD hS => ?_)
  have hP : va_P D vwCl [(a_this_states, .inl (cI, 66, .inl v_states)), (a_this, .inr (5, [.int v_thrown, .ref a_this_s, .ref a_this_aside, .ref a_this_saved, .int v_savedMany, .ref a_this_text, .int v_length, .ref a_this_states, .int v_many, .int v_at, .int v_isWrong, .int v_letters, .int v_matched, .ref a_this_rows, .int v_manyRows, .long v_digested])), (a_this_s, .inl (cI, 31, .inl v_s))] H := hP
  have hD : va_D A [(a_this_states, .inl (cI, 66, .inl v_states)), (a_this, .inr (5, [.int v_thrown, .ref a_this_s, .ref a_this_aside, .ref a_this_saved, .int v_savedMany, .ref a_this_text, .int v_length, .ref a_this_states, .int v_many, .int v_at, .int v_isWrong, .int v_letters, .int v_matched, .ref a_this_rows, .int v_manyRows, .long v_digested])), (a_this_s, .inl (cI, 31, .inl v_s))] := hD
  refine lv_istore (lv' := [(4, .int r_3), (3, .int r_1), (0, .ref a_this), (1, .int p1), (2, .int p2)]) hx hb dX6_fed_11 hl (by decide) rfl (fun ls hl => ?_)
  refine lv_aload_n hx hb dX6_fed_13 rfl (lv_at hl 2 rfl) ?_
  refine lv_aload_n hx hb dX6_fed_14 rfl (lv_at hl 2 rfl) ?_
  refine lv_iload hx hb dX6_fed_15 (lv_at hl 0 rfl) ?_
  obtain ⟨r_5, hc_6, hden⟩ := bnd_s hden
  refine m_ci (wc := [(a_this, .inr (5, [.int v_thrown, .ref a_this_s, .ref a_this_aside, .ref a_this_saved, .int v_savedMany, .ref a_this_text, .int v_length, .ref a_this_states, .int v_many, .int v_at, .int v_isWrong, .int v_letters, .int v_matched, .ref a_this_rows, .int v_manyRows, .long v_digested])), (a_this_s, .inl (cI, 31, .inl v_s))]) (wr := [(a_this_states, .inl (cI, 66, .inl v_states))]) (wc' := [(a_this, .inr (5, [.int v_thrown, .ref a_this_s, .ref a_this_aside, .ref a_this_saved, .int v_savedMany, .ref a_this_text, .int v_length, .ref a_this_states, .int v_many, .int v_at, .int v_isWrong, .int v_letters, .int v_matched, .ref a_this_rows, .int v_manyRows, .long v_digested])), (a_this_s, .inl (cI, 31, .inl v_s))]) (va_runV (As := [.int r_3]) (rest := [.ref a_this]) ⟨hx, hb, hml, hown, hts⟩ (c_X6_ending l D cI cM cL F hc_6) (cwV 1 hts gX6_fed_X6_ending rfl rfl rfl (by decide +kernel) ⟨Nat.le_of_ble_eq_true rfl, Nat.le_of_ble_eq_true rfl⟩) (mPreV (ci := 5) (q0 := 0) (r := (RX6, TX6, 16)) hP hD hK hN [1, 2] (by decide) rfl rfl rfl) rfl rfl hl.1 rfl (lv_room (Nat.le_of_ble_eq_true rfl)) dX6_fed_17 ⟨Nat.le_of_ble_eq_true rfl, Nat.le_of_ble_eq_true rfl⟩) hP hD hS hA [1, 2] [0] rfl rfl (by decide) (by decide) (fun H locs hP hD hS => ?_)
  have hP : va_P D vwCl [(a_this_states, .inl (cI, 66, .inl v_states)), (a_this, .inr (5, [.int v_thrown, .ref a_this_s, .ref a_this_aside, .ref a_this_saved, .int v_savedMany, .ref a_this_text, .int v_length, .ref a_this_states, .int v_many, .int v_at, .int v_isWrong, .int v_letters, .int v_matched, .ref a_this_rows, .int v_manyRows, .long v_digested])), (a_this_s, .inl (cI, 31, .inl v_s))] H := hP
  have hD : va_D A [(a_this_states, .inl (cI, 66, .inl v_states)), (a_this, .inr (5, [.int v_thrown, .ref a_this_s, .ref a_this_aside, .ref a_this_saved, .int v_savedMany, .ref a_this_text, .int v_length, .ref a_this_states, .int v_many, .int v_at, .int v_isWrong, .int v_letters, .int v_matched, .ref a_this_rows, .int v_manyRows, .long v_digested])), (a_this_s, .inl (cI, 31, .inl v_s))] := hD
  refine lv_aload_n hx hb dX6_fed_20 rfl (lv_at hl 2 rfl) ?_
  refine va_get (D := D) (ci := 5) (v := .ref a_this_s) (C := RX6) (T := TX6) (N := 16) hx hb hts hin_X6 hown hK hP 1 rfl rfl 1 (by decide) w_7 (fun _ h9 => h9) rfl dX6_fed_21 ?_
  refine lv_bipush (v := 25) hx hb dX6_fed_24 (by decide) ?_
  obtain ⟨hg_7, hden⟩ := grd_s hden
  refine va_iald hx hb hK hP 2 0 rfl rfl (inb_in hg_7) dX6_fed_26 ?_
  obtain ⟨r_8, hc_9, hden⟩ := bnd_s hden
  refine m_ci (wc := [(a_this, .inr (5, [.int v_thrown, .ref a_this_s, .ref a_this_aside, .ref a_this_saved, .int v_savedMany, .ref a_this_text, .int v_length, .ref a_this_states, .int v_many, .int v_at, .int v_isWrong, .int v_letters, .int v_matched, .ref a_this_rows, .int v_manyRows, .long v_digested])), (a_this_s, .inl (cI, 31, .inl v_s))]) (wr := [(a_this_states, .inl (cI, 66, .inl v_states))]) (wc' := [(a_this, .inr (5, [.int v_thrown, .ref a_this_s, .ref a_this_aside, .ref a_this_saved, .int v_savedMany, .ref a_this_text, .int v_length, .ref a_this_states, .int v_many, .int v_at, .int v_isWrong, .int v_letters, .int v_matched, .ref a_this_rows, .int v_manyRows, .long v_digested])), (a_this_s, .inl (cI, 31, .inl v_s))]) (va_runV (As := [.int r_5, .int (v_s (25 : Int32).toNatClampNeg)]) (rest := []) ⟨hx, hb, hml, hown, hts⟩ (c_X6_counting l D cI cM cL F hc_9) (cwV 2 hts gX6_fed_X6_counting rfl rfl rfl (by decide +kernel) ⟨Nat.le_of_ble_eq_true rfl, Nat.le_of_ble_eq_true rfl⟩) (mPreV (ci := 5) (q0 := 0) (r := (RX6, TX6, 16)) hP hD hK hN [1, 2] (by decide) rfl rfl rfl) rfl rfl hl.1 rfl (lv_room (Nat.le_of_ble_eq_true rfl)) dX6_fed_27 ⟨Nat.le_of_ble_eq_true rfl, Nat.le_of_ble_eq_true rfl⟩) hP hD hS hA [1, 2] [0] rfl rfl (by decide) (by decide) (fun H locs hP hD hS => ?_)
  have hP : va_P D vwCl [(a_this_states, .inl (cI, 66, .inl v_states)), (a_this, .inr (5, [.int v_thrown, .ref a_this_s, .ref a_this_aside, .ref a_this_saved, .int v_savedMany, .ref a_this_text, .int v_length, .ref a_this_states, .int v_many, .int v_at, .int v_isWrong, .int v_letters, .int v_matched, .ref a_this_rows, .int v_manyRows, .long v_digested])), (a_this_s, .inl (cI, 31, .inl v_s))] H := hP
  have hD : va_D A [(a_this_states, .inl (cI, 66, .inl v_states)), (a_this, .inr (5, [.int v_thrown, .ref a_this_s, .ref a_this_aside, .ref a_this_saved, .int v_savedMany, .ref a_this_text, .int v_length, .ref a_this_states, .int v_many, .int v_at, .int v_isWrong, .int v_letters, .int v_matched, .ref a_this_rows, .int v_manyRows, .long v_digested])), (a_this_s, .inl (cI, 31, .inl v_s))] := hD
  refine lv_istore (lv' := [(5, .int r_8), (4, .int r_3), (3, .int r_1), (0, .ref a_this), (1, .int p1), (2, .int p2)]) hx hb dX6_fed_30 hl (by decide) rfl (fun ls hl => ?_)
  refine lv_iconst (v := (-1)) hx hb dX6_fed_32 (by decide) ?_
  refine lv_istore (lv' := [(6, .int (-1)), (5, .int r_8), (4, .int r_3), (3, .int r_1), (0, .ref a_this), (1, .int p1), (2, .int p2)]) hx hb dX6_fed_33 hl (by decide) rfl (fun ls hl => ?_)
  refine lv_bipush (v := 7) hx hb dX6_fed_35 (by decide) ?_
  refine lv_istore (lv' := [(7, .int 7), (6, .int (-1)), (5, .int r_8), (4, .int r_3), (3, .int r_1), (0, .ref a_this), (1, .int p1), (2, .int p2)]) hx hb dX6_fed_37 hl (by decide) rfl (fun ls hl => ?_)
  have hL39__19 : ∀ (k70 : Int32 → Option (Int32)), (∀ (x6_18 : Int32) (H : Heap) (locs : List Loc), va_P D vwCl [(a_this, .inr (5, [.int v_thrown, .ref a_this_s, .ref a_this_aside, .ref a_this_saved, .int v_savedMany, .ref a_this_text, .int v_length, .ref a_this_states, .int v_many, .int v_at, .int v_isWrong, .int v_letters, .int v_matched, .ref a_this_rows, .int v_manyRows, .long v_digested])), (a_this_s, .inl (cI, 31, .inl v_s)), (a_this_states, .inl (cI, 66, .inl v_states))] H → va_D A [(a_this, .inr (5, [.int v_thrown, .ref a_this_s, .ref a_this_aside, .ref a_this_saved, .int v_savedMany, .ref a_this_text, .int v_length, .ref a_this_states, .int v_many, .int v_at, .int v_isWrong, .int v_letters, .int v_matched, .ref a_this_rows, .int v_manyRows, .long v_digested])), (a_this_s, .inl (cI, 31, .inl v_s)), (a_this_states, .inl (cI, 66, .inl v_states))] → va_S A s.heap H locs → ∀ ls : Array Slot, lv_has ls 8 [(0, .ref a_this), (1, .int p1), (2, .int p2), (3, .int r_1), (4, .int r_3), (5, .int r_8), (6, .int x6_18)] → k70 x6_18 = some (r0) → W p l e rm_X6_fed s m (([.ref a_this, .int p1, .int p2] : List Value).toArray) below meth c H locs 0 0 Q (F0 m 70 ls [])) → ∀ (n : Nat) (x6_16 : Int32) (x7_17 : Int32) (H : Heap) (locs : List Loc), va_P D vwCl [(a_this, .inr (5, [.int v_thrown, .ref a_this_s, .ref a_this_aside, .ref a_this_saved, .int v_savedMany, .ref a_this_text, .int v_length, .ref a_this_states, .int v_many, .int v_at, .int v_isWrong, .int v_letters, .int v_matched, .ref a_this_rows, .int v_manyRows, .long v_digested])), (a_this_s, .inl (cI, 31, .inl v_s)), (a_this_states, .inl (cI, 66, .inl v_states))] H → va_D A [(a_this, .inr (5, [.int v_thrown, .ref a_this_s, .ref a_this_aside, .ref a_this_saved, .int v_savedMany, .ref a_this_text, .int v_length, .ref a_this_states, .int v_many, .int v_at, .int v_isWrong, .int v_letters, .int v_matched, .ref a_this_rows, .int v_manyRows, .long v_digested])), (a_this_s, .inl (cI, 31, .inl v_s)), (a_this_states, .inl (cI, 66, .inl v_states))] → va_S A s.heap H locs → ∀ ls : Array Slot, lv_has ls 8 [(0, .ref a_this), (1, .int p1), (2, .int p2), (3, .int r_1), (4, .int r_3), (5, .int r_8), (6, .int x6_16), (7, .int x7_17)] → L_X6_fed_39 F k70 p1 p2 r_1 r_3 r_8 n x6_16 x7_17 = some (r0) → W p l e rm_X6_fed s m (([.ref a_this, .int p1, .int p2] : List Value).toArray) below meth c H locs 0 0 Q (F0 m 39 ls []) := by
    intro k70 hk70 n
    induction n with
    | zero => intro x6_16 x7_17 H locs hP hD hS ls hl hden; exact no_none hden
    | succ n ih =>
      intro x6_16 x7_17 H locs hP hD hS ls hl hden
      rw [L_X6_fed_39] at hden
      refine lv_iload hx hb dX6_fed_39 (lv_at hl 7 rfl) ?_
      refine lv_if_lt (tgt := 70) hx hb dX6_fed_41 (by decide) (fun c_23 => ?_) (fun c_23 => ?_)
      · have hden := if_s hden c_23
        exact hk70 x6_16 _ _ (mSubP hP [0, 1, 2] rfl) (hD.sub [0, 1, 2] (by decide) rfl) hS ls (lv_sub hl [0, 1, 2, 3, 4, 5, 6] rfl) hden
      · have hden := ifn_s hden c_23
        refine lv_iload hx hb dX6_fed_44 (lv_at hl 5 rfl) ?_
        refine lv_iload hx hb dX6_fed_46 (lv_at hl 7 rfl) ?_
        refine lv_ishr hx hb dX6_fed_48 ?_
        refine lv_iconst (v := 1) hx hb dX6_fed_49 (by decide) ?_
        refine lv_iand hx hb dX6_fed_50 ?_
        refine lv_iconst (v := 1) hx hb dX6_fed_51 (by decide) ?_
        refine lv_icmp_ne (tgt := 60) hx hb dX6_fed_52 (by decide) (fun c_22 => ?_) (fun c_22 => ?_)
        · have hden := ifn_s hden c_22
          refine lv_iload hx hb dX6_fed_60 (lv_at hl 6 rfl) ?_
          refine lv_istore (lv' := [(6, .int x6_16), (0, .ref a_this), (1, .int p1), (2, .int p2), (3, .int r_1), (4, .int r_3), (5, .int r_8), (7, .int x7_17)]) hx hb dX6_fed_62 hl (by decide) rfl (fun ls hl => ?_)
          obtain ⟨x7_20, ex7_20, hden⟩ := nm_x hden
          refine lv_iinc (v := x7_20) (lv' := [(7, .int x7_20), (6, .int x6_16), (0, .ref a_this), (1, .int p1), (2, .int p2), (3, .int r_1), (4, .int r_3), (5, .int r_8)]) hx hb dX6_fed_64 hl (k := 7) rfl (by rw [ex7_20]; rfl) (by decide) rfl (fun ls hl => ?_)
          refine lv_goto (tgt := 39) hx hb dX6_fed_67 (by decide) ?_
          exact ih x6_16 x7_20 _ _ (mSubP hP [0, 1, 2] rfl) (hD.sub [0, 1, 2] (by decide) rfl) hS ls (lv_sub hl [2, 3, 4, 5, 6, 7, 1, 0] rfl) hden
        · have hden := if_s hden c_22
          refine lv_iload hx hb dX6_fed_55 (lv_at hl 7 rfl) ?_
          refine lv_goto (tgt := 62) hx hb dX6_fed_57 (by decide) ?_
          refine lv_istore (lv' := [(6, .int x7_17), (0, .ref a_this), (1, .int p1), (2, .int p2), (3, .int r_1), (4, .int r_3), (5, .int r_8), (7, .int x7_17)]) hx hb dX6_fed_62 hl (by decide) rfl (fun ls hl => ?_)
          obtain ⟨x7_21, ex7_21, hden⟩ := nm_x hden
          refine lv_iinc (v := x7_21) (lv' := [(7, .int x7_21), (6, .int x7_17), (0, .ref a_this), (1, .int p1), (2, .int p2), (3, .int r_1), (4, .int r_3), (5, .int r_8)]) hx hb dX6_fed_64 hl (k := 7) rfl (by rw [ex7_21]; rfl) (by decide) rfl (fun ls hl => ?_)
          refine lv_goto (tgt := 39) hx hb dX6_fed_67 (by decide) ?_
          exact ih x7_17 x7_21 _ _ (mSubP hP [0, 1, 2] rfl) (hD.sub [0, 1, 2] (by decide) rfl) hS ls (lv_sub hl [2, 3, 4, 5, 6, 7, 1, 0] rfl) hden
  refine hL39__19 _ (fun x6_18 H locs hP hD hS ls hl hden => ?_) F (-1) 7 _ _ (mSubP hP [1, 2, 0] rfl) (hD.sub [1, 2, 0] (by decide) rfl) hS ls (lv_sub hl [5, 6, 7, 4, 3, 2, 1, 0] rfl) hden
  refine lv_iload_n hx hb dX6_fed_70 rfl (lv_at hl 2 rfl) ?_
  refine lv_if_ne (tgt := 83) hx hb dX6_fed_71 (by decide) (fun c_32 => ?_) (fun c_32 => ?_)
  · have hden := ifn_s hden c_32
    refine lv_iload_n hx hb dX6_fed_83 rfl (lv_at hl 2 rfl) ?_
    refine lv_iconst (v := 1) hx hb dX6_fed_84 (by decide) ?_
    refine lv_icmp_ne (tgt := 97) hx hb dX6_fed_85 (by decide) (fun c_29 => ?_) (fun c_29 => ?_)
    · have hden := ifn_s hden c_29
      refine lv_iload_n hx hb dX6_fed_97 rfl (lv_at hl 2 rfl) ?_
      refine lv_iconst (v := 2) hx hb dX6_fed_98 (by decide) ?_
      refine lv_icmp_ne (tgt := 110) hx hb dX6_fed_99 (by decide) (fun c_26 => ?_) (fun c_26 => ?_)
      · have hden := ifn_s hden c_26
        refine lv_iload hx hb dX6_fed_110 (lv_at hl 6 rfl) ?_
        subst hQe
        cases hden
        exact m_ri hx hb hr hP hD hS [0, 1, 2] (by decide) rfl rfl dX6_fed_112 hlocks
      · have hden := if_s hden c_26
        refine lv_iload hx hb dX6_fed_102 (lv_at hl 5 rfl) ?_
        obtain ⟨r_24, hc_25, hden⟩ := bnd_s hden
        refine m_ci (wc := []) (wr := [(a_this, .inr (5, [.int v_thrown, .ref a_this_s, .ref a_this_aside, .ref a_this_saved, .int v_savedMany, .ref a_this_text, .int v_length, .ref a_this_states, .int v_many, .int v_at, .int v_isWrong, .int v_letters, .int v_matched, .ref a_this_rows, .int v_manyRows, .long v_digested])), (a_this_s, .inl (cI, 31, .inl v_s)), (a_this_states, .inl (cI, 66, .inl v_states))]) (wc' := []) (va_runS (As := [.int r_8]) (rest := []) ⟨hx, hb, hml, hown, hts⟩ (c_X6_bitsOf l D cI cM cL F hc_25) (va_cwS 1 hts gX6_fed_X6_bitsOf rfl rfl rfl (by decide +kernel) ⟨Nat.le_of_ble_eq_true rfl, Nat.le_of_ble_eq_true rfl⟩) (mPreS hP hD hK hN [] (by decide) rfl) rfl rfl hl.1 rfl (lv_room (Nat.le_of_ble_eq_true rfl)) dX6_fed_104 ⟨Nat.le_of_ble_eq_true rfl, Nat.le_of_ble_eq_true rfl⟩) hP hD hS hA [] [0, 1, 2] rfl rfl (by decide) (by decide) (fun H locs hP hD hS => ?_)
        have hP : va_P D vwCl [(a_this, .inr (5, [.int v_thrown, .ref a_this_s, .ref a_this_aside, .ref a_this_saved, .int v_savedMany, .ref a_this_text, .int v_length, .ref a_this_states, .int v_many, .int v_at, .int v_isWrong, .int v_letters, .int v_matched, .ref a_this_rows, .int v_manyRows, .long v_digested])), (a_this_s, .inl (cI, 31, .inl v_s)), (a_this_states, .inl (cI, 66, .inl v_states))] H := hP
        have hD : va_D A [(a_this, .inr (5, [.int v_thrown, .ref a_this_s, .ref a_this_aside, .ref a_this_saved, .int v_savedMany, .ref a_this_text, .int v_length, .ref a_this_states, .int v_many, .int v_at, .int v_isWrong, .int v_letters, .int v_matched, .ref a_this_rows, .int v_manyRows, .long v_digested])), (a_this_s, .inl (cI, 31, .inl v_s)), (a_this_states, .inl (cI, 66, .inl v_states))] := hD
        refine lv_goto (tgt := 112) hx hb dX6_fed_107 (by decide) ?_
        subst hQe
        cases hden
        exact m_ri hx hb hr hP hD hS [0, 1, 2] (by decide) rfl rfl dX6_fed_112 hlocks
    · have hden := if_s hden c_29
      refine lv_aload_n hx hb dX6_fed_88 rfl (lv_at hl 0 rfl) ?_
      refine lv_iload_n hx hb dX6_fed_89 rfl (lv_at hl 3 rfl) ?_
      refine lv_iload_n hx hb dX6_fed_90 rfl (lv_at hl 1 rfl) ?_
      obtain ⟨r_27, hc_28, hden⟩ := bnd_s hden
      refine m_ci (wc := [(a_this, .inr (5, [.int v_thrown, .ref a_this_s, .ref a_this_aside, .ref a_this_saved, .int v_savedMany, .ref a_this_text, .int v_length, .ref a_this_states, .int v_many, .int v_at, .int v_isWrong, .int v_letters, .int v_matched, .ref a_this_rows, .int v_manyRows, .long v_digested])), (a_this_s, .inl (cI, 31, .inl v_s))]) (wr := [(a_this_states, .inl (cI, 66, .inl v_states))]) (wc' := [(a_this, .inr (5, [.int v_thrown, .ref a_this_s, .ref a_this_aside, .ref a_this_saved, .int v_savedMany, .ref a_this_text, .int v_length, .ref a_this_states, .int v_many, .int v_at, .int v_isWrong, .int v_letters, .int v_matched, .ref a_this_rows, .int v_manyRows, .long v_digested])), (a_this_s, .inl (cI, 31, .inl v_s))]) (va_runV (As := [.int r_1, .int p1]) (rest := []) ⟨hx, hb, hml, hown, hts⟩ (c_X6_fallsOf l D cI cM cL F hc_28) (cwV 2 hts gX6_fed_X6_fallsOf rfl rfl rfl (by decide +kernel) ⟨Nat.le_of_ble_eq_true rfl, Nat.le_of_ble_eq_true rfl⟩) (mPreV (ci := 5) (q0 := 0) (r := (RX6, TX6, 16)) hP hD hK hN [0, 1] (by decide) rfl rfl rfl) rfl rfl hl.1 rfl (lv_room (Nat.le_of_ble_eq_true rfl)) dX6_fed_91 ⟨Nat.le_of_ble_eq_true rfl, Nat.le_of_ble_eq_true rfl⟩) hP hD hS hA [0, 1] [2] rfl rfl (by decide) (by decide) (fun H locs hP hD hS => ?_)
      have hP : va_P D vwCl [(a_this_states, .inl (cI, 66, .inl v_states)), (a_this, .inr (5, [.int v_thrown, .ref a_this_s, .ref a_this_aside, .ref a_this_saved, .int v_savedMany, .ref a_this_text, .int v_length, .ref a_this_states, .int v_many, .int v_at, .int v_isWrong, .int v_letters, .int v_matched, .ref a_this_rows, .int v_manyRows, .long v_digested])), (a_this_s, .inl (cI, 31, .inl v_s))] H := hP
      have hD : va_D A [(a_this_states, .inl (cI, 66, .inl v_states)), (a_this, .inr (5, [.int v_thrown, .ref a_this_s, .ref a_this_aside, .ref a_this_saved, .int v_savedMany, .ref a_this_text, .int v_length, .ref a_this_states, .int v_many, .int v_at, .int v_isWrong, .int v_letters, .int v_matched, .ref a_this_rows, .int v_manyRows, .long v_digested])), (a_this_s, .inl (cI, 31, .inl v_s))] := hD
      refine lv_goto (tgt := 112) hx hb dX6_fed_94 (by decide) ?_
      subst hQe
      cases hden
      exact m_ri hx hb hr hP hD hS [1, 2, 0] (by decide) rfl rfl dX6_fed_112 hlocks
  · have hden := if_s hden c_32
    refine lv_aload_n hx hb dX6_fed_74 rfl (lv_at hl 0 rfl) ?_
    refine lv_iload hx hb dX6_fed_75 (lv_at hl 4 rfl) ?_
    obtain ⟨r_30, hc_31, hden⟩ := bnd_s hden
    refine m_ci (wc := [(a_this, .inr (5, [.int v_thrown, .ref a_this_s, .ref a_this_aside, .ref a_this_saved, .int v_savedMany, .ref a_this_text, .int v_length, .ref a_this_states, .int v_many, .int v_at, .int v_isWrong, .int v_letters, .int v_matched, .ref a_this_rows, .int v_manyRows, .long v_digested])), (a_this_states, .inl (cI, 66, .inl v_states))]) (wr := [(a_this_s, .inl (cI, 31, .inl v_s))]) (wc' := [(a_this, .inr (5, [.int v_thrown, .ref a_this_s, .ref a_this_aside, .ref a_this_saved, .int v_savedMany, .ref a_this_text, .int v_length, .ref a_this_states, .int v_many, .int v_at, .int v_isWrong, .int v_letters, .int v_matched, .ref a_this_rows, .int v_manyRows, .long v_digested])), (a_this_states, .inl (cI, 66, .inl v_states))]) (va_runV (As := [.int r_3]) (rest := []) ⟨hx, hb, hml, hown, hts⟩ (c_X6_numberOf l D cI cM cL F hc_31) (cwV 1 hts gX6_fed_X6_numberOf rfl rfl rfl (by decide +kernel) ⟨Nat.le_of_ble_eq_true rfl, Nat.le_of_ble_eq_true rfl⟩) (mPreV (ci := 5) (q0 := 0) (r := (RX6, TX6, 16)) hP hD hK hN [0, 2] (by decide) rfl rfl rfl) rfl rfl hl.1 rfl (lv_room (Nat.le_of_ble_eq_true rfl)) dX6_fed_77 ⟨Nat.le_of_ble_eq_true rfl, Nat.le_of_ble_eq_true rfl⟩) hP hD hS hA [0, 2] [1] rfl rfl (by decide) (by decide) (fun H locs hP hD hS => ?_)
    have hP : va_P D vwCl [(a_this_s, .inl (cI, 31, .inl v_s)), (a_this, .inr (5, [.int v_thrown, .ref a_this_s, .ref a_this_aside, .ref a_this_saved, .int v_savedMany, .ref a_this_text, .int v_length, .ref a_this_states, .int v_many, .int v_at, .int v_isWrong, .int v_letters, .int v_matched, .ref a_this_rows, .int v_manyRows, .long v_digested])), (a_this_states, .inl (cI, 66, .inl v_states))] H := hP
    have hD : va_D A [(a_this_s, .inl (cI, 31, .inl v_s)), (a_this, .inr (5, [.int v_thrown, .ref a_this_s, .ref a_this_aside, .ref a_this_saved, .int v_savedMany, .ref a_this_text, .int v_length, .ref a_this_states, .int v_many, .int v_at, .int v_isWrong, .int v_letters, .int v_matched, .ref a_this_rows, .int v_manyRows, .long v_digested])), (a_this_states, .inl (cI, 66, .inl v_states))] := hD
    refine lv_goto (tgt := 112) hx hb dX6_fed_80 (by decide) ?_
    subst hQe
    cases hden
    exact m_ri hx hb hr hP hD hS [1, 0, 2] (by decide) rfl rfl dX6_fed_112 hlocks
def D_X6_ifFed (F : Nat) (p1 : Int32) (p2 : Int32) (v_states : (Nat → Int32)) (v_many : Int32) (v_s : (Nat → Int32)) (v_thrown : Int32) : Option (Int32 × (Nat → Int32) × Int32 × Int32) := bnd (D_X6_list F v_states v_many v_s) (fun (v_states_1, v_many_2) => bnd (D_X6_in F p1 0 3) (fun r_4 => jp (fun (t_6 : Int32) => bnd (D_X6_holds F t_6 v_thrown) (fun (r_7, v_thrown_8) => (if r_7 = 0 then some (0, v_states_1, v_many_2, v_thrown_8) else bnd (D_X6_fed F p1 p2 v_s v_states_1) (fun r_10 => some (r_10, v_states_1, v_many_2, v_thrown_8))))) (fun j28 => jp (fun (_ : Unit) => j28 1) (fun j27 => (if r_4 = 0 then j27 () else bnd (D_X6_in F p2 0 3) (fun r_13 => (if r_13 = 0 then j27 () else j28 0)))))))
def rm_X6_ifFed : Room := { frames := 9, cells := 0, slots := 0, locals := 202 }
set_option maxHeartbeats 4000000 in
set_option maxRecDepth 100000 in
theorem c_X6_ifFed (l : Launch) (D : va_G) (cI cM cL : ClassId) (F : Nat) {a_this a_this_s a_this_aside a_this_saved a_this_text a_this_states a_this_rows : Nat} {sz : Nat} {v_thrown v_savedMany v_length v_many v_at v_isWrong v_letters v_matched v_manyRows : Int32} {v_digested : Int64} {v_states v_s : Nat → Int32} {p1 : Int32} {p2 : Int32} {r0 : Int32} {w_states : (Nat → Int32)} {w_many : Int32} {w_thrown : Int32} (hden : D_X6_ifFed F p1 p2 v_states v_many v_s v_thrown = some (r0, w_states, w_many, w_thrown)) : Met l yX6_ifFed wsX6_ifFed rm_X6_ifFed (va_Pc [.ref a_this, .int p1, .int p2] (mB D (mTy cI cM cL) sz [(a_this, .inr (5, [.int v_thrown, .ref a_this_s, .ref a_this_aside, .ref a_this_saved, .int v_savedMany, .ref a_this_text, .int v_length, .ref a_this_states, .int v_many, .int v_at, .int v_isWrong, .int v_letters, .int v_matched, .ref a_this_rows, .int v_manyRows, .long v_digested])), (a_this_states, .inl (cI, 66, .inl v_states)), (a_this_s, .inl (cI, 31, .inl v_s))])) (mQi D (va_A [(a_this, .inr (5, [.int v_thrown, .ref a_this_s, .ref a_this_aside, .ref a_this_saved, .int v_savedMany, .ref a_this_text, .int v_length, .ref a_this_states, .int v_many, .int v_at, .int v_isWrong, .int v_letters, .int v_matched, .ref a_this_rows, .int v_manyRows, .long v_digested])), (a_this_states, .inl (cI, 66, .inl v_states)), (a_this_s, .inl (cI, 31, .inl v_s))] sz) [(a_this, .inr (5, [.int w_thrown, .ref a_this_s, .ref a_this_aside, .ref a_this_saved, .int v_savedMany, .ref a_this_text, .int v_length, .ref a_this_states, .int w_many, .int v_at, .int v_isWrong, .int v_letters, .int v_matched, .ref a_this_rows, .int v_manyRows, .long v_digested])), (a_this_states, .inl (cI, 66, .inl w_states)), (a_this_s, .inl (cI, 31, .inl v_s))] r0) 0 0 (va_A [(a_this, .inr (5, [.int v_thrown, .ref a_this_s, .ref a_this_aside, .ref a_this_saved, .int v_savedMany, .ref a_this_text, .int v_length, .ref a_this_states, .int v_many, .int v_at, .int v_isWrong, .int v_letters, .int v_matched, .ref a_this_rows, .int v_manyRows, .long v_digested])), (a_this_states, .inl (cI, 66, .inl v_states)), (a_this_s, .inl (cI, 31, .inl v_s))] sz) := by
  refine Met.ofW (cc := cX6_ifFed) (maxL := 3) (ret := (some .int)) (by decide) rfl ?_
  intro p e s m args below meth c s₁ B hml hv
  obtain ⟨rfl, hsz, hP, hK, hN, hD0⟩ := hv
  have hx := B.exec
  have hb := B.bytes
  have hr := B.returns
  have hts := atoms_spec (ws := wsX6_ifFed) B.pre
  have hown : s.vm.findClass RX6 = some m.cls := findClass_of_methodNamed B.named
  have hlocks := B.notSynchronized
  subst hsz
  have hD := hD0.self (sz := s.heap.size)
  generalize hAe : va_A [(a_this, .inr (5, [.int v_thrown, .ref a_this_s, .ref a_this_aside, .ref a_this_saved, .int v_savedMany, .ref a_this_text, .int v_length, .ref a_this_states, .int v_many, .int v_at, .int v_isWrong, .int v_letters, .int v_matched, .ref a_this_rows, .int v_manyRows, .long v_digested])), (a_this_states, .inl (cI, 66, .inl v_states)), (a_this_s, .inl (cI, 31, .inl v_s))] s.heap.size = A at hD ⊢
  have hA : ∀ q : Nat, s.heap.size ≤ q → A q := fun q h => by rw [← hAe]; exact Or.inr h
  have hS : va_S A s.heap s.heap [] := va_S.rf
  have hl := lv_entry ([.ref a_this, .int p1, .int p2]) (n := 3) (Nat.le_of_ble_eq_true rfl)
  rw [lg_entry_eq]
  generalize (lg_sl ([.ref a_this, .int p1, .int p2]) ++ List.replicate (3 - (lg_sl ([.ref a_this, .int p1, .int p2])).length) Slot.unset).toArray = ls at hl ⊢
  have hl : lv_has ls 3 [(0, .ref a_this), (1, .int p1), (2, .int p2)] := hl
  change W p l e rm_X6_ifFed s m (([.ref a_this, .int p1, .int p2] : List Value).toArray) below meth c s.heap [] 0 0 _ (F0 m 0 ls [])
  generalize hQe : MQ below (mQi D A [(a_this, .inr (5, [.int w_thrown, .ref a_this_s, .ref a_this_aside, .ref a_this_saved, .int v_savedMany, .ref a_this_text, .int v_length, .ref a_this_states, .int w_many, .int v_at, .int v_isWrong, .int v_letters, .int v_matched, .ref a_this_rows, .int v_manyRows, .long v_digested])), (a_this_states, .inl (cI, 66, .inl w_states)), (a_this_s, .inl (cI, 31, .inl v_s))] r0) (([.ref a_this, .int p1, .int p2] : List Value).toArray) s 0 0 A = Q
  rw [D_X6_ifFed] at hden
  refine lv_aload_n hx hb dX6_ifFed_0 rfl (lv_at hl 0 rfl) ?_
  obtain ⟨⟨v_states_1, v_many_2⟩, hc_3, hden⟩ := bnd_s hden
  refine m_cv (wc := [(a_this, .inr (5, [.int v_thrown, .ref a_this_s, .ref a_this_aside, .ref a_this_saved, .int v_savedMany, .ref a_this_text, .int v_length, .ref a_this_states, .int v_many, .int v_at, .int v_isWrong, .int v_letters, .int v_matched, .ref a_this_rows, .int v_manyRows, .long v_digested])), (a_this_states, .inl (cI, 66, .inl v_states)), (a_this_s, .inl (cI, 31, .inl v_s))]) (wr := []) (wc' := [(a_this, .inr (5, [.int v_thrown, .ref a_this_s, .ref a_this_aside, .ref a_this_saved, .int v_savedMany, .ref a_this_text, .int v_length, .ref a_this_states, .int v_many_2, .int v_at, .int v_isWrong, .int v_letters, .int v_matched, .ref a_this_rows, .int v_manyRows, .long v_digested])), (a_this_states, .inl (cI, 66, .inl v_states_1)), (a_this_s, .inl (cI, 31, .inl v_s))]) (va_runV (As := []) (rest := []) ⟨hx, hb, hml, hown, hts⟩ (c_X6_list l D cI cM cL F hc_3) (cwV 0 hts gX6_ifFed_X6_list rfl rfl rfl (by decide +kernel) ⟨Nat.le_of_ble_eq_true rfl, Nat.le_of_ble_eq_true rfl⟩) (mPreV (ci := 5) (q0 := 0) (r := (RX6, TX6, 16)) hP hD hK hN [0, 1, 2] (by decide) rfl rfl rfl) rfl rfl hl.1 rfl (lv_room (Nat.le_of_ble_eq_true rfl)) dX6_ifFed_1 ⟨Nat.le_of_ble_eq_true rfl, Nat.le_of_ble_eq_true rfl⟩) hP hD hS hA [0, 1, 2] [] rfl rfl (by decide) (by decide) (fun H locs hP hD hS => ?_)
  have hP : va_P D vwCl [(a_this, .inr (5, [.int v_thrown, .ref a_this_s, .ref a_this_aside, .ref a_this_saved, .int v_savedMany, .ref a_this_text, .int v_length, .ref a_this_states, .int v_many_2, .int v_at, .int v_isWrong, .int v_letters, .int v_matched, .ref a_this_rows, .int v_manyRows, .long v_digested])), (a_this_states, .inl (cI, 66, .inl v_states_1)), (a_this_s, .inl (cI, 31, .inl v_s))] H := hP
  have hD : va_D A [(a_this, .inr (5, [.int v_thrown, .ref a_this_s, .ref a_this_aside, .ref a_this_saved, .int v_savedMany, .ref a_this_text, .int v_length, .ref a_this_states, .int v_many_2, .int v_at, .int v_isWrong, .int v_letters, .int v_matched, .ref a_this_rows, .int v_manyRows, .long v_digested])), (a_this_states, .inl (cI, 66, .inl v_states_1)), (a_this_s, .inl (cI, 31, .inl v_s))] := hD
  refine lv_aload_n hx hb dX6_ifFed_4 rfl (lv_at hl 0 rfl) ?_
  refine lv_iload_n hx hb dX6_ifFed_5 rfl (lv_at hl 1 rfl) ?_
  refine lv_iconst (v := 0) hx hb dX6_ifFed_6 (by decide) ?_
  refine lv_iconst (v := 3) hx hb dX6_ifFed_7 (by decide) ?_
  obtain ⟨r_4, hc_5, hden⟩ := bnd_s hden
  refine m_ci (wc := []) (wr := [(a_this, .inr (5, [.int v_thrown, .ref a_this_s, .ref a_this_aside, .ref a_this_saved, .int v_savedMany, .ref a_this_text, .int v_length, .ref a_this_states, .int v_many_2, .int v_at, .int v_isWrong, .int v_letters, .int v_matched, .ref a_this_rows, .int v_manyRows, .long v_digested])), (a_this_states, .inl (cI, 66, .inl v_states_1)), (a_this_s, .inl (cI, 31, .inl v_s))]) (wc' := []) (va_runS (As := [.int p1, .int 0, .int 3]) (rest := [.ref a_this]) ⟨hx, hb, hml, hown, hts⟩ (c_X6_in l D cI cM cL F hc_5) (va_cwS 3 hts gX6_ifFed_X6_in rfl rfl rfl (by decide +kernel) ⟨Nat.le_of_ble_eq_true rfl, Nat.le_of_ble_eq_true rfl⟩) (mPreS hP hD hK hN [] (by decide) rfl) rfl rfl hl.1 rfl (lv_room (Nat.le_of_ble_eq_true rfl)) dX6_ifFed_8 ⟨Nat.le_of_ble_eq_true rfl, Nat.le_of_ble_eq_true rfl⟩) hP hD hS hA [] [0, 1, 2] rfl rfl (by decide) (by decide) (fun H locs hP hD hS => ?_)
  have hP : va_P D vwCl [(a_this, .inr (5, [.int v_thrown, .ref a_this_s, .ref a_this_aside, .ref a_this_saved, .int v_savedMany, .ref a_this_text, .int v_length, .ref a_this_states, .int v_many_2, .int v_at, .int v_isWrong, .int v_letters, .int v_matched, .ref a_this_rows, .int v_manyRows, .long v_digested])), (a_this_states, .inl (cI, 66, .inl v_states_1)), (a_this_s, .inl (cI, 31, .inl v_s))] H := hP
  have hD : va_D A [(a_this, .inr (5, [.int v_thrown, .ref a_this_s, .ref a_this_aside, .ref a_this_saved, .int v_savedMany, .ref a_this_text, .int v_length, .ref a_this_states, .int v_many_2, .int v_at, .int v_isWrong, .int v_letters, .int v_matched, .ref a_this_rows, .int v_manyRows, .long v_digested])), (a_this_states, .inl (cI, 66, .inl v_states_1)), (a_this_s, .inl (cI, 31, .inl v_s))] := hD
  obtain ⟨j28, ej28, hden⟩ := jp_s hden
  have hj28 : ∀ (t_6 : Int32) (H : Heap) (locs : List Loc), va_P D vwCl [(a_this, .inr (5, [.int v_thrown, .ref a_this_s, .ref a_this_aside, .ref a_this_saved, .int v_savedMany, .ref a_this_text, .int v_length, .ref a_this_states, .int v_many_2, .int v_at, .int v_isWrong, .int v_letters, .int v_matched, .ref a_this_rows, .int v_manyRows, .long v_digested])), (a_this_states, .inl (cI, 66, .inl v_states_1)), (a_this_s, .inl (cI, 31, .inl v_s))] H → va_D A [(a_this, .inr (5, [.int v_thrown, .ref a_this_s, .ref a_this_aside, .ref a_this_saved, .int v_savedMany, .ref a_this_text, .int v_length, .ref a_this_states, .int v_many_2, .int v_at, .int v_isWrong, .int v_letters, .int v_matched, .ref a_this_rows, .int v_manyRows, .long v_digested])), (a_this_states, .inl (cI, 66, .inl v_states_1)), (a_this_s, .inl (cI, 31, .inl v_s))] → va_S A s.heap H locs → ∀ ls : Array Slot, lv_has ls 3 [(0, .ref a_this), (1, .int p1), (2, .int p2)] → j28 t_6 = some (r0, w_states, w_many, w_thrown) → W p l e rm_X6_ifFed s m (([.ref a_this, .int p1, .int p2] : List Value).toArray) below meth c H locs 0 0 Q (F0 m 28 ls [.int t_6, .ref a_this]) := by
    intro t_6 H locs hP hD hS ls hl hden
    rw [ej28] at hden
    obtain ⟨⟨r_7, v_thrown_8⟩, hc_9, hden⟩ := bnd_s hden
    refine m_ci (wc := [(a_this, .inr (5, [.int v_thrown, .ref a_this_s, .ref a_this_aside, .ref a_this_saved, .int v_savedMany, .ref a_this_text, .int v_length, .ref a_this_states, .int v_many_2, .int v_at, .int v_isWrong, .int v_letters, .int v_matched, .ref a_this_rows, .int v_manyRows, .long v_digested]))]) (wr := [(a_this_states, .inl (cI, 66, .inl v_states_1)), (a_this_s, .inl (cI, 31, .inl v_s))]) (wc' := [(a_this, .inr (5, [.int v_thrown_8, .ref a_this_s, .ref a_this_aside, .ref a_this_saved, .int v_savedMany, .ref a_this_text, .int v_length, .ref a_this_states, .int v_many_2, .int v_at, .int v_isWrong, .int v_letters, .int v_matched, .ref a_this_rows, .int v_manyRows, .long v_digested]))]) (va_runV (As := [.int t_6]) (rest := []) ⟨hx, hb, hml, hown, hts⟩ (c_X6_holds l D cI cM cL F hc_9) (cwV 1 hts gX6_ifFed_X6_holds rfl rfl rfl (by decide +kernel) ⟨Nat.le_of_ble_eq_true rfl, Nat.le_of_ble_eq_true rfl⟩) (mPreV (ci := 5) (q0 := 0) (r := (RX6, TX6, 16)) hP hD hK hN [0] (by decide) rfl rfl rfl) rfl rfl hl.1 rfl (lv_room (Nat.le_of_ble_eq_true rfl)) dX6_ifFed_28 ⟨Nat.le_of_ble_eq_true rfl, Nat.le_of_ble_eq_true rfl⟩) hP hD hS hA [0] [1, 2] rfl rfl (by decide) (by decide) (fun H locs hP hD hS => ?_)
    have hP : va_P D vwCl [(a_this_states, .inl (cI, 66, .inl v_states_1)), (a_this_s, .inl (cI, 31, .inl v_s)), (a_this, .inr (5, [.int v_thrown_8, .ref a_this_s, .ref a_this_aside, .ref a_this_saved, .int v_savedMany, .ref a_this_text, .int v_length, .ref a_this_states, .int v_many_2, .int v_at, .int v_isWrong, .int v_letters, .int v_matched, .ref a_this_rows, .int v_manyRows, .long v_digested]))] H := hP
    have hD : va_D A [(a_this_states, .inl (cI, 66, .inl v_states_1)), (a_this_s, .inl (cI, 31, .inl v_s)), (a_this, .inr (5, [.int v_thrown_8, .ref a_this_s, .ref a_this_aside, .ref a_this_saved, .int v_savedMany, .ref a_this_text, .int v_length, .ref a_this_states, .int v_many_2, .int v_at, .int v_isWrong, .int v_letters, .int v_matched, .ref a_this_rows, .int v_manyRows, .long v_digested]))] := hD
    refine lv_if_eq (tgt := 43) hx hb dX6_ifFed_31 (by decide) (fun c_12 => ?_) (fun c_12 => ?_)
    · have hden := if_s hden c_12
      refine lv_iconst (v := 0) hx hb dX6_ifFed_43 (by decide) ?_
      subst hQe
      cases hden
      exact m_ri hx hb hr hP hD hS [2, 0, 1] (by decide) rfl rfl dX6_ifFed_44 hlocks
    · have hden := ifn_s hden c_12
      refine lv_aload_n hx hb dX6_ifFed_34 rfl (lv_at hl 0 rfl) ?_
      refine lv_iload_n hx hb dX6_ifFed_35 rfl (lv_at hl 1 rfl) ?_
      refine lv_iload_n hx hb dX6_ifFed_36 rfl (lv_at hl 2 rfl) ?_
      obtain ⟨r_10, hc_11, hden⟩ := bnd_s hden
      refine m_ci (wc := [(a_this, .inr (5, [.int v_thrown_8, .ref a_this_s, .ref a_this_aside, .ref a_this_saved, .int v_savedMany, .ref a_this_text, .int v_length, .ref a_this_states, .int v_many_2, .int v_at, .int v_isWrong, .int v_letters, .int v_matched, .ref a_this_rows, .int v_manyRows, .long v_digested])), (a_this_s, .inl (cI, 31, .inl v_s)), (a_this_states, .inl (cI, 66, .inl v_states_1))]) (wr := []) (wc' := [(a_this, .inr (5, [.int v_thrown_8, .ref a_this_s, .ref a_this_aside, .ref a_this_saved, .int v_savedMany, .ref a_this_text, .int v_length, .ref a_this_states, .int v_many_2, .int v_at, .int v_isWrong, .int v_letters, .int v_matched, .ref a_this_rows, .int v_manyRows, .long v_digested])), (a_this_s, .inl (cI, 31, .inl v_s)), (a_this_states, .inl (cI, 66, .inl v_states_1))]) (va_runV (As := [.int p1, .int p2]) (rest := []) ⟨hx, hb, hml, hown, hts⟩ (c_X6_fed l D cI cM cL F hc_11) (cwV 2 hts gX6_ifFed_X6_fed rfl rfl rfl (by decide +kernel) ⟨Nat.le_of_ble_eq_true rfl, Nat.le_of_ble_eq_true rfl⟩) (mPreV (ci := 5) (q0 := 0) (r := (RX6, TX6, 16)) hP hD hK hN [2, 1, 0] (by decide) rfl rfl rfl) rfl rfl hl.1 rfl (lv_room (Nat.le_of_ble_eq_true rfl)) dX6_ifFed_37 ⟨Nat.le_of_ble_eq_true rfl, Nat.le_of_ble_eq_true rfl⟩) hP hD hS hA [2, 1, 0] [] rfl rfl (by decide) (by decide) (fun H locs hP hD hS => ?_)
      have hP : va_P D vwCl [(a_this, .inr (5, [.int v_thrown_8, .ref a_this_s, .ref a_this_aside, .ref a_this_saved, .int v_savedMany, .ref a_this_text, .int v_length, .ref a_this_states, .int v_many_2, .int v_at, .int v_isWrong, .int v_letters, .int v_matched, .ref a_this_rows, .int v_manyRows, .long v_digested])), (a_this_s, .inl (cI, 31, .inl v_s)), (a_this_states, .inl (cI, 66, .inl v_states_1))] H := hP
      have hD : va_D A [(a_this, .inr (5, [.int v_thrown_8, .ref a_this_s, .ref a_this_aside, .ref a_this_saved, .int v_savedMany, .ref a_this_text, .int v_length, .ref a_this_states, .int v_many_2, .int v_at, .int v_isWrong, .int v_letters, .int v_matched, .ref a_this_rows, .int v_manyRows, .long v_digested])), (a_this_s, .inl (cI, 31, .inl v_s)), (a_this_states, .inl (cI, 66, .inl v_states_1))] := hD
      refine lv_goto (tgt := 44) hx hb dX6_ifFed_40 (by decide) ?_
      subst hQe
      cases hden
      exact m_ri hx hb hr hP hD hS [0, 2, 1] (by decide) rfl rfl dX6_ifFed_44 hlocks
  clear ej28
  obtain ⟨j27, ej27, hden⟩ := jp_s hden
  have hj27 : ∀  (H : Heap) (locs : List Loc), va_P D vwCl [(a_this, .inr (5, [.int v_thrown, .ref a_this_s, .ref a_this_aside, .ref a_this_saved, .int v_savedMany, .ref a_this_text, .int v_length, .ref a_this_states, .int v_many_2, .int v_at, .int v_isWrong, .int v_letters, .int v_matched, .ref a_this_rows, .int v_manyRows, .long v_digested])), (a_this_states, .inl (cI, 66, .inl v_states_1)), (a_this_s, .inl (cI, 31, .inl v_s))] H → va_D A [(a_this, .inr (5, [.int v_thrown, .ref a_this_s, .ref a_this_aside, .ref a_this_saved, .int v_savedMany, .ref a_this_text, .int v_length, .ref a_this_states, .int v_many_2, .int v_at, .int v_isWrong, .int v_letters, .int v_matched, .ref a_this_rows, .int v_manyRows, .long v_digested])), (a_this_states, .inl (cI, 66, .inl v_states_1)), (a_this_s, .inl (cI, 31, .inl v_s))] → va_S A s.heap H locs → ∀ ls : Array Slot, lv_has ls 3 [(0, .ref a_this), (1, .int p1), (2, .int p2)] → j27 () = some (r0, w_states, w_many, w_thrown) → W p l e rm_X6_ifFed s m (([.ref a_this, .int p1, .int p2] : List Value).toArray) below meth c H locs 0 0 Q (F0 m 27 ls [.ref a_this]) := by
    intro H locs hP hD hS ls hl hden
    rw [ej27] at hden
    refine lv_iconst (v := 1) hx hb dX6_ifFed_27 (by decide) ?_
    exact hj28 1 _ _ (mSubP hP [0, 1, 2] rfl) (hD.sub [0, 1, 2] (by decide) rfl) hS ls (lv_sub hl [0, 1, 2] rfl) hden
  clear ej27
  refine lv_if_eq (tgt := 27) hx hb dX6_ifFed_11 (by decide) (fun c_16 => ?_) (fun c_16 => ?_)
  · have hden := if_s hden c_16
    exact hj27 _ _ (mSubP hP [0, 1, 2] rfl) (hD.sub [0, 1, 2] (by decide) rfl) hS ls (lv_sub hl [0, 1, 2] rfl) hden
  · have hden := ifn_s hden c_16
    refine lv_iload_n hx hb dX6_ifFed_14 rfl (lv_at hl 2 rfl) ?_
    refine lv_iconst (v := 0) hx hb dX6_ifFed_15 (by decide) ?_
    refine lv_iconst (v := 3) hx hb dX6_ifFed_16 (by decide) ?_
    obtain ⟨r_13, hc_14, hden⟩ := bnd_s hden
    refine m_ci (wc := []) (wr := [(a_this, .inr (5, [.int v_thrown, .ref a_this_s, .ref a_this_aside, .ref a_this_saved, .int v_savedMany, .ref a_this_text, .int v_length, .ref a_this_states, .int v_many_2, .int v_at, .int v_isWrong, .int v_letters, .int v_matched, .ref a_this_rows, .int v_manyRows, .long v_digested])), (a_this_states, .inl (cI, 66, .inl v_states_1)), (a_this_s, .inl (cI, 31, .inl v_s))]) (wc' := []) (va_runS (As := [.int p2, .int 0, .int 3]) (rest := [.ref a_this]) ⟨hx, hb, hml, hown, hts⟩ (c_X6_in l D cI cM cL F hc_14) (va_cwS 3 hts gX6_ifFed_X6_in rfl rfl rfl (by decide +kernel) ⟨Nat.le_of_ble_eq_true rfl, Nat.le_of_ble_eq_true rfl⟩) (mPreS hP hD hK hN [] (by decide) rfl) rfl rfl hl.1 rfl (lv_room (Nat.le_of_ble_eq_true rfl)) dX6_ifFed_17 ⟨Nat.le_of_ble_eq_true rfl, Nat.le_of_ble_eq_true rfl⟩) hP hD hS hA [] [0, 1, 2] rfl rfl (by decide) (by decide) (fun H locs hP hD hS => ?_)
    have hP : va_P D vwCl [(a_this, .inr (5, [.int v_thrown, .ref a_this_s, .ref a_this_aside, .ref a_this_saved, .int v_savedMany, .ref a_this_text, .int v_length, .ref a_this_states, .int v_many_2, .int v_at, .int v_isWrong, .int v_letters, .int v_matched, .ref a_this_rows, .int v_manyRows, .long v_digested])), (a_this_states, .inl (cI, 66, .inl v_states_1)), (a_this_s, .inl (cI, 31, .inl v_s))] H := hP
    have hD : va_D A [(a_this, .inr (5, [.int v_thrown, .ref a_this_s, .ref a_this_aside, .ref a_this_saved, .int v_savedMany, .ref a_this_text, .int v_length, .ref a_this_states, .int v_many_2, .int v_at, .int v_isWrong, .int v_letters, .int v_matched, .ref a_this_rows, .int v_manyRows, .long v_digested])), (a_this_states, .inl (cI, 66, .inl v_states_1)), (a_this_s, .inl (cI, 31, .inl v_s))] := hD
    refine lv_if_eq (tgt := 27) hx hb dX6_ifFed_20 (by decide) (fun c_15 => ?_) (fun c_15 => ?_)
    · have hden := if_s hden c_15
      exact hj27 _ _ (mSubP hP [0, 1, 2] rfl) (hD.sub [0, 1, 2] (by decide) rfl) hS ls (lv_sub hl [0, 1, 2] rfl) hden
    · have hden := ifn_s hden c_15
      refine lv_iconst (v := 0) hx hb dX6_ifFed_23 (by decide) ?_
      refine lv_goto (tgt := 28) hx hb dX6_ifFed_24 (by decide) ?_
      exact hj28 0 _ _ (mSubP hP [0, 1, 2] rfl) (hD.sub [0, 1, 2] (by decide) rfl) hS ls (lv_sub hl [0, 1, 2] rfl) hden
def L_X6_lettersOf_26 (F : Nat) (y1 : Int32) (y2 : Int32) (v_s : (Nat → Int32)) : Nat → Int32 → Option (Int32)
  | 0, _ => none
  | n + 1, x3_7 => bnd (D_X6_tail F v_s) (fun r_8 => grd (inb ((0 : Int32) + y1) 31) (bnd (D_X6_beginOf F (v_s ((0 : Int32) + y1).toNatClampNeg) x3_7) (fun r_11 => bnd (D_X6_isEnd F r_8 r_11) (fun r_13 => (if r_13 = 0 then nm (x3_7 + (-1)) (fun x3_15 => L_X6_lettersOf_26 F y1 y2 v_s n x3_15) else some ((y2 - x3_7)))))))
def D_X6_lettersOf (F : Nat) (p1 : Int32) (v_s : (Nat → Int32)) : Option (Int32) := bnd (D_X6_isThere F p1 v_s) (fun r_1 => (if r_1 = 0 then some ((-1)) else grd (inb ((0 : Int32) + p1) 31) (bnd (D_X6_lengthOf F (v_s ((0 : Int32) + p1).toNatClampNeg)) (fun r_4 => nm (r_4 - 1) (fun x3_6 => L_X6_lettersOf_26 F p1 r_4 v_s F x3_6)))))
def rm_X6_lettersOf : Room := { frames := 2, cells := 0, slots := 0, locals := 42 }
set_option maxHeartbeats 4000000 in
set_option maxRecDepth 100000 in
theorem c_X6_lettersOf (l : Launch) (D : va_G) (cI cM cL : ClassId) (F : Nat) {a_this a_this_s a_this_aside a_this_saved a_this_text a_this_states a_this_rows : Nat} {sz : Nat} {v_thrown v_savedMany v_length v_many v_at v_isWrong v_letters v_matched v_manyRows : Int32} {v_digested : Int64} {v_s : Nat → Int32} {p1 : Int32} {r0 : Int32} (hden : D_X6_lettersOf F p1 v_s = some (r0)) : Met l yX6_lettersOf wsX6_lettersOf rm_X6_lettersOf (va_Pc [.ref a_this, .int p1] (mB D (mTy cI cM cL) sz [(a_this, .inr (5, [.int v_thrown, .ref a_this_s, .ref a_this_aside, .ref a_this_saved, .int v_savedMany, .ref a_this_text, .int v_length, .ref a_this_states, .int v_many, .int v_at, .int v_isWrong, .int v_letters, .int v_matched, .ref a_this_rows, .int v_manyRows, .long v_digested])), (a_this_s, .inl (cI, 31, .inl v_s))])) (mQi D (va_A [(a_this, .inr (5, [.int v_thrown, .ref a_this_s, .ref a_this_aside, .ref a_this_saved, .int v_savedMany, .ref a_this_text, .int v_length, .ref a_this_states, .int v_many, .int v_at, .int v_isWrong, .int v_letters, .int v_matched, .ref a_this_rows, .int v_manyRows, .long v_digested])), (a_this_s, .inl (cI, 31, .inl v_s))] sz) [(a_this, .inr (5, [.int v_thrown, .ref a_this_s, .ref a_this_aside, .ref a_this_saved, .int v_savedMany, .ref a_this_text, .int v_length, .ref a_this_states, .int v_many, .int v_at, .int v_isWrong, .int v_letters, .int v_matched, .ref a_this_rows, .int v_manyRows, .long v_digested])), (a_this_s, .inl (cI, 31, .inl v_s))] r0) 0 0 (va_A [(a_this, .inr (5, [.int v_thrown, .ref a_this_s, .ref a_this_aside, .ref a_this_saved, .int v_savedMany, .ref a_this_text, .int v_length, .ref a_this_states, .int v_many, .int v_at, .int v_isWrong, .int v_letters, .int v_matched, .ref a_this_rows, .int v_manyRows, .long v_digested])), (a_this_s, .inl (cI, 31, .inl v_s))] sz) := by
  refine Met.ofW (cc := cX6_lettersOf) (maxL := 4) (ret := (some .int)) (by decide) rfl ?_
  intro p e s m args below meth c s₁ B hml hv
  obtain ⟨rfl, hsz, hP, hK, hN, hD0⟩ := hv
  have hx := B.exec
  have hb := B.bytes
  have hr := B.returns
  have hts := atoms_spec (ws := wsX6_lettersOf) B.pre
  have hown : s.vm.findClass RX6 = some m.cls := findClass_of_methodNamed B.named
  have hlocks := B.notSynchronized
  subst hsz
  have hD := hD0.self (sz := s.heap.size)
  generalize hAe : va_A [(a_this, .inr (5, [.int v_thrown, .ref a_this_s, .ref a_this_aside, .ref a_this_saved, .int v_savedMany, .ref a_this_text, .int v_length, .ref a_this_states, .int v_many, .int v_at, .int v_isWrong, .int v_letters, .int v_matched, .ref a_this_rows, .int v_manyRows, .long v_digested])), (a_this_s, .inl (cI, 31, .inl v_s))] s.heap.size = A at hD ⊢
  have hA : ∀ q : Nat, s.heap.size ≤ q → A q := fun q h => by rw [← hAe]; exact Or.inr h
  have hS : va_S A s.heap s.heap [] := va_S.rf
  have hl := lv_entry ([.ref a_this, .int p1]) (n := 4) (Nat.le_of_ble_eq_true rfl)
  rw [lg_entry_eq]
  generalize (lg_sl ([.ref a_this, .int p1]) ++ List.replicate (4 - (lg_sl ([.ref a_this, .int p1])).length) Slot.unset).toArray = ls at hl ⊢
  have hl : lv_has ls 4 [(0, .ref a_this), (1, .int p1)] := hl
  change W p l e rm_X6_lettersOf s m (([.ref a_this, .int p1] : List Value).toArray) below meth c s.heap [] 0 0 _ (F0 m 0 ls [])
  generalize hQe : MQ below (mQi D A [(a_this, .inr (5, [.int v_thrown, .ref a_this_s, .ref a_this_aside, .ref a_this_saved, .int v_savedMany, .ref a_this_text, .int v_length, .ref a_this_states, .int v_many, .int v_at, .int v_isWrong, .int v_letters, .int v_matched, .ref a_this_rows, .int v_manyRows, .long v_digested])), (a_this_s, .inl (cI, 31, .inl v_s))] r0) (([.ref a_this, .int p1] : List Value).toArray) s 0 0 A = Q
  rw [D_X6_lettersOf] at hden
  have hin_X6 : ∀ w ∈ wsX60, w ∈ wsX6_lettersOf := by decide +kernel
  have w_7 := hts (.fieldLink RX6 7 "FallingPatternsModel" "s" "[I") (by decide +kernel)
  refine lv_aload_n hx hb dX6_lettersOf_0 rfl (lv_at hl 0 rfl) ?_
  refine lv_iload_n hx hb dX6_lettersOf_1 rfl (lv_at hl 1 rfl) ?_
  obtain ⟨r_1, hc_2, hden⟩ := bnd_s hden
  refine m_ci (wc := [(a_this, .inr (5, [.int v_thrown, .ref a_this_s, .ref a_this_aside, .ref a_this_saved, .int v_savedMany, .ref a_this_text, .int v_length, .ref a_this_states, .int v_many, .int v_at, .int v_isWrong, .int v_letters, .int v_matched, .ref a_this_rows, .int v_manyRows, .long v_digested])), (a_this_s, .inl (cI, 31, .inl v_s))]) (wr := []) (wc' := [(a_this, .inr (5, [.int v_thrown, .ref a_this_s, .ref a_this_aside, .ref a_this_saved, .int v_savedMany, .ref a_this_text, .int v_length, .ref a_this_states, .int v_many, .int v_at, .int v_isWrong, .int v_letters, .int v_matched, .ref a_this_rows, .int v_manyRows, .long v_digested])), (a_this_s, .inl (cI, 31, .inl v_s))]) (va_runV (As := [.int p1]) (rest := []) ⟨hx, hb, hml, hown, hts⟩ (c_X6_isThere l D cI cM cL F hc_2) (cwV 1 hts gX6_lettersOf_X6_isThere rfl rfl rfl (by decide +kernel) ⟨Nat.le_of_ble_eq_true rfl, Nat.le_of_ble_eq_true rfl⟩) (mPreV (ci := 5) (q0 := 0) (r := (RX6, TX6, 16)) hP hD hK hN [0, 1] (by decide) rfl rfl rfl) rfl rfl hl.1 rfl (lv_room (Nat.le_of_ble_eq_true rfl)) dX6_lettersOf_2 ⟨Nat.le_of_ble_eq_true rfl, Nat.le_of_ble_eq_true rfl⟩) hP hD hS hA [0, 1] [] rfl rfl (by decide) (by decide) (fun H locs hP hD hS => ?_)
  have hP : va_P D vwCl [(a_this, .inr (5, [.int v_thrown, .ref a_this_s, .ref a_this_aside, .ref a_this_saved, .int v_savedMany, .ref a_this_text, .int v_length, .ref a_this_states, .int v_many, .int v_at, .int v_isWrong, .int v_letters, .int v_matched, .ref a_this_rows, .int v_manyRows, .long v_digested])), (a_this_s, .inl (cI, 31, .inl v_s))] H := hP
  have hD : va_D A [(a_this, .inr (5, [.int v_thrown, .ref a_this_s, .ref a_this_aside, .ref a_this_saved, .int v_savedMany, .ref a_this_text, .int v_length, .ref a_this_states, .int v_many, .int v_at, .int v_isWrong, .int v_letters, .int v_matched, .ref a_this_rows, .int v_manyRows, .long v_digested])), (a_this_s, .inl (cI, 31, .inl v_s))] := hD
  refine lv_if_ne (tgt := 10) hx hb dX6_lettersOf_5 (by decide) (fun c_28 => ?_) (fun c_28 => ?_)
  · have hden := ifn_s hden c_28
    refine lv_aload_n hx hb dX6_lettersOf_10 rfl (lv_at hl 0 rfl) ?_
    refine va_get (D := D) (ci := 5) (v := .ref a_this_s) (C := RX6) (T := TX6) (N := 16) hx hb hts hin_X6 hown hK hP 0 rfl rfl 1 (by decide) w_7 (fun _ h9 => h9) rfl dX6_lettersOf_11 ?_
    refine lv_iconst (v := 0) hx hb dX6_lettersOf_14 (by decide) ?_
    refine lv_iload_n hx hb dX6_lettersOf_15 rfl (lv_at hl 1 rfl) ?_
    refine lv_iadd hx hb dX6_lettersOf_16 ?_
    obtain ⟨hg_3, hden⟩ := grd_s hden
    refine va_iald hx hb hK hP 1 0 rfl rfl (inb_in hg_3) dX6_lettersOf_17 ?_
    obtain ⟨r_4, hc_5, hden⟩ := bnd_s hden
    refine m_ci (wc := []) (wr := [(a_this, .inr (5, [.int v_thrown, .ref a_this_s, .ref a_this_aside, .ref a_this_saved, .int v_savedMany, .ref a_this_text, .int v_length, .ref a_this_states, .int v_many, .int v_at, .int v_isWrong, .int v_letters, .int v_matched, .ref a_this_rows, .int v_manyRows, .long v_digested])), (a_this_s, .inl (cI, 31, .inl v_s))]) (wc' := []) (va_runS (As := [.int (v_s ((0 : Int32) + p1).toNatClampNeg)]) (rest := []) ⟨hx, hb, hml, hown, hts⟩ (c_X6_lengthOf l D cI cM cL F hc_5) (va_cwS 1 hts gX6_lettersOf_X6_lengthOf rfl rfl rfl (by decide +kernel) ⟨Nat.le_of_ble_eq_true rfl, Nat.le_of_ble_eq_true rfl⟩) (mPreS hP hD hK hN [] (by decide) rfl) rfl rfl hl.1 rfl (lv_room (Nat.le_of_ble_eq_true rfl)) dX6_lettersOf_18 ⟨Nat.le_of_ble_eq_true rfl, Nat.le_of_ble_eq_true rfl⟩) hP hD hS hA [] [0, 1] rfl rfl (by decide) (by decide) (fun H locs hP hD hS => ?_)
    have hP : va_P D vwCl [(a_this, .inr (5, [.int v_thrown, .ref a_this_s, .ref a_this_aside, .ref a_this_saved, .int v_savedMany, .ref a_this_text, .int v_length, .ref a_this_states, .int v_many, .int v_at, .int v_isWrong, .int v_letters, .int v_matched, .ref a_this_rows, .int v_manyRows, .long v_digested])), (a_this_s, .inl (cI, 31, .inl v_s))] H := hP
    have hD : va_D A [(a_this, .inr (5, [.int v_thrown, .ref a_this_s, .ref a_this_aside, .ref a_this_saved, .int v_savedMany, .ref a_this_text, .int v_length, .ref a_this_states, .int v_many, .int v_at, .int v_isWrong, .int v_letters, .int v_matched, .ref a_this_rows, .int v_manyRows, .long v_digested])), (a_this_s, .inl (cI, 31, .inl v_s))] := hD
    refine lv_istore_n (lv' := [(2, .int r_4), (0, .ref a_this), (1, .int p1)]) hx hb dX6_lettersOf_21 rfl hl (by decide) rfl (fun ls hl => ?_)
    refine lv_iload_n hx hb dX6_lettersOf_22 rfl (lv_at hl 0 rfl) ?_
    refine lv_iconst (v := 1) hx hb dX6_lettersOf_23 (by decide) ?_
    refine lv_isub hx hb dX6_lettersOf_24 ?_
    refine lv_topi (fun x3_6 ex3_6 => ?_)
    have hden := nm_s hden ex3_6
    refine lv_istore_n (lv' := [(3, .int x3_6), (2, .int r_4), (0, .ref a_this), (1, .int p1)]) hx hb dX6_lettersOf_25 rfl hl (by decide) rfl (fun ls hl => ?_)
    have hL26__18 : ∀ (n : Nat) (x3_17 : Int32) (H : Heap) (locs : List Loc), va_P D vwCl [(a_this, .inr (5, [.int v_thrown, .ref a_this_s, .ref a_this_aside, .ref a_this_saved, .int v_savedMany, .ref a_this_text, .int v_length, .ref a_this_states, .int v_many, .int v_at, .int v_isWrong, .int v_letters, .int v_matched, .ref a_this_rows, .int v_manyRows, .long v_digested])), (a_this_s, .inl (cI, 31, .inl v_s))] H → va_D A [(a_this, .inr (5, [.int v_thrown, .ref a_this_s, .ref a_this_aside, .ref a_this_saved, .int v_savedMany, .ref a_this_text, .int v_length, .ref a_this_states, .int v_many, .int v_at, .int v_isWrong, .int v_letters, .int v_matched, .ref a_this_rows, .int v_manyRows, .long v_digested])), (a_this_s, .inl (cI, 31, .inl v_s))] → va_S A s.heap H locs → ∀ ls : Array Slot, lv_has ls 4 [(0, .ref a_this), (1, .int p1), (2, .int r_4), (3, .int x3_17)] → L_X6_lettersOf_26 F p1 r_4 v_s n x3_17 = some (r0) → W p l e rm_X6_lettersOf s m (([.ref a_this, .int p1] : List Value).toArray) below meth c H locs 0 0 Q (F0 m 26 ls []) := by
      intro n
      induction n with
      | zero => intro x3_17 H locs hP hD hS ls hl hden; exact no_none hden
      | succ n ih =>
        intro x3_17 H locs hP hD hS ls hl hden
        rw [L_X6_lettersOf_26] at hden
        refine lv_aload_n hx hb dX6_lettersOf_26 rfl (lv_at hl 0 rfl) ?_
        obtain ⟨r_19, hc_20, hden⟩ := bnd_s hden
        refine m_ci (wc := [(a_this, .inr (5, [.int v_thrown, .ref a_this_s, .ref a_this_aside, .ref a_this_saved, .int v_savedMany, .ref a_this_text, .int v_length, .ref a_this_states, .int v_many, .int v_at, .int v_isWrong, .int v_letters, .int v_matched, .ref a_this_rows, .int v_manyRows, .long v_digested])), (a_this_s, .inl (cI, 31, .inl v_s))]) (wr := []) (wc' := [(a_this, .inr (5, [.int v_thrown, .ref a_this_s, .ref a_this_aside, .ref a_this_saved, .int v_savedMany, .ref a_this_text, .int v_length, .ref a_this_states, .int v_many, .int v_at, .int v_isWrong, .int v_letters, .int v_matched, .ref a_this_rows, .int v_manyRows, .long v_digested])), (a_this_s, .inl (cI, 31, .inl v_s))]) (va_runV (As := []) (rest := []) ⟨hx, hb, hml, hown, hts⟩ (c_X6_tail l D cI cM cL F hc_20) (cwV 0 hts gX6_lettersOf_X6_tail rfl rfl rfl (by decide +kernel) ⟨Nat.le_of_ble_eq_true rfl, Nat.le_of_ble_eq_true rfl⟩) (mPreV (ci := 5) (q0 := 0) (r := (RX6, TX6, 16)) hP hD hK hN [0, 1] (by decide) rfl rfl rfl) rfl rfl hl.1 rfl (lv_room (Nat.le_of_ble_eq_true rfl)) dX6_lettersOf_27 ⟨Nat.le_of_ble_eq_true rfl, Nat.le_of_ble_eq_true rfl⟩) hP hD hS hA [0, 1] [] rfl rfl (by decide) (by decide) (fun H locs hP hD hS => ?_)
        have hP : va_P D vwCl [(a_this, .inr (5, [.int v_thrown, .ref a_this_s, .ref a_this_aside, .ref a_this_saved, .int v_savedMany, .ref a_this_text, .int v_length, .ref a_this_states, .int v_many, .int v_at, .int v_isWrong, .int v_letters, .int v_matched, .ref a_this_rows, .int v_manyRows, .long v_digested])), (a_this_s, .inl (cI, 31, .inl v_s))] H := hP
        have hD : va_D A [(a_this, .inr (5, [.int v_thrown, .ref a_this_s, .ref a_this_aside, .ref a_this_saved, .int v_savedMany, .ref a_this_text, .int v_length, .ref a_this_states, .int v_many, .int v_at, .int v_isWrong, .int v_letters, .int v_matched, .ref a_this_rows, .int v_manyRows, .long v_digested])), (a_this_s, .inl (cI, 31, .inl v_s))] := hD
        refine lv_aload_n hx hb dX6_lettersOf_30 rfl (lv_at hl 0 rfl) ?_
        refine va_get (D := D) (ci := 5) (v := .ref a_this_s) (C := RX6) (T := TX6) (N := 16) hx hb hts hin_X6 hown hK hP 0 rfl rfl 1 (by decide) w_7 (fun _ h9 => h9) rfl dX6_lettersOf_31 ?_
        refine lv_iconst (v := 0) hx hb dX6_lettersOf_34 (by decide) ?_
        refine lv_iload_n hx hb dX6_lettersOf_35 rfl (lv_at hl 1 rfl) ?_
        refine lv_iadd hx hb dX6_lettersOf_36 ?_
        obtain ⟨hg_21, hden⟩ := grd_s hden
        refine va_iald hx hb hK hP 1 0 rfl rfl (inb_in hg_21) dX6_lettersOf_37 ?_
        refine lv_iload_n hx hb dX6_lettersOf_38 rfl (lv_at hl 3 rfl) ?_
        obtain ⟨r_22, hc_23, hden⟩ := bnd_s hden
        refine m_ci (wc := []) (wr := [(a_this, .inr (5, [.int v_thrown, .ref a_this_s, .ref a_this_aside, .ref a_this_saved, .int v_savedMany, .ref a_this_text, .int v_length, .ref a_this_states, .int v_many, .int v_at, .int v_isWrong, .int v_letters, .int v_matched, .ref a_this_rows, .int v_manyRows, .long v_digested])), (a_this_s, .inl (cI, 31, .inl v_s))]) (wc' := []) (va_runS (As := [.int (v_s ((0 : Int32) + p1).toNatClampNeg), .int x3_17]) (rest := [.int r_19]) ⟨hx, hb, hml, hown, hts⟩ (c_X6_beginOf l D cI cM cL F hc_23) (va_cwS 2 hts gX6_lettersOf_X6_beginOf rfl rfl rfl (by decide +kernel) ⟨Nat.le_of_ble_eq_true rfl, Nat.le_of_ble_eq_true rfl⟩) (mPreS hP hD hK hN [] (by decide) rfl) rfl rfl hl.1 rfl (lv_room (Nat.le_of_ble_eq_true rfl)) dX6_lettersOf_39 ⟨Nat.le_of_ble_eq_true rfl, Nat.le_of_ble_eq_true rfl⟩) hP hD hS hA [] [0, 1] rfl rfl (by decide) (by decide) (fun H locs hP hD hS => ?_)
        have hP : va_P D vwCl [(a_this, .inr (5, [.int v_thrown, .ref a_this_s, .ref a_this_aside, .ref a_this_saved, .int v_savedMany, .ref a_this_text, .int v_length, .ref a_this_states, .int v_many, .int v_at, .int v_isWrong, .int v_letters, .int v_matched, .ref a_this_rows, .int v_manyRows, .long v_digested])), (a_this_s, .inl (cI, 31, .inl v_s))] H := hP
        have hD : va_D A [(a_this, .inr (5, [.int v_thrown, .ref a_this_s, .ref a_this_aside, .ref a_this_saved, .int v_savedMany, .ref a_this_text, .int v_length, .ref a_this_states, .int v_many, .int v_at, .int v_isWrong, .int v_letters, .int v_matched, .ref a_this_rows, .int v_manyRows, .long v_digested])), (a_this_s, .inl (cI, 31, .inl v_s))] := hD
        obtain ⟨r_24, hc_25, hden⟩ := bnd_s hden
        refine m_ci (wc := []) (wr := [(a_this, .inr (5, [.int v_thrown, .ref a_this_s, .ref a_this_aside, .ref a_this_saved, .int v_savedMany, .ref a_this_text, .int v_length, .ref a_this_states, .int v_many, .int v_at, .int v_isWrong, .int v_letters, .int v_matched, .ref a_this_rows, .int v_manyRows, .long v_digested])), (a_this_s, .inl (cI, 31, .inl v_s))]) (wc' := []) (va_runS (As := [.int r_19, .int r_22]) (rest := []) ⟨hx, hb, hml, hown, hts⟩ (c_X6_isEnd l D cI cM cL F hc_25) (va_cwS 2 hts gX6_lettersOf_X6_isEnd rfl rfl rfl (by decide +kernel) ⟨Nat.le_of_ble_eq_true rfl, Nat.le_of_ble_eq_true rfl⟩) (mPreS hP hD hK hN [] (by decide) rfl) rfl rfl hl.1 rfl (lv_room (Nat.le_of_ble_eq_true rfl)) dX6_lettersOf_42 ⟨Nat.le_of_ble_eq_true rfl, Nat.le_of_ble_eq_true rfl⟩) hP hD hS hA [] [0, 1] rfl rfl (by decide) (by decide) (fun H locs hP hD hS => ?_)
        have hP : va_P D vwCl [(a_this, .inr (5, [.int v_thrown, .ref a_this_s, .ref a_this_aside, .ref a_this_saved, .int v_savedMany, .ref a_this_text, .int v_length, .ref a_this_states, .int v_many, .int v_at, .int v_isWrong, .int v_letters, .int v_matched, .ref a_this_rows, .int v_manyRows, .long v_digested])), (a_this_s, .inl (cI, 31, .inl v_s))] H := hP
        have hD : va_D A [(a_this, .inr (5, [.int v_thrown, .ref a_this_s, .ref a_this_aside, .ref a_this_saved, .int v_savedMany, .ref a_this_text, .int v_length, .ref a_this_states, .int v_many, .int v_at, .int v_isWrong, .int v_letters, .int v_matched, .ref a_this_rows, .int v_manyRows, .long v_digested])), (a_this_s, .inl (cI, 31, .inl v_s))] := hD
        refine lv_if_ne (tgt := 54) hx hb dX6_lettersOf_45 (by decide) (fun c_27 => ?_) (fun c_27 => ?_)
        · have hden := ifn_s hden c_27
          refine lv_iload_n hx hb dX6_lettersOf_54 rfl (lv_at hl 2 rfl) ?_
          refine lv_iload_n hx hb dX6_lettersOf_55 rfl (lv_at hl 3 rfl) ?_
          refine lv_isub hx hb dX6_lettersOf_56 ?_
          subst hQe
          cases hden
          exact m_ri hx hb hr hP hD hS [0, 1] (by decide) rfl rfl dX6_lettersOf_57 hlocks
        · have hden := if_s hden c_27
          obtain ⟨x3_26, ex3_26, hden⟩ := nm_x hden
          refine lv_iinc (v := x3_26) (lv' := [(3, .int x3_26), (0, .ref a_this), (1, .int p1), (2, .int r_4)]) hx hb dX6_lettersOf_48 hl (k := 3) rfl (by rw [ex3_26]; rfl) (by decide) rfl (fun ls hl => ?_)
          refine lv_goto (tgt := 26) hx hb dX6_lettersOf_51 (by decide) ?_
          exact ih x3_26 _ _ (mSubP hP [0, 1] rfl) (hD.sub [0, 1] (by decide) rfl) hS ls (lv_sub hl [1, 2, 3, 0] rfl) hden
    exact hL26__18 F x3_6 _ _ (mSubP hP [0, 1] rfl) (hD.sub [0, 1] (by decide) rfl) hS ls (lv_sub hl [2, 3, 1, 0] rfl) hden
  · have hden := if_s hden c_28
    refine lv_iconst (v := (-1)) hx hb dX6_lettersOf_8 (by decide) ?_
    subst hQe
    cases hden
    exact m_ri hx hb hr hP hD hS [0, 1] (by decide) rfl rfl dX6_lettersOf_9 hlocks
def D_X6_lettersTo (F : Nat) (p1 : Int32) (v_thrown : Int32) (v_s : (Nat → Int32)) : Option (Int32 × Int32) := bnd (D_X6_in F p1 0 7) (fun r_1 => jp (fun (t_3 : Int32) => bnd (D_X6_holds F t_3 v_thrown) (fun (r_4, v_thrown_5) => (if r_4 = 0 then some (0, v_thrown_5) else bnd (D_X6_lettersOf F p1 v_s) (fun r_7 => some (r_7, v_thrown_5))))) (fun j16 => (if r_1 = 0 then j16 1 else j16 0)))
def rm_X6_lettersTo : Room := { frames := 3, cells := 0, slots := 0, locals := 65 }
set_option maxHeartbeats 4000000 in
set_option maxRecDepth 100000 in
theorem c_X6_lettersTo (l : Launch) (D : va_G) (cI cM cL : ClassId) (F : Nat) {a_this a_this_s a_this_aside a_this_saved a_this_text a_this_states a_this_rows : Nat} {sz : Nat} {v_thrown v_savedMany v_length v_many v_at v_isWrong v_letters v_matched v_manyRows : Int32} {v_digested : Int64} {v_s : Nat → Int32} {p1 : Int32} {r0 : Int32} {w_thrown : Int32} (hden : D_X6_lettersTo F p1 v_thrown v_s = some (r0, w_thrown)) : Met l yX6_lettersTo wsX6_lettersTo rm_X6_lettersTo (va_Pc [.ref a_this, .int p1] (mB D (mTy cI cM cL) sz [(a_this, .inr (5, [.int v_thrown, .ref a_this_s, .ref a_this_aside, .ref a_this_saved, .int v_savedMany, .ref a_this_text, .int v_length, .ref a_this_states, .int v_many, .int v_at, .int v_isWrong, .int v_letters, .int v_matched, .ref a_this_rows, .int v_manyRows, .long v_digested])), (a_this_s, .inl (cI, 31, .inl v_s))])) (mQi D (va_A [(a_this, .inr (5, [.int v_thrown, .ref a_this_s, .ref a_this_aside, .ref a_this_saved, .int v_savedMany, .ref a_this_text, .int v_length, .ref a_this_states, .int v_many, .int v_at, .int v_isWrong, .int v_letters, .int v_matched, .ref a_this_rows, .int v_manyRows, .long v_digested])), (a_this_s, .inl (cI, 31, .inl v_s))] sz) [(a_this, .inr (5, [.int w_thrown, .ref a_this_s, .ref a_this_aside, .ref a_this_saved, .int v_savedMany, .ref a_this_text, .int v_length, .ref a_this_states, .int v_many, .int v_at, .int v_isWrong, .int v_letters, .int v_matched, .ref a_this_rows, .int v_manyRows, .long v_digested])), (a_this_s, .inl (cI, 31, .inl v_s))] r0) 0 0 (va_A [(a_this, .inr (5, [.int v_thrown, .ref a_this_s, .ref a_this_aside, .ref a_this_saved, .int v_savedMany, .ref a_this_text, .int v_length, .ref a_this_states, .int v_many, .int v_at, .int v_isWrong, .int v_letters, .int v_matched, .ref a_this_rows, .int v_manyRows, .long v_digested])), (a_this_s, .inl (cI, 31, .inl v_s))] sz) := by
  refine Met.ofW (cc := cX6_lettersTo) (maxL := 2) (ret := (some .int)) (by decide) rfl ?_
  intro p e s m args below meth c s₁ B hml hv
  obtain ⟨rfl, hsz, hP, hK, hN, hD0⟩ := hv
  have hx := B.exec
  have hb := B.bytes
  have hr := B.returns
  have hts := atoms_spec (ws := wsX6_lettersTo) B.pre
  have hown : s.vm.findClass RX6 = some m.cls := findClass_of_methodNamed B.named
  have hlocks := B.notSynchronized
  subst hsz
  have hD := hD0.self (sz := s.heap.size)
  generalize hAe : va_A [(a_this, .inr (5, [.int v_thrown, .ref a_this_s, .ref a_this_aside, .ref a_this_saved, .int v_savedMany, .ref a_this_text, .int v_length, .ref a_this_states, .int v_many, .int v_at, .int v_isWrong, .int v_letters, .int v_matched, .ref a_this_rows, .int v_manyRows, .long v_digested])), (a_this_s, .inl (cI, 31, .inl v_s))] s.heap.size = A at hD ⊢
  have hA : ∀ q : Nat, s.heap.size ≤ q → A q := fun q h => by rw [← hAe]; exact Or.inr h
  have hS : va_S A s.heap s.heap [] := va_S.rf
  have hl := lv_entry ([.ref a_this, .int p1]) (n := 2) (Nat.le_of_ble_eq_true rfl)
  rw [lg_entry_eq]
  generalize (lg_sl ([.ref a_this, .int p1]) ++ List.replicate (2 - (lg_sl ([.ref a_this, .int p1])).length) Slot.unset).toArray = ls at hl ⊢
  have hl : lv_has ls 2 [(0, .ref a_this), (1, .int p1)] := hl
  change W p l e rm_X6_lettersTo s m (([.ref a_this, .int p1] : List Value).toArray) below meth c s.heap [] 0 0 _ (F0 m 0 ls [])
  generalize hQe : MQ below (mQi D A [(a_this, .inr (5, [.int w_thrown, .ref a_this_s, .ref a_this_aside, .ref a_this_saved, .int v_savedMany, .ref a_this_text, .int v_length, .ref a_this_states, .int v_many, .int v_at, .int v_isWrong, .int v_letters, .int v_matched, .ref a_this_rows, .int v_manyRows, .long v_digested])), (a_this_s, .inl (cI, 31, .inl v_s))] r0) (([.ref a_this, .int p1] : List Value).toArray) s 0 0 A = Q
  rw [D_X6_lettersTo] at hden
  refine lv_aload_n hx hb dX6_lettersTo_0 rfl (lv_at hl 0 rfl) ?_
  refine lv_iload_n hx hb dX6_lettersTo_1 rfl (lv_at hl 1 rfl) ?_
  refine lv_iconst (v := 0) hx hb dX6_lettersTo_2 (by decide) ?_
  refine lv_bipush (v := 7) hx hb dX6_lettersTo_3 (by decide) ?_
  obtain ⟨r_1, hc_2, hden⟩ := bnd_s hden
  refine m_ci (wc := []) (wr := [(a_this, .inr (5, [.int v_thrown, .ref a_this_s, .ref a_this_aside, .ref a_this_saved, .int v_savedMany, .ref a_this_text, .int v_length, .ref a_this_states, .int v_many, .int v_at, .int v_isWrong, .int v_letters, .int v_matched, .ref a_this_rows, .int v_manyRows, .long v_digested])), (a_this_s, .inl (cI, 31, .inl v_s))]) (wc' := []) (va_runS (As := [.int p1, .int 0, .int 7]) (rest := [.ref a_this]) ⟨hx, hb, hml, hown, hts⟩ (c_X6_in l D cI cM cL F hc_2) (va_cwS 3 hts gX6_lettersTo_X6_in rfl rfl rfl (by decide +kernel) ⟨Nat.le_of_ble_eq_true rfl, Nat.le_of_ble_eq_true rfl⟩) (mPreS hP hD hK hN [] (by decide) rfl) rfl rfl hl.1 rfl (lv_room (Nat.le_of_ble_eq_true rfl)) dX6_lettersTo_5 ⟨Nat.le_of_ble_eq_true rfl, Nat.le_of_ble_eq_true rfl⟩) hP hD hS hA [] [0, 1] rfl rfl (by decide) (by decide) (fun H locs hP hD hS => ?_)
  have hP : va_P D vwCl [(a_this, .inr (5, [.int v_thrown, .ref a_this_s, .ref a_this_aside, .ref a_this_saved, .int v_savedMany, .ref a_this_text, .int v_length, .ref a_this_states, .int v_many, .int v_at, .int v_isWrong, .int v_letters, .int v_matched, .ref a_this_rows, .int v_manyRows, .long v_digested])), (a_this_s, .inl (cI, 31, .inl v_s))] H := hP
  have hD : va_D A [(a_this, .inr (5, [.int v_thrown, .ref a_this_s, .ref a_this_aside, .ref a_this_saved, .int v_savedMany, .ref a_this_text, .int v_length, .ref a_this_states, .int v_many, .int v_at, .int v_isWrong, .int v_letters, .int v_matched, .ref a_this_rows, .int v_manyRows, .long v_digested])), (a_this_s, .inl (cI, 31, .inl v_s))] := hD
  obtain ⟨j16, ej16, hden⟩ := jp_s hden
  have hj16 : ∀ (t_3 : Int32) (H : Heap) (locs : List Loc), va_P D vwCl [(a_this, .inr (5, [.int v_thrown, .ref a_this_s, .ref a_this_aside, .ref a_this_saved, .int v_savedMany, .ref a_this_text, .int v_length, .ref a_this_states, .int v_many, .int v_at, .int v_isWrong, .int v_letters, .int v_matched, .ref a_this_rows, .int v_manyRows, .long v_digested])), (a_this_s, .inl (cI, 31, .inl v_s))] H → va_D A [(a_this, .inr (5, [.int v_thrown, .ref a_this_s, .ref a_this_aside, .ref a_this_saved, .int v_savedMany, .ref a_this_text, .int v_length, .ref a_this_states, .int v_many, .int v_at, .int v_isWrong, .int v_letters, .int v_matched, .ref a_this_rows, .int v_manyRows, .long v_digested])), (a_this_s, .inl (cI, 31, .inl v_s))] → va_S A s.heap H locs → ∀ ls : Array Slot, lv_has ls 2 [(0, .ref a_this), (1, .int p1)] → j16 t_3 = some (r0, w_thrown) → W p l e rm_X6_lettersTo s m (([.ref a_this, .int p1] : List Value).toArray) below meth c H locs 0 0 Q (F0 m 16 ls [.int t_3, .ref a_this]) := by
    intro t_3 H locs hP hD hS ls hl hden
    rw [ej16] at hden
    obtain ⟨⟨r_4, v_thrown_5⟩, hc_6, hden⟩ := bnd_s hden
    refine m_ci (wc := [(a_this, .inr (5, [.int v_thrown, .ref a_this_s, .ref a_this_aside, .ref a_this_saved, .int v_savedMany, .ref a_this_text, .int v_length, .ref a_this_states, .int v_many, .int v_at, .int v_isWrong, .int v_letters, .int v_matched, .ref a_this_rows, .int v_manyRows, .long v_digested]))]) (wr := [(a_this_s, .inl (cI, 31, .inl v_s))]) (wc' := [(a_this, .inr (5, [.int v_thrown_5, .ref a_this_s, .ref a_this_aside, .ref a_this_saved, .int v_savedMany, .ref a_this_text, .int v_length, .ref a_this_states, .int v_many, .int v_at, .int v_isWrong, .int v_letters, .int v_matched, .ref a_this_rows, .int v_manyRows, .long v_digested]))]) (va_runV (As := [.int t_3]) (rest := []) ⟨hx, hb, hml, hown, hts⟩ (c_X6_holds l D cI cM cL F hc_6) (cwV 1 hts gX6_lettersTo_X6_holds rfl rfl rfl (by decide +kernel) ⟨Nat.le_of_ble_eq_true rfl, Nat.le_of_ble_eq_true rfl⟩) (mPreV (ci := 5) (q0 := 0) (r := (RX6, TX6, 16)) hP hD hK hN [0] (by decide) rfl rfl rfl) rfl rfl hl.1 rfl (lv_room (Nat.le_of_ble_eq_true rfl)) dX6_lettersTo_16 ⟨Nat.le_of_ble_eq_true rfl, Nat.le_of_ble_eq_true rfl⟩) hP hD hS hA [0] [1] rfl rfl (by decide) (by decide) (fun H locs hP hD hS => ?_)
    have hP : va_P D vwCl [(a_this_s, .inl (cI, 31, .inl v_s)), (a_this, .inr (5, [.int v_thrown_5, .ref a_this_s, .ref a_this_aside, .ref a_this_saved, .int v_savedMany, .ref a_this_text, .int v_length, .ref a_this_states, .int v_many, .int v_at, .int v_isWrong, .int v_letters, .int v_matched, .ref a_this_rows, .int v_manyRows, .long v_digested]))] H := hP
    have hD : va_D A [(a_this_s, .inl (cI, 31, .inl v_s)), (a_this, .inr (5, [.int v_thrown_5, .ref a_this_s, .ref a_this_aside, .ref a_this_saved, .int v_savedMany, .ref a_this_text, .int v_length, .ref a_this_states, .int v_many, .int v_at, .int v_isWrong, .int v_letters, .int v_matched, .ref a_this_rows, .int v_manyRows, .long v_digested]))] := hD
    refine lv_if_eq (tgt := 30) hx hb dX6_lettersTo_19 (by decide) (fun c_9 => ?_) (fun c_9 => ?_)
    · have hden := if_s hden c_9
      refine lv_iconst (v := 0) hx hb dX6_lettersTo_30 (by decide) ?_
      subst hQe
      cases hden
      exact m_ri hx hb hr hP hD hS [1, 0] (by decide) rfl rfl dX6_lettersTo_31 hlocks
    · have hden := ifn_s hden c_9
      refine lv_aload_n hx hb dX6_lettersTo_22 rfl (lv_at hl 0 rfl) ?_
      refine lv_iload_n hx hb dX6_lettersTo_23 rfl (lv_at hl 1 rfl) ?_
      obtain ⟨r_7, hc_8, hden⟩ := bnd_s hden
      refine m_ci (wc := [(a_this, .inr (5, [.int v_thrown_5, .ref a_this_s, .ref a_this_aside, .ref a_this_saved, .int v_savedMany, .ref a_this_text, .int v_length, .ref a_this_states, .int v_many, .int v_at, .int v_isWrong, .int v_letters, .int v_matched, .ref a_this_rows, .int v_manyRows, .long v_digested])), (a_this_s, .inl (cI, 31, .inl v_s))]) (wr := []) (wc' := [(a_this, .inr (5, [.int v_thrown_5, .ref a_this_s, .ref a_this_aside, .ref a_this_saved, .int v_savedMany, .ref a_this_text, .int v_length, .ref a_this_states, .int v_many, .int v_at, .int v_isWrong, .int v_letters, .int v_matched, .ref a_this_rows, .int v_manyRows, .long v_digested])), (a_this_s, .inl (cI, 31, .inl v_s))]) (va_runV (As := [.int p1]) (rest := []) ⟨hx, hb, hml, hown, hts⟩ (c_X6_lettersOf l D cI cM cL F hc_8) (cwV 1 hts gX6_lettersTo_X6_lettersOf rfl rfl rfl (by decide +kernel) ⟨Nat.le_of_ble_eq_true rfl, Nat.le_of_ble_eq_true rfl⟩) (mPreV (ci := 5) (q0 := 0) (r := (RX6, TX6, 16)) hP hD hK hN [1, 0] (by decide) rfl rfl rfl) rfl rfl hl.1 rfl (lv_room (Nat.le_of_ble_eq_true rfl)) dX6_lettersTo_24 ⟨Nat.le_of_ble_eq_true rfl, Nat.le_of_ble_eq_true rfl⟩) hP hD hS hA [1, 0] [] rfl rfl (by decide) (by decide) (fun H locs hP hD hS => ?_)
      have hP : va_P D vwCl [(a_this, .inr (5, [.int v_thrown_5, .ref a_this_s, .ref a_this_aside, .ref a_this_saved, .int v_savedMany, .ref a_this_text, .int v_length, .ref a_this_states, .int v_many, .int v_at, .int v_isWrong, .int v_letters, .int v_matched, .ref a_this_rows, .int v_manyRows, .long v_digested])), (a_this_s, .inl (cI, 31, .inl v_s))] H := hP
      have hD : va_D A [(a_this, .inr (5, [.int v_thrown_5, .ref a_this_s, .ref a_this_aside, .ref a_this_saved, .int v_savedMany, .ref a_this_text, .int v_length, .ref a_this_states, .int v_many, .int v_at, .int v_isWrong, .int v_letters, .int v_matched, .ref a_this_rows, .int v_manyRows, .long v_digested])), (a_this_s, .inl (cI, 31, .inl v_s))] := hD
      refine lv_goto (tgt := 31) hx hb dX6_lettersTo_27 (by decide) ?_
      subst hQe
      cases hden
      exact m_ri hx hb hr hP hD hS [0, 1] (by decide) rfl rfl dX6_lettersTo_31 hlocks
  clear ej16
  refine lv_if_eq (tgt := 15) hx hb dX6_lettersTo_8 (by decide) (fun c_10 => ?_) (fun c_10 => ?_)
  · have hden := if_s hden c_10
    refine lv_iconst (v := 1) hx hb dX6_lettersTo_15 (by decide) ?_
    exact hj16 1 _ _ (mSubP hP [0, 1] rfl) (hD.sub [0, 1] (by decide) rfl) hS ls (lv_sub hl [0, 1] rfl) hden
  · have hden := ifn_s hden c_10
    refine lv_iconst (v := 0) hx hb dX6_lettersTo_11 (by decide) ?_
    refine lv_goto (tgt := 16) hx hb dX6_lettersTo_12 (by decide) ?_
    exact hj16 0 _ _ (mSubP hP [0, 1] rfl) (hD.sub [0, 1] (by decide) rfl) hS ls (lv_sub hl [0, 1] rfl) hden
def L_X6_repeated_9 (F : Nat) (k29 : Int32 → (Nat → Int32) → Option (Int32 × (Nat → Int32) × (Nat → Int32))) (y1 : Int32) (y2 : Int32) : Nat → Int32 → Int32 → (Nat → Int32) → Option (Int32 × (Nat → Int32) × (Nat → Int32))
  | 0, _, _, _ => none
  | n + 1, x3_3, x4_4, v_s_5 => (if y2 ≤ x4_4 then k29 x3_3 v_s_5 else bnd (D_X6_reads F y1 v_s_5) (fun (r_6, v_s_7) => nm (x3_3 + r_6) (fun x3_9 => nm (x4_4 + 1) (fun x4_10 => L_X6_repeated_9 F k29 y1 y2 n x3_9 x4_10 v_s_7))))
def D_X6_repeated (F : Nat) (p1 : Int32) (p2 : Int32) (v_s : (Nat → Int32)) (v_aside : (Nat → Int32)) : Option (Int32 × (Nat → Int32) × (Nat → Int32)) := bnd (D_X6_putAside F v_s v_aside) (fun v_aside_1 => L_X6_repeated_9 F (fun (x3_15 : Int32) (v_s_16 : (Nat → Int32)) => bnd (D_X6_putBack F v_aside_1 v_s_16) (fun v_s_24 => some (x3_15, v_aside_1, v_s_24))) p1 p2 F 0 0 v_s)
def rm_X6_repeated : Room := { frames := 9, cells := 0, slots := 0, locals := 201 }
set_option maxHeartbeats 4000000 in
set_option maxRecDepth 100000 in
theorem c_X6_repeated (l : Launch) (D : va_G) (cI cM cL : ClassId) (F : Nat) {a_this a_this_s a_this_aside a_this_saved a_this_text a_this_states a_this_rows : Nat} {sz : Nat} {v_thrown v_savedMany v_length v_many v_at v_isWrong v_letters v_matched v_manyRows : Int32} {v_digested : Int64} {v_s v_aside : Nat → Int32} {p1 : Int32} {p2 : Int32} {r0 : Int32} {w_aside : (Nat → Int32)} {w_s : (Nat → Int32)} (hden : D_X6_repeated F p1 p2 v_s v_aside = some (r0, w_aside, w_s)) : Met l yX6_repeated wsX6_repeated rm_X6_repeated (va_Pc [.ref a_this, .int p1, .int p2] (mB D (mTy cI cM cL) sz [(a_this, .inr (5, [.int v_thrown, .ref a_this_s, .ref a_this_aside, .ref a_this_saved, .int v_savedMany, .ref a_this_text, .int v_length, .ref a_this_states, .int v_many, .int v_at, .int v_isWrong, .int v_letters, .int v_matched, .ref a_this_rows, .int v_manyRows, .long v_digested])), (a_this_s, .inl (cI, 31, .inl v_s)), (a_this_aside, .inl (cI, 31, .inl v_aside))])) (mQi D (va_A [(a_this, .inr (5, [.int v_thrown, .ref a_this_s, .ref a_this_aside, .ref a_this_saved, .int v_savedMany, .ref a_this_text, .int v_length, .ref a_this_states, .int v_many, .int v_at, .int v_isWrong, .int v_letters, .int v_matched, .ref a_this_rows, .int v_manyRows, .long v_digested])), (a_this_s, .inl (cI, 31, .inl v_s)), (a_this_aside, .inl (cI, 31, .inl v_aside))] sz) [(a_this, .inr (5, [.int v_thrown, .ref a_this_s, .ref a_this_aside, .ref a_this_saved, .int v_savedMany, .ref a_this_text, .int v_length, .ref a_this_states, .int v_many, .int v_at, .int v_isWrong, .int v_letters, .int v_matched, .ref a_this_rows, .int v_manyRows, .long v_digested])), (a_this_s, .inl (cI, 31, .inl w_s)), (a_this_aside, .inl (cI, 31, .inl w_aside))] r0) 0 0 (va_A [(a_this, .inr (5, [.int v_thrown, .ref a_this_s, .ref a_this_aside, .ref a_this_saved, .int v_savedMany, .ref a_this_text, .int v_length, .ref a_this_states, .int v_many, .int v_at, .int v_isWrong, .int v_letters, .int v_matched, .ref a_this_rows, .int v_manyRows, .long v_digested])), (a_this_s, .inl (cI, 31, .inl v_s)), (a_this_aside, .inl (cI, 31, .inl v_aside))] sz) := by
  refine Met.ofW (cc := cX6_repeated) (maxL := 5) (ret := (some .int)) (by decide) rfl ?_
  intro p e s m args below meth c s₁ B hml hv
  obtain ⟨rfl, hsz, hP, hK, hN, hD0⟩ := hv
  have hx := B.exec
  have hb := B.bytes
  have hr := B.returns
  have hts := atoms_spec (ws := wsX6_repeated) B.pre
  have hown : s.vm.findClass RX6 = some m.cls := findClass_of_methodNamed B.named
  have hlocks := B.notSynchronized
  subst hsz
  have hD := hD0.self (sz := s.heap.size)
  generalize hAe : va_A [(a_this, .inr (5, [.int v_thrown, .ref a_this_s, .ref a_this_aside, .ref a_this_saved, .int v_savedMany, .ref a_this_text, .int v_length, .ref a_this_states, .int v_many, .int v_at, .int v_isWrong, .int v_letters, .int v_matched, .ref a_this_rows, .int v_manyRows, .long v_digested])), (a_this_s, .inl (cI, 31, .inl v_s)), (a_this_aside, .inl (cI, 31, .inl v_aside))] s.heap.size = A at hD ⊢
  have hA : ∀ q : Nat, s.heap.size ≤ q → A q := fun q h => by rw [← hAe]; exact Or.inr h
  have hS : va_S A s.heap s.heap [] := va_S.rf
  have hl := lv_entry ([.ref a_this, .int p1, .int p2]) (n := 5) (Nat.le_of_ble_eq_true rfl)
  rw [lg_entry_eq]
  generalize (lg_sl ([.ref a_this, .int p1, .int p2]) ++ List.replicate (5 - (lg_sl ([.ref a_this, .int p1, .int p2])).length) Slot.unset).toArray = ls at hl ⊢
  have hl : lv_has ls 5 [(0, .ref a_this), (1, .int p1), (2, .int p2)] := hl
  change W p l e rm_X6_repeated s m (([.ref a_this, .int p1, .int p2] : List Value).toArray) below meth c s.heap [] 0 0 _ (F0 m 0 ls [])
  generalize hQe : MQ below (mQi D A [(a_this, .inr (5, [.int v_thrown, .ref a_this_s, .ref a_this_aside, .ref a_this_saved, .int v_savedMany, .ref a_this_text, .int v_length, .ref a_this_states, .int v_many, .int v_at, .int v_isWrong, .int v_letters, .int v_matched, .ref a_this_rows, .int v_manyRows, .long v_digested])), (a_this_s, .inl (cI, 31, .inl w_s)), (a_this_aside, .inl (cI, 31, .inl w_aside))] r0) (([.ref a_this, .int p1, .int p2] : List Value).toArray) s 0 0 A = Q
  rw [D_X6_repeated] at hden
  refine lv_aload_n hx hb dX6_repeated_0 rfl (lv_at hl 0 rfl) ?_
  obtain ⟨v_aside_1, hc_2, hden⟩ := bnd_s hden
  refine m_cv (wc := [(a_this, .inr (5, [.int v_thrown, .ref a_this_s, .ref a_this_aside, .ref a_this_saved, .int v_savedMany, .ref a_this_text, .int v_length, .ref a_this_states, .int v_many, .int v_at, .int v_isWrong, .int v_letters, .int v_matched, .ref a_this_rows, .int v_manyRows, .long v_digested])), (a_this_s, .inl (cI, 31, .inl v_s)), (a_this_aside, .inl (cI, 31, .inl v_aside))]) (wr := []) (wc' := [(a_this, .inr (5, [.int v_thrown, .ref a_this_s, .ref a_this_aside, .ref a_this_saved, .int v_savedMany, .ref a_this_text, .int v_length, .ref a_this_states, .int v_many, .int v_at, .int v_isWrong, .int v_letters, .int v_matched, .ref a_this_rows, .int v_manyRows, .long v_digested])), (a_this_s, .inl (cI, 31, .inl v_s)), (a_this_aside, .inl (cI, 31, .inl v_aside_1))]) (va_runV (As := []) (rest := []) ⟨hx, hb, hml, hown, hts⟩ (c_X6_putAside l D cI cM cL F hc_2) (cwV 0 hts gX6_repeated_X6_putAside rfl rfl rfl (by decide +kernel) ⟨Nat.le_of_ble_eq_true rfl, Nat.le_of_ble_eq_true rfl⟩) (mPreV (ci := 5) (q0 := 0) (r := (RX6, TX6, 16)) hP hD hK hN [0, 1, 2] (by decide) rfl rfl rfl) rfl rfl hl.1 rfl (lv_room (Nat.le_of_ble_eq_true rfl)) dX6_repeated_1 ⟨Nat.le_of_ble_eq_true rfl, Nat.le_of_ble_eq_true rfl⟩) hP hD hS hA [0, 1, 2] [] rfl rfl (by decide) (by decide) (fun H locs hP hD hS => ?_)
  have hP : va_P D vwCl [(a_this, .inr (5, [.int v_thrown, .ref a_this_s, .ref a_this_aside, .ref a_this_saved, .int v_savedMany, .ref a_this_text, .int v_length, .ref a_this_states, .int v_many, .int v_at, .int v_isWrong, .int v_letters, .int v_matched, .ref a_this_rows, .int v_manyRows, .long v_digested])), (a_this_s, .inl (cI, 31, .inl v_s)), (a_this_aside, .inl (cI, 31, .inl v_aside_1))] H := hP
  have hD : va_D A [(a_this, .inr (5, [.int v_thrown, .ref a_this_s, .ref a_this_aside, .ref a_this_saved, .int v_savedMany, .ref a_this_text, .int v_length, .ref a_this_states, .int v_many, .int v_at, .int v_isWrong, .int v_letters, .int v_matched, .ref a_this_rows, .int v_manyRows, .long v_digested])), (a_this_s, .inl (cI, 31, .inl v_s)), (a_this_aside, .inl (cI, 31, .inl v_aside_1))] := hD
  refine lv_iconst (v := 0) hx hb dX6_repeated_4 (by decide) ?_
  refine lv_istore_n (lv' := [(3, .int 0), (0, .ref a_this), (1, .int p1), (2, .int p2)]) hx hb dX6_repeated_5 rfl hl (by decide) rfl (fun ls hl => ?_)
  refine lv_iconst (v := 0) hx hb dX6_repeated_6 (by decide) ?_
  refine lv_istore (lv' := [(4, .int 0), (3, .int 0), (0, .ref a_this), (1, .int p1), (2, .int p2)]) hx hb dX6_repeated_7 hl (by decide) rfl (fun ls hl => ?_)
  have hL9__17 : ∀ (k29 : Int32 → (Nat → Int32) → Option (Int32 × (Nat → Int32) × (Nat → Int32))), (∀ (x3_15 : Int32) (v_s_16 : (Nat → Int32)) (H : Heap) (locs : List Loc), va_P D vwCl [(a_this, .inr (5, [.int v_thrown, .ref a_this_s, .ref a_this_aside, .ref a_this_saved, .int v_savedMany, .ref a_this_text, .int v_length, .ref a_this_states, .int v_many, .int v_at, .int v_isWrong, .int v_letters, .int v_matched, .ref a_this_rows, .int v_manyRows, .long v_digested])), (a_this_s, .inl (cI, 31, .inl v_s_16)), (a_this_aside, .inl (cI, 31, .inl v_aside_1))] H → va_D A [(a_this, .inr (5, [.int v_thrown, .ref a_this_s, .ref a_this_aside, .ref a_this_saved, .int v_savedMany, .ref a_this_text, .int v_length, .ref a_this_states, .int v_many, .int v_at, .int v_isWrong, .int v_letters, .int v_matched, .ref a_this_rows, .int v_manyRows, .long v_digested])), (a_this_s, .inl (cI, 31, .inl v_s_16)), (a_this_aside, .inl (cI, 31, .inl v_aside_1))] → va_S A s.heap H locs → ∀ ls : Array Slot, lv_has ls 5 [(0, .ref a_this), (3, .int x3_15)] → k29 x3_15 v_s_16 = some (r0, w_aside, w_s) → W p l e rm_X6_repeated s m (([.ref a_this, .int p1, .int p2] : List Value).toArray) below meth c H locs 0 0 Q (F0 m 29 ls [])) → ∀ (n : Nat) (x3_12 : Int32) (x4_13 : Int32) (v_s_14 : (Nat → Int32)) (H : Heap) (locs : List Loc), va_P D vwCl [(a_this, .inr (5, [.int v_thrown, .ref a_this_s, .ref a_this_aside, .ref a_this_saved, .int v_savedMany, .ref a_this_text, .int v_length, .ref a_this_states, .int v_many, .int v_at, .int v_isWrong, .int v_letters, .int v_matched, .ref a_this_rows, .int v_manyRows, .long v_digested])), (a_this_s, .inl (cI, 31, .inl v_s_14)), (a_this_aside, .inl (cI, 31, .inl v_aside_1))] H → va_D A [(a_this, .inr (5, [.int v_thrown, .ref a_this_s, .ref a_this_aside, .ref a_this_saved, .int v_savedMany, .ref a_this_text, .int v_length, .ref a_this_states, .int v_many, .int v_at, .int v_isWrong, .int v_letters, .int v_matched, .ref a_this_rows, .int v_manyRows, .long v_digested])), (a_this_s, .inl (cI, 31, .inl v_s_14)), (a_this_aside, .inl (cI, 31, .inl v_aside_1))] → va_S A s.heap H locs → ∀ ls : Array Slot, lv_has ls 5 [(0, .ref a_this), (1, .int p1), (2, .int p2), (3, .int x3_12), (4, .int x4_13)] → L_X6_repeated_9 F k29 p1 p2 n x3_12 x4_13 v_s_14 = some (r0, w_aside, w_s) → W p l e rm_X6_repeated s m (([.ref a_this, .int p1, .int p2] : List Value).toArray) below meth c H locs 0 0 Q (F0 m 9 ls []) := by
    intro k29 hk29 n
    induction n with
    | zero => intro x3_12 x4_13 v_s_14 H locs hP hD hS ls hl hden; exact no_none hden
    | succ n ih =>
      intro x3_12 x4_13 v_s_14 H locs hP hD hS ls hl hden
      rw [L_X6_repeated_9] at hden
      refine lv_iload hx hb dX6_repeated_9 (lv_at hl 4 rfl) ?_
      refine lv_iload_n hx hb dX6_repeated_11 rfl (lv_at hl 2 rfl) ?_
      refine lv_icmp_ge (tgt := 29) hx hb dX6_repeated_12 (by decide) (fun c_23 => ?_) (fun c_23 => ?_)
      · have hden := if_s hden c_23
        exact hk29 x3_12 v_s_14 _ _ (mSubP hP [0, 1, 2] rfl) (hD.sub [0, 1, 2] (by decide) rfl) hS ls (lv_sub hl [0, 3] rfl) hden
      · have hden := ifn_s hden c_23
        refine lv_iload_n hx hb dX6_repeated_15 rfl (lv_at hl 3 rfl) ?_
        refine lv_aload_n hx hb dX6_repeated_16 rfl (lv_at hl 0 rfl) ?_
        refine lv_iload_n hx hb dX6_repeated_17 rfl (lv_at hl 1 rfl) ?_
        obtain ⟨⟨r_18, v_s_19⟩, hc_20, hden⟩ := bnd_s hden
        refine m_ci (wc := [(a_this, .inr (5, [.int v_thrown, .ref a_this_s, .ref a_this_aside, .ref a_this_saved, .int v_savedMany, .ref a_this_text, .int v_length, .ref a_this_states, .int v_many, .int v_at, .int v_isWrong, .int v_letters, .int v_matched, .ref a_this_rows, .int v_manyRows, .long v_digested])), (a_this_s, .inl (cI, 31, .inl v_s_14))]) (wr := [(a_this_aside, .inl (cI, 31, .inl v_aside_1))]) (wc' := [(a_this, .inr (5, [.int v_thrown, .ref a_this_s, .ref a_this_aside, .ref a_this_saved, .int v_savedMany, .ref a_this_text, .int v_length, .ref a_this_states, .int v_many, .int v_at, .int v_isWrong, .int v_letters, .int v_matched, .ref a_this_rows, .int v_manyRows, .long v_digested])), (a_this_s, .inl (cI, 31, .inl v_s_19))]) (va_runV (As := [.int p1]) (rest := [.int x3_12]) ⟨hx, hb, hml, hown, hts⟩ (c_X6_reads l D cI cM cL F hc_20) (cwV 1 hts gX6_repeated_X6_reads rfl rfl rfl (by decide +kernel) ⟨Nat.le_of_ble_eq_true rfl, Nat.le_of_ble_eq_true rfl⟩) (mPreV (ci := 5) (q0 := 0) (r := (RX6, TX6, 16)) hP hD hK hN [0, 1] (by decide) rfl rfl rfl) rfl rfl hl.1 rfl (lv_room (Nat.le_of_ble_eq_true rfl)) dX6_repeated_18 ⟨Nat.le_of_ble_eq_true rfl, Nat.le_of_ble_eq_true rfl⟩) hP hD hS hA [0, 1] [2] rfl rfl (by decide) (by decide) (fun H locs hP hD hS => ?_)
        have hP : va_P D vwCl [(a_this_aside, .inl (cI, 31, .inl v_aside_1)), (a_this, .inr (5, [.int v_thrown, .ref a_this_s, .ref a_this_aside, .ref a_this_saved, .int v_savedMany, .ref a_this_text, .int v_length, .ref a_this_states, .int v_many, .int v_at, .int v_isWrong, .int v_letters, .int v_matched, .ref a_this_rows, .int v_manyRows, .long v_digested])), (a_this_s, .inl (cI, 31, .inl v_s_19))] H := hP
        have hD : va_D A [(a_this_aside, .inl (cI, 31, .inl v_aside_1)), (a_this, .inr (5, [.int v_thrown, .ref a_this_s, .ref a_this_aside, .ref a_this_saved, .int v_savedMany, .ref a_this_text, .int v_length, .ref a_this_states, .int v_many, .int v_at, .int v_isWrong, .int v_letters, .int v_matched, .ref a_this_rows, .int v_manyRows, .long v_digested])), (a_this_s, .inl (cI, 31, .inl v_s_19))] := hD
        refine lv_iadd hx hb dX6_repeated_21 ?_
        refine lv_topi (fun x3_21 ex3_21 => ?_)
        have hden := nm_s hden ex3_21
        refine lv_istore_n (lv' := [(3, .int x3_21), (0, .ref a_this), (1, .int p1), (2, .int p2), (4, .int x4_13)]) hx hb dX6_repeated_22 rfl hl (by decide) rfl (fun ls hl => ?_)
        obtain ⟨x4_22, ex4_22, hden⟩ := nm_x hden
        refine lv_iinc (v := x4_22) (lv' := [(4, .int x4_22), (3, .int x3_21), (0, .ref a_this), (1, .int p1), (2, .int p2)]) hx hb dX6_repeated_23 hl (k := 4) rfl (by rw [ex4_22]; rfl) (by decide) rfl (fun ls hl => ?_)
        refine lv_goto (tgt := 9) hx hb dX6_repeated_26 (by decide) ?_
        exact ih x3_21 x4_22 v_s_19 _ _ (mSubP hP [1, 2, 0] rfl) (hD.sub [1, 2, 0] (by decide) rfl) hS ls (lv_sub hl [2, 3, 4, 1, 0] rfl) hden
  refine hL9__17 _ (fun x3_15 v_s_16 H locs hP hD hS ls hl hden => ?_) F 0 0 v_s _ _ (mSubP hP [0, 1, 2] rfl) (hD.sub [0, 1, 2] (by decide) rfl) hS ls (lv_sub hl [2, 3, 4, 1, 0] rfl) hden
  refine lv_aload_n hx hb dX6_repeated_29 rfl (lv_at hl 0 rfl) ?_
  obtain ⟨v_s_24, hc_25, hden⟩ := bnd_s hden
  refine m_cv (wc := [(a_this, .inr (5, [.int v_thrown, .ref a_this_s, .ref a_this_aside, .ref a_this_saved, .int v_savedMany, .ref a_this_text, .int v_length, .ref a_this_states, .int v_many, .int v_at, .int v_isWrong, .int v_letters, .int v_matched, .ref a_this_rows, .int v_manyRows, .long v_digested])), (a_this_aside, .inl (cI, 31, .inl v_aside_1)), (a_this_s, .inl (cI, 31, .inl v_s_16))]) (wr := []) (wc' := [(a_this, .inr (5, [.int v_thrown, .ref a_this_s, .ref a_this_aside, .ref a_this_saved, .int v_savedMany, .ref a_this_text, .int v_length, .ref a_this_states, .int v_many, .int v_at, .int v_isWrong, .int v_letters, .int v_matched, .ref a_this_rows, .int v_manyRows, .long v_digested])), (a_this_aside, .inl (cI, 31, .inl v_aside_1)), (a_this_s, .inl (cI, 31, .inl v_s_24))]) (va_runV (As := []) (rest := []) ⟨hx, hb, hml, hown, hts⟩ (c_X6_putBack l D cI cM cL F hc_25) (cwV 0 hts gX6_repeated_X6_putBack rfl rfl rfl (by decide +kernel) ⟨Nat.le_of_ble_eq_true rfl, Nat.le_of_ble_eq_true rfl⟩) (mPreV (ci := 5) (q0 := 0) (r := (RX6, TX6, 16)) hP hD hK hN [0, 2, 1] (by decide) rfl rfl rfl) rfl rfl hl.1 rfl (lv_room (Nat.le_of_ble_eq_true rfl)) dX6_repeated_30 ⟨Nat.le_of_ble_eq_true rfl, Nat.le_of_ble_eq_true rfl⟩) hP hD hS hA [0, 2, 1] [] rfl rfl (by decide) (by decide) (fun H locs hP hD hS => ?_)
  have hP : va_P D vwCl [(a_this, .inr (5, [.int v_thrown, .ref a_this_s, .ref a_this_aside, .ref a_this_saved, .int v_savedMany, .ref a_this_text, .int v_length, .ref a_this_states, .int v_many, .int v_at, .int v_isWrong, .int v_letters, .int v_matched, .ref a_this_rows, .int v_manyRows, .long v_digested])), (a_this_aside, .inl (cI, 31, .inl v_aside_1)), (a_this_s, .inl (cI, 31, .inl v_s_24))] H := hP
  have hD : va_D A [(a_this, .inr (5, [.int v_thrown, .ref a_this_s, .ref a_this_aside, .ref a_this_saved, .int v_savedMany, .ref a_this_text, .int v_length, .ref a_this_states, .int v_many, .int v_at, .int v_isWrong, .int v_letters, .int v_matched, .ref a_this_rows, .int v_manyRows, .long v_digested])), (a_this_aside, .inl (cI, 31, .inl v_aside_1)), (a_this_s, .inl (cI, 31, .inl v_s_24))] := hD
  refine lv_iload_n hx hb dX6_repeated_33 rfl (lv_at hl 1 rfl) ?_
  subst hQe
  cases hden
  exact m_ri hx hb hr hP hD hS [0, 2, 1] (by decide) rfl rfl dX6_repeated_34 hlocks
def D_X6_ifRepeated (F : Nat) (p1 : Int32) (p2 : Int32) (v_thrown : Int32) (v_s : (Nat → Int32)) (v_aside : (Nat → Int32)) : Option (Int32 × Int32 × (Nat → Int32) × (Nat → Int32)) := bnd (D_X6_in F p1 0 3) (fun r_1 => jp (fun (t_3 : Int32) => bnd (D_X6_holds F t_3 v_thrown) (fun (r_4, v_thrown_5) => (if r_4 = 0 then some (0, v_thrown_5, v_s, v_aside) else bnd (D_X6_repeated F p1 p2 v_s v_aside) (fun (r_7, v_aside_8, v_s_9) => some (r_7, v_thrown_5, v_s_9, v_aside_8))))) (fun j26 => jp (fun (_ : Unit) => j26 1) (fun j25 => (if r_1 = 0 then j25 () else bnd (D_X6_in F p2 1 200) (fun r_12 => (if r_12 = 0 then j25 () else j26 0))))))
def rm_X6_ifRepeated : Room := { frames := 10, cells := 0, slots := 0, locals := 225 }
set_option maxHeartbeats 4000000 in
set_option maxRecDepth 100000 in
theorem c_X6_ifRepeated (l : Launch) (D : va_G) (cI cM cL : ClassId) (F : Nat) {a_this a_this_s a_this_aside a_this_saved a_this_text a_this_states a_this_rows : Nat} {sz : Nat} {v_thrown v_savedMany v_length v_many v_at v_isWrong v_letters v_matched v_manyRows : Int32} {v_digested : Int64} {v_s v_aside : Nat → Int32} {p1 : Int32} {p2 : Int32} {r0 : Int32} {w_thrown : Int32} {w_s : (Nat → Int32)} {w_aside : (Nat → Int32)} (hden : D_X6_ifRepeated F p1 p2 v_thrown v_s v_aside = some (r0, w_thrown, w_s, w_aside)) : Met l yX6_ifRepeated wsX6_ifRepeated rm_X6_ifRepeated (va_Pc [.ref a_this, .int p1, .int p2] (mB D (mTy cI cM cL) sz [(a_this, .inr (5, [.int v_thrown, .ref a_this_s, .ref a_this_aside, .ref a_this_saved, .int v_savedMany, .ref a_this_text, .int v_length, .ref a_this_states, .int v_many, .int v_at, .int v_isWrong, .int v_letters, .int v_matched, .ref a_this_rows, .int v_manyRows, .long v_digested])), (a_this_s, .inl (cI, 31, .inl v_s)), (a_this_aside, .inl (cI, 31, .inl v_aside))])) (mQi D (va_A [(a_this, .inr (5, [.int v_thrown, .ref a_this_s, .ref a_this_aside, .ref a_this_saved, .int v_savedMany, .ref a_this_text, .int v_length, .ref a_this_states, .int v_many, .int v_at, .int v_isWrong, .int v_letters, .int v_matched, .ref a_this_rows, .int v_manyRows, .long v_digested])), (a_this_s, .inl (cI, 31, .inl v_s)), (a_this_aside, .inl (cI, 31, .inl v_aside))] sz) [(a_this, .inr (5, [.int w_thrown, .ref a_this_s, .ref a_this_aside, .ref a_this_saved, .int v_savedMany, .ref a_this_text, .int v_length, .ref a_this_states, .int v_many, .int v_at, .int v_isWrong, .int v_letters, .int v_matched, .ref a_this_rows, .int v_manyRows, .long v_digested])), (a_this_s, .inl (cI, 31, .inl w_s)), (a_this_aside, .inl (cI, 31, .inl w_aside))] r0) 0 0 (va_A [(a_this, .inr (5, [.int v_thrown, .ref a_this_s, .ref a_this_aside, .ref a_this_saved, .int v_savedMany, .ref a_this_text, .int v_length, .ref a_this_states, .int v_many, .int v_at, .int v_isWrong, .int v_letters, .int v_matched, .ref a_this_rows, .int v_manyRows, .long v_digested])), (a_this_s, .inl (cI, 31, .inl v_s)), (a_this_aside, .inl (cI, 31, .inl v_aside))] sz) := by
  refine Met.ofW (cc := cX6_ifRepeated) (maxL := 3) (ret := (some .int)) (by decide) rfl ?_
  intro p e s m args below meth c s₁ B hml hv
  obtain ⟨rfl, hsz, hP, hK, hN, hD0⟩ := hv
  have hx := B.exec
  have hb := B.bytes
  have hr := B.returns
  have hts := atoms_spec (ws := wsX6_ifRepeated) B.pre
  have hown : s.vm.findClass RX6 = some m.cls := findClass_of_methodNamed B.named
  have hlocks := B.notSynchronized
  subst hsz
  have hD := hD0.self (sz := s.heap.size)
  generalize hAe : va_A [(a_this, .inr (5, [.int v_thrown, .ref a_this_s, .ref a_this_aside, .ref a_this_saved, .int v_savedMany, .ref a_this_text, .int v_length, .ref a_this_states, .int v_many, .int v_at, .int v_isWrong, .int v_letters, .int v_matched, .ref a_this_rows, .int v_manyRows, .long v_digested])), (a_this_s, .inl (cI, 31, .inl v_s)), (a_this_aside, .inl (cI, 31, .inl v_aside))] s.heap.size = A at hD ⊢
  have hA : ∀ q : Nat, s.heap.size ≤ q → A q := fun q h => by rw [← hAe]; exact Or.inr h
  have hS : va_S A s.heap s.heap [] := va_S.rf
  have hl := lv_entry ([.ref a_this, .int p1, .int p2]) (n := 3) (Nat.le_of_ble_eq_true rfl)
  rw [lg_entry_eq]
  generalize (lg_sl ([.ref a_this, .int p1, .int p2]) ++ List.replicate (3 - (lg_sl ([.ref a_this, .int p1, .int p2])).length) Slot.unset).toArray = ls at hl ⊢
  have hl : lv_has ls 3 [(0, .ref a_this), (1, .int p1), (2, .int p2)] := hl
  change W p l e rm_X6_ifRepeated s m (([.ref a_this, .int p1, .int p2] : List Value).toArray) below meth c s.heap [] 0 0 _ (F0 m 0 ls [])
  generalize hQe : MQ below (mQi D A [(a_this, .inr (5, [.int w_thrown, .ref a_this_s, .ref a_this_aside, .ref a_this_saved, .int v_savedMany, .ref a_this_text, .int v_length, .ref a_this_states, .int v_many, .int v_at, .int v_isWrong, .int v_letters, .int v_matched, .ref a_this_rows, .int v_manyRows, .long v_digested])), (a_this_s, .inl (cI, 31, .inl w_s)), (a_this_aside, .inl (cI, 31, .inl w_aside))] r0) (([.ref a_this, .int p1, .int p2] : List Value).toArray) s 0 0 A = Q
  rw [D_X6_ifRepeated] at hden
  refine lv_aload_n hx hb dX6_ifRepeated_0 rfl (lv_at hl 0 rfl) ?_
  refine lv_iload_n hx hb dX6_ifRepeated_1 rfl (lv_at hl 1 rfl) ?_
  refine lv_iconst (v := 0) hx hb dX6_ifRepeated_2 (by decide) ?_
  refine lv_iconst (v := 3) hx hb dX6_ifRepeated_3 (by decide) ?_
  obtain ⟨r_1, hc_2, hden⟩ := bnd_s hden
  refine m_ci (wc := []) (wr := [(a_this, .inr (5, [.int v_thrown, .ref a_this_s, .ref a_this_aside, .ref a_this_saved, .int v_savedMany, .ref a_this_text, .int v_length, .ref a_this_states, .int v_many, .int v_at, .int v_isWrong, .int v_letters, .int v_matched, .ref a_this_rows, .int v_manyRows, .long v_digested])), (a_this_s, .inl (cI, 31, .inl v_s)), (a_this_aside, .inl (cI, 31, .inl v_aside))]) (wc' := []) (va_runS (As := [.int p1, .int 0, .int 3]) (rest := [.ref a_this]) ⟨hx, hb, hml, hown, hts⟩ (c_X6_in l D cI cM cL F hc_2) (va_cwS 3 hts gX6_ifRepeated_X6_in rfl rfl rfl (by decide +kernel) ⟨Nat.le_of_ble_eq_true rfl, Nat.le_of_ble_eq_true rfl⟩) (mPreS hP hD hK hN [] (by decide) rfl) rfl rfl hl.1 rfl (lv_room (Nat.le_of_ble_eq_true rfl)) dX6_ifRepeated_4 ⟨Nat.le_of_ble_eq_true rfl, Nat.le_of_ble_eq_true rfl⟩) hP hD hS hA [] [0, 1, 2] rfl rfl (by decide) (by decide) (fun H locs hP hD hS => ?_)
  have hP : va_P D vwCl [(a_this, .inr (5, [.int v_thrown, .ref a_this_s, .ref a_this_aside, .ref a_this_saved, .int v_savedMany, .ref a_this_text, .int v_length, .ref a_this_states, .int v_many, .int v_at, .int v_isWrong, .int v_letters, .int v_matched, .ref a_this_rows, .int v_manyRows, .long v_digested])), (a_this_s, .inl (cI, 31, .inl v_s)), (a_this_aside, .inl (cI, 31, .inl v_aside))] H := hP
  have hD : va_D A [(a_this, .inr (5, [.int v_thrown, .ref a_this_s, .ref a_this_aside, .ref a_this_saved, .int v_savedMany, .ref a_this_text, .int v_length, .ref a_this_states, .int v_many, .int v_at, .int v_isWrong, .int v_letters, .int v_matched, .ref a_this_rows, .int v_manyRows, .long v_digested])), (a_this_s, .inl (cI, 31, .inl v_s)), (a_this_aside, .inl (cI, 31, .inl v_aside))] := hD
  obtain ⟨j26, ej26, hden⟩ := jp_s hden
  have hj26 : ∀ (t_3 : Int32) (H : Heap) (locs : List Loc), va_P D vwCl [(a_this, .inr (5, [.int v_thrown, .ref a_this_s, .ref a_this_aside, .ref a_this_saved, .int v_savedMany, .ref a_this_text, .int v_length, .ref a_this_states, .int v_many, .int v_at, .int v_isWrong, .int v_letters, .int v_matched, .ref a_this_rows, .int v_manyRows, .long v_digested])), (a_this_s, .inl (cI, 31, .inl v_s)), (a_this_aside, .inl (cI, 31, .inl v_aside))] H → va_D A [(a_this, .inr (5, [.int v_thrown, .ref a_this_s, .ref a_this_aside, .ref a_this_saved, .int v_savedMany, .ref a_this_text, .int v_length, .ref a_this_states, .int v_many, .int v_at, .int v_isWrong, .int v_letters, .int v_matched, .ref a_this_rows, .int v_manyRows, .long v_digested])), (a_this_s, .inl (cI, 31, .inl v_s)), (a_this_aside, .inl (cI, 31, .inl v_aside))] → va_S A s.heap H locs → ∀ ls : Array Slot, lv_has ls 3 [(0, .ref a_this), (1, .int p1), (2, .int p2)] → j26 t_3 = some (r0, w_thrown, w_s, w_aside) → W p l e rm_X6_ifRepeated s m (([.ref a_this, .int p1, .int p2] : List Value).toArray) below meth c H locs 0 0 Q (F0 m 26 ls [.int t_3, .ref a_this]) := by
    intro t_3 H locs hP hD hS ls hl hden
    rw [ej26] at hden
    obtain ⟨⟨r_4, v_thrown_5⟩, hc_6, hden⟩ := bnd_s hden
    refine m_ci (wc := [(a_this, .inr (5, [.int v_thrown, .ref a_this_s, .ref a_this_aside, .ref a_this_saved, .int v_savedMany, .ref a_this_text, .int v_length, .ref a_this_states, .int v_many, .int v_at, .int v_isWrong, .int v_letters, .int v_matched, .ref a_this_rows, .int v_manyRows, .long v_digested]))]) (wr := [(a_this_s, .inl (cI, 31, .inl v_s)), (a_this_aside, .inl (cI, 31, .inl v_aside))]) (wc' := [(a_this, .inr (5, [.int v_thrown_5, .ref a_this_s, .ref a_this_aside, .ref a_this_saved, .int v_savedMany, .ref a_this_text, .int v_length, .ref a_this_states, .int v_many, .int v_at, .int v_isWrong, .int v_letters, .int v_matched, .ref a_this_rows, .int v_manyRows, .long v_digested]))]) (va_runV (As := [.int t_3]) (rest := []) ⟨hx, hb, hml, hown, hts⟩ (c_X6_holds l D cI cM cL F hc_6) (cwV 1 hts gX6_ifRepeated_X6_holds rfl rfl rfl (by decide +kernel) ⟨Nat.le_of_ble_eq_true rfl, Nat.le_of_ble_eq_true rfl⟩) (mPreV (ci := 5) (q0 := 0) (r := (RX6, TX6, 16)) hP hD hK hN [0] (by decide) rfl rfl rfl) rfl rfl hl.1 rfl (lv_room (Nat.le_of_ble_eq_true rfl)) dX6_ifRepeated_26 ⟨Nat.le_of_ble_eq_true rfl, Nat.le_of_ble_eq_true rfl⟩) hP hD hS hA [0] [1, 2] rfl rfl (by decide) (by decide) (fun H locs hP hD hS => ?_)
    have hP : va_P D vwCl [(a_this_s, .inl (cI, 31, .inl v_s)), (a_this_aside, .inl (cI, 31, .inl v_aside)), (a_this, .inr (5, [.int v_thrown_5, .ref a_this_s, .ref a_this_aside, .ref a_this_saved, .int v_savedMany, .ref a_this_text, .int v_length, .ref a_this_states, .int v_many, .int v_at, .int v_isWrong, .int v_letters, .int v_matched, .ref a_this_rows, .int v_manyRows, .long v_digested]))] H := hP
    have hD : va_D A [(a_this_s, .inl (cI, 31, .inl v_s)), (a_this_aside, .inl (cI, 31, .inl v_aside)), (a_this, .inr (5, [.int v_thrown_5, .ref a_this_s, .ref a_this_aside, .ref a_this_saved, .int v_savedMany, .ref a_this_text, .int v_length, .ref a_this_states, .int v_many, .int v_at, .int v_isWrong, .int v_letters, .int v_matched, .ref a_this_rows, .int v_manyRows, .long v_digested]))] := hD
    refine lv_if_eq (tgt := 41) hx hb dX6_ifRepeated_29 (by decide) (fun c_11 => ?_) (fun c_11 => ?_)
    · have hden := if_s hden c_11
      refine lv_iconst (v := 0) hx hb dX6_ifRepeated_41 (by decide) ?_
      subst hQe
      cases hden
      exact m_ri hx hb hr hP hD hS [2, 0, 1] (by decide) rfl rfl dX6_ifRepeated_42 hlocks
    · have hden := ifn_s hden c_11
      refine lv_aload_n hx hb dX6_ifRepeated_32 rfl (lv_at hl 0 rfl) ?_
      refine lv_iload_n hx hb dX6_ifRepeated_33 rfl (lv_at hl 1 rfl) ?_
      refine lv_iload_n hx hb dX6_ifRepeated_34 rfl (lv_at hl 2 rfl) ?_
      obtain ⟨⟨r_7, v_aside_8, v_s_9⟩, hc_10, hden⟩ := bnd_s hden
      refine m_ci (wc := [(a_this, .inr (5, [.int v_thrown_5, .ref a_this_s, .ref a_this_aside, .ref a_this_saved, .int v_savedMany, .ref a_this_text, .int v_length, .ref a_this_states, .int v_many, .int v_at, .int v_isWrong, .int v_letters, .int v_matched, .ref a_this_rows, .int v_manyRows, .long v_digested])), (a_this_s, .inl (cI, 31, .inl v_s)), (a_this_aside, .inl (cI, 31, .inl v_aside))]) (wr := []) (wc' := [(a_this, .inr (5, [.int v_thrown_5, .ref a_this_s, .ref a_this_aside, .ref a_this_saved, .int v_savedMany, .ref a_this_text, .int v_length, .ref a_this_states, .int v_many, .int v_at, .int v_isWrong, .int v_letters, .int v_matched, .ref a_this_rows, .int v_manyRows, .long v_digested])), (a_this_s, .inl (cI, 31, .inl v_s_9)), (a_this_aside, .inl (cI, 31, .inl v_aside_8))]) (va_runV (As := [.int p1, .int p2]) (rest := []) ⟨hx, hb, hml, hown, hts⟩ (c_X6_repeated l D cI cM cL F hc_10) (cwV 2 hts gX6_ifRepeated_X6_repeated rfl rfl rfl (by decide +kernel) ⟨Nat.le_of_ble_eq_true rfl, Nat.le_of_ble_eq_true rfl⟩) (mPreV (ci := 5) (q0 := 0) (r := (RX6, TX6, 16)) hP hD hK hN [2, 0, 1] (by decide) rfl rfl rfl) rfl rfl hl.1 rfl (lv_room (Nat.le_of_ble_eq_true rfl)) dX6_ifRepeated_35 ⟨Nat.le_of_ble_eq_true rfl, Nat.le_of_ble_eq_true rfl⟩) hP hD hS hA [2, 0, 1] [] rfl rfl (by decide) (by decide) (fun H locs hP hD hS => ?_)
      have hP : va_P D vwCl [(a_this, .inr (5, [.int v_thrown_5, .ref a_this_s, .ref a_this_aside, .ref a_this_saved, .int v_savedMany, .ref a_this_text, .int v_length, .ref a_this_states, .int v_many, .int v_at, .int v_isWrong, .int v_letters, .int v_matched, .ref a_this_rows, .int v_manyRows, .long v_digested])), (a_this_s, .inl (cI, 31, .inl v_s_9)), (a_this_aside, .inl (cI, 31, .inl v_aside_8))] H := hP
      have hD : va_D A [(a_this, .inr (5, [.int v_thrown_5, .ref a_this_s, .ref a_this_aside, .ref a_this_saved, .int v_savedMany, .ref a_this_text, .int v_length, .ref a_this_states, .int v_many, .int v_at, .int v_isWrong, .int v_letters, .int v_matched, .ref a_this_rows, .int v_manyRows, .long v_digested])), (a_this_s, .inl (cI, 31, .inl v_s_9)), (a_this_aside, .inl (cI, 31, .inl v_aside_8))] := hD
      refine lv_goto (tgt := 42) hx hb dX6_ifRepeated_38 (by decide) ?_
      subst hQe
      cases hden
      exact m_ri hx hb hr hP hD hS [0, 1, 2] (by decide) rfl rfl dX6_ifRepeated_42 hlocks
  clear ej26
  obtain ⟨j25, ej25, hden⟩ := jp_s hden
  have hj25 : ∀  (H : Heap) (locs : List Loc), va_P D vwCl [(a_this, .inr (5, [.int v_thrown, .ref a_this_s, .ref a_this_aside, .ref a_this_saved, .int v_savedMany, .ref a_this_text, .int v_length, .ref a_this_states, .int v_many, .int v_at, .int v_isWrong, .int v_letters, .int v_matched, .ref a_this_rows, .int v_manyRows, .long v_digested])), (a_this_s, .inl (cI, 31, .inl v_s)), (a_this_aside, .inl (cI, 31, .inl v_aside))] H → va_D A [(a_this, .inr (5, [.int v_thrown, .ref a_this_s, .ref a_this_aside, .ref a_this_saved, .int v_savedMany, .ref a_this_text, .int v_length, .ref a_this_states, .int v_many, .int v_at, .int v_isWrong, .int v_letters, .int v_matched, .ref a_this_rows, .int v_manyRows, .long v_digested])), (a_this_s, .inl (cI, 31, .inl v_s)), (a_this_aside, .inl (cI, 31, .inl v_aside))] → va_S A s.heap H locs → ∀ ls : Array Slot, lv_has ls 3 [(0, .ref a_this), (1, .int p1), (2, .int p2)] → j25 () = some (r0, w_thrown, w_s, w_aside) → W p l e rm_X6_ifRepeated s m (([.ref a_this, .int p1, .int p2] : List Value).toArray) below meth c H locs 0 0 Q (F0 m 25 ls [.ref a_this]) := by
    intro H locs hP hD hS ls hl hden
    rw [ej25] at hden
    refine lv_iconst (v := 1) hx hb dX6_ifRepeated_25 (by decide) ?_
    exact hj26 1 _ _ (mSubP hP [0, 1, 2] rfl) (hD.sub [0, 1, 2] (by decide) rfl) hS ls (lv_sub hl [0, 1, 2] rfl) hden
  clear ej25
  refine lv_if_eq (tgt := 25) hx hb dX6_ifRepeated_7 (by decide) (fun c_15 => ?_) (fun c_15 => ?_)
  · have hden := if_s hden c_15
    exact hj25 _ _ (mSubP hP [0, 1, 2] rfl) (hD.sub [0, 1, 2] (by decide) rfl) hS ls (lv_sub hl [0, 1, 2] rfl) hden
  · have hden := ifn_s hden c_15
    refine lv_iload_n hx hb dX6_ifRepeated_10 rfl (lv_at hl 2 rfl) ?_
    refine lv_iconst (v := 1) hx hb dX6_ifRepeated_11 (by decide) ?_
    refine lv_sipush (v := 200) hx hb dX6_ifRepeated_12 (by decide) ?_
    obtain ⟨r_12, hc_13, hden⟩ := bnd_s hden
    refine m_ci (wc := []) (wr := [(a_this, .inr (5, [.int v_thrown, .ref a_this_s, .ref a_this_aside, .ref a_this_saved, .int v_savedMany, .ref a_this_text, .int v_length, .ref a_this_states, .int v_many, .int v_at, .int v_isWrong, .int v_letters, .int v_matched, .ref a_this_rows, .int v_manyRows, .long v_digested])), (a_this_s, .inl (cI, 31, .inl v_s)), (a_this_aside, .inl (cI, 31, .inl v_aside))]) (wc' := []) (va_runS (As := [.int p2, .int 1, .int 200]) (rest := [.ref a_this]) ⟨hx, hb, hml, hown, hts⟩ (c_X6_in l D cI cM cL F hc_13) (va_cwS 3 hts gX6_ifRepeated_X6_in rfl rfl rfl (by decide +kernel) ⟨Nat.le_of_ble_eq_true rfl, Nat.le_of_ble_eq_true rfl⟩) (mPreS hP hD hK hN [] (by decide) rfl) rfl rfl hl.1 rfl (lv_room (Nat.le_of_ble_eq_true rfl)) dX6_ifRepeated_15 ⟨Nat.le_of_ble_eq_true rfl, Nat.le_of_ble_eq_true rfl⟩) hP hD hS hA [] [0, 1, 2] rfl rfl (by decide) (by decide) (fun H locs hP hD hS => ?_)
    have hP : va_P D vwCl [(a_this, .inr (5, [.int v_thrown, .ref a_this_s, .ref a_this_aside, .ref a_this_saved, .int v_savedMany, .ref a_this_text, .int v_length, .ref a_this_states, .int v_many, .int v_at, .int v_isWrong, .int v_letters, .int v_matched, .ref a_this_rows, .int v_manyRows, .long v_digested])), (a_this_s, .inl (cI, 31, .inl v_s)), (a_this_aside, .inl (cI, 31, .inl v_aside))] H := hP
    have hD : va_D A [(a_this, .inr (5, [.int v_thrown, .ref a_this_s, .ref a_this_aside, .ref a_this_saved, .int v_savedMany, .ref a_this_text, .int v_length, .ref a_this_states, .int v_many, .int v_at, .int v_isWrong, .int v_letters, .int v_matched, .ref a_this_rows, .int v_manyRows, .long v_digested])), (a_this_s, .inl (cI, 31, .inl v_s)), (a_this_aside, .inl (cI, 31, .inl v_aside))] := hD
    refine lv_if_eq (tgt := 25) hx hb dX6_ifRepeated_18 (by decide) (fun c_14 => ?_) (fun c_14 => ?_)
    · have hden := if_s hden c_14
      exact hj25 _ _ (mSubP hP [0, 1, 2] rfl) (hD.sub [0, 1, 2] (by decide) rfl) hS ls (lv_sub hl [0, 1, 2] rfl) hden
    · have hden := ifn_s hden c_14
      refine lv_iconst (v := 0) hx hb dX6_ifRepeated_21 (by decide) ?_
      refine lv_goto (tgt := 26) hx hb dX6_ifRepeated_22 (by decide) ?_
      exact hj26 0 _ _ (mSubP hP [0, 1, 2] rfl) (hD.sub [0, 1, 2] (by decide) rfl) hS ls (lv_sub hl [0, 1, 2] rfl) hden
def L_X6_heaviestOf_12 (F : Nat) (y3 : Int32) : Nat → Int32 → Int32 → Int32 → (Nat → Int32) → Int32 → (Nat → Int32) → Option (Int32 × (Nat → Int32) × Int32 × (Nat → Int32))
  | 0, _, _, _, _, _, _ => none
  | n + 1, x1_5, x2_6, x4_7, v_states_8, v_many_9, v_s_10 => (if 8 ≤ x4_7 then some (x1_5, v_states_8, v_many_9, v_s_10) else grd (inb ((0 : Int32) + x4_7) 31) (nm (v_s_10 ((0 : Int32) + x4_7).toNatClampNeg) (fun x5_12 => grd (inb ((0 : Int32) + x4_7) 31) (nm (upd v_s_10 ((0 : Int32) + x4_7).toNatClampNeg 0) (fun v_s_14 => jp (fun (t_17 : Int32) (v_states_15 : (Nat → Int32)) (v_many_16 : Int32) => grd (inb ((0 : Int32) + x4_7) 31) (nm (upd v_s_14 ((0 : Int32) + x4_7).toNatClampNeg x5_12) (fun v_s_19 => jp (fun (t_20 : Int32) => (if t_17 ≤ x2_6 then nm (x4_7 + 1) (fun x4_21 => L_X6_heaviestOf_12 F y3 n t_20 x2_6 x4_21 v_states_15 v_many_16 v_s_19) else nm (x4_7 + 1) (fun x4_22 => L_X6_heaviestOf_12 F y3 n t_20 t_17 x4_22 v_states_15 v_many_16 v_s_19))) (fun j86 => (if t_17 ≤ x2_6 then j86 x1_5 else j86 (((100 : Int32) * t_17) + x4_7)))))) (fun j55 => (if x5_12 ≤ 0 then j55 (-1) v_states_8 v_many_9 else bnd (D_X6_manyStates F v_states_8 v_many_9 v_s_14) (fun (r_25, v_states_26, v_many_27) => j55 (y3 - r_25) v_states_26 v_many_27))))))))
def D_X6_heaviestOf (F : Nat) (v_states : (Nat → Int32)) (v_many : Int32) (v_s : (Nat → Int32)) : Option (Int32 × (Nat → Int32) × Int32 × (Nat → Int32)) := bnd (D_X6_manyStates F v_states v_many v_s) (fun (r_1, v_states_2, v_many_3) => L_X6_heaviestOf_12 F r_1 F (-1) (-1) 0 v_states_2 v_many_3 v_s)
def rm_X6_heaviestOf : Room := { frames := 4, cells := 0, slots := 0, locals := 84 }
set_option maxHeartbeats 4000000 in
set_option maxRecDepth 100000 in
theorem c_X6_heaviestOf (l : Launch) (D : va_G) (cI cM cL : ClassId) (F : Nat) {a_this a_this_s a_this_aside a_this_saved a_this_text a_this_states a_this_rows : Nat} {sz : Nat} {v_thrown v_savedMany v_length v_many v_at v_isWrong v_letters v_matched v_manyRows : Int32} {v_digested : Int64} {v_states v_s : Nat → Int32} {r0 : Int32} {w_states : (Nat → Int32)} {w_many : Int32} {w_s : (Nat → Int32)} (hden : D_X6_heaviestOf F v_states v_many v_s = some (r0, w_states, w_many, w_s)) : Met l yX6_heaviestOf wsX6_heaviestOf rm_X6_heaviestOf (va_Pc [.ref a_this] (mB D (mTy cI cM cL) sz [(a_this, .inr (5, [.int v_thrown, .ref a_this_s, .ref a_this_aside, .ref a_this_saved, .int v_savedMany, .ref a_this_text, .int v_length, .ref a_this_states, .int v_many, .int v_at, .int v_isWrong, .int v_letters, .int v_matched, .ref a_this_rows, .int v_manyRows, .long v_digested])), (a_this_states, .inl (cI, 66, .inl v_states)), (a_this_s, .inl (cI, 31, .inl v_s))])) (mQi D (va_A [(a_this, .inr (5, [.int v_thrown, .ref a_this_s, .ref a_this_aside, .ref a_this_saved, .int v_savedMany, .ref a_this_text, .int v_length, .ref a_this_states, .int v_many, .int v_at, .int v_isWrong, .int v_letters, .int v_matched, .ref a_this_rows, .int v_manyRows, .long v_digested])), (a_this_states, .inl (cI, 66, .inl v_states)), (a_this_s, .inl (cI, 31, .inl v_s))] sz) [(a_this, .inr (5, [.int v_thrown, .ref a_this_s, .ref a_this_aside, .ref a_this_saved, .int v_savedMany, .ref a_this_text, .int v_length, .ref a_this_states, .int w_many, .int v_at, .int v_isWrong, .int v_letters, .int v_matched, .ref a_this_rows, .int v_manyRows, .long v_digested])), (a_this_states, .inl (cI, 66, .inl w_states)), (a_this_s, .inl (cI, 31, .inl w_s))] r0) 0 0 (va_A [(a_this, .inr (5, [.int v_thrown, .ref a_this_s, .ref a_this_aside, .ref a_this_saved, .int v_savedMany, .ref a_this_text, .int v_length, .ref a_this_states, .int v_many, .int v_at, .int v_isWrong, .int v_letters, .int v_matched, .ref a_this_rows, .int v_manyRows, .long v_digested])), (a_this_states, .inl (cI, 66, .inl v_states)), (a_this_s, .inl (cI, 31, .inl v_s))] sz) := by
  refine Met.ofW (cc := cX6_heaviestOf) (maxL := 7) (ret := (some .int)) (by decide) rfl ?_
  intro p e s m args below meth c s₁ B hml hv
  obtain ⟨rfl, hsz, hP, hK, hN, hD0⟩ := hv
  have hx := B.exec
  have hb := B.bytes
  have hr := B.returns
  have hts := atoms_spec (ws := wsX6_heaviestOf) B.pre
  have hown : s.vm.findClass RX6 = some m.cls := findClass_of_methodNamed B.named
  have hlocks := B.notSynchronized
  subst hsz
  have hD := hD0.self (sz := s.heap.size)
  generalize hAe : va_A [(a_this, .inr (5, [.int v_thrown, .ref a_this_s, .ref a_this_aside, .ref a_this_saved, .int v_savedMany, .ref a_this_text, .int v_length, .ref a_this_states, .int v_many, .int v_at, .int v_isWrong, .int v_letters, .int v_matched, .ref a_this_rows, .int v_manyRows, .long v_digested])), (a_this_states, .inl (cI, 66, .inl v_states)), (a_this_s, .inl (cI, 31, .inl v_s))] s.heap.size = A at hD ⊢
  have hA : ∀ q : Nat, s.heap.size ≤ q → A q := fun q h => by rw [← hAe]; exact Or.inr h
  have hS : va_S A s.heap s.heap [] := va_S.rf
  have hl := lv_entry ([.ref a_this]) (n := 7) (Nat.le_of_ble_eq_true rfl)
  rw [lg_entry_eq]
  generalize (lg_sl ([.ref a_this]) ++ List.replicate (7 - (lg_sl ([.ref a_this])).length) Slot.unset).toArray = ls at hl ⊢
  have hl : lv_has ls 7 [(0, .ref a_this)] := hl
  change W p l e rm_X6_heaviestOf s m (([.ref a_this] : List Value).toArray) below meth c s.heap [] 0 0 _ (F0 m 0 ls [])
  generalize hQe : MQ below (mQi D A [(a_this, .inr (5, [.int v_thrown, .ref a_this_s, .ref a_this_aside, .ref a_this_saved, .int v_savedMany, .ref a_this_text, .int v_length, .ref a_this_states, .int w_many, .int v_at, .int v_isWrong, .int v_letters, .int v_matched, .ref a_this_rows, .int v_manyRows, .long v_digested])), (a_this_states, .inl (cI, 66, .inl w_states)), (a_this_s, .inl (cI, 31, .inl w_s))] r0) (([.ref a_this] : List Value).toArray) s 0 0 A = Q
  rw [D_X6_heaviestOf] at hden
  have hin_X6 : ∀ w ∈ wsX60, w ∈ wsX6_heaviestOf := by decide +kernel
  have w_7 := hts (.fieldLink RX6 7 "FallingPatternsModel" "s" "[I") (by decide +kernel)
  refine lv_iconst (v := (-1)) hx hb dX6_heaviestOf_0 (by decide) ?_
  refine lv_istore_n (lv' := [(1, .int (-1)), (0, .ref a_this)]) hx hb dX6_heaviestOf_1 rfl hl (by decide) rfl (fun ls hl => ?_)
  refine lv_iconst (v := (-1)) hx hb dX6_heaviestOf_2 (by decide) ?_
  refine lv_istore_n (lv' := [(2, .int (-1)), (1, .int (-1)), (0, .ref a_this)]) hx hb dX6_heaviestOf_3 rfl hl (by decide) rfl (fun ls hl => ?_)
  refine lv_aload_n hx hb dX6_heaviestOf_4 rfl (lv_at hl 2 rfl) ?_
  obtain ⟨⟨r_1, v_states_2, v_many_3⟩, hc_4, hden⟩ := bnd_s hden
  refine m_ci (wc := [(a_this, .inr (5, [.int v_thrown, .ref a_this_s, .ref a_this_aside, .ref a_this_saved, .int v_savedMany, .ref a_this_text, .int v_length, .ref a_this_states, .int v_many, .int v_at, .int v_isWrong, .int v_letters, .int v_matched, .ref a_this_rows, .int v_manyRows, .long v_digested])), (a_this_states, .inl (cI, 66, .inl v_states)), (a_this_s, .inl (cI, 31, .inl v_s))]) (wr := []) (wc' := [(a_this, .inr (5, [.int v_thrown, .ref a_this_s, .ref a_this_aside, .ref a_this_saved, .int v_savedMany, .ref a_this_text, .int v_length, .ref a_this_states, .int v_many_3, .int v_at, .int v_isWrong, .int v_letters, .int v_matched, .ref a_this_rows, .int v_manyRows, .long v_digested])), (a_this_states, .inl (cI, 66, .inl v_states_2)), (a_this_s, .inl (cI, 31, .inl v_s))]) (va_runV (As := []) (rest := []) ⟨hx, hb, hml, hown, hts⟩ (c_X6_manyStates l D cI cM cL F hc_4) (cwV 0 hts gX6_heaviestOf_X6_manyStates rfl rfl rfl (by decide +kernel) ⟨Nat.le_of_ble_eq_true rfl, Nat.le_of_ble_eq_true rfl⟩) (mPreV (ci := 5) (q0 := 0) (r := (RX6, TX6, 16)) hP hD hK hN [0, 1, 2] (by decide) rfl rfl rfl) rfl rfl hl.1 rfl (lv_room (Nat.le_of_ble_eq_true rfl)) dX6_heaviestOf_5 ⟨Nat.le_of_ble_eq_true rfl, Nat.le_of_ble_eq_true rfl⟩) hP hD hS hA [0, 1, 2] [] rfl rfl (by decide) (by decide) (fun H locs hP hD hS => ?_)
  have hP : va_P D vwCl [(a_this, .inr (5, [.int v_thrown, .ref a_this_s, .ref a_this_aside, .ref a_this_saved, .int v_savedMany, .ref a_this_text, .int v_length, .ref a_this_states, .int v_many_3, .int v_at, .int v_isWrong, .int v_letters, .int v_matched, .ref a_this_rows, .int v_manyRows, .long v_digested])), (a_this_states, .inl (cI, 66, .inl v_states_2)), (a_this_s, .inl (cI, 31, .inl v_s))] H := hP
  have hD : va_D A [(a_this, .inr (5, [.int v_thrown, .ref a_this_s, .ref a_this_aside, .ref a_this_saved, .int v_savedMany, .ref a_this_text, .int v_length, .ref a_this_states, .int v_many_3, .int v_at, .int v_isWrong, .int v_letters, .int v_matched, .ref a_this_rows, .int v_manyRows, .long v_digested])), (a_this_states, .inl (cI, 66, .inl v_states_2)), (a_this_s, .inl (cI, 31, .inl v_s))] := hD
  refine lv_istore_n (lv' := [(3, .int r_1), (2, .int (-1)), (1, .int (-1)), (0, .ref a_this)]) hx hb dX6_heaviestOf_8 rfl hl (by decide) rfl (fun ls hl => ?_)
  refine lv_iconst (v := 0) hx hb dX6_heaviestOf_9 (by decide) ?_
  refine lv_istore (lv' := [(4, .int 0), (3, .int r_1), (2, .int (-1)), (1, .int (-1)), (0, .ref a_this)]) hx hb dX6_heaviestOf_10 hl (by decide) rfl (fun ls hl => ?_)
  have hL12__37 : ∀ (n : Nat) (x1_31 : Int32) (x2_32 : Int32) (x4_33 : Int32) (v_states_34 : (Nat → Int32)) (v_many_35 : Int32) (v_s_36 : (Nat → Int32)) (H : Heap) (locs : List Loc), va_P D vwCl [(a_this, .inr (5, [.int v_thrown, .ref a_this_s, .ref a_this_aside, .ref a_this_saved, .int v_savedMany, .ref a_this_text, .int v_length, .ref a_this_states, .int v_many_35, .int v_at, .int v_isWrong, .int v_letters, .int v_matched, .ref a_this_rows, .int v_manyRows, .long v_digested])), (a_this_states, .inl (cI, 66, .inl v_states_34)), (a_this_s, .inl (cI, 31, .inl v_s_36))] H → va_D A [(a_this, .inr (5, [.int v_thrown, .ref a_this_s, .ref a_this_aside, .ref a_this_saved, .int v_savedMany, .ref a_this_text, .int v_length, .ref a_this_states, .int v_many_35, .int v_at, .int v_isWrong, .int v_letters, .int v_matched, .ref a_this_rows, .int v_manyRows, .long v_digested])), (a_this_states, .inl (cI, 66, .inl v_states_34)), (a_this_s, .inl (cI, 31, .inl v_s_36))] → va_S A s.heap H locs → ∀ ls : Array Slot, lv_has ls 7 [(0, .ref a_this), (1, .int x1_31), (2, .int x2_32), (3, .int r_1), (4, .int x4_33)] → L_X6_heaviestOf_12 F r_1 n x1_31 x2_32 x4_33 v_states_34 v_many_35 v_s_36 = some (r0, w_states, w_many, w_s) → W p l e rm_X6_heaviestOf s m (([.ref a_this] : List Value).toArray) below meth c H locs 0 0 Q (F0 m 12 ls []) := by
    intro n
    induction n with
    | zero => intro x1_31 x2_32 x4_33 v_states_34 v_many_35 v_s_36 H locs hP hD hS ls hl hden; exact no_none hden
    | succ n ih =>
      intro x1_31 x2_32 x4_33 v_states_34 v_many_35 v_s_36 H locs hP hD hS ls hl hden
      rw [L_X6_heaviestOf_12] at hden
      refine lv_iload hx hb dX6_heaviestOf_12 (lv_at hl 4 rfl) ?_
      refine lv_bipush (v := 8) hx hb dX6_heaviestOf_14 (by decide) ?_
      refine lv_icmp_ge (tgt := 106) hx hb dX6_heaviestOf_16 (by decide) (fun c_57 => ?_) (fun c_57 => ?_)
      · have hden := if_s hden c_57
        refine lv_iload_n hx hb dX6_heaviestOf_106 rfl (lv_at hl 1 rfl) ?_
        subst hQe
        cases hden
        exact m_ri hx hb hr hP hD hS [0, 1, 2] (by decide) rfl rfl dX6_heaviestOf_107 hlocks
      · have hden := ifn_s hden c_57
        refine lv_aload_n hx hb dX6_heaviestOf_19 rfl (lv_at hl 0 rfl) ?_
        refine va_get (D := D) (ci := 5) (v := .ref a_this_s) (C := RX6) (T := TX6) (N := 16) hx hb hts hin_X6 hown hK hP 0 rfl rfl 1 (by decide) w_7 (fun _ h9 => h9) rfl dX6_heaviestOf_20 ?_
        refine lv_iconst (v := 0) hx hb dX6_heaviestOf_23 (by decide) ?_
        refine lv_iload hx hb dX6_heaviestOf_24 (lv_at hl 4 rfl) ?_
        refine lv_iadd hx hb dX6_heaviestOf_26 ?_
        obtain ⟨hg_38, hden⟩ := grd_s hden
        refine va_iald hx hb hK hP 2 0 rfl rfl (inb_in hg_38) dX6_heaviestOf_27 ?_
        refine lv_topi (fun x5_39 ex5_39 => ?_)
        have hden := nm_s hden ex5_39
        refine lv_istore (lv' := [(5, .int x5_39), (0, .ref a_this), (1, .int x1_31), (2, .int x2_32), (3, .int r_1), (4, .int x4_33)]) hx hb dX6_heaviestOf_28 hl (by decide) rfl (fun ls hl => ?_)
        refine lv_aload_n hx hb dX6_heaviestOf_30 rfl (lv_at hl 1 rfl) ?_
        refine va_get (D := D) (ci := 5) (v := .ref a_this_s) (C := RX6) (T := TX6) (N := 16) hx hb hts hin_X6 hown hK hP 0 rfl rfl 1 (by decide) w_7 (fun _ h9 => h9) rfl dX6_heaviestOf_31 ?_
        refine lv_iconst (v := 0) hx hb dX6_heaviestOf_34 (by decide) ?_
        refine lv_iload hx hb dX6_heaviestOf_35 (lv_at hl 5 rfl) ?_
        refine lv_iadd hx hb dX6_heaviestOf_37 ?_
        refine lv_iconst (v := 0) hx hb dX6_heaviestOf_38 (by decide) ?_
        obtain ⟨hg_40, hden⟩ := grd_s hden
        refine va_iast hx hb hK hP hD hS 2 0 rfl rfl (inb_in hg_40) dX6_heaviestOf_39 (fun H locs hP hD hS => ?_)
        obtain ⟨v_s_41, ev_s_41, hden⟩ := nm_x hden
        have hP : va_P D vwCl [(a_this, .inr (5, [.int v_thrown, .ref a_this_s, .ref a_this_aside, .ref a_this_saved, .int v_savedMany, .ref a_this_text, .int v_length, .ref a_this_states, .int v_many_35, .int v_at, .int v_isWrong, .int v_letters, .int v_matched, .ref a_this_rows, .int v_manyRows, .long v_digested])), (a_this_states, .inl (cI, 66, .inl v_states_34)), (a_this_s, .inl (cI, 31, .inl v_s_41))] H := by rw [ev_s_41]; exact hP
        have hD : va_D A [(a_this, .inr (5, [.int v_thrown, .ref a_this_s, .ref a_this_aside, .ref a_this_saved, .int v_savedMany, .ref a_this_text, .int v_length, .ref a_this_states, .int v_many_35, .int v_at, .int v_isWrong, .int v_letters, .int v_matched, .ref a_this_rows, .int v_manyRows, .long v_digested])), (a_this_states, .inl (cI, 66, .inl v_states_34)), (a_this_s, .inl (cI, 31, .inl v_s_41))] := by rw [ev_s_41]; exact hD
        refine lv_iload hx hb dX6_heaviestOf_40 (lv_at hl 0 rfl) ?_
        obtain ⟨j55, ej55, hden⟩ := jp_s hden
        have hj55 : ∀ (t_44 : Int32) (v_states_42 : (Nat → Int32)) (v_many_43 : Int32) (H : Heap) (locs : List Loc), va_P D vwCl [(a_this, .inr (5, [.int v_thrown, .ref a_this_s, .ref a_this_aside, .ref a_this_saved, .int v_savedMany, .ref a_this_text, .int v_length, .ref a_this_states, .int v_many_43, .int v_at, .int v_isWrong, .int v_letters, .int v_matched, .ref a_this_rows, .int v_manyRows, .long v_digested])), (a_this_states, .inl (cI, 66, .inl v_states_42)), (a_this_s, .inl (cI, 31, .inl v_s_41))] H → va_D A [(a_this, .inr (5, [.int v_thrown, .ref a_this_s, .ref a_this_aside, .ref a_this_saved, .int v_savedMany, .ref a_this_text, .int v_length, .ref a_this_states, .int v_many_43, .int v_at, .int v_isWrong, .int v_letters, .int v_matched, .ref a_this_rows, .int v_manyRows, .long v_digested])), (a_this_states, .inl (cI, 66, .inl v_states_42)), (a_this_s, .inl (cI, 31, .inl v_s_41))] → va_S A s.heap H locs → ∀ ls : Array Slot, lv_has ls 7 [(0, .ref a_this), (1, .int x1_31), (2, .int x2_32), (3, .int r_1), (4, .int x4_33), (5, .int x5_39)] → j55 t_44 v_states_42 v_many_43 = some (r0, w_states, w_many, w_s) → W p l e rm_X6_heaviestOf s m (([.ref a_this] : List Value).toArray) below meth c H locs 0 0 Q (F0 m 55 ls [.int t_44]) := by
          intro t_44 v_states_42 v_many_43 H locs hP hD hS ls hl hden
          rw [ej55] at hden
          refine lv_istore (lv' := [(6, .int t_44), (0, .ref a_this), (1, .int x1_31), (2, .int x2_32), (3, .int r_1), (4, .int x4_33), (5, .int x5_39)]) hx hb dX6_heaviestOf_55 hl (by decide) rfl (fun ls hl => ?_)
          refine lv_aload_n hx hb dX6_heaviestOf_57 rfl (lv_at hl 1 rfl) ?_
          refine va_get (D := D) (ci := 5) (v := .ref a_this_s) (C := RX6) (T := TX6) (N := 16) hx hb hts hin_X6 hown hK hP 0 rfl rfl 1 (by decide) w_7 (fun _ h9 => h9) rfl dX6_heaviestOf_58 ?_
          refine lv_iconst (v := 0) hx hb dX6_heaviestOf_61 (by decide) ?_
          refine lv_iload hx hb dX6_heaviestOf_62 (lv_at hl 5 rfl) ?_
          refine lv_iadd hx hb dX6_heaviestOf_64 ?_
          refine lv_iload hx hb dX6_heaviestOf_65 (lv_at hl 6 rfl) ?_
          obtain ⟨hg_45, hden⟩ := grd_s hden
          refine va_iast hx hb hK hP hD hS 2 0 rfl rfl (inb_in hg_45) dX6_heaviestOf_67 (fun H locs hP hD hS => ?_)
          obtain ⟨v_s_46, ev_s_46, hden⟩ := nm_x hden
          have hP : va_P D vwCl [(a_this, .inr (5, [.int v_thrown, .ref a_this_s, .ref a_this_aside, .ref a_this_saved, .int v_savedMany, .ref a_this_text, .int v_length, .ref a_this_states, .int v_many_43, .int v_at, .int v_isWrong, .int v_letters, .int v_matched, .ref a_this_rows, .int v_manyRows, .long v_digested])), (a_this_states, .inl (cI, 66, .inl v_states_42)), (a_this_s, .inl (cI, 31, .inl v_s_46))] H := by rw [ev_s_46]; exact hP
          have hD : va_D A [(a_this, .inr (5, [.int v_thrown, .ref a_this_s, .ref a_this_aside, .ref a_this_saved, .int v_savedMany, .ref a_this_text, .int v_length, .ref a_this_states, .int v_many_43, .int v_at, .int v_isWrong, .int v_letters, .int v_matched, .ref a_this_rows, .int v_manyRows, .long v_digested])), (a_this_states, .inl (cI, 66, .inl v_states_42)), (a_this_s, .inl (cI, 31, .inl v_s_46))] := by rw [ev_s_46]; exact hD
          refine lv_iload hx hb dX6_heaviestOf_68 (lv_at hl 0 rfl) ?_
          refine lv_iload_n hx hb dX6_heaviestOf_70 rfl (lv_at hl 3 rfl) ?_
          obtain ⟨j86, ej86, hden⟩ := jp_s hden
          have hj86 : ∀ (t_47 : Int32) (H : Heap) (locs : List Loc), va_P D vwCl [(a_this, .inr (5, [.int v_thrown, .ref a_this_s, .ref a_this_aside, .ref a_this_saved, .int v_savedMany, .ref a_this_text, .int v_length, .ref a_this_states, .int v_many_43, .int v_at, .int v_isWrong, .int v_letters, .int v_matched, .ref a_this_rows, .int v_manyRows, .long v_digested])), (a_this_states, .inl (cI, 66, .inl v_states_42)), (a_this_s, .inl (cI, 31, .inl v_s_46))] H → va_D A [(a_this, .inr (5, [.int v_thrown, .ref a_this_s, .ref a_this_aside, .ref a_this_saved, .int v_savedMany, .ref a_this_text, .int v_length, .ref a_this_states, .int v_many_43, .int v_at, .int v_isWrong, .int v_letters, .int v_matched, .ref a_this_rows, .int v_manyRows, .long v_digested])), (a_this_states, .inl (cI, 66, .inl v_states_42)), (a_this_s, .inl (cI, 31, .inl v_s_46))] → va_S A s.heap H locs → ∀ ls : Array Slot, lv_has ls 7 [(0, .ref a_this), (2, .int x2_32), (3, .int r_1), (4, .int x4_33), (6, .int t_44)] → j86 t_47 = some (r0, w_states, w_many, w_s) → W p l e rm_X6_heaviestOf s m (([.ref a_this] : List Value).toArray) below meth c H locs 0 0 Q (F0 m 86 ls [.int t_47]) := by
            intro t_47 H locs hP hD hS ls hl hden
            rw [ej86] at hden
            refine lv_istore_n (lv' := [(1, .int t_47), (0, .ref a_this), (2, .int x2_32), (3, .int r_1), (4, .int x4_33), (6, .int t_44)]) hx hb dX6_heaviestOf_86 rfl hl (by decide) rfl (fun ls hl => ?_)
            refine lv_iload hx hb dX6_heaviestOf_87 (lv_at hl 5 rfl) ?_
            refine lv_iload_n hx hb dX6_heaviestOf_89 rfl (lv_at hl 2 rfl) ?_
            refine lv_icmp_le (tgt := 98) hx hb dX6_heaviestOf_90 (by decide) (fun c_50 => ?_) (fun c_50 => ?_)
            · have hden := if_s hden c_50
              refine lv_iload_n hx hb dX6_heaviestOf_98 rfl (lv_at hl 2 rfl) ?_
              refine lv_istore_n (lv' := [(2, .int x2_32), (1, .int t_47), (0, .ref a_this), (3, .int r_1), (4, .int x4_33), (6, .int t_44)]) hx hb dX6_heaviestOf_99 rfl hl (by decide) rfl (fun ls hl => ?_)
              obtain ⟨x4_48, ex4_48, hden⟩ := nm_x hden
              refine lv_iinc (v := x4_48) (lv' := [(4, .int x4_48), (2, .int x2_32), (1, .int t_47), (0, .ref a_this), (3, .int r_1), (6, .int t_44)]) hx hb dX6_heaviestOf_100 hl (k := 4) rfl (by rw [ex4_48]; rfl) (by decide) rfl (fun ls hl => ?_)
              refine lv_goto (tgt := 12) hx hb dX6_heaviestOf_103 (by decide) ?_
              exact ih t_47 x2_32 x4_48 v_states_42 v_many_43 v_s_46 _ _ (mSubP hP [0, 1, 2] rfl) (hD.sub [0, 1, 2] (by decide) rfl) hS ls (lv_sub hl [3, 2, 1, 4, 0] rfl) hden
            · have hden := ifn_s hden c_50
              refine lv_iload hx hb dX6_heaviestOf_93 (lv_at hl 5 rfl) ?_
              refine lv_goto (tgt := 99) hx hb dX6_heaviestOf_95 (by decide) ?_
              refine lv_istore_n (lv' := [(2, .int t_44), (1, .int t_47), (0, .ref a_this), (3, .int r_1), (4, .int x4_33), (6, .int t_44)]) hx hb dX6_heaviestOf_99 rfl hl (by decide) rfl (fun ls hl => ?_)
              obtain ⟨x4_49, ex4_49, hden⟩ := nm_x hden
              refine lv_iinc (v := x4_49) (lv' := [(4, .int x4_49), (2, .int t_44), (1, .int t_47), (0, .ref a_this), (3, .int r_1), (6, .int t_44)]) hx hb dX6_heaviestOf_100 hl (k := 4) rfl (by rw [ex4_49]; rfl) (by decide) rfl (fun ls hl => ?_)
              refine lv_goto (tgt := 12) hx hb dX6_heaviestOf_103 (by decide) ?_
              exact ih t_47 t_44 x4_49 v_states_42 v_many_43 v_s_46 _ _ (mSubP hP [0, 1, 2] rfl) (hD.sub [0, 1, 2] (by decide) rfl) hS ls (lv_sub hl [3, 2, 1, 4, 0] rfl) hden
          clear ej86
          refine lv_icmp_le (tgt := 85) hx hb dX6_heaviestOf_71 (by decide) (fun c_51 => ?_) (fun c_51 => ?_)
          · have hden := if_s hden c_51
            refine lv_iload_n hx hb dX6_heaviestOf_85 rfl (lv_at hl 2 rfl) ?_
            exact hj86 x1_31 _ _ (mSubP hP [0, 1, 2] rfl) (hD.sub [0, 1, 2] (by decide) rfl) hS ls (lv_sub hl [1, 3, 4, 5, 0] rfl) hden
          · have hden := ifn_s hden c_51
            refine lv_bipush (v := 100) hx hb dX6_heaviestOf_74 (by decide) ?_
            refine lv_iload hx hb dX6_heaviestOf_76 (lv_at hl 0 rfl) ?_
            refine lv_imul hx hb dX6_heaviestOf_78 ?_
            refine lv_iload hx hb dX6_heaviestOf_79 (lv_at hl 5 rfl) ?_
            refine lv_iadd hx hb dX6_heaviestOf_81 ?_
            refine lv_goto (tgt := 86) hx hb dX6_heaviestOf_82 (by decide) ?_
            exact hj86 (((100 : Int32) * t_44) + x4_33) _ _ (mSubP hP [0, 1, 2] rfl) (hD.sub [0, 1, 2] (by decide) rfl) hS ls (lv_sub hl [1, 3, 4, 5, 0] rfl) hden
        clear ej55
        refine lv_if_le (tgt := 54) hx hb dX6_heaviestOf_42 (by decide) (fun c_56 => ?_) (fun c_56 => ?_)
        · have hden := if_s hden c_56
          refine lv_iconst (v := (-1)) hx hb dX6_heaviestOf_54 (by decide) ?_
          exact hj55 (-1) v_states_34 v_many_35 _ _ (mSubP hP [0, 1, 2] rfl) (hD.sub [0, 1, 2] (by decide) rfl) hS ls (lv_sub hl [1, 2, 3, 4, 5, 0] rfl) hden
        · have hden := ifn_s hden c_56
          refine lv_iload_n hx hb dX6_heaviestOf_45 rfl (lv_at hl 4 rfl) ?_
          refine lv_aload_n hx hb dX6_heaviestOf_46 rfl (lv_at hl 1 rfl) ?_
          obtain ⟨⟨r_52, v_states_53, v_many_54⟩, hc_55, hden⟩ := bnd_s hden
          refine m_ci (wc := [(a_this, .inr (5, [.int v_thrown, .ref a_this_s, .ref a_this_aside, .ref a_this_saved, .int v_savedMany, .ref a_this_text, .int v_length, .ref a_this_states, .int v_many_35, .int v_at, .int v_isWrong, .int v_letters, .int v_matched, .ref a_this_rows, .int v_manyRows, .long v_digested])), (a_this_states, .inl (cI, 66, .inl v_states_34)), (a_this_s, .inl (cI, 31, .inl v_s_41))]) (wr := []) (wc' := [(a_this, .inr (5, [.int v_thrown, .ref a_this_s, .ref a_this_aside, .ref a_this_saved, .int v_savedMany, .ref a_this_text, .int v_length, .ref a_this_states, .int v_many_54, .int v_at, .int v_isWrong, .int v_letters, .int v_matched, .ref a_this_rows, .int v_manyRows, .long v_digested])), (a_this_states, .inl (cI, 66, .inl v_states_53)), (a_this_s, .inl (cI, 31, .inl v_s_41))]) (va_runV (As := []) (rest := [.int r_1]) ⟨hx, hb, hml, hown, hts⟩ (c_X6_manyStates l D cI cM cL F hc_55) (cwV 0 hts gX6_heaviestOf_X6_manyStates rfl rfl rfl (by decide +kernel) ⟨Nat.le_of_ble_eq_true rfl, Nat.le_of_ble_eq_true rfl⟩) (mPreV (ci := 5) (q0 := 0) (r := (RX6, TX6, 16)) hP hD hK hN [0, 1, 2] (by decide) rfl rfl rfl) rfl rfl hl.1 rfl (lv_room (Nat.le_of_ble_eq_true rfl)) dX6_heaviestOf_47 ⟨Nat.le_of_ble_eq_true rfl, Nat.le_of_ble_eq_true rfl⟩) hP hD hS hA [0, 1, 2] [] rfl rfl (by decide) (by decide) (fun H locs hP hD hS => ?_)
          have hP : va_P D vwCl [(a_this, .inr (5, [.int v_thrown, .ref a_this_s, .ref a_this_aside, .ref a_this_saved, .int v_savedMany, .ref a_this_text, .int v_length, .ref a_this_states, .int v_many_54, .int v_at, .int v_isWrong, .int v_letters, .int v_matched, .ref a_this_rows, .int v_manyRows, .long v_digested])), (a_this_states, .inl (cI, 66, .inl v_states_53)), (a_this_s, .inl (cI, 31, .inl v_s_41))] H := hP
          have hD : va_D A [(a_this, .inr (5, [.int v_thrown, .ref a_this_s, .ref a_this_aside, .ref a_this_saved, .int v_savedMany, .ref a_this_text, .int v_length, .ref a_this_states, .int v_many_54, .int v_at, .int v_isWrong, .int v_letters, .int v_matched, .ref a_this_rows, .int v_manyRows, .long v_digested])), (a_this_states, .inl (cI, 66, .inl v_states_53)), (a_this_s, .inl (cI, 31, .inl v_s_41))] := hD
          refine lv_isub hx hb dX6_heaviestOf_50 ?_
          refine lv_goto (tgt := 55) hx hb dX6_heaviestOf_51 (by decide) ?_
          exact hj55 (r_1 - r_52) v_states_53 v_many_54 _ _ (mSubP hP [0, 1, 2] rfl) (hD.sub [0, 1, 2] (by decide) rfl) hS ls (lv_sub hl [1, 2, 3, 4, 5, 0] rfl) hden
  exact hL12__37 F (-1) (-1) 0 v_states_2 v_many_3 v_s _ _ (mSubP hP [0, 1, 2] rfl) (hD.sub [0, 1, 2] (by decide) rfl) hS ls (lv_sub hl [4, 3, 2, 1, 0] rfl) hden
def D_X6_heaviest (F : Nat) (v_thrown : Int32) (v_states : (Nat → Int32)) (v_many : Int32) (v_s : (Nat → Int32)) : Option (Int32 × Int32 × (Nat → Int32) × Int32 × (Nat → Int32)) := bnd (D_X6_heaviestOf F v_states v_many v_s) (fun (r_1, v_states_2, v_many_3, v_s_4) => some (r_1, 0, v_states_2, v_many_3, v_s_4))
def rm_X6_heaviest : Room := { frames := 5, cells := 0, slots := 0, locals := 110 }
set_option maxHeartbeats 4000000 in
set_option maxRecDepth 100000 in
theorem c_X6_heaviest (l : Launch) (D : va_G) (cI cM cL : ClassId) (F : Nat) {a_this a_this_s a_this_aside a_this_saved a_this_text a_this_states a_this_rows : Nat} {sz : Nat} {v_thrown v_savedMany v_length v_many v_at v_isWrong v_letters v_matched v_manyRows : Int32} {v_digested : Int64} {v_states v_s : Nat → Int32} {r0 : Int32} {w_thrown : Int32} {w_states : (Nat → Int32)} {w_many : Int32} {w_s : (Nat → Int32)} (hden : D_X6_heaviest F v_thrown v_states v_many v_s = some (r0, w_thrown, w_states, w_many, w_s)) : Met l yX6_heaviest wsX6_heaviest rm_X6_heaviest (va_Pc [.ref a_this] (mB D (mTy cI cM cL) sz [(a_this, .inr (5, [.int v_thrown, .ref a_this_s, .ref a_this_aside, .ref a_this_saved, .int v_savedMany, .ref a_this_text, .int v_length, .ref a_this_states, .int v_many, .int v_at, .int v_isWrong, .int v_letters, .int v_matched, .ref a_this_rows, .int v_manyRows, .long v_digested])), (a_this_states, .inl (cI, 66, .inl v_states)), (a_this_s, .inl (cI, 31, .inl v_s))])) (mQi D (va_A [(a_this, .inr (5, [.int v_thrown, .ref a_this_s, .ref a_this_aside, .ref a_this_saved, .int v_savedMany, .ref a_this_text, .int v_length, .ref a_this_states, .int v_many, .int v_at, .int v_isWrong, .int v_letters, .int v_matched, .ref a_this_rows, .int v_manyRows, .long v_digested])), (a_this_states, .inl (cI, 66, .inl v_states)), (a_this_s, .inl (cI, 31, .inl v_s))] sz) [(a_this, .inr (5, [.int w_thrown, .ref a_this_s, .ref a_this_aside, .ref a_this_saved, .int v_savedMany, .ref a_this_text, .int v_length, .ref a_this_states, .int w_many, .int v_at, .int v_isWrong, .int v_letters, .int v_matched, .ref a_this_rows, .int v_manyRows, .long v_digested])), (a_this_states, .inl (cI, 66, .inl w_states)), (a_this_s, .inl (cI, 31, .inl w_s))] r0) 0 0 (va_A [(a_this, .inr (5, [.int v_thrown, .ref a_this_s, .ref a_this_aside, .ref a_this_saved, .int v_savedMany, .ref a_this_text, .int v_length, .ref a_this_states, .int v_many, .int v_at, .int v_isWrong, .int v_letters, .int v_matched, .ref a_this_rows, .int v_manyRows, .long v_digested])), (a_this_states, .inl (cI, 66, .inl v_states)), (a_this_s, .inl (cI, 31, .inl v_s))] sz) := by
  refine Met.ofW (cc := cX6_heaviest) (maxL := 1) (ret := (some .int)) (by decide) rfl ?_
  intro p e s m args below meth c s₁ B hml hv
  obtain ⟨rfl, hsz, hP, hK, hN, hD0⟩ := hv
  have hx := B.exec
  have hb := B.bytes
  have hr := B.returns
  have hts := atoms_spec (ws := wsX6_heaviest) B.pre
  have hown : s.vm.findClass RX6 = some m.cls := findClass_of_methodNamed B.named
  have hlocks := B.notSynchronized
  subst hsz
  have hD := hD0.self (sz := s.heap.size)
  generalize hAe : va_A [(a_this, .inr (5, [.int v_thrown, .ref a_this_s, .ref a_this_aside, .ref a_this_saved, .int v_savedMany, .ref a_this_text, .int v_length, .ref a_this_states, .int v_many, .int v_at, .int v_isWrong, .int v_letters, .int v_matched, .ref a_this_rows, .int v_manyRows, .long v_digested])), (a_this_states, .inl (cI, 66, .inl v_states)), (a_this_s, .inl (cI, 31, .inl v_s))] s.heap.size = A at hD ⊢
  have hA : ∀ q : Nat, s.heap.size ≤ q → A q := fun q h => by rw [← hAe]; exact Or.inr h
  have hS : va_S A s.heap s.heap [] := va_S.rf
  have hl := lv_entry ([.ref a_this]) (n := 1) (Nat.le_of_ble_eq_true rfl)
  rw [lg_entry_eq]
  generalize (lg_sl ([.ref a_this]) ++ List.replicate (1 - (lg_sl ([.ref a_this])).length) Slot.unset).toArray = ls at hl ⊢
  have hl : lv_has ls 1 [(0, .ref a_this)] := hl
  change W p l e rm_X6_heaviest s m (([.ref a_this] : List Value).toArray) below meth c s.heap [] 0 0 _ (F0 m 0 ls [])
  generalize hQe : MQ below (mQi D A [(a_this, .inr (5, [.int w_thrown, .ref a_this_s, .ref a_this_aside, .ref a_this_saved, .int v_savedMany, .ref a_this_text, .int v_length, .ref a_this_states, .int w_many, .int v_at, .int v_isWrong, .int v_letters, .int v_matched, .ref a_this_rows, .int v_manyRows, .long v_digested])), (a_this_states, .inl (cI, 66, .inl w_states)), (a_this_s, .inl (cI, 31, .inl w_s))] r0) (([.ref a_this] : List Value).toArray) s 0 0 A = Q
  rw [D_X6_heaviest] at hden
  have hin_X6 : ∀ w ∈ wsX60, w ∈ wsX6_heaviest := by decide +kernel
  have w_31 := hts (.fieldLink RX6 31 "FallingPatternsModel" "thrown" "I") (by decide +kernel)
  refine lv_aload_n hx hb dX6_heaviest_0 rfl (lv_at hl 0 rfl) ?_
  refine lv_iconst (v := 0) hx hb dX6_heaviest_1 (by decide) ?_
  refine va_put (D := D) (ci := 5) (v := .int 0) (ty := .int) (C := RX6) (T := TX6) (N := 16) hx hb hts hin_X6 tyX6 tyX6_ok nmX6 hown hK hP hD hS 0 rfl rfl 0 (by decide) w_31 (fun _ h9 => h9) rfl (by decide +kernel) rfl rfl (Nat.le_of_ble_eq_true rfl) dX6_heaviest_2 (fun H locs hP hD hS => ?_)
  have hP : va_P D vwCl [(a_this, .inr (5, [.int 0, .ref a_this_s, .ref a_this_aside, .ref a_this_saved, .int v_savedMany, .ref a_this_text, .int v_length, .ref a_this_states, .int v_many, .int v_at, .int v_isWrong, .int v_letters, .int v_matched, .ref a_this_rows, .int v_manyRows, .long v_digested])), (a_this_states, .inl (cI, 66, .inl v_states)), (a_this_s, .inl (cI, 31, .inl v_s))] H := hP
  have hD : va_D A [(a_this, .inr (5, [.int 0, .ref a_this_s, .ref a_this_aside, .ref a_this_saved, .int v_savedMany, .ref a_this_text, .int v_length, .ref a_this_states, .int v_many, .int v_at, .int v_isWrong, .int v_letters, .int v_matched, .ref a_this_rows, .int v_manyRows, .long v_digested])), (a_this_states, .inl (cI, 66, .inl v_states)), (a_this_s, .inl (cI, 31, .inl v_s))] := hD
  refine lv_aload_n hx hb dX6_heaviest_5 rfl (lv_at hl 0 rfl) ?_
  obtain ⟨⟨r_1, v_states_2, v_many_3, v_s_4⟩, hc_5, hden⟩ := bnd_s hden
  refine m_ci (wc := [(a_this, .inr (5, [.int 0, .ref a_this_s, .ref a_this_aside, .ref a_this_saved, .int v_savedMany, .ref a_this_text, .int v_length, .ref a_this_states, .int v_many, .int v_at, .int v_isWrong, .int v_letters, .int v_matched, .ref a_this_rows, .int v_manyRows, .long v_digested])), (a_this_states, .inl (cI, 66, .inl v_states)), (a_this_s, .inl (cI, 31, .inl v_s))]) (wr := []) (wc' := [(a_this, .inr (5, [.int 0, .ref a_this_s, .ref a_this_aside, .ref a_this_saved, .int v_savedMany, .ref a_this_text, .int v_length, .ref a_this_states, .int v_many_3, .int v_at, .int v_isWrong, .int v_letters, .int v_matched, .ref a_this_rows, .int v_manyRows, .long v_digested])), (a_this_states, .inl (cI, 66, .inl v_states_2)), (a_this_s, .inl (cI, 31, .inl v_s_4))]) (va_runV (As := []) (rest := []) ⟨hx, hb, hml, hown, hts⟩ (c_X6_heaviestOf l D cI cM cL F hc_5) (cwV 0 hts gX6_heaviest_X6_heaviestOf rfl rfl rfl (by decide +kernel) ⟨Nat.le_of_ble_eq_true rfl, Nat.le_of_ble_eq_true rfl⟩) (mPreV (ci := 5) (q0 := 0) (r := (RX6, TX6, 16)) hP hD hK hN [0, 1, 2] (by decide) rfl rfl rfl) rfl rfl hl.1 rfl (lv_room (Nat.le_of_ble_eq_true rfl)) dX6_heaviest_6 ⟨Nat.le_of_ble_eq_true rfl, Nat.le_of_ble_eq_true rfl⟩) hP hD hS hA [0, 1, 2] [] rfl rfl (by decide) (by decide) (fun H locs hP hD hS => ?_)
  have hP : va_P D vwCl [(a_this, .inr (5, [.int 0, .ref a_this_s, .ref a_this_aside, .ref a_this_saved, .int v_savedMany, .ref a_this_text, .int v_length, .ref a_this_states, .int v_many_3, .int v_at, .int v_isWrong, .int v_letters, .int v_matched, .ref a_this_rows, .int v_manyRows, .long v_digested])), (a_this_states, .inl (cI, 66, .inl v_states_2)), (a_this_s, .inl (cI, 31, .inl v_s_4))] H := hP
  have hD : va_D A [(a_this, .inr (5, [.int 0, .ref a_this_s, .ref a_this_aside, .ref a_this_saved, .int v_savedMany, .ref a_this_text, .int v_length, .ref a_this_states, .int v_many_3, .int v_at, .int v_isWrong, .int v_letters, .int v_matched, .ref a_this_rows, .int v_manyRows, .long v_digested])), (a_this_states, .inl (cI, 66, .inl v_states_2)), (a_this_s, .inl (cI, 31, .inl v_s_4))] := hD
  subst hQe
  cases hden
  exact m_ri hx hb hr hP hD hS [0, 1, 2] (by decide) rfl rfl dX6_heaviest_9 hlocks
def D_X6_share (F : Nat) (v_s : (Nat → Int32)) (v_states : (Nat → Int32)) (v_many : Int32) : Option (UInt64 × (Nat → Int32) × Int32) := bnd (D_X6_sumOfLengths F v_s) (fun r_1 => (if r_1 = 0 then some (4607182418800017408, v_states, v_many) else bnd (D_X6_manyStates F v_states v_many v_s) (fun (r_3, v_states_4, v_many_5) => grd (nnan (FP.ddiv (FP.i2d (r_3 - 1)) (FP.i2d r_1))) (some ((FP.ddiv (FP.i2d (r_3 - 1)) (FP.i2d r_1)), v_states_4, v_many_5)))))
def rm_X6_share : Room := { frames := 4, cells := 0, slots := 0, locals := 84 }
set_option maxHeartbeats 4000000 in
set_option maxRecDepth 100000 in
theorem c_X6_share (l : Launch) (D : va_G) (cI cM cL : ClassId) (F : Nat) {a_this a_this_s a_this_aside a_this_saved a_this_text a_this_states a_this_rows : Nat} {sz : Nat} {v_thrown v_savedMany v_length v_many v_at v_isWrong v_letters v_matched v_manyRows : Int32} {v_digested : Int64} {v_s v_states : Nat → Int32} {r0 : UInt64} {w_states : (Nat → Int32)} {w_many : Int32} (hden : D_X6_share F v_s v_states v_many = some (r0, w_states, w_many)) : Met l yX6_share wsX6_share rm_X6_share (va_Pc [.ref a_this] (mB D (mTy cI cM cL) sz [(a_this, .inr (5, [.int v_thrown, .ref a_this_s, .ref a_this_aside, .ref a_this_saved, .int v_savedMany, .ref a_this_text, .int v_length, .ref a_this_states, .int v_many, .int v_at, .int v_isWrong, .int v_letters, .int v_matched, .ref a_this_rows, .int v_manyRows, .long v_digested])), (a_this_s, .inl (cI, 31, .inl v_s)), (a_this_states, .inl (cI, 66, .inl v_states))])) (mQd D (va_A [(a_this, .inr (5, [.int v_thrown, .ref a_this_s, .ref a_this_aside, .ref a_this_saved, .int v_savedMany, .ref a_this_text, .int v_length, .ref a_this_states, .int v_many, .int v_at, .int v_isWrong, .int v_letters, .int v_matched, .ref a_this_rows, .int v_manyRows, .long v_digested])), (a_this_s, .inl (cI, 31, .inl v_s)), (a_this_states, .inl (cI, 66, .inl v_states))] sz) [(a_this, .inr (5, [.int v_thrown, .ref a_this_s, .ref a_this_aside, .ref a_this_saved, .int v_savedMany, .ref a_this_text, .int v_length, .ref a_this_states, .int w_many, .int v_at, .int v_isWrong, .int v_letters, .int v_matched, .ref a_this_rows, .int v_manyRows, .long v_digested])), (a_this_s, .inl (cI, 31, .inl v_s)), (a_this_states, .inl (cI, 66, .inl w_states))] r0) 0 0 (va_A [(a_this, .inr (5, [.int v_thrown, .ref a_this_s, .ref a_this_aside, .ref a_this_saved, .int v_savedMany, .ref a_this_text, .int v_length, .ref a_this_states, .int v_many, .int v_at, .int v_isWrong, .int v_letters, .int v_matched, .ref a_this_rows, .int v_manyRows, .long v_digested])), (a_this_s, .inl (cI, 31, .inl v_s)), (a_this_states, .inl (cI, 66, .inl v_states))] sz) := by
  refine Met.ofW (cc := cX6_share) (maxL := 2) (ret := (some .double)) (by decide) rfl ?_
  intro p e s m args below meth c s₁ B hml hv
  obtain ⟨rfl, hsz, hP, hK, hN, hD0⟩ := hv
  have hx := B.exec
  have hb := B.bytes
  have hr := B.returns
  have hts := atoms_spec (ws := wsX6_share) B.pre
  have hown : s.vm.findClass RX6 = some m.cls := findClass_of_methodNamed B.named
  have hlocks := B.notSynchronized
  subst hsz
  have hD := hD0.self (sz := s.heap.size)
  generalize hAe : va_A [(a_this, .inr (5, [.int v_thrown, .ref a_this_s, .ref a_this_aside, .ref a_this_saved, .int v_savedMany, .ref a_this_text, .int v_length, .ref a_this_states, .int v_many, .int v_at, .int v_isWrong, .int v_letters, .int v_matched, .ref a_this_rows, .int v_manyRows, .long v_digested])), (a_this_s, .inl (cI, 31, .inl v_s)), (a_this_states, .inl (cI, 66, .inl v_states))] s.heap.size = A at hD ⊢
  have hA : ∀ q : Nat, s.heap.size ≤ q → A q := fun q h => by rw [← hAe]; exact Or.inr h
  have hS : va_S A s.heap s.heap [] := va_S.rf
  have hl := lv_entry ([.ref a_this]) (n := 2) (Nat.le_of_ble_eq_true rfl)
  rw [lg_entry_eq]
  generalize (lg_sl ([.ref a_this]) ++ List.replicate (2 - (lg_sl ([.ref a_this])).length) Slot.unset).toArray = ls at hl ⊢
  have hl : lv_has ls 2 [(0, .ref a_this)] := hl
  change W p l e rm_X6_share s m (([.ref a_this] : List Value).toArray) below meth c s.heap [] 0 0 _ (F0 m 0 ls [])
  generalize hQe : MQ below (mQd D A [(a_this, .inr (5, [.int v_thrown, .ref a_this_s, .ref a_this_aside, .ref a_this_saved, .int v_savedMany, .ref a_this_text, .int v_length, .ref a_this_states, .int w_many, .int v_at, .int v_isWrong, .int v_letters, .int v_matched, .ref a_this_rows, .int v_manyRows, .long v_digested])), (a_this_s, .inl (cI, 31, .inl v_s)), (a_this_states, .inl (cI, 66, .inl w_states))] r0) (([.ref a_this] : List Value).toArray) s 0 0 A = Q
  rw [D_X6_share] at hden
  refine lv_aload_n hx hb dX6_share_0 rfl (lv_at hl 0 rfl) ?_
  obtain ⟨r_1, hc_2, hden⟩ := bnd_s hden
  refine m_ci (wc := [(a_this, .inr (5, [.int v_thrown, .ref a_this_s, .ref a_this_aside, .ref a_this_saved, .int v_savedMany, .ref a_this_text, .int v_length, .ref a_this_states, .int v_many, .int v_at, .int v_isWrong, .int v_letters, .int v_matched, .ref a_this_rows, .int v_manyRows, .long v_digested])), (a_this_s, .inl (cI, 31, .inl v_s))]) (wr := [(a_this_states, .inl (cI, 66, .inl v_states))]) (wc' := [(a_this, .inr (5, [.int v_thrown, .ref a_this_s, .ref a_this_aside, .ref a_this_saved, .int v_savedMany, .ref a_this_text, .int v_length, .ref a_this_states, .int v_many, .int v_at, .int v_isWrong, .int v_letters, .int v_matched, .ref a_this_rows, .int v_manyRows, .long v_digested])), (a_this_s, .inl (cI, 31, .inl v_s))]) (va_runV (As := []) (rest := []) ⟨hx, hb, hml, hown, hts⟩ (c_X6_sumOfLengths l D cI cM cL F hc_2) (cwV 0 hts gX6_share_X6_sumOfLengths rfl rfl rfl (by decide +kernel) ⟨Nat.le_of_ble_eq_true rfl, Nat.le_of_ble_eq_true rfl⟩) (mPreV (ci := 5) (q0 := 0) (r := (RX6, TX6, 16)) hP hD hK hN [0, 1] (by decide) rfl rfl rfl) rfl rfl hl.1 rfl (lv_room (Nat.le_of_ble_eq_true rfl)) dX6_share_1 ⟨Nat.le_of_ble_eq_true rfl, Nat.le_of_ble_eq_true rfl⟩) hP hD hS hA [0, 1] [2] rfl rfl (by decide) (by decide) (fun H locs hP hD hS => ?_)
  have hP : va_P D vwCl [(a_this_states, .inl (cI, 66, .inl v_states)), (a_this, .inr (5, [.int v_thrown, .ref a_this_s, .ref a_this_aside, .ref a_this_saved, .int v_savedMany, .ref a_this_text, .int v_length, .ref a_this_states, .int v_many, .int v_at, .int v_isWrong, .int v_letters, .int v_matched, .ref a_this_rows, .int v_manyRows, .long v_digested])), (a_this_s, .inl (cI, 31, .inl v_s))] H := hP
  have hD : va_D A [(a_this_states, .inl (cI, 66, .inl v_states)), (a_this, .inr (5, [.int v_thrown, .ref a_this_s, .ref a_this_aside, .ref a_this_saved, .int v_savedMany, .ref a_this_text, .int v_length, .ref a_this_states, .int v_many, .int v_at, .int v_isWrong, .int v_letters, .int v_matched, .ref a_this_rows, .int v_manyRows, .long v_digested])), (a_this_s, .inl (cI, 31, .inl v_s))] := hD
  refine lv_istore_n (lv' := [(1, .int r_1), (0, .ref a_this)]) hx hb dX6_share_4 rfl hl (by decide) rfl (fun ls hl => ?_)
  refine lv_iload_n hx hb dX6_share_5 rfl (lv_at hl 0 rfl) ?_
  refine lv_if_ne (tgt := 13) hx hb dX6_share_6 (by decide) (fun c_8 => ?_) (fun c_8 => ?_)
  · have hden := ifn_s hden c_8
    refine lv_aload_n hx hb dX6_share_13 rfl (lv_at hl 1 rfl) ?_
    obtain ⟨⟨r_3, v_states_4, v_many_5⟩, hc_6, hden⟩ := bnd_s hden
    refine m_ci (wc := [(a_this, .inr (5, [.int v_thrown, .ref a_this_s, .ref a_this_aside, .ref a_this_saved, .int v_savedMany, .ref a_this_text, .int v_length, .ref a_this_states, .int v_many, .int v_at, .int v_isWrong, .int v_letters, .int v_matched, .ref a_this_rows, .int v_manyRows, .long v_digested])), (a_this_states, .inl (cI, 66, .inl v_states)), (a_this_s, .inl (cI, 31, .inl v_s))]) (wr := []) (wc' := [(a_this, .inr (5, [.int v_thrown, .ref a_this_s, .ref a_this_aside, .ref a_this_saved, .int v_savedMany, .ref a_this_text, .int v_length, .ref a_this_states, .int v_many_5, .int v_at, .int v_isWrong, .int v_letters, .int v_matched, .ref a_this_rows, .int v_manyRows, .long v_digested])), (a_this_states, .inl (cI, 66, .inl v_states_4)), (a_this_s, .inl (cI, 31, .inl v_s))]) (va_runV (As := []) (rest := []) ⟨hx, hb, hml, hown, hts⟩ (c_X6_manyStates l D cI cM cL F hc_6) (cwV 0 hts gX6_share_X6_manyStates rfl rfl rfl (by decide +kernel) ⟨Nat.le_of_ble_eq_true rfl, Nat.le_of_ble_eq_true rfl⟩) (mPreV (ci := 5) (q0 := 0) (r := (RX6, TX6, 16)) hP hD hK hN [1, 0, 2] (by decide) rfl rfl rfl) rfl rfl hl.1 rfl (lv_room (Nat.le_of_ble_eq_true rfl)) dX6_share_14 ⟨Nat.le_of_ble_eq_true rfl, Nat.le_of_ble_eq_true rfl⟩) hP hD hS hA [1, 0, 2] [] rfl rfl (by decide) (by decide) (fun H locs hP hD hS => ?_)
    have hP : va_P D vwCl [(a_this, .inr (5, [.int v_thrown, .ref a_this_s, .ref a_this_aside, .ref a_this_saved, .int v_savedMany, .ref a_this_text, .int v_length, .ref a_this_states, .int v_many_5, .int v_at, .int v_isWrong, .int v_letters, .int v_matched, .ref a_this_rows, .int v_manyRows, .long v_digested])), (a_this_states, .inl (cI, 66, .inl v_states_4)), (a_this_s, .inl (cI, 31, .inl v_s))] H := hP
    have hD : va_D A [(a_this, .inr (5, [.int v_thrown, .ref a_this_s, .ref a_this_aside, .ref a_this_saved, .int v_savedMany, .ref a_this_text, .int v_length, .ref a_this_states, .int v_many_5, .int v_at, .int v_isWrong, .int v_letters, .int v_matched, .ref a_this_rows, .int v_manyRows, .long v_digested])), (a_this_states, .inl (cI, 66, .inl v_states_4)), (a_this_s, .inl (cI, 31, .inl v_s))] := hD
    refine lv_iconst (v := 1) hx hb dX6_share_17 (by decide) ?_
    refine lv_isub hx hb dX6_share_18 ?_
    refine lv_i2d hx hb dX6_share_19 ?_
    refine lv_iload_n hx hb dX6_share_20 rfl (lv_at hl 0 rfl) ?_
    refine lv_i2d hx hb dX6_share_21 ?_
    obtain ⟨hg_7, hden⟩ := grd_s hden
    refine lv_ddiv hx hb dX6_share_22 (nnan_n hg_7) ?_
    subst hQe
    cases hden
    exact m_rd hx hb hr hP hD hS [0, 2, 1] (by decide) rfl rfl dX6_share_23 hlocks
  · have hden := if_s hden c_8
    refine lv_dconst1 hx hb dX6_share_9 ?_
    refine lv_goto (tgt := 23) hx hb dX6_share_10 (by decide) ?_
    subst hQe
    cases hden
    exact m_rd hx hb hr hP hD hS [1, 2, 0] (by decide) rfl rfl dX6_share_23 hlocks
def D_X6_sharing (F : Nat) (v_thrown : Int32) (v_s : (Nat → Int32)) (v_states : (Nat → Int32)) (v_many : Int32) : Option (UInt64 × Int32 × (Nat → Int32) × Int32) := bnd (D_X6_share F v_s v_states v_many) (fun (r_1, v_states_2, v_many_3) => some (r_1, 0, v_states_2, v_many_3))
def rm_X6_sharing : Room := { frames := 5, cells := 0, slots := 0, locals := 105 }
set_option maxHeartbeats 4000000 in
set_option maxRecDepth 100000 in
theorem c_X6_sharing (l : Launch) (D : va_G) (cI cM cL : ClassId) (F : Nat) {a_this a_this_s a_this_aside a_this_saved a_this_text a_this_states a_this_rows : Nat} {sz : Nat} {v_thrown v_savedMany v_length v_many v_at v_isWrong v_letters v_matched v_manyRows : Int32} {v_digested : Int64} {v_s v_states : Nat → Int32} {r0 : UInt64} {w_thrown : Int32} {w_states : (Nat → Int32)} {w_many : Int32} (hden : D_X6_sharing F v_thrown v_s v_states v_many = some (r0, w_thrown, w_states, w_many)) : Met l yX6_sharing wsX6_sharing rm_X6_sharing (va_Pc [.ref a_this] (mB D (mTy cI cM cL) sz [(a_this, .inr (5, [.int v_thrown, .ref a_this_s, .ref a_this_aside, .ref a_this_saved, .int v_savedMany, .ref a_this_text, .int v_length, .ref a_this_states, .int v_many, .int v_at, .int v_isWrong, .int v_letters, .int v_matched, .ref a_this_rows, .int v_manyRows, .long v_digested])), (a_this_s, .inl (cI, 31, .inl v_s)), (a_this_states, .inl (cI, 66, .inl v_states))])) (mQd D (va_A [(a_this, .inr (5, [.int v_thrown, .ref a_this_s, .ref a_this_aside, .ref a_this_saved, .int v_savedMany, .ref a_this_text, .int v_length, .ref a_this_states, .int v_many, .int v_at, .int v_isWrong, .int v_letters, .int v_matched, .ref a_this_rows, .int v_manyRows, .long v_digested])), (a_this_s, .inl (cI, 31, .inl v_s)), (a_this_states, .inl (cI, 66, .inl v_states))] sz) [(a_this, .inr (5, [.int w_thrown, .ref a_this_s, .ref a_this_aside, .ref a_this_saved, .int v_savedMany, .ref a_this_text, .int v_length, .ref a_this_states, .int w_many, .int v_at, .int v_isWrong, .int v_letters, .int v_matched, .ref a_this_rows, .int v_manyRows, .long v_digested])), (a_this_s, .inl (cI, 31, .inl v_s)), (a_this_states, .inl (cI, 66, .inl w_states))] r0) 0 0 (va_A [(a_this, .inr (5, [.int v_thrown, .ref a_this_s, .ref a_this_aside, .ref a_this_saved, .int v_savedMany, .ref a_this_text, .int v_length, .ref a_this_states, .int v_many, .int v_at, .int v_isWrong, .int v_letters, .int v_matched, .ref a_this_rows, .int v_manyRows, .long v_digested])), (a_this_s, .inl (cI, 31, .inl v_s)), (a_this_states, .inl (cI, 66, .inl v_states))] sz) := by
  refine Met.ofW (cc := cX6_sharing) (maxL := 1) (ret := (some .double)) (by decide) rfl ?_
  intro p e s m args below meth c s₁ B hml hv
  obtain ⟨rfl, hsz, hP, hK, hN, hD0⟩ := hv
  have hx := B.exec
  have hb := B.bytes
  have hr := B.returns
  have hts := atoms_spec (ws := wsX6_sharing) B.pre
  have hown : s.vm.findClass RX6 = some m.cls := findClass_of_methodNamed B.named
  have hlocks := B.notSynchronized
  subst hsz
  have hD := hD0.self (sz := s.heap.size)
  generalize hAe : va_A [(a_this, .inr (5, [.int v_thrown, .ref a_this_s, .ref a_this_aside, .ref a_this_saved, .int v_savedMany, .ref a_this_text, .int v_length, .ref a_this_states, .int v_many, .int v_at, .int v_isWrong, .int v_letters, .int v_matched, .ref a_this_rows, .int v_manyRows, .long v_digested])), (a_this_s, .inl (cI, 31, .inl v_s)), (a_this_states, .inl (cI, 66, .inl v_states))] s.heap.size = A at hD ⊢
  have hA : ∀ q : Nat, s.heap.size ≤ q → A q := fun q h => by rw [← hAe]; exact Or.inr h
  have hS : va_S A s.heap s.heap [] := va_S.rf
  have hl := lv_entry ([.ref a_this]) (n := 1) (Nat.le_of_ble_eq_true rfl)
  rw [lg_entry_eq]
  generalize (lg_sl ([.ref a_this]) ++ List.replicate (1 - (lg_sl ([.ref a_this])).length) Slot.unset).toArray = ls at hl ⊢
  have hl : lv_has ls 1 [(0, .ref a_this)] := hl
  change W p l e rm_X6_sharing s m (([.ref a_this] : List Value).toArray) below meth c s.heap [] 0 0 _ (F0 m 0 ls [])
  generalize hQe : MQ below (mQd D A [(a_this, .inr (5, [.int w_thrown, .ref a_this_s, .ref a_this_aside, .ref a_this_saved, .int v_savedMany, .ref a_this_text, .int v_length, .ref a_this_states, .int w_many, .int v_at, .int v_isWrong, .int v_letters, .int v_matched, .ref a_this_rows, .int v_manyRows, .long v_digested])), (a_this_s, .inl (cI, 31, .inl v_s)), (a_this_states, .inl (cI, 66, .inl w_states))] r0) (([.ref a_this] : List Value).toArray) s 0 0 A = Q
  rw [D_X6_sharing] at hden
  have hin_X6 : ∀ w ∈ wsX60, w ∈ wsX6_sharing := by decide +kernel
  have w_31 := hts (.fieldLink RX6 31 "FallingPatternsModel" "thrown" "I") (by decide +kernel)
  refine lv_aload_n hx hb dX6_sharing_0 rfl (lv_at hl 0 rfl) ?_
  refine lv_iconst (v := 0) hx hb dX6_sharing_1 (by decide) ?_
  refine va_put (D := D) (ci := 5) (v := .int 0) (ty := .int) (C := RX6) (T := TX6) (N := 16) hx hb hts hin_X6 tyX6 tyX6_ok nmX6 hown hK hP hD hS 0 rfl rfl 0 (by decide) w_31 (fun _ h9 => h9) rfl (by decide +kernel) rfl rfl (Nat.le_of_ble_eq_true rfl) dX6_sharing_2 (fun H locs hP hD hS => ?_)
  have hP : va_P D vwCl [(a_this, .inr (5, [.int 0, .ref a_this_s, .ref a_this_aside, .ref a_this_saved, .int v_savedMany, .ref a_this_text, .int v_length, .ref a_this_states, .int v_many, .int v_at, .int v_isWrong, .int v_letters, .int v_matched, .ref a_this_rows, .int v_manyRows, .long v_digested])), (a_this_s, .inl (cI, 31, .inl v_s)), (a_this_states, .inl (cI, 66, .inl v_states))] H := hP
  have hD : va_D A [(a_this, .inr (5, [.int 0, .ref a_this_s, .ref a_this_aside, .ref a_this_saved, .int v_savedMany, .ref a_this_text, .int v_length, .ref a_this_states, .int v_many, .int v_at, .int v_isWrong, .int v_letters, .int v_matched, .ref a_this_rows, .int v_manyRows, .long v_digested])), (a_this_s, .inl (cI, 31, .inl v_s)), (a_this_states, .inl (cI, 66, .inl v_states))] := hD
  refine lv_aload_n hx hb dX6_sharing_5 rfl (lv_at hl 0 rfl) ?_
  obtain ⟨⟨r_1, v_states_2, v_many_3⟩, hc_4, hden⟩ := bnd_s hden
  refine m_cd (wc := [(a_this, .inr (5, [.int 0, .ref a_this_s, .ref a_this_aside, .ref a_this_saved, .int v_savedMany, .ref a_this_text, .int v_length, .ref a_this_states, .int v_many, .int v_at, .int v_isWrong, .int v_letters, .int v_matched, .ref a_this_rows, .int v_manyRows, .long v_digested])), (a_this_s, .inl (cI, 31, .inl v_s)), (a_this_states, .inl (cI, 66, .inl v_states))]) (wr := []) (wc' := [(a_this, .inr (5, [.int 0, .ref a_this_s, .ref a_this_aside, .ref a_this_saved, .int v_savedMany, .ref a_this_text, .int v_length, .ref a_this_states, .int v_many_3, .int v_at, .int v_isWrong, .int v_letters, .int v_matched, .ref a_this_rows, .int v_manyRows, .long v_digested])), (a_this_s, .inl (cI, 31, .inl v_s)), (a_this_states, .inl (cI, 66, .inl v_states_2))]) (va_runV (As := []) (rest := []) ⟨hx, hb, hml, hown, hts⟩ (c_X6_share l D cI cM cL F hc_4) (cwV 0 hts gX6_sharing_X6_share rfl rfl rfl (by decide +kernel) ⟨Nat.le_of_ble_eq_true rfl, Nat.le_of_ble_eq_true rfl⟩) (mPreV (ci := 5) (q0 := 0) (r := (RX6, TX6, 16)) hP hD hK hN [0, 1, 2] (by decide) rfl rfl rfl) rfl rfl hl.1 rfl (lv_room (Nat.le_of_ble_eq_true rfl)) dX6_sharing_6 ⟨Nat.le_of_ble_eq_true rfl, Nat.le_of_ble_eq_true rfl⟩) hP hD hS hA [0, 1, 2] [] rfl rfl (by decide) (by decide) (fun H locs hP hD hS => ?_)
  have hP : va_P D vwCl [(a_this, .inr (5, [.int 0, .ref a_this_s, .ref a_this_aside, .ref a_this_saved, .int v_savedMany, .ref a_this_text, .int v_length, .ref a_this_states, .int v_many_3, .int v_at, .int v_isWrong, .int v_letters, .int v_matched, .ref a_this_rows, .int v_manyRows, .long v_digested])), (a_this_s, .inl (cI, 31, .inl v_s)), (a_this_states, .inl (cI, 66, .inl v_states_2))] H := hP
  have hD : va_D A [(a_this, .inr (5, [.int 0, .ref a_this_s, .ref a_this_aside, .ref a_this_saved, .int v_savedMany, .ref a_this_text, .int v_length, .ref a_this_states, .int v_many_3, .int v_at, .int v_isWrong, .int v_letters, .int v_matched, .ref a_this_rows, .int v_manyRows, .long v_digested])), (a_this_s, .inl (cI, 31, .inl v_s)), (a_this_states, .inl (cI, 66, .inl v_states_2))] := hD
  subst hQe
  cases hden
  exact m_rd hx hb hr hP hD hS [0, 1, 2] (by decide) rfl rfl dX6_sharing_9 hlocks
def L_X6_bitsOfShare_7 (F : Nat) (k29 : Int64 → UInt64 → Option (Int64)) : Nat → Int64 → UInt64 → Option (Int64)
  | 0, _, _ => none
  | n + 1, x2_1, x4_2 => (if 0 ≤ (Op.cmpValue (FP.dcmp x4_2 4607182418800017408) .g) then k29 x2_1 x4_2 else grd (nnan (FP.dmul x4_2 4611686018427387904)) (nm (FP.dmul x4_2 4611686018427387904) (fun x4_4 => nm (x2_1 - 1) (fun x2_5 => L_X6_bitsOfShare_7 F k29 n x2_5 x4_4))))
def D_X6_bitsOfShare (F : Nat) (p1 : UInt64) : Option (Int64) := L_X6_bitsOfShare_7 F (fun (x2_9 : Int64) (x4_10 : UInt64) => grd (nnan (FP.dsub x4_10 4607182418800017408)) (grd (nnan (FP.dmul (FP.dsub x4_10 4607182418800017408) 4841369599423283200)) (some (((x2_9 * 4503599627370496) + (FP.d2l (FP.dmul (FP.dsub x4_10 4607182418800017408) 4841369599423283200))))))) F 1023 p1
def rm_X6_bitsOfShare : Room := { frames := 0, cells := 0, slots := 0, locals := 0 }
set_option maxHeartbeats 4000000 in
set_option maxRecDepth 100000 in
theorem c_X6_bitsOfShare (l : Launch) (D : va_G) (cI cM cL : ClassId) (F : Nat) {sz : Nat} {p1 : UInt64} {r0 : Int64} (hden : D_X6_bitsOfShare F p1 = some (r0)) : Met l yX6_bitsOfShare wsX6_bitsOfShare rm_X6_bitsOfShare (va_Pc [.double p1] (mB D (mTy cI cM cL) sz [])) (mQl D (va_A [] sz) [] r0) 0 0 (va_A [] sz) := by
  refine Met.ofW (cc := cX6_bitsOfShare) (maxL := 6) (ret := (some .long)) (by decide) rfl ?_
  intro p e s m args below meth c s₁ B hml hv
  obtain ⟨rfl, hsz, hP, hK, hN, hD0⟩ := hv
  have hx := B.exec
  have hb := B.bytes
  have hr := B.returns
  have hts := atoms_spec (ws := wsX6_bitsOfShare) B.pre
  have hown : s.vm.findClass RX6 = some m.cls := findClass_of_methodNamed B.named
  have hlocks := B.notSynchronized
  subst hsz
  have hD := hD0.self (sz := s.heap.size)
  generalize hAe : va_A [] s.heap.size = A at hD ⊢
  have hA : ∀ q : Nat, s.heap.size ≤ q → A q := fun q h => by rw [← hAe]; exact Or.inr h
  have hS : va_S A s.heap s.heap [] := va_S.rf
  have hl := lv_entry ([.double p1]) (n := 6) (Nat.le_of_ble_eq_true rfl)
  rw [lg_entry_eq]
  generalize (lg_sl ([.double p1]) ++ List.replicate (6 - (lg_sl ([.double p1])).length) Slot.unset).toArray = ls at hl ⊢
  have hl : lv_has ls 6 [(0, .double p1)] := hl
  change W p l e rm_X6_bitsOfShare s m (([.double p1] : List Value).toArray) below meth c s.heap [] 0 0 _ (F0 m 0 ls [])
  generalize hQe : MQ below (mQl D A [] r0) (([.double p1] : List Value).toArray) s 0 0 A = Q
  rw [D_X6_bitsOfShare] at hden
  have w_200 := hts (.constantLong RX6 200 (1023)) (by decide +kernel)
  have w_202 := hts (.constantDouble RX6 202 (4611686018427387904)) (by decide +kernel)
  have w_204 := hts (.constantLong RX6 204 (4503599627370496)) (by decide +kernel)
  have w_206 := hts (.constantDouble RX6 206 (4841369599423283200)) (by decide +kernel)
  refine lv_ldc2 (v := 1023) hx hb hown w_200 dX6_bitsOfShare_0 ?_
  refine lv_lstore_n (lv' := [(2, .long 1023), (0, .double p1)]) hx hb dX6_bitsOfShare_3 rfl hl (by decide) rfl (fun ls hl => ?_)
  refine lv_dload_n hx hb dX6_bitsOfShare_4 rfl (lv_at hl 1 rfl) ?_
  refine lv_dstore (lv' := [(4, .double p1), (2, .long 1023), (0, .double p1)]) hx hb dX6_bitsOfShare_5 hl (by decide) rfl (fun ls hl => ?_)
  have hL7__11 : ∀ (k29 : Int64 → UInt64 → Option (Int64)), (∀ (x2_9 : Int64) (x4_10 : UInt64) (H : Heap) (locs : List Loc), va_P D vwCl [] H → va_D A [] → va_S A s.heap H locs → ∀ ls : Array Slot, lv_has ls 6 [(2, .long x2_9), (4, .double x4_10)] → k29 x2_9 x4_10 = some (r0) → W p l e rm_X6_bitsOfShare s m (([.double p1] : List Value).toArray) below meth c H locs 0 0 Q (F0 m 29 ls [])) → ∀ (n : Nat) (x2_7 : Int64) (x4_8 : UInt64) (H : Heap) (locs : List Loc), va_P D vwCl [] H → va_D A [] → va_S A s.heap H locs → ∀ ls : Array Slot, lv_has ls 6 [(2, .long x2_7), (4, .double x4_8)] → L_X6_bitsOfShare_7 F k29 n x2_7 x4_8 = some (r0) → W p l e rm_X6_bitsOfShare s m (([.double p1] : List Value).toArray) below meth c H locs 0 0 Q (F0 m 7 ls []) := by
    intro k29 hk29 n
    induction n with
    | zero => intro x2_7 x4_8 H locs hP hD hS ls hl hden; exact no_none hden
    | succ n ih =>
      intro x2_7 x4_8 H locs hP hD hS ls hl hden
      rw [L_X6_bitsOfShare_7] at hden
      refine lv_dload hx hb dX6_bitsOfShare_7 (lv_at hl 1 rfl) ?_
      refine lv_dconst1 hx hb dX6_bitsOfShare_9 ?_
      refine lv_dcmp hx hb dX6_bitsOfShare_10 ?_
      refine lv_if_ge (tgt := 29) hx hb dX6_bitsOfShare_11 (by decide) (fun c_15 => ?_) (fun c_15 => ?_)
      · have hden := if_s hden c_15
        exact hk29 x2_7 x4_8 _ _ (mSubP hP [] rfl) (hD.sub [] (by decide) rfl) hS ls (lv_sub hl [0, 1] rfl) hden
      · have hden := ifn_s hden c_15
        refine lv_dload hx hb dX6_bitsOfShare_14 (lv_at hl 1 rfl) ?_
        refine lv_ldc2d (v := 4611686018427387904) hx hb hown w_202 dX6_bitsOfShare_16 ?_
        obtain ⟨hg_12, hden⟩ := grd_s hden
        refine lv_dmul hx hb dX6_bitsOfShare_19 (nnan_n hg_12) ?_
        refine lv_topd (fun x4_13 ex4_13 => ?_)
        have hden := nm_s hden ex4_13
        refine lv_dstore (lv' := [(4, .double x4_13), (2, .long x2_7)]) hx hb dX6_bitsOfShare_20 hl (by decide) rfl (fun ls hl => ?_)
        refine lv_lload_n hx hb dX6_bitsOfShare_22 rfl (lv_at hl 1 rfl) ?_
        refine lv_lconst (v := 1) hx hb dX6_bitsOfShare_23 (by decide) ?_
        refine lv_lsub hx hb dX6_bitsOfShare_24 ?_
        refine lv_topl (fun x2_14 ex2_14 => ?_)
        have hden := nm_s hden ex2_14
        refine lv_lstore_n (lv' := [(2, .long x2_14), (4, .double x4_13)]) hx hb dX6_bitsOfShare_25 rfl hl (by decide) rfl (fun ls hl => ?_)
        refine lv_goto (tgt := 7) hx hb dX6_bitsOfShare_26 (by decide) ?_
        exact ih x2_14 x4_13 _ _ (mSubP hP [] rfl) (hD.sub [] (by decide) rfl) hS ls (lv_sub hl [0, 1] rfl) hden
  refine hL7__11 _ (fun x2_9 x4_10 H locs hP hD hS ls hl hden => ?_) F 1023 p1 _ _ (mSubP hP [] rfl) (hD.sub [] (by decide) rfl) hS ls (lv_sub hl [1, 0] rfl) hden
  refine lv_lload_n hx hb dX6_bitsOfShare_29 rfl (lv_at hl 0 rfl) ?_
  refine lv_ldc2 (v := 4503599627370496) hx hb hown w_204 dX6_bitsOfShare_30 ?_
  refine lv_lmul hx hb dX6_bitsOfShare_33 ?_
  refine lv_dload hx hb dX6_bitsOfShare_34 (lv_at hl 1 rfl) ?_
  refine lv_dconst1 hx hb dX6_bitsOfShare_36 ?_
  obtain ⟨hg_16, hden⟩ := grd_s hden
  refine lv_dsub hx hb dX6_bitsOfShare_37 (nnan_n hg_16) ?_
  refine lv_ldc2d (v := 4841369599423283200) hx hb hown w_206 dX6_bitsOfShare_38 ?_
  obtain ⟨hg_17, hden⟩ := grd_s hden
  refine lv_dmul hx hb dX6_bitsOfShare_41 (nnan_n hg_17) ?_
  refine lv_d2l hx hb dX6_bitsOfShare_42 ?_
  refine lv_ladd hx hb dX6_bitsOfShare_43 ?_
  subst hQe
  cases hden
  exact m_rl hx hb hr hP hD hS [] (by decide) rfl rfl dX6_bitsOfShare_44 hlocks
def D_X6_digestOne (F : Nat) (p1 : Int64) (v_digested : Int64) : Option (Int64) := nm (((31 : Int64) * v_digested) + p1) (fun f_digested_1 => some (f_digested_1))
def rm_X6_digestOne : Room := { frames := 0, cells := 0, slots := 0, locals := 0 }
set_option maxHeartbeats 4000000 in
set_option maxRecDepth 100000 in
theorem c_X6_digestOne (l : Launch) (D : va_G) (cI cM cL : ClassId) (F : Nat) {a_this a_this_s a_this_aside a_this_saved a_this_text a_this_states a_this_rows : Nat} {sz : Nat} {v_thrown v_savedMany v_length v_many v_at v_isWrong v_letters v_matched v_manyRows : Int32} {v_digested : Int64} {p1 : Int64} {w_digested : Int64} (hden : D_X6_digestOne F p1 v_digested = some (w_digested)) : Met l yX6_digestOne wsX6_digestOne rm_X6_digestOne (va_Pc [.ref a_this, .long p1] (mB D (mTy cI cM cL) sz [(a_this, .inr (5, [.int v_thrown, .ref a_this_s, .ref a_this_aside, .ref a_this_saved, .int v_savedMany, .ref a_this_text, .int v_length, .ref a_this_states, .int v_many, .int v_at, .int v_isWrong, .int v_letters, .int v_matched, .ref a_this_rows, .int v_manyRows, .long v_digested]))])) (mQv D (va_A [(a_this, .inr (5, [.int v_thrown, .ref a_this_s, .ref a_this_aside, .ref a_this_saved, .int v_savedMany, .ref a_this_text, .int v_length, .ref a_this_states, .int v_many, .int v_at, .int v_isWrong, .int v_letters, .int v_matched, .ref a_this_rows, .int v_manyRows, .long v_digested]))] sz) [(a_this, .inr (5, [.int v_thrown, .ref a_this_s, .ref a_this_aside, .ref a_this_saved, .int v_savedMany, .ref a_this_text, .int v_length, .ref a_this_states, .int v_many, .int v_at, .int v_isWrong, .int v_letters, .int v_matched, .ref a_this_rows, .int v_manyRows, .long w_digested]))]) 0 0 (va_A [(a_this, .inr (5, [.int v_thrown, .ref a_this_s, .ref a_this_aside, .ref a_this_saved, .int v_savedMany, .ref a_this_text, .int v_length, .ref a_this_states, .int v_many, .int v_at, .int v_isWrong, .int v_letters, .int v_matched, .ref a_this_rows, .int v_manyRows, .long v_digested]))] sz) := by
  refine Met.ofW (cc := cX6_digestOne) (maxL := 3) (ret := none) (by decide) rfl ?_
  intro p e s m args below meth c s₁ B hml hv
  obtain ⟨rfl, hsz, hP, hK, hN, hD0⟩ := hv
  have hx := B.exec
  have hb := B.bytes
  have hr := B.returns
  have hts := atoms_spec (ws := wsX6_digestOne) B.pre
  have hown : s.vm.findClass RX6 = some m.cls := findClass_of_methodNamed B.named
  have hlocks := B.notSynchronized
  subst hsz
  have hD := hD0.self (sz := s.heap.size)
  generalize hAe : va_A [(a_this, .inr (5, [.int v_thrown, .ref a_this_s, .ref a_this_aside, .ref a_this_saved, .int v_savedMany, .ref a_this_text, .int v_length, .ref a_this_states, .int v_many, .int v_at, .int v_isWrong, .int v_letters, .int v_matched, .ref a_this_rows, .int v_manyRows, .long v_digested]))] s.heap.size = A at hD ⊢
  have hA : ∀ q : Nat, s.heap.size ≤ q → A q := fun q h => by rw [← hAe]; exact Or.inr h
  have hS : va_S A s.heap s.heap [] := va_S.rf
  have hl := lv_entry ([.ref a_this, .long p1]) (n := 3) (Nat.le_of_ble_eq_true rfl)
  rw [lg_entry_eq]
  generalize (lg_sl ([.ref a_this, .long p1]) ++ List.replicate (3 - (lg_sl ([.ref a_this, .long p1])).length) Slot.unset).toArray = ls at hl ⊢
  have hl : lv_has ls 3 [(0, .ref a_this), (1, .long p1)] := hl
  change W p l e rm_X6_digestOne s m (([.ref a_this, .long p1] : List Value).toArray) below meth c s.heap [] 0 0 _ (F0 m 0 ls [])
  generalize hQe : MQ below (mQv D A [(a_this, .inr (5, [.int v_thrown, .ref a_this_s, .ref a_this_aside, .ref a_this_saved, .int v_savedMany, .ref a_this_text, .int v_length, .ref a_this_states, .int v_many, .int v_at, .int v_isWrong, .int v_letters, .int v_matched, .ref a_this_rows, .int v_manyRows, .long w_digested]))]) (([.ref a_this, .long p1] : List Value).toArray) s 0 0 A = Q
  rw [D_X6_digestOne] at hden
  have hin_X6 : ∀ w ∈ wsX60, w ∈ wsX6_digestOne := by decide +kernel
  have w_208 := hts (.constantLong RX6 208 (31)) (by decide +kernel)
  have w_210 := hts (.fieldLink RX6 210 "FallingPatternsModel" "digested" "J") (by decide +kernel)
  refine lv_aload_n hx hb dX6_digestOne_0 rfl (lv_at hl 0 rfl) ?_
  refine lv_ldc2 (v := 31) hx hb hown w_208 dX6_digestOne_1 ?_
  refine lv_aload_n hx hb dX6_digestOne_4 rfl (lv_at hl 0 rfl) ?_
  refine va_get (D := D) (ci := 5) (v := .long v_digested) (C := RX6) (T := TX6) (N := 16) hx hb hts hin_X6 hown hK hP 0 rfl rfl 15 (by decide) w_210 (fun _ h9 => h9) rfl dX6_digestOne_5 ?_
  refine lv_lmul hx hb dX6_digestOne_8 ?_
  refine lv_lload_n hx hb dX6_digestOne_9 rfl (lv_at hl 1 rfl) ?_
  refine lv_ladd hx hb dX6_digestOne_10 ?_
  refine lv_topl (fun f_digested_1 ef_digested_1 => ?_)
  have hden := nm_s hden ef_digested_1
  refine va_put (D := D) (ci := 5) (v := .long f_digested_1) (ty := .long) (C := RX6) (T := TX6) (N := 16) hx hb hts hin_X6 tyX6 tyX6_ok nmX6 hown hK hP hD hS 0 rfl rfl 15 (by decide) w_210 (fun _ h9 => h9) rfl (by decide +kernel) rfl rfl (Nat.le_of_ble_eq_true rfl) dX6_digestOne_11 (fun H locs hP hD hS => ?_)
  have hP : va_P D vwCl [(a_this, .inr (5, [.int v_thrown, .ref a_this_s, .ref a_this_aside, .ref a_this_saved, .int v_savedMany, .ref a_this_text, .int v_length, .ref a_this_states, .int v_many, .int v_at, .int v_isWrong, .int v_letters, .int v_matched, .ref a_this_rows, .int v_manyRows, .long f_digested_1]))] H := hP
  have hD : va_D A [(a_this, .inr (5, [.int v_thrown, .ref a_this_s, .ref a_this_aside, .ref a_this_saved, .int v_savedMany, .ref a_this_text, .int v_length, .ref a_this_states, .int v_many, .int v_at, .int v_isWrong, .int v_letters, .int v_matched, .ref a_this_rows, .int v_manyRows, .long f_digested_1]))] := hD
  subst hQe
  cases hden
  exact m_rv hx hb hr hP hD hS [0] (by decide) rfl dX6_digestOne_14 hlocks
def L_X6_digest_18 (F : Nat) (k40 : Int64 → Option (Int64 × Int32 × Int64 × (Nat → Int32) × Int32 × (Nat → Int32) × (Nat → Int32))) (v_states : (Nat → Int32)) (v_many : Int32) (v_s : (Nat → Int32)) (v_savedMany : Int32) : Nat → Int32 → Int64 → Option (Int64 × Int32 × Int64 × (Nat → Int32) × Int32 × (Nat → Int32) × (Nat → Int32))
  | 0, _, _ => none
  | n + 1, x1_4, v_digested_5 => (if 10 ≤ x1_4 then k40 v_digested_5 else bnd (D_X6_counted F x1_4 v_s v_states v_many v_savedMany) (fun r_6 => bnd (D_X6_digestOne F ((r_6 : Int32).toInt64) v_digested_5) (fun v_digested_8 => nm (x1_4 + 1) (fun x1_10 => L_X6_digest_18 F k40 v_states v_many v_s v_savedMany n x1_10 v_digested_8))))
def L_X6_digest_62 (F : Nat) (k85 : Int64 → Option (Int64 × Int32 × Int64 × (Nat → Int32) × Int32 × (Nat → Int32) × (Nat → Int32))) (y1 : Int32) (v_states : (Nat → Int32)) (v_s : (Nat → Int32)) : Nat → Int32 → Int64 → Option (Int64 × Int32 × Int64 × (Nat → Int32) × Int32 × (Nat → Int32) × (Nat → Int32))
  | 0, _, _ => none
  | n + 1, x2_27, v_digested_28 => (if 6 ≤ x2_27 then k85 v_digested_28 else bnd (D_X6_patternOf F y1 x2_27 v_s v_states) (fun r_29 => bnd (D_X6_digestOne F ((r_29 : Int32).toInt64) v_digested_28) (fun v_digested_31 => nm (x2_27 + 1) (fun x2_33 => L_X6_digest_62 F k85 y1 v_states v_s n x2_33 v_digested_31))))
def L_X6_digest_87 (F : Nat) (k114 : Int64 → Option (Int64 × Int32 × Int64 × (Nat → Int32) × Int32 × (Nat → Int32) × (Nat → Int32))) (y1 : Int32) (v_states : (Nat → Int32)) (v_s : (Nat → Int32)) : Nat → Int32 → Int64 → Option (Int64 × Int32 × Int64 × (Nat → Int32) × Int32 × (Nat → Int32) × (Nat → Int32))
  | 0, _, _ => none
  | n + 1, x2_45, v_digested_46 => bnd (D_X6_patternOf F y1 0 v_s v_states) (fun r_47 => (if r_47 ≤ x2_45 then k114 v_digested_46 else bnd (D_X6_letterOf F y1 x2_45 v_s) (fun r_49 => bnd (D_X6_digestOne F ((r_49 : Int32).toInt64) v_digested_46) (fun v_digested_51 => nm (x2_45 + 1) (fun x2_53 => L_X6_digest_87 F k114 y1 v_states v_s n x2_53 v_digested_51)))))
def L_X6_digest_54 (F : Nat) (k130 : Int64 → Option (Int64 × Int32 × Int64 × (Nat → Int32) × Int32 × (Nat → Int32) × (Nat → Int32))) (v_states : (Nat → Int32)) (v_s : (Nat → Int32)) : Nat → Int32 → Int64 → Option (Int64 × Int32 × Int64 × (Nat → Int32) × Int32 × (Nat → Int32) × (Nat → Int32))
  | 0, _, _ => none
  | n + 1, x1_25, v_digested_26 => (if 8 ≤ x1_25 then k130 v_digested_26 else L_X6_digest_62 F (fun (v_digested_37 : Int64) => L_X6_digest_87 F (fun (v_digested_57 : Int64) => bnd (D_X6_lettersOf F x1_25 v_s) (fun r_67 => bnd (D_X6_digestOne F ((r_67 : Int32).toInt64) v_digested_57) (fun v_digested_69 => nm (x1_25 + 1) (fun x1_71 => L_X6_digest_54 F k130 v_states v_s n x1_71 v_digested_69)))) x1_25 v_states v_s F 0 v_digested_37) x1_25 v_states v_s F 0 v_digested_26)
def L_X6_digest_142 (F : Nat) (k165 : Int64 → Option (Int64 × Int32 × Int64 × (Nat → Int32) × Int32 × (Nat → Int32) × (Nat → Int32))) (y1 : Int32) (v_states : (Nat → Int32)) (v_s : (Nat → Int32)) : Nat → Int32 → Int64 → Option (Int64 × Int32 × Int64 × (Nat → Int32) × Int32 × (Nat → Int32) × (Nat → Int32))
  | 0, _, _ => none
  | n + 1, x2_107, v_digested_108 => (if 9 ≤ x2_107 then k165 v_digested_108 else bnd (D_X6_stateOf F y1 x2_107 v_states v_s) (fun r_109 => bnd (D_X6_digestOne F ((r_109 : Int32).toInt64) v_digested_108) (fun v_digested_111 => nm (x2_107 + 1) (fun x2_113 => L_X6_digest_142 F k165 y1 v_states v_s n x2_113 v_digested_111))))
def L_X6_digest_132 (F : Nat) (k171 : Int64 → Option (Int64 × Int32 × Int64 × (Nat → Int32) × Int32 × (Nat → Int32) × (Nat → Int32))) (v_states : (Nat → Int32)) (v_many : Int32) (v_s : (Nat → Int32)) : Nat → Int32 → Int64 → Option (Int64 × Int32 × Int64 × (Nat → Int32) × Int32 × (Nat → Int32) × (Nat → Int32))
  | 0, _, _ => none
  | n + 1, x1_105, v_digested_106 => (if v_many ≤ x1_105 then k171 v_digested_106 else L_X6_digest_142 F (fun (v_digested_117 : Int64) => nm (x1_105 + 1) (fun x1_125 => L_X6_digest_132 F k171 v_states v_many v_s n x1_125 v_digested_117)) x1_105 v_states v_s F 0 v_digested_106)
def L_X6_digest_180 (F : Nat) (k202 : Int64 → Option (Int64 × Int32 × Int64 × (Nat → Int32) × Int32 × (Nat → Int32) × (Nat → Int32))) (y1 : Int32) (v_states : (Nat → Int32)) (v_s : (Nat → Int32)) : Nat → Int32 → Int64 → Option (Int64 × Int32 × Int64 × (Nat → Int32) × Int32 × (Nat → Int32) × (Nat → Int32))
  | 0, _, _ => none
  | n + 1, x2_145, v_digested_146 => (if 4 ≤ x2_145 then k202 v_digested_146 else bnd (D_X6_fed F y1 x2_145 v_s v_states) (fun r_147 => bnd (D_X6_digestOne F ((r_147 : Int32).toInt64) v_digested_146) (fun v_digested_149 => nm (x2_145 + 1) (fun x2_151 => L_X6_digest_180 F k202 y1 v_states v_s n x2_151 v_digested_149))))
def L_X6_digest_173 (F : Nat) (k208 : Int64 → Option (Int64 × Int32 × Int64 × (Nat → Int32) × Int32 × (Nat → Int32) × (Nat → Int32))) (v_states : (Nat → Int32)) (v_s : (Nat → Int32)) : Nat → Int32 → Int64 → Option (Int64 × Int32 × Int64 × (Nat → Int32) × Int32 × (Nat → Int32) × (Nat → Int32))
  | 0, _, _ => none
  | n + 1, x1_143, v_digested_144 => (if 4 ≤ x1_143 then k208 v_digested_144 else L_X6_digest_180 F (fun (v_digested_155 : Int64) => nm (x1_143 + 1) (fun x1_163 => L_X6_digest_173 F k208 v_states v_s n x1_163 v_digested_155)) x1_143 v_states v_s F 0 v_digested_144)
def L_X6_digest_210 (F : Nat) (k233 : Int64 → (Nat → Int32) → (Nat → Int32) → Option (Int64 × Int32 × Int64 × (Nat → Int32) × Int32 × (Nat → Int32) × (Nat → Int32))) : Nat → Int32 → Int64 → (Nat → Int32) → (Nat → Int32) → Option (Int64 × Int32 × Int64 × (Nat → Int32) × Int32 × (Nat → Int32) × (Nat → Int32))
  | 0, _, _, _, _ => none
  | n + 1, x1_181, v_digested_182, v_s_183, v_aside_184 => (if 4 ≤ x1_181 then k233 v_digested_182 v_s_183 v_aside_184 else bnd (D_X6_repeated F x1_181 9 v_s_183 v_aside_184) (fun (r_185, v_aside_186, v_s_187) => bnd (D_X6_digestOne F ((r_185 : Int32).toInt64) v_digested_182) (fun v_digested_189 => nm (x1_181 + 1) (fun x1_191 => L_X6_digest_210 F k233 n x1_191 v_digested_189 v_s_187 v_aside_186))))
def L_X6_digest_264 (F : Nat) (v_thrown : Int32) (v_states : (Nat → Int32)) (v_many : Int32) (v_s : (Nat → Int32)) (v_length : Int32) (v_text : (Nat → Int32)) (v_aside : (Nat → Int32)) : Nat → Int32 → Int64 → Option (Int64 × Int32 × Int64 × (Nat → Int32) × Int32 × (Nat → Int32) × (Nat → Int32))
  | 0, _, _ => none
  | n + 1, x1_226, v_digested_227 => (if v_length ≤ x1_226 then some (v_digested_227, v_thrown, v_digested_227, v_states, v_many, v_s, v_aside) else grd (inb x1_226 60) (bnd (D_X6_digestOne F ((v_text x1_226.toNatClampNeg).toInt64) v_digested_227) (fun v_digested_229 => nm (x1_226 + 1) (fun x1_231 => L_X6_digest_264 F v_thrown v_states v_many v_s v_length v_text v_aside n x1_231 v_digested_229))))
def D_X6_digest (F : Nat) (v_thrown : Int32) (v_digested : Int64) (v_states : (Nat → Int32)) (v_many : Int32) (v_s : (Nat → Int32)) (v_length : Int32) (v_text : (Nat → Int32)) (v_aside : (Nat → Int32)) (v_savedMany : Int32) : Option (Int64 × Int32 × Int64 × (Nat → Int32) × Int32 × (Nat → Int32) × (Nat → Int32)) := bnd (D_X6_list F v_states v_many v_s) (fun (v_states_1, v_many_2) => L_X6_digest_18 F (fun (v_digested_14 : Int64) => grd (inb 24 31) (bnd (D_X6_digestOne F ((v_s (24 : Int32).toNatClampNeg).toInt64) v_digested_14) (fun v_digested_23 => L_X6_digest_54 F (fun (v_digested_75 : Int64) => L_X6_digest_132 F (fun (v_digested_129 : Int64) => L_X6_digest_173 F (fun (v_digested_167 : Int64) => L_X6_digest_210 F (fun (v_digested_197 : Int64) (v_s_198 : (Nat → Int32)) (v_aside_199 : (Nat → Int32)) => bnd (D_X6_heaviestOf F v_states_1 v_many_2 v_s_198) (fun (r_209, v_states_210, v_many_211, v_s_212) => bnd (D_X6_digestOne F ((r_209 : Int32).toInt64) v_digested_197) (fun v_digested_214 => bnd (D_X6_share F v_s_212 v_states_210 v_many_211) (fun (r_216, v_states_217, v_many_218) => bnd (D_X6_bitsOfShare F r_216) (fun r_220 => bnd (D_X6_digestOne F r_220 v_digested_214) (fun v_digested_222 => bnd (D_X6_digestOne F ((v_length : Int32).toInt64) v_digested_222) (fun v_digested_224 => L_X6_digest_264 F 0 v_states_217 v_many_218 v_s_212 v_length v_text v_aside_199 F 0 v_digested_224))))))) F 0 v_digested_167 v_s v_aside) v_states_1 v_s F 0 v_digested_129) v_states_1 v_many_2 v_s F 0 v_digested_75) v_states_1 v_s F 0 v_digested_23))) v_states_1 v_many_2 v_s v_savedMany F 0 2767)
def rm_X6_digest : Room := { frames := 10, cells := 0, slots := 0, locals := 225 }
set_option maxHeartbeats 4000000 in
set_option maxRecDepth 100000 in
theorem c_X6_digest (l : Launch) (D : va_G) (cI cM cL : ClassId) (F : Nat) {a_this a_this_s a_this_aside a_this_saved a_this_text a_this_states a_this_rows : Nat} {sz : Nat} {v_thrown v_savedMany v_length v_many v_at v_isWrong v_letters v_matched v_manyRows : Int32} {v_digested : Int64} {v_states v_s v_text v_aside : Nat → Int32} {r0 : Int64} {w_thrown : Int32} {w_digested : Int64} {w_states : (Nat → Int32)} {w_many : Int32} {w_s : (Nat → Int32)} {w_aside : (Nat → Int32)} (hden : D_X6_digest F v_thrown v_digested v_states v_many v_s v_length v_text v_aside v_savedMany = some (r0, w_thrown, w_digested, w_states, w_many, w_s, w_aside)) : Met l yX6_digest wsX6_digest rm_X6_digest (va_Pc [.ref a_this] (mB D (mTy cI cM cL) sz [(a_this, .inr (5, [.int v_thrown, .ref a_this_s, .ref a_this_aside, .ref a_this_saved, .int v_savedMany, .ref a_this_text, .int v_length, .ref a_this_states, .int v_many, .int v_at, .int v_isWrong, .int v_letters, .int v_matched, .ref a_this_rows, .int v_manyRows, .long v_digested])), (a_this_states, .inl (cI, 66, .inl v_states)), (a_this_s, .inl (cI, 31, .inl v_s)), (a_this_text, .inl (cI, 60, .inl v_text)), (a_this_aside, .inl (cI, 31, .inl v_aside))])) (mQl D (va_A [(a_this, .inr (5, [.int v_thrown, .ref a_this_s, .ref a_this_aside, .ref a_this_saved, .int v_savedMany, .ref a_this_text, .int v_length, .ref a_this_states, .int v_many, .int v_at, .int v_isWrong, .int v_letters, .int v_matched, .ref a_this_rows, .int v_manyRows, .long v_digested])), (a_this_states, .inl (cI, 66, .inl v_states)), (a_this_s, .inl (cI, 31, .inl v_s)), (a_this_text, .inl (cI, 60, .inl v_text)), (a_this_aside, .inl (cI, 31, .inl v_aside))] sz) [(a_this, .inr (5, [.int w_thrown, .ref a_this_s, .ref a_this_aside, .ref a_this_saved, .int v_savedMany, .ref a_this_text, .int v_length, .ref a_this_states, .int w_many, .int v_at, .int v_isWrong, .int v_letters, .int v_matched, .ref a_this_rows, .int v_manyRows, .long w_digested])), (a_this_states, .inl (cI, 66, .inl w_states)), (a_this_s, .inl (cI, 31, .inl w_s)), (a_this_text, .inl (cI, 60, .inl v_text)), (a_this_aside, .inl (cI, 31, .inl w_aside))] r0) 0 0 (va_A [(a_this, .inr (5, [.int v_thrown, .ref a_this_s, .ref a_this_aside, .ref a_this_saved, .int v_savedMany, .ref a_this_text, .int v_length, .ref a_this_states, .int v_many, .int v_at, .int v_isWrong, .int v_letters, .int v_matched, .ref a_this_rows, .int v_manyRows, .long v_digested])), (a_this_states, .inl (cI, 66, .inl v_states)), (a_this_s, .inl (cI, 31, .inl v_s)), (a_this_text, .inl (cI, 60, .inl v_text)), (a_this_aside, .inl (cI, 31, .inl v_aside))] sz) := by
  refine Met.ofW (cc := cX6_digest) (maxL := 3) (ret := (some .long)) (by decide) rfl ?_
  intro p e s m args below meth c s₁ B hml hv
  obtain ⟨rfl, hsz, hP, hK, hN, hD0⟩ := hv
  have hx := B.exec
  have hb := B.bytes
  have hr := B.returns
  have hts := atoms_spec (ws := wsX6_digest) B.pre
  have hown : s.vm.findClass RX6 = some m.cls := findClass_of_methodNamed B.named
  have hlocks := B.notSynchronized
  subst hsz
  have hD := hD0.self (sz := s.heap.size)
  generalize hAe : va_A [(a_this, .inr (5, [.int v_thrown, .ref a_this_s, .ref a_this_aside, .ref a_this_saved, .int v_savedMany, .ref a_this_text, .int v_length, .ref a_this_states, .int v_many, .int v_at, .int v_isWrong, .int v_letters, .int v_matched, .ref a_this_rows, .int v_manyRows, .long v_digested])), (a_this_states, .inl (cI, 66, .inl v_states)), (a_this_s, .inl (cI, 31, .inl v_s)), (a_this_text, .inl (cI, 60, .inl v_text)), (a_this_aside, .inl (cI, 31, .inl v_aside))] s.heap.size = A at hD ⊢
  have hA : ∀ q : Nat, s.heap.size ≤ q → A q := fun q h => by rw [← hAe]; exact Or.inr h
  have hS : va_S A s.heap s.heap [] := va_S.rf
  have hl := lv_entry ([.ref a_this]) (n := 3) (Nat.le_of_ble_eq_true rfl)
  rw [lg_entry_eq]
  generalize (lg_sl ([.ref a_this]) ++ List.replicate (3 - (lg_sl ([.ref a_this])).length) Slot.unset).toArray = ls at hl ⊢
  have hl : lv_has ls 3 [(0, .ref a_this)] := hl
  change W p l e rm_X6_digest s m (([.ref a_this] : List Value).toArray) below meth c s.heap [] 0 0 _ (F0 m 0 ls [])
  generalize hQe : MQ below (mQl D A [(a_this, .inr (5, [.int w_thrown, .ref a_this_s, .ref a_this_aside, .ref a_this_saved, .int v_savedMany, .ref a_this_text, .int v_length, .ref a_this_states, .int w_many, .int v_at, .int v_isWrong, .int v_letters, .int v_matched, .ref a_this_rows, .int v_manyRows, .long w_digested])), (a_this_states, .inl (cI, 66, .inl w_states)), (a_this_s, .inl (cI, 31, .inl w_s)), (a_this_text, .inl (cI, 60, .inl v_text)), (a_this_aside, .inl (cI, 31, .inl w_aside))] r0) (([.ref a_this] : List Value).toArray) s 0 0 A = Q
  rw [D_X6_digest] at hden
  have hin_X6 : ∀ w ∈ wsX60, w ∈ wsX6_digest := by decide +kernel
  have w_31 := hts (.fieldLink RX6 31 "FallingPatternsModel" "thrown" "I") (by decide +kernel)
  have w_214 := hts (.constantLong RX6 214 (2767)) (by decide +kernel)
  have w_210 := hts (.fieldLink RX6 210 "FallingPatternsModel" "digested" "J") (by decide +kernel)
  have w_7 := hts (.fieldLink RX6 7 "FallingPatternsModel" "s" "[I") (by decide +kernel)
  have w_76 := hts (.fieldLink RX6 76 "FallingPatternsModel" "many" "I") (by decide +kernel)
  have w_131 := hts (.fieldLink RX6 131 "FallingPatternsModel" "length" "I") (by decide +kernel)
  have w_19 := hts (.fieldLink RX6 19 "FallingPatternsModel" "text" "[I") (by decide +kernel)
  refine lv_aload_n hx hb dX6_digest_0 rfl (lv_at hl 0 rfl) ?_
  refine lv_iconst (v := 0) hx hb dX6_digest_1 (by decide) ?_
  refine va_put (D := D) (ci := 5) (v := .int 0) (ty := .int) (C := RX6) (T := TX6) (N := 16) hx hb hts hin_X6 tyX6 tyX6_ok nmX6 hown hK hP hD hS 0 rfl rfl 0 (by decide) w_31 (fun _ h9 => h9) rfl (by decide +kernel) rfl rfl (Nat.le_of_ble_eq_true rfl) dX6_digest_2 (fun H locs hP hD hS => ?_)
  have hP : va_P D vwCl [(a_this, .inr (5, [.int 0, .ref a_this_s, .ref a_this_aside, .ref a_this_saved, .int v_savedMany, .ref a_this_text, .int v_length, .ref a_this_states, .int v_many, .int v_at, .int v_isWrong, .int v_letters, .int v_matched, .ref a_this_rows, .int v_manyRows, .long v_digested])), (a_this_states, .inl (cI, 66, .inl v_states)), (a_this_s, .inl (cI, 31, .inl v_s)), (a_this_text, .inl (cI, 60, .inl v_text)), (a_this_aside, .inl (cI, 31, .inl v_aside))] H := hP
  have hD : va_D A [(a_this, .inr (5, [.int 0, .ref a_this_s, .ref a_this_aside, .ref a_this_saved, .int v_savedMany, .ref a_this_text, .int v_length, .ref a_this_states, .int v_many, .int v_at, .int v_isWrong, .int v_letters, .int v_matched, .ref a_this_rows, .int v_manyRows, .long v_digested])), (a_this_states, .inl (cI, 66, .inl v_states)), (a_this_s, .inl (cI, 31, .inl v_s)), (a_this_text, .inl (cI, 60, .inl v_text)), (a_this_aside, .inl (cI, 31, .inl v_aside))] := hD
  refine lv_aload_n hx hb dX6_digest_5 rfl (lv_at hl 0 rfl) ?_
  refine lv_ldc2 (v := 2767) hx hb hown w_214 dX6_digest_6 ?_
  refine va_put (D := D) (ci := 5) (v := .long 2767) (ty := .long) (C := RX6) (T := TX6) (N := 16) hx hb hts hin_X6 tyX6 tyX6_ok nmX6 hown hK hP hD hS 0 rfl rfl 15 (by decide) w_210 (fun _ h9 => h9) rfl (by decide +kernel) rfl rfl (Nat.le_of_ble_eq_true rfl) dX6_digest_9 (fun H locs hP hD hS => ?_)
  have hP : va_P D vwCl [(a_this, .inr (5, [.int 0, .ref a_this_s, .ref a_this_aside, .ref a_this_saved, .int v_savedMany, .ref a_this_text, .int v_length, .ref a_this_states, .int v_many, .int v_at, .int v_isWrong, .int v_letters, .int v_matched, .ref a_this_rows, .int v_manyRows, .long 2767])), (a_this_states, .inl (cI, 66, .inl v_states)), (a_this_s, .inl (cI, 31, .inl v_s)), (a_this_text, .inl (cI, 60, .inl v_text)), (a_this_aside, .inl (cI, 31, .inl v_aside))] H := hP
  have hD : va_D A [(a_this, .inr (5, [.int 0, .ref a_this_s, .ref a_this_aside, .ref a_this_saved, .int v_savedMany, .ref a_this_text, .int v_length, .ref a_this_states, .int v_many, .int v_at, .int v_isWrong, .int v_letters, .int v_matched, .ref a_this_rows, .int v_manyRows, .long 2767])), (a_this_states, .inl (cI, 66, .inl v_states)), (a_this_s, .inl (cI, 31, .inl v_s)), (a_this_text, .inl (cI, 60, .inl v_text)), (a_this_aside, .inl (cI, 31, .inl v_aside))] := hD
  refine lv_aload_n hx hb dX6_digest_12 rfl (lv_at hl 0 rfl) ?_
  obtain ⟨⟨v_states_1, v_many_2⟩, hc_3, hden⟩ := bnd_s hden
  refine m_cv (wc := [(a_this, .inr (5, [.int 0, .ref a_this_s, .ref a_this_aside, .ref a_this_saved, .int v_savedMany, .ref a_this_text, .int v_length, .ref a_this_states, .int v_many, .int v_at, .int v_isWrong, .int v_letters, .int v_matched, .ref a_this_rows, .int v_manyRows, .long 2767])), (a_this_states, .inl (cI, 66, .inl v_states)), (a_this_s, .inl (cI, 31, .inl v_s))]) (wr := [(a_this_text, .inl (cI, 60, .inl v_text)), (a_this_aside, .inl (cI, 31, .inl v_aside))]) (wc' := [(a_this, .inr (5, [.int 0, .ref a_this_s, .ref a_this_aside, .ref a_this_saved, .int v_savedMany, .ref a_this_text, .int v_length, .ref a_this_states, .int v_many_2, .int v_at, .int v_isWrong, .int v_letters, .int v_matched, .ref a_this_rows, .int v_manyRows, .long 2767])), (a_this_states, .inl (cI, 66, .inl v_states_1)), (a_this_s, .inl (cI, 31, .inl v_s))]) (va_runV (As := []) (rest := []) ⟨hx, hb, hml, hown, hts⟩ (c_X6_list l D cI cM cL F hc_3) (cwV 0 hts gX6_digest_X6_list rfl rfl rfl (by decide +kernel) ⟨Nat.le_of_ble_eq_true rfl, Nat.le_of_ble_eq_true rfl⟩) (mPreV (ci := 5) (q0 := 0) (r := (RX6, TX6, 16)) hP hD hK hN [0, 1, 2] (by decide) rfl rfl rfl) rfl rfl hl.1 rfl (lv_room (Nat.le_of_ble_eq_true rfl)) dX6_digest_13 ⟨Nat.le_of_ble_eq_true rfl, Nat.le_of_ble_eq_true rfl⟩) hP hD hS hA [0, 1, 2] [3, 4] rfl rfl (by decide) (by decide) (fun H locs hP hD hS => ?_)
  have hP : va_P D vwCl [(a_this_text, .inl (cI, 60, .inl v_text)), (a_this_aside, .inl (cI, 31, .inl v_aside)), (a_this, .inr (5, [.int 0, .ref a_this_s, .ref a_this_aside, .ref a_this_saved, .int v_savedMany, .ref a_this_text, .int v_length, .ref a_this_states, .int v_many_2, .int v_at, .int v_isWrong, .int v_letters, .int v_matched, .ref a_this_rows, .int v_manyRows, .long 2767])), (a_this_states, .inl (cI, 66, .inl v_states_1)), (a_this_s, .inl (cI, 31, .inl v_s))] H := hP
  have hD : va_D A [(a_this_text, .inl (cI, 60, .inl v_text)), (a_this_aside, .inl (cI, 31, .inl v_aside)), (a_this, .inr (5, [.int 0, .ref a_this_s, .ref a_this_aside, .ref a_this_saved, .int v_savedMany, .ref a_this_text, .int v_length, .ref a_this_states, .int v_many_2, .int v_at, .int v_isWrong, .int v_letters, .int v_matched, .ref a_this_rows, .int v_manyRows, .long 2767])), (a_this_states, .inl (cI, 66, .inl v_states_1)), (a_this_s, .inl (cI, 31, .inl v_s))] := hD
  refine lv_iconst (v := 0) hx hb dX6_digest_16 (by decide) ?_
  refine lv_istore_n (lv' := [(1, .int 0), (0, .ref a_this)]) hx hb dX6_digest_17 rfl hl (by decide) rfl (fun ls hl => ?_)
  have hL18__15 : ∀ (k40 : Int64 → Option (Int64 × Int32 × Int64 × (Nat → Int32) × Int32 × (Nat → Int32) × (Nat → Int32))), (∀ (v_digested_14 : Int64) (H : Heap) (locs : List Loc), va_P D vwCl [(a_this, .inr (5, [.int 0, .ref a_this_s, .ref a_this_aside, .ref a_this_saved, .int v_savedMany, .ref a_this_text, .int v_length, .ref a_this_states, .int v_many_2, .int v_at, .int v_isWrong, .int v_letters, .int v_matched, .ref a_this_rows, .int v_manyRows, .long v_digested_14])), (a_this_states, .inl (cI, 66, .inl v_states_1)), (a_this_s, .inl (cI, 31, .inl v_s)), (a_this_text, .inl (cI, 60, .inl v_text)), (a_this_aside, .inl (cI, 31, .inl v_aside))] H → va_D A [(a_this, .inr (5, [.int 0, .ref a_this_s, .ref a_this_aside, .ref a_this_saved, .int v_savedMany, .ref a_this_text, .int v_length, .ref a_this_states, .int v_many_2, .int v_at, .int v_isWrong, .int v_letters, .int v_matched, .ref a_this_rows, .int v_manyRows, .long v_digested_14])), (a_this_states, .inl (cI, 66, .inl v_states_1)), (a_this_s, .inl (cI, 31, .inl v_s)), (a_this_text, .inl (cI, 60, .inl v_text)), (a_this_aside, .inl (cI, 31, .inl v_aside))] → va_S A s.heap H locs → ∀ ls : Array Slot, lv_has ls 3 [(0, .ref a_this)] → k40 v_digested_14 = some (r0, w_thrown, w_digested, w_states, w_many, w_s, w_aside) → W p l e rm_X6_digest s m (([.ref a_this] : List Value).toArray) below meth c H locs 0 0 Q (F0 m 40 ls [])) → ∀ (n : Nat) (x1_12 : Int32) (v_digested_13 : Int64) (H : Heap) (locs : List Loc), va_P D vwCl [(a_this, .inr (5, [.int 0, .ref a_this_s, .ref a_this_aside, .ref a_this_saved, .int v_savedMany, .ref a_this_text, .int v_length, .ref a_this_states, .int v_many_2, .int v_at, .int v_isWrong, .int v_letters, .int v_matched, .ref a_this_rows, .int v_manyRows, .long v_digested_13])), (a_this_states, .inl (cI, 66, .inl v_states_1)), (a_this_s, .inl (cI, 31, .inl v_s)), (a_this_text, .inl (cI, 60, .inl v_text)), (a_this_aside, .inl (cI, 31, .inl v_aside))] H → va_D A [(a_this, .inr (5, [.int 0, .ref a_this_s, .ref a_this_aside, .ref a_this_saved, .int v_savedMany, .ref a_this_text, .int v_length, .ref a_this_states, .int v_many_2, .int v_at, .int v_isWrong, .int v_letters, .int v_matched, .ref a_this_rows, .int v_manyRows, .long v_digested_13])), (a_this_states, .inl (cI, 66, .inl v_states_1)), (a_this_s, .inl (cI, 31, .inl v_s)), (a_this_text, .inl (cI, 60, .inl v_text)), (a_this_aside, .inl (cI, 31, .inl v_aside))] → va_S A s.heap H locs → ∀ ls : Array Slot, lv_has ls 3 [(0, .ref a_this), (1, .int x1_12)] → L_X6_digest_18 F k40 v_states_1 v_many_2 v_s v_savedMany n x1_12 v_digested_13 = some (r0, w_thrown, w_digested, w_states, w_many, w_s, w_aside) → W p l e rm_X6_digest s m (([.ref a_this] : List Value).toArray) below meth c H locs 0 0 Q (F0 m 18 ls []) := by
    intro k40 hk40 n
    induction n with
    | zero => intro x1_12 v_digested_13 H locs hP hD hS ls hl hden; exact no_none hden
    | succ n ih =>
      intro x1_12 v_digested_13 H locs hP hD hS ls hl hden
      rw [L_X6_digest_18] at hden
      refine lv_iload_n hx hb dX6_digest_18 rfl (lv_at hl 1 rfl) ?_
      refine lv_bipush (v := 10) hx hb dX6_digest_19 (by decide) ?_
      refine lv_icmp_ge (tgt := 40) hx hb dX6_digest_21 (by decide) (fun c_21 => ?_) (fun c_21 => ?_)
      · have hden := if_s hden c_21
        exact hk40 v_digested_13 _ _ (mSubP hP [0, 1, 2, 3, 4] rfl) (hD.sub [0, 1, 2, 3, 4] (by decide) rfl) hS ls (lv_sub hl [0] rfl) hden
      · have hden := ifn_s hden c_21
        refine lv_aload_n hx hb dX6_digest_24 rfl (lv_at hl 0 rfl) ?_
        refine lv_aload_n hx hb dX6_digest_25 rfl (lv_at hl 0 rfl) ?_
        refine lv_iload_n hx hb dX6_digest_26 rfl (lv_at hl 1 rfl) ?_
        obtain ⟨r_16, hc_17, hden⟩ := bnd_s hden
        refine m_ci (wc := [(a_this, .inr (5, [.int 0, .ref a_this_s, .ref a_this_aside, .ref a_this_saved, .int v_savedMany, .ref a_this_text, .int v_length, .ref a_this_states, .int v_many_2, .int v_at, .int v_isWrong, .int v_letters, .int v_matched, .ref a_this_rows, .int v_manyRows, .long v_digested_13])), (a_this_s, .inl (cI, 31, .inl v_s)), (a_this_states, .inl (cI, 66, .inl v_states_1))]) (wr := [(a_this_text, .inl (cI, 60, .inl v_text)), (a_this_aside, .inl (cI, 31, .inl v_aside))]) (wc' := [(a_this, .inr (5, [.int 0, .ref a_this_s, .ref a_this_aside, .ref a_this_saved, .int v_savedMany, .ref a_this_text, .int v_length, .ref a_this_states, .int v_many_2, .int v_at, .int v_isWrong, .int v_letters, .int v_matched, .ref a_this_rows, .int v_manyRows, .long v_digested_13])), (a_this_s, .inl (cI, 31, .inl v_s)), (a_this_states, .inl (cI, 66, .inl v_states_1))]) (va_runV (As := [.int x1_12]) (rest := [.ref a_this]) ⟨hx, hb, hml, hown, hts⟩ (c_X6_counted l D cI cM cL F hc_17) (cwV 1 hts gX6_digest_X6_counted rfl rfl rfl (by decide +kernel) ⟨Nat.le_of_ble_eq_true rfl, Nat.le_of_ble_eq_true rfl⟩) (mPreV (ci := 5) (q0 := 0) (r := (RX6, TX6, 16)) hP hD hK hN [0, 2, 1] (by decide) rfl rfl rfl) rfl rfl hl.1 rfl (lv_room (Nat.le_of_ble_eq_true rfl)) dX6_digest_27 ⟨Nat.le_of_ble_eq_true rfl, Nat.le_of_ble_eq_true rfl⟩) hP hD hS hA [0, 2, 1] [3, 4] rfl rfl (by decide) (by decide) (fun H locs hP hD hS => ?_)
        have hP : va_P D vwCl [(a_this_text, .inl (cI, 60, .inl v_text)), (a_this_aside, .inl (cI, 31, .inl v_aside)), (a_this, .inr (5, [.int 0, .ref a_this_s, .ref a_this_aside, .ref a_this_saved, .int v_savedMany, .ref a_this_text, .int v_length, .ref a_this_states, .int v_many_2, .int v_at, .int v_isWrong, .int v_letters, .int v_matched, .ref a_this_rows, .int v_manyRows, .long v_digested_13])), (a_this_s, .inl (cI, 31, .inl v_s)), (a_this_states, .inl (cI, 66, .inl v_states_1))] H := hP
        have hD : va_D A [(a_this_text, .inl (cI, 60, .inl v_text)), (a_this_aside, .inl (cI, 31, .inl v_aside)), (a_this, .inr (5, [.int 0, .ref a_this_s, .ref a_this_aside, .ref a_this_saved, .int v_savedMany, .ref a_this_text, .int v_length, .ref a_this_states, .int v_many_2, .int v_at, .int v_isWrong, .int v_letters, .int v_matched, .ref a_this_rows, .int v_manyRows, .long v_digested_13])), (a_this_s, .inl (cI, 31, .inl v_s)), (a_this_states, .inl (cI, 66, .inl v_states_1))] := hD
        refine lv_i2l hx hb dX6_digest_30 rfl ?_
        obtain ⟨v_digested_18, hc_19, hden⟩ := bnd_s hden
        refine m_cv (wc := [(a_this, .inr (5, [.int 0, .ref a_this_s, .ref a_this_aside, .ref a_this_saved, .int v_savedMany, .ref a_this_text, .int v_length, .ref a_this_states, .int v_many_2, .int v_at, .int v_isWrong, .int v_letters, .int v_matched, .ref a_this_rows, .int v_manyRows, .long v_digested_13]))]) (wr := [(a_this_text, .inl (cI, 60, .inl v_text)), (a_this_aside, .inl (cI, 31, .inl v_aside)), (a_this_s, .inl (cI, 31, .inl v_s)), (a_this_states, .inl (cI, 66, .inl v_states_1))]) (wc' := [(a_this, .inr (5, [.int 0, .ref a_this_s, .ref a_this_aside, .ref a_this_saved, .int v_savedMany, .ref a_this_text, .int v_length, .ref a_this_states, .int v_many_2, .int v_at, .int v_isWrong, .int v_letters, .int v_matched, .ref a_this_rows, .int v_manyRows, .long v_digested_18]))]) (va_runV (As := [.long ((r_16 : Int32).toInt64)]) (rest := []) ⟨hx, hb, hml, hown, hts⟩ (c_X6_digestOne l D cI cM cL F hc_19) (cwV 1 hts gX6_digest_X6_digestOne rfl rfl rfl (by decide +kernel) ⟨Nat.le_of_ble_eq_true rfl, Nat.le_of_ble_eq_true rfl⟩) (mPreV (ci := 5) (q0 := 0) (r := (RX6, TX6, 16)) hP hD hK hN [2] (by decide) rfl rfl rfl) rfl rfl hl.1 rfl (lv_room (Nat.le_of_ble_eq_true rfl)) dX6_digest_31 ⟨Nat.le_of_ble_eq_true rfl, Nat.le_of_ble_eq_true rfl⟩) hP hD hS hA [2] [0, 1, 3, 4] rfl rfl (by decide) (by decide) (fun H locs hP hD hS => ?_)
        have hP : va_P D vwCl [(a_this_text, .inl (cI, 60, .inl v_text)), (a_this_aside, .inl (cI, 31, .inl v_aside)), (a_this_s, .inl (cI, 31, .inl v_s)), (a_this_states, .inl (cI, 66, .inl v_states_1)), (a_this, .inr (5, [.int 0, .ref a_this_s, .ref a_this_aside, .ref a_this_saved, .int v_savedMany, .ref a_this_text, .int v_length, .ref a_this_states, .int v_many_2, .int v_at, .int v_isWrong, .int v_letters, .int v_matched, .ref a_this_rows, .int v_manyRows, .long v_digested_18]))] H := hP
        have hD : va_D A [(a_this_text, .inl (cI, 60, .inl v_text)), (a_this_aside, .inl (cI, 31, .inl v_aside)), (a_this_s, .inl (cI, 31, .inl v_s)), (a_this_states, .inl (cI, 66, .inl v_states_1)), (a_this, .inr (5, [.int 0, .ref a_this_s, .ref a_this_aside, .ref a_this_saved, .int v_savedMany, .ref a_this_text, .int v_length, .ref a_this_states, .int v_many_2, .int v_at, .int v_isWrong, .int v_letters, .int v_matched, .ref a_this_rows, .int v_manyRows, .long v_digested_18]))] := hD
        obtain ⟨x1_20, ex1_20, hden⟩ := nm_x hden
        refine lv_iinc (v := x1_20) (lv' := [(1, .int x1_20), (0, .ref a_this)]) hx hb dX6_digest_34 hl (k := 1) rfl (by rw [ex1_20]; rfl) (by decide) rfl (fun ls hl => ?_)
        refine lv_goto (tgt := 18) hx hb dX6_digest_37 (by decide) ?_
        exact ih x1_20 v_digested_18 _ _ (mSubP hP [4, 3, 2, 0, 1] rfl) (hD.sub [4, 3, 2, 0, 1] (by decide) rfl) hS ls (lv_sub hl [1, 0] rfl) hden
  refine hL18__15 _ (fun v_digested_14 H locs hP hD hS ls hl hden => ?_) F 0 2767 _ _ (mSubP hP [2, 3, 4, 0, 1] rfl) (hD.sub [2, 3, 4, 0, 1] (by decide) rfl) hS ls (lv_sub hl [1, 0] rfl) hden
  refine lv_aload_n hx hb dX6_digest_40 rfl (lv_at hl 0 rfl) ?_
  refine lv_aload_n hx hb dX6_digest_41 rfl (lv_at hl 0 rfl) ?_
  refine va_get (D := D) (ci := 5) (v := .ref a_this_s) (C := RX6) (T := TX6) (N := 16) hx hb hts hin_X6 hown hK hP 0 rfl rfl 1 (by decide) w_7 (fun _ h9 => h9) rfl dX6_digest_42 ?_
  refine lv_bipush (v := 24) hx hb dX6_digest_45 (by decide) ?_
  obtain ⟨hg_22, hden⟩ := grd_s hden
  refine va_iald hx hb hK hP 2 0 rfl rfl (inb_in hg_22) dX6_digest_47 ?_
  refine lv_i2l hx hb dX6_digest_48 rfl ?_
  obtain ⟨v_digested_23, hc_24, hden⟩ := bnd_s hden
  refine m_cv (wc := [(a_this, .inr (5, [.int 0, .ref a_this_s, .ref a_this_aside, .ref a_this_saved, .int v_savedMany, .ref a_this_text, .int v_length, .ref a_this_states, .int v_many_2, .int v_at, .int v_isWrong, .int v_letters, .int v_matched, .ref a_this_rows, .int v_manyRows, .long v_digested_14]))]) (wr := [(a_this_states, .inl (cI, 66, .inl v_states_1)), (a_this_s, .inl (cI, 31, .inl v_s)), (a_this_text, .inl (cI, 60, .inl v_text)), (a_this_aside, .inl (cI, 31, .inl v_aside))]) (wc' := [(a_this, .inr (5, [.int 0, .ref a_this_s, .ref a_this_aside, .ref a_this_saved, .int v_savedMany, .ref a_this_text, .int v_length, .ref a_this_states, .int v_many_2, .int v_at, .int v_isWrong, .int v_letters, .int v_matched, .ref a_this_rows, .int v_manyRows, .long v_digested_23]))]) (va_runV (As := [.long ((v_s (24 : Int32).toNatClampNeg).toInt64)]) (rest := []) ⟨hx, hb, hml, hown, hts⟩ (c_X6_digestOne l D cI cM cL F hc_24) (cwV 1 hts gX6_digest_X6_digestOne rfl rfl rfl (by decide +kernel) ⟨Nat.le_of_ble_eq_true rfl, Nat.le_of_ble_eq_true rfl⟩) (mPreV (ci := 5) (q0 := 0) (r := (RX6, TX6, 16)) hP hD hK hN [0] (by decide) rfl rfl rfl) rfl rfl hl.1 rfl (lv_room (Nat.le_of_ble_eq_true rfl)) dX6_digest_49 ⟨Nat.le_of_ble_eq_true rfl, Nat.le_of_ble_eq_true rfl⟩) hP hD hS hA [0] [1, 2, 3, 4] rfl rfl (by decide) (by decide) (fun H locs hP hD hS => ?_)
  have hP : va_P D vwCl [(a_this_states, .inl (cI, 66, .inl v_states_1)), (a_this_s, .inl (cI, 31, .inl v_s)), (a_this_text, .inl (cI, 60, .inl v_text)), (a_this_aside, .inl (cI, 31, .inl v_aside)), (a_this, .inr (5, [.int 0, .ref a_this_s, .ref a_this_aside, .ref a_this_saved, .int v_savedMany, .ref a_this_text, .int v_length, .ref a_this_states, .int v_many_2, .int v_at, .int v_isWrong, .int v_letters, .int v_matched, .ref a_this_rows, .int v_manyRows, .long v_digested_23]))] H := hP
  have hD : va_D A [(a_this_states, .inl (cI, 66, .inl v_states_1)), (a_this_s, .inl (cI, 31, .inl v_s)), (a_this_text, .inl (cI, 60, .inl v_text)), (a_this_aside, .inl (cI, 31, .inl v_aside)), (a_this, .inr (5, [.int 0, .ref a_this_s, .ref a_this_aside, .ref a_this_saved, .int v_savedMany, .ref a_this_text, .int v_length, .ref a_this_states, .int v_many_2, .int v_at, .int v_isWrong, .int v_letters, .int v_matched, .ref a_this_rows, .int v_manyRows, .long v_digested_23]))] := hD
  refine lv_iconst (v := 0) hx hb dX6_digest_52 (by decide) ?_
  refine lv_istore_n (lv' := [(1, .int 0), (0, .ref a_this)]) hx hb dX6_digest_53 rfl hl (by decide) rfl (fun ls hl => ?_)
  have hL54__76 : ∀ (k130 : Int64 → Option (Int64 × Int32 × Int64 × (Nat → Int32) × Int32 × (Nat → Int32) × (Nat → Int32))), (∀ (v_digested_75 : Int64) (H : Heap) (locs : List Loc), va_P D vwCl [(a_this, .inr (5, [.int 0, .ref a_this_s, .ref a_this_aside, .ref a_this_saved, .int v_savedMany, .ref a_this_text, .int v_length, .ref a_this_states, .int v_many_2, .int v_at, .int v_isWrong, .int v_letters, .int v_matched, .ref a_this_rows, .int v_manyRows, .long v_digested_75])), (a_this_states, .inl (cI, 66, .inl v_states_1)), (a_this_s, .inl (cI, 31, .inl v_s)), (a_this_text, .inl (cI, 60, .inl v_text)), (a_this_aside, .inl (cI, 31, .inl v_aside))] H → va_D A [(a_this, .inr (5, [.int 0, .ref a_this_s, .ref a_this_aside, .ref a_this_saved, .int v_savedMany, .ref a_this_text, .int v_length, .ref a_this_states, .int v_many_2, .int v_at, .int v_isWrong, .int v_letters, .int v_matched, .ref a_this_rows, .int v_manyRows, .long v_digested_75])), (a_this_states, .inl (cI, 66, .inl v_states_1)), (a_this_s, .inl (cI, 31, .inl v_s)), (a_this_text, .inl (cI, 60, .inl v_text)), (a_this_aside, .inl (cI, 31, .inl v_aside))] → va_S A s.heap H locs → ∀ ls : Array Slot, lv_has ls 3 [(0, .ref a_this)] → k130 v_digested_75 = some (r0, w_thrown, w_digested, w_states, w_many, w_s, w_aside) → W p l e rm_X6_digest s m (([.ref a_this] : List Value).toArray) below meth c H locs 0 0 Q (F0 m 130 ls [])) → ∀ (n : Nat) (x1_73 : Int32) (v_digested_74 : Int64) (H : Heap) (locs : List Loc), va_P D vwCl [(a_this, .inr (5, [.int 0, .ref a_this_s, .ref a_this_aside, .ref a_this_saved, .int v_savedMany, .ref a_this_text, .int v_length, .ref a_this_states, .int v_many_2, .int v_at, .int v_isWrong, .int v_letters, .int v_matched, .ref a_this_rows, .int v_manyRows, .long v_digested_74])), (a_this_states, .inl (cI, 66, .inl v_states_1)), (a_this_s, .inl (cI, 31, .inl v_s)), (a_this_text, .inl (cI, 60, .inl v_text)), (a_this_aside, .inl (cI, 31, .inl v_aside))] H → va_D A [(a_this, .inr (5, [.int 0, .ref a_this_s, .ref a_this_aside, .ref a_this_saved, .int v_savedMany, .ref a_this_text, .int v_length, .ref a_this_states, .int v_many_2, .int v_at, .int v_isWrong, .int v_letters, .int v_matched, .ref a_this_rows, .int v_manyRows, .long v_digested_74])), (a_this_states, .inl (cI, 66, .inl v_states_1)), (a_this_s, .inl (cI, 31, .inl v_s)), (a_this_text, .inl (cI, 60, .inl v_text)), (a_this_aside, .inl (cI, 31, .inl v_aside))] → va_S A s.heap H locs → ∀ ls : Array Slot, lv_has ls 3 [(0, .ref a_this), (1, .int x1_73)] → L_X6_digest_54 F k130 v_states_1 v_s n x1_73 v_digested_74 = some (r0, w_thrown, w_digested, w_states, w_many, w_s, w_aside) → W p l e rm_X6_digest s m (([.ref a_this] : List Value).toArray) below meth c H locs 0 0 Q (F0 m 54 ls []) := by
    intro k130 hk130 n
    induction n with
    | zero => intro x1_73 v_digested_74 H locs hP hD hS ls hl hden; exact no_none hden
    | succ n ih =>
      intro x1_73 v_digested_74 H locs hP hD hS ls hl hden
      rw [L_X6_digest_54] at hden
      refine lv_iload_n hx hb dX6_digest_54 rfl (lv_at hl 1 rfl) ?_
      refine lv_bipush (v := 8) hx hb dX6_digest_55 (by decide) ?_
      refine lv_icmp_ge (tgt := 130) hx hb dX6_digest_57 (by decide) (fun c_104 => ?_) (fun c_104 => ?_)
      · have hden := if_s hden c_104
        exact hk130 v_digested_74 _ _ (mSubP hP [0, 1, 2, 3, 4] rfl) (hD.sub [0, 1, 2, 3, 4] (by decide) rfl) hS ls (lv_sub hl [0] rfl) hden
      · have hden := ifn_s hden c_104
        refine lv_iconst (v := 0) hx hb dX6_digest_60 (by decide) ?_
        refine lv_istore_n (lv' := [(2, .int 0), (0, .ref a_this), (1, .int x1_73)]) hx hb dX6_digest_61 rfl hl (by decide) rfl (fun ls hl => ?_)
        have hL62__80 : ∀ (k85 : Int64 → Option (Int64 × Int32 × Int64 × (Nat → Int32) × Int32 × (Nat → Int32) × (Nat → Int32))), (∀ (v_digested_79 : Int64) (H : Heap) (locs : List Loc), va_P D vwCl [(a_this, .inr (5, [.int 0, .ref a_this_s, .ref a_this_aside, .ref a_this_saved, .int v_savedMany, .ref a_this_text, .int v_length, .ref a_this_states, .int v_many_2, .int v_at, .int v_isWrong, .int v_letters, .int v_matched, .ref a_this_rows, .int v_manyRows, .long v_digested_79])), (a_this_states, .inl (cI, 66, .inl v_states_1)), (a_this_s, .inl (cI, 31, .inl v_s)), (a_this_text, .inl (cI, 60, .inl v_text)), (a_this_aside, .inl (cI, 31, .inl v_aside))] H → va_D A [(a_this, .inr (5, [.int 0, .ref a_this_s, .ref a_this_aside, .ref a_this_saved, .int v_savedMany, .ref a_this_text, .int v_length, .ref a_this_states, .int v_many_2, .int v_at, .int v_isWrong, .int v_letters, .int v_matched, .ref a_this_rows, .int v_manyRows, .long v_digested_79])), (a_this_states, .inl (cI, 66, .inl v_states_1)), (a_this_s, .inl (cI, 31, .inl v_s)), (a_this_text, .inl (cI, 60, .inl v_text)), (a_this_aside, .inl (cI, 31, .inl v_aside))] → va_S A s.heap H locs → ∀ ls : Array Slot, lv_has ls 3 [(0, .ref a_this), (1, .int x1_73)] → k85 v_digested_79 = some (r0, w_thrown, w_digested, w_states, w_many, w_s, w_aside) → W p l e rm_X6_digest s m (([.ref a_this] : List Value).toArray) below meth c H locs 0 0 Q (F0 m 85 ls [])) → ∀ (n : Nat) (x2_77 : Int32) (v_digested_78 : Int64) (H : Heap) (locs : List Loc), va_P D vwCl [(a_this, .inr (5, [.int 0, .ref a_this_s, .ref a_this_aside, .ref a_this_saved, .int v_savedMany, .ref a_this_text, .int v_length, .ref a_this_states, .int v_many_2, .int v_at, .int v_isWrong, .int v_letters, .int v_matched, .ref a_this_rows, .int v_manyRows, .long v_digested_78])), (a_this_states, .inl (cI, 66, .inl v_states_1)), (a_this_s, .inl (cI, 31, .inl v_s)), (a_this_text, .inl (cI, 60, .inl v_text)), (a_this_aside, .inl (cI, 31, .inl v_aside))] H → va_D A [(a_this, .inr (5, [.int 0, .ref a_this_s, .ref a_this_aside, .ref a_this_saved, .int v_savedMany, .ref a_this_text, .int v_length, .ref a_this_states, .int v_many_2, .int v_at, .int v_isWrong, .int v_letters, .int v_matched, .ref a_this_rows, .int v_manyRows, .long v_digested_78])), (a_this_states, .inl (cI, 66, .inl v_states_1)), (a_this_s, .inl (cI, 31, .inl v_s)), (a_this_text, .inl (cI, 60, .inl v_text)), (a_this_aside, .inl (cI, 31, .inl v_aside))] → va_S A s.heap H locs → ∀ ls : Array Slot, lv_has ls 3 [(0, .ref a_this), (1, .int x1_73), (2, .int x2_77)] → L_X6_digest_62 F k85 x1_73 v_states_1 v_s n x2_77 v_digested_78 = some (r0, w_thrown, w_digested, w_states, w_many, w_s, w_aside) → W p l e rm_X6_digest s m (([.ref a_this] : List Value).toArray) below meth c H locs 0 0 Q (F0 m 62 ls []) := by
          intro k85 hk85 n
          induction n with
          | zero => intro x2_77 v_digested_78 H locs hP hD hS ls hl hden; exact no_none hden
          | succ n ih =>
            intro x2_77 v_digested_78 H locs hP hD hS ls hl hden
            rw [L_X6_digest_62] at hden
            refine lv_iload_n hx hb dX6_digest_62 rfl (lv_at hl 2 rfl) ?_
            refine lv_bipush (v := 6) hx hb dX6_digest_63 (by decide) ?_
            refine lv_icmp_ge (tgt := 85) hx hb dX6_digest_65 (by decide) (fun c_86 => ?_) (fun c_86 => ?_)
            · have hden := if_s hden c_86
              exact hk85 v_digested_78 _ _ (mSubP hP [0, 1, 2, 3, 4] rfl) (hD.sub [0, 1, 2, 3, 4] (by decide) rfl) hS ls (lv_sub hl [0, 1] rfl) hden
            · have hden := ifn_s hden c_86
              refine lv_aload_n hx hb dX6_digest_68 rfl (lv_at hl 0 rfl) ?_
              refine lv_aload_n hx hb dX6_digest_69 rfl (lv_at hl 0 rfl) ?_
              refine lv_iload_n hx hb dX6_digest_70 rfl (lv_at hl 1 rfl) ?_
              refine lv_iload_n hx hb dX6_digest_71 rfl (lv_at hl 2 rfl) ?_
              obtain ⟨r_81, hc_82, hden⟩ := bnd_s hden
              refine m_ci (wc := [(a_this, .inr (5, [.int 0, .ref a_this_s, .ref a_this_aside, .ref a_this_saved, .int v_savedMany, .ref a_this_text, .int v_length, .ref a_this_states, .int v_many_2, .int v_at, .int v_isWrong, .int v_letters, .int v_matched, .ref a_this_rows, .int v_manyRows, .long v_digested_78])), (a_this_s, .inl (cI, 31, .inl v_s)), (a_this_states, .inl (cI, 66, .inl v_states_1))]) (wr := [(a_this_text, .inl (cI, 60, .inl v_text)), (a_this_aside, .inl (cI, 31, .inl v_aside))]) (wc' := [(a_this, .inr (5, [.int 0, .ref a_this_s, .ref a_this_aside, .ref a_this_saved, .int v_savedMany, .ref a_this_text, .int v_length, .ref a_this_states, .int v_many_2, .int v_at, .int v_isWrong, .int v_letters, .int v_matched, .ref a_this_rows, .int v_manyRows, .long v_digested_78])), (a_this_s, .inl (cI, 31, .inl v_s)), (a_this_states, .inl (cI, 66, .inl v_states_1))]) (va_runV (As := [.int x1_73, .int x2_77]) (rest := [.ref a_this]) ⟨hx, hb, hml, hown, hts⟩ (c_X6_patternOf l D cI cM cL F hc_82) (cwV 2 hts gX6_digest_X6_patternOf rfl rfl rfl (by decide +kernel) ⟨Nat.le_of_ble_eq_true rfl, Nat.le_of_ble_eq_true rfl⟩) (mPreV (ci := 5) (q0 := 0) (r := (RX6, TX6, 16)) hP hD hK hN [0, 2, 1] (by decide) rfl rfl rfl) rfl rfl hl.1 rfl (lv_room (Nat.le_of_ble_eq_true rfl)) dX6_digest_72 ⟨Nat.le_of_ble_eq_true rfl, Nat.le_of_ble_eq_true rfl⟩) hP hD hS hA [0, 2, 1] [3, 4] rfl rfl (by decide) (by decide) (fun H locs hP hD hS => ?_)
              have hP : va_P D vwCl [(a_this_text, .inl (cI, 60, .inl v_text)), (a_this_aside, .inl (cI, 31, .inl v_aside)), (a_this, .inr (5, [.int 0, .ref a_this_s, .ref a_this_aside, .ref a_this_saved, .int v_savedMany, .ref a_this_text, .int v_length, .ref a_this_states, .int v_many_2, .int v_at, .int v_isWrong, .int v_letters, .int v_matched, .ref a_this_rows, .int v_manyRows, .long v_digested_78])), (a_this_s, .inl (cI, 31, .inl v_s)), (a_this_states, .inl (cI, 66, .inl v_states_1))] H := hP
              have hD : va_D A [(a_this_text, .inl (cI, 60, .inl v_text)), (a_this_aside, .inl (cI, 31, .inl v_aside)), (a_this, .inr (5, [.int 0, .ref a_this_s, .ref a_this_aside, .ref a_this_saved, .int v_savedMany, .ref a_this_text, .int v_length, .ref a_this_states, .int v_many_2, .int v_at, .int v_isWrong, .int v_letters, .int v_matched, .ref a_this_rows, .int v_manyRows, .long v_digested_78])), (a_this_s, .inl (cI, 31, .inl v_s)), (a_this_states, .inl (cI, 66, .inl v_states_1))] := hD
              refine lv_i2l hx hb dX6_digest_75 rfl ?_
              obtain ⟨v_digested_83, hc_84, hden⟩ := bnd_s hden
              refine m_cv (wc := [(a_this, .inr (5, [.int 0, .ref a_this_s, .ref a_this_aside, .ref a_this_saved, .int v_savedMany, .ref a_this_text, .int v_length, .ref a_this_states, .int v_many_2, .int v_at, .int v_isWrong, .int v_letters, .int v_matched, .ref a_this_rows, .int v_manyRows, .long v_digested_78]))]) (wr := [(a_this_text, .inl (cI, 60, .inl v_text)), (a_this_aside, .inl (cI, 31, .inl v_aside)), (a_this_s, .inl (cI, 31, .inl v_s)), (a_this_states, .inl (cI, 66, .inl v_states_1))]) (wc' := [(a_this, .inr (5, [.int 0, .ref a_this_s, .ref a_this_aside, .ref a_this_saved, .int v_savedMany, .ref a_this_text, .int v_length, .ref a_this_states, .int v_many_2, .int v_at, .int v_isWrong, .int v_letters, .int v_matched, .ref a_this_rows, .int v_manyRows, .long v_digested_83]))]) (va_runV (As := [.long ((r_81 : Int32).toInt64)]) (rest := []) ⟨hx, hb, hml, hown, hts⟩ (c_X6_digestOne l D cI cM cL F hc_84) (cwV 1 hts gX6_digest_X6_digestOne rfl rfl rfl (by decide +kernel) ⟨Nat.le_of_ble_eq_true rfl, Nat.le_of_ble_eq_true rfl⟩) (mPreV (ci := 5) (q0 := 0) (r := (RX6, TX6, 16)) hP hD hK hN [2] (by decide) rfl rfl rfl) rfl rfl hl.1 rfl (lv_room (Nat.le_of_ble_eq_true rfl)) dX6_digest_76 ⟨Nat.le_of_ble_eq_true rfl, Nat.le_of_ble_eq_true rfl⟩) hP hD hS hA [2] [0, 1, 3, 4] rfl rfl (by decide) (by decide) (fun H locs hP hD hS => ?_)
              have hP : va_P D vwCl [(a_this_text, .inl (cI, 60, .inl v_text)), (a_this_aside, .inl (cI, 31, .inl v_aside)), (a_this_s, .inl (cI, 31, .inl v_s)), (a_this_states, .inl (cI, 66, .inl v_states_1)), (a_this, .inr (5, [.int 0, .ref a_this_s, .ref a_this_aside, .ref a_this_saved, .int v_savedMany, .ref a_this_text, .int v_length, .ref a_this_states, .int v_many_2, .int v_at, .int v_isWrong, .int v_letters, .int v_matched, .ref a_this_rows, .int v_manyRows, .long v_digested_83]))] H := hP
              have hD : va_D A [(a_this_text, .inl (cI, 60, .inl v_text)), (a_this_aside, .inl (cI, 31, .inl v_aside)), (a_this_s, .inl (cI, 31, .inl v_s)), (a_this_states, .inl (cI, 66, .inl v_states_1)), (a_this, .inr (5, [.int 0, .ref a_this_s, .ref a_this_aside, .ref a_this_saved, .int v_savedMany, .ref a_this_text, .int v_length, .ref a_this_states, .int v_many_2, .int v_at, .int v_isWrong, .int v_letters, .int v_matched, .ref a_this_rows, .int v_manyRows, .long v_digested_83]))] := hD
              obtain ⟨x2_85, ex2_85, hden⟩ := nm_x hden
              refine lv_iinc (v := x2_85) (lv' := [(2, .int x2_85), (0, .ref a_this), (1, .int x1_73)]) hx hb dX6_digest_79 hl (k := 2) rfl (by rw [ex2_85]; rfl) (by decide) rfl (fun ls hl => ?_)
              refine lv_goto (tgt := 62) hx hb dX6_digest_82 (by decide) ?_
              exact ih x2_85 v_digested_83 _ _ (mSubP hP [4, 3, 2, 0, 1] rfl) (hD.sub [4, 3, 2, 0, 1] (by decide) rfl) hS ls (lv_sub hl [1, 2, 0] rfl) hden
        refine hL62__80 _ (fun v_digested_79 H locs hP hD hS ls hl hden => ?_) F 0 v_digested_74 _ _ (mSubP hP [0, 1, 2, 3, 4] rfl) (hD.sub [0, 1, 2, 3, 4] (by decide) rfl) hS ls (lv_sub hl [1, 2, 0] rfl) hden
        refine lv_iconst (v := 0) hx hb dX6_digest_85 (by decide) ?_
        refine lv_istore_n (lv' := [(2, .int 0), (0, .ref a_this), (1, .int x1_73)]) hx hb dX6_digest_86 rfl hl (by decide) rfl (fun ls hl => ?_)
        have hL87__90 : ∀ (k114 : Int64 → Option (Int64 × Int32 × Int64 × (Nat → Int32) × Int32 × (Nat → Int32) × (Nat → Int32))), (∀ (v_digested_89 : Int64) (H : Heap) (locs : List Loc), va_P D vwCl [(a_this, .inr (5, [.int 0, .ref a_this_s, .ref a_this_aside, .ref a_this_saved, .int v_savedMany, .ref a_this_text, .int v_length, .ref a_this_states, .int v_many_2, .int v_at, .int v_isWrong, .int v_letters, .int v_matched, .ref a_this_rows, .int v_manyRows, .long v_digested_89])), (a_this_states, .inl (cI, 66, .inl v_states_1)), (a_this_s, .inl (cI, 31, .inl v_s)), (a_this_text, .inl (cI, 60, .inl v_text)), (a_this_aside, .inl (cI, 31, .inl v_aside))] H → va_D A [(a_this, .inr (5, [.int 0, .ref a_this_s, .ref a_this_aside, .ref a_this_saved, .int v_savedMany, .ref a_this_text, .int v_length, .ref a_this_states, .int v_many_2, .int v_at, .int v_isWrong, .int v_letters, .int v_matched, .ref a_this_rows, .int v_manyRows, .long v_digested_89])), (a_this_states, .inl (cI, 66, .inl v_states_1)), (a_this_s, .inl (cI, 31, .inl v_s)), (a_this_text, .inl (cI, 60, .inl v_text)), (a_this_aside, .inl (cI, 31, .inl v_aside))] → va_S A s.heap H locs → ∀ ls : Array Slot, lv_has ls 3 [(0, .ref a_this), (1, .int x1_73)] → k114 v_digested_89 = some (r0, w_thrown, w_digested, w_states, w_many, w_s, w_aside) → W p l e rm_X6_digest s m (([.ref a_this] : List Value).toArray) below meth c H locs 0 0 Q (F0 m 114 ls [])) → ∀ (n : Nat) (x2_87 : Int32) (v_digested_88 : Int64) (H : Heap) (locs : List Loc), va_P D vwCl [(a_this, .inr (5, [.int 0, .ref a_this_s, .ref a_this_aside, .ref a_this_saved, .int v_savedMany, .ref a_this_text, .int v_length, .ref a_this_states, .int v_many_2, .int v_at, .int v_isWrong, .int v_letters, .int v_matched, .ref a_this_rows, .int v_manyRows, .long v_digested_88])), (a_this_states, .inl (cI, 66, .inl v_states_1)), (a_this_s, .inl (cI, 31, .inl v_s)), (a_this_text, .inl (cI, 60, .inl v_text)), (a_this_aside, .inl (cI, 31, .inl v_aside))] H → va_D A [(a_this, .inr (5, [.int 0, .ref a_this_s, .ref a_this_aside, .ref a_this_saved, .int v_savedMany, .ref a_this_text, .int v_length, .ref a_this_states, .int v_many_2, .int v_at, .int v_isWrong, .int v_letters, .int v_matched, .ref a_this_rows, .int v_manyRows, .long v_digested_88])), (a_this_states, .inl (cI, 66, .inl v_states_1)), (a_this_s, .inl (cI, 31, .inl v_s)), (a_this_text, .inl (cI, 60, .inl v_text)), (a_this_aside, .inl (cI, 31, .inl v_aside))] → va_S A s.heap H locs → ∀ ls : Array Slot, lv_has ls 3 [(0, .ref a_this), (1, .int x1_73), (2, .int x2_87)] → L_X6_digest_87 F k114 x1_73 v_states_1 v_s n x2_87 v_digested_88 = some (r0, w_thrown, w_digested, w_states, w_many, w_s, w_aside) → W p l e rm_X6_digest s m (([.ref a_this] : List Value).toArray) below meth c H locs 0 0 Q (F0 m 87 ls []) := by
          intro k114 hk114 n
          induction n with
          | zero => intro x2_87 v_digested_88 H locs hP hD hS ls hl hden; exact no_none hden
          | succ n ih =>
            intro x2_87 v_digested_88 H locs hP hD hS ls hl hden
            rw [L_X6_digest_87] at hden
            refine lv_iload_n hx hb dX6_digest_87 rfl (lv_at hl 2 rfl) ?_
            refine lv_aload_n hx hb dX6_digest_88 rfl (lv_at hl 0 rfl) ?_
            refine lv_iload_n hx hb dX6_digest_89 rfl (lv_at hl 1 rfl) ?_
            refine lv_iconst (v := 0) hx hb dX6_digest_90 (by decide) ?_
            obtain ⟨r_91, hc_92, hden⟩ := bnd_s hden
            refine m_ci (wc := [(a_this, .inr (5, [.int 0, .ref a_this_s, .ref a_this_aside, .ref a_this_saved, .int v_savedMany, .ref a_this_text, .int v_length, .ref a_this_states, .int v_many_2, .int v_at, .int v_isWrong, .int v_letters, .int v_matched, .ref a_this_rows, .int v_manyRows, .long v_digested_88])), (a_this_s, .inl (cI, 31, .inl v_s)), (a_this_states, .inl (cI, 66, .inl v_states_1))]) (wr := [(a_this_text, .inl (cI, 60, .inl v_text)), (a_this_aside, .inl (cI, 31, .inl v_aside))]) (wc' := [(a_this, .inr (5, [.int 0, .ref a_this_s, .ref a_this_aside, .ref a_this_saved, .int v_savedMany, .ref a_this_text, .int v_length, .ref a_this_states, .int v_many_2, .int v_at, .int v_isWrong, .int v_letters, .int v_matched, .ref a_this_rows, .int v_manyRows, .long v_digested_88])), (a_this_s, .inl (cI, 31, .inl v_s)), (a_this_states, .inl (cI, 66, .inl v_states_1))]) (va_runV (As := [.int x1_73, .int 0]) (rest := [.int x2_87]) ⟨hx, hb, hml, hown, hts⟩ (c_X6_patternOf l D cI cM cL F hc_92) (cwV 2 hts gX6_digest_X6_patternOf rfl rfl rfl (by decide +kernel) ⟨Nat.le_of_ble_eq_true rfl, Nat.le_of_ble_eq_true rfl⟩) (mPreV (ci := 5) (q0 := 0) (r := (RX6, TX6, 16)) hP hD hK hN [0, 2, 1] (by decide) rfl rfl rfl) rfl rfl hl.1 rfl (lv_room (Nat.le_of_ble_eq_true rfl)) dX6_digest_91 ⟨Nat.le_of_ble_eq_true rfl, Nat.le_of_ble_eq_true rfl⟩) hP hD hS hA [0, 2, 1] [3, 4] rfl rfl (by decide) (by decide) (fun H locs hP hD hS => ?_)
            have hP : va_P D vwCl [(a_this_text, .inl (cI, 60, .inl v_text)), (a_this_aside, .inl (cI, 31, .inl v_aside)), (a_this, .inr (5, [.int 0, .ref a_this_s, .ref a_this_aside, .ref a_this_saved, .int v_savedMany, .ref a_this_text, .int v_length, .ref a_this_states, .int v_many_2, .int v_at, .int v_isWrong, .int v_letters, .int v_matched, .ref a_this_rows, .int v_manyRows, .long v_digested_88])), (a_this_s, .inl (cI, 31, .inl v_s)), (a_this_states, .inl (cI, 66, .inl v_states_1))] H := hP
            have hD : va_D A [(a_this_text, .inl (cI, 60, .inl v_text)), (a_this_aside, .inl (cI, 31, .inl v_aside)), (a_this, .inr (5, [.int 0, .ref a_this_s, .ref a_this_aside, .ref a_this_saved, .int v_savedMany, .ref a_this_text, .int v_length, .ref a_this_states, .int v_many_2, .int v_at, .int v_isWrong, .int v_letters, .int v_matched, .ref a_this_rows, .int v_manyRows, .long v_digested_88])), (a_this_s, .inl (cI, 31, .inl v_s)), (a_this_states, .inl (cI, 66, .inl v_states_1))] := hD
            refine lv_icmp_ge (tgt := 114) hx hb dX6_digest_94 (by decide) (fun c_98 => ?_) (fun c_98 => ?_)
            · have hden := if_s hden c_98
              exact hk114 v_digested_88 _ _ (mSubP hP [2, 4, 3, 0, 1] rfl) (hD.sub [2, 4, 3, 0, 1] (by decide) rfl) hS ls (lv_sub hl [0, 1] rfl) hden
            · have hden := ifn_s hden c_98
              refine lv_aload_n hx hb dX6_digest_97 rfl (lv_at hl 0 rfl) ?_
              refine lv_aload_n hx hb dX6_digest_98 rfl (lv_at hl 0 rfl) ?_
              refine lv_iload_n hx hb dX6_digest_99 rfl (lv_at hl 1 rfl) ?_
              refine lv_iload_n hx hb dX6_digest_100 rfl (lv_at hl 2 rfl) ?_
              obtain ⟨r_93, hc_94, hden⟩ := bnd_s hden
              refine m_ci (wc := [(a_this, .inr (5, [.int 0, .ref a_this_s, .ref a_this_aside, .ref a_this_saved, .int v_savedMany, .ref a_this_text, .int v_length, .ref a_this_states, .int v_many_2, .int v_at, .int v_isWrong, .int v_letters, .int v_matched, .ref a_this_rows, .int v_manyRows, .long v_digested_88])), (a_this_s, .inl (cI, 31, .inl v_s))]) (wr := [(a_this_text, .inl (cI, 60, .inl v_text)), (a_this_aside, .inl (cI, 31, .inl v_aside)), (a_this_states, .inl (cI, 66, .inl v_states_1))]) (wc' := [(a_this, .inr (5, [.int 0, .ref a_this_s, .ref a_this_aside, .ref a_this_saved, .int v_savedMany, .ref a_this_text, .int v_length, .ref a_this_states, .int v_many_2, .int v_at, .int v_isWrong, .int v_letters, .int v_matched, .ref a_this_rows, .int v_manyRows, .long v_digested_88])), (a_this_s, .inl (cI, 31, .inl v_s))]) (va_runV (As := [.int x1_73, .int x2_87]) (rest := [.ref a_this]) ⟨hx, hb, hml, hown, hts⟩ (c_X6_letterOf l D cI cM cL F hc_94) (cwV 2 hts gX6_digest_X6_letterOf rfl rfl rfl (by decide +kernel) ⟨Nat.le_of_ble_eq_true rfl, Nat.le_of_ble_eq_true rfl⟩) (mPreV (ci := 5) (q0 := 0) (r := (RX6, TX6, 16)) hP hD hK hN [2, 3] (by decide) rfl rfl rfl) rfl rfl hl.1 rfl (lv_room (Nat.le_of_ble_eq_true rfl)) dX6_digest_101 ⟨Nat.le_of_ble_eq_true rfl, Nat.le_of_ble_eq_true rfl⟩) hP hD hS hA [2, 3] [0, 1, 4] rfl rfl (by decide) (by decide) (fun H locs hP hD hS => ?_)
              have hP : va_P D vwCl [(a_this_text, .inl (cI, 60, .inl v_text)), (a_this_aside, .inl (cI, 31, .inl v_aside)), (a_this_states, .inl (cI, 66, .inl v_states_1)), (a_this, .inr (5, [.int 0, .ref a_this_s, .ref a_this_aside, .ref a_this_saved, .int v_savedMany, .ref a_this_text, .int v_length, .ref a_this_states, .int v_many_2, .int v_at, .int v_isWrong, .int v_letters, .int v_matched, .ref a_this_rows, .int v_manyRows, .long v_digested_88])), (a_this_s, .inl (cI, 31, .inl v_s))] H := hP
              have hD : va_D A [(a_this_text, .inl (cI, 60, .inl v_text)), (a_this_aside, .inl (cI, 31, .inl v_aside)), (a_this_states, .inl (cI, 66, .inl v_states_1)), (a_this, .inr (5, [.int 0, .ref a_this_s, .ref a_this_aside, .ref a_this_saved, .int v_savedMany, .ref a_this_text, .int v_length, .ref a_this_states, .int v_many_2, .int v_at, .int v_isWrong, .int v_letters, .int v_matched, .ref a_this_rows, .int v_manyRows, .long v_digested_88])), (a_this_s, .inl (cI, 31, .inl v_s))] := hD
              refine lv_i2l hx hb dX6_digest_104 rfl ?_
              obtain ⟨v_digested_95, hc_96, hden⟩ := bnd_s hden
              refine m_cv (wc := [(a_this, .inr (5, [.int 0, .ref a_this_s, .ref a_this_aside, .ref a_this_saved, .int v_savedMany, .ref a_this_text, .int v_length, .ref a_this_states, .int v_many_2, .int v_at, .int v_isWrong, .int v_letters, .int v_matched, .ref a_this_rows, .int v_manyRows, .long v_digested_88]))]) (wr := [(a_this_text, .inl (cI, 60, .inl v_text)), (a_this_aside, .inl (cI, 31, .inl v_aside)), (a_this_states, .inl (cI, 66, .inl v_states_1)), (a_this_s, .inl (cI, 31, .inl v_s))]) (wc' := [(a_this, .inr (5, [.int 0, .ref a_this_s, .ref a_this_aside, .ref a_this_saved, .int v_savedMany, .ref a_this_text, .int v_length, .ref a_this_states, .int v_many_2, .int v_at, .int v_isWrong, .int v_letters, .int v_matched, .ref a_this_rows, .int v_manyRows, .long v_digested_95]))]) (va_runV (As := [.long ((r_93 : Int32).toInt64)]) (rest := []) ⟨hx, hb, hml, hown, hts⟩ (c_X6_digestOne l D cI cM cL F hc_96) (cwV 1 hts gX6_digest_X6_digestOne rfl rfl rfl (by decide +kernel) ⟨Nat.le_of_ble_eq_true rfl, Nat.le_of_ble_eq_true rfl⟩) (mPreV (ci := 5) (q0 := 0) (r := (RX6, TX6, 16)) hP hD hK hN [3] (by decide) rfl rfl rfl) rfl rfl hl.1 rfl (lv_room (Nat.le_of_ble_eq_true rfl)) dX6_digest_105 ⟨Nat.le_of_ble_eq_true rfl, Nat.le_of_ble_eq_true rfl⟩) hP hD hS hA [3] [0, 1, 2, 4] rfl rfl (by decide) (by decide) (fun H locs hP hD hS => ?_)
              have hP : va_P D vwCl [(a_this_text, .inl (cI, 60, .inl v_text)), (a_this_aside, .inl (cI, 31, .inl v_aside)), (a_this_states, .inl (cI, 66, .inl v_states_1)), (a_this_s, .inl (cI, 31, .inl v_s)), (a_this, .inr (5, [.int 0, .ref a_this_s, .ref a_this_aside, .ref a_this_saved, .int v_savedMany, .ref a_this_text, .int v_length, .ref a_this_states, .int v_many_2, .int v_at, .int v_isWrong, .int v_letters, .int v_matched, .ref a_this_rows, .int v_manyRows, .long v_digested_95]))] H := hP
              have hD : va_D A [(a_this_text, .inl (cI, 60, .inl v_text)), (a_this_aside, .inl (cI, 31, .inl v_aside)), (a_this_states, .inl (cI, 66, .inl v_states_1)), (a_this_s, .inl (cI, 31, .inl v_s)), (a_this, .inr (5, [.int 0, .ref a_this_s, .ref a_this_aside, .ref a_this_saved, .int v_savedMany, .ref a_this_text, .int v_length, .ref a_this_states, .int v_many_2, .int v_at, .int v_isWrong, .int v_letters, .int v_matched, .ref a_this_rows, .int v_manyRows, .long v_digested_95]))] := hD
              obtain ⟨x2_97, ex2_97, hden⟩ := nm_x hden
              refine lv_iinc (v := x2_97) (lv' := [(2, .int x2_97), (0, .ref a_this), (1, .int x1_73)]) hx hb dX6_digest_108 hl (k := 2) rfl (by rw [ex2_97]; rfl) (by decide) rfl (fun ls hl => ?_)
              refine lv_goto (tgt := 87) hx hb dX6_digest_111 (by decide) ?_
              exact ih x2_97 v_digested_95 _ _ (mSubP hP [4, 2, 3, 0, 1] rfl) (hD.sub [4, 2, 3, 0, 1] (by decide) rfl) hS ls (lv_sub hl [1, 2, 0] rfl) hden
        refine hL87__90 _ (fun v_digested_89 H locs hP hD hS ls hl hden => ?_) F 0 v_digested_79 _ _ (mSubP hP [0, 1, 2, 3, 4] rfl) (hD.sub [0, 1, 2, 3, 4] (by decide) rfl) hS ls (lv_sub hl [1, 2, 0] rfl) hden
        refine lv_aload_n hx hb dX6_digest_114 rfl (lv_at hl 0 rfl) ?_
        refine lv_aload_n hx hb dX6_digest_115 rfl (lv_at hl 0 rfl) ?_
        refine lv_iload_n hx hb dX6_digest_116 rfl (lv_at hl 1 rfl) ?_
        obtain ⟨r_99, hc_100, hden⟩ := bnd_s hden
        refine m_ci (wc := [(a_this, .inr (5, [.int 0, .ref a_this_s, .ref a_this_aside, .ref a_this_saved, .int v_savedMany, .ref a_this_text, .int v_length, .ref a_this_states, .int v_many_2, .int v_at, .int v_isWrong, .int v_letters, .int v_matched, .ref a_this_rows, .int v_manyRows, .long v_digested_89])), (a_this_s, .inl (cI, 31, .inl v_s))]) (wr := [(a_this_states, .inl (cI, 66, .inl v_states_1)), (a_this_text, .inl (cI, 60, .inl v_text)), (a_this_aside, .inl (cI, 31, .inl v_aside))]) (wc' := [(a_this, .inr (5, [.int 0, .ref a_this_s, .ref a_this_aside, .ref a_this_saved, .int v_savedMany, .ref a_this_text, .int v_length, .ref a_this_states, .int v_many_2, .int v_at, .int v_isWrong, .int v_letters, .int v_matched, .ref a_this_rows, .int v_manyRows, .long v_digested_89])), (a_this_s, .inl (cI, 31, .inl v_s))]) (va_runV (As := [.int x1_73]) (rest := [.ref a_this]) ⟨hx, hb, hml, hown, hts⟩ (c_X6_lettersOf l D cI cM cL F hc_100) (cwV 1 hts gX6_digest_X6_lettersOf rfl rfl rfl (by decide +kernel) ⟨Nat.le_of_ble_eq_true rfl, Nat.le_of_ble_eq_true rfl⟩) (mPreV (ci := 5) (q0 := 0) (r := (RX6, TX6, 16)) hP hD hK hN [0, 2] (by decide) rfl rfl rfl) rfl rfl hl.1 rfl (lv_room (Nat.le_of_ble_eq_true rfl)) dX6_digest_117 ⟨Nat.le_of_ble_eq_true rfl, Nat.le_of_ble_eq_true rfl⟩) hP hD hS hA [0, 2] [1, 3, 4] rfl rfl (by decide) (by decide) (fun H locs hP hD hS => ?_)
        have hP : va_P D vwCl [(a_this_states, .inl (cI, 66, .inl v_states_1)), (a_this_text, .inl (cI, 60, .inl v_text)), (a_this_aside, .inl (cI, 31, .inl v_aside)), (a_this, .inr (5, [.int 0, .ref a_this_s, .ref a_this_aside, .ref a_this_saved, .int v_savedMany, .ref a_this_text, .int v_length, .ref a_this_states, .int v_many_2, .int v_at, .int v_isWrong, .int v_letters, .int v_matched, .ref a_this_rows, .int v_manyRows, .long v_digested_89])), (a_this_s, .inl (cI, 31, .inl v_s))] H := hP
        have hD : va_D A [(a_this_states, .inl (cI, 66, .inl v_states_1)), (a_this_text, .inl (cI, 60, .inl v_text)), (a_this_aside, .inl (cI, 31, .inl v_aside)), (a_this, .inr (5, [.int 0, .ref a_this_s, .ref a_this_aside, .ref a_this_saved, .int v_savedMany, .ref a_this_text, .int v_length, .ref a_this_states, .int v_many_2, .int v_at, .int v_isWrong, .int v_letters, .int v_matched, .ref a_this_rows, .int v_manyRows, .long v_digested_89])), (a_this_s, .inl (cI, 31, .inl v_s))] := hD
        refine lv_i2l hx hb dX6_digest_120 rfl ?_
        obtain ⟨v_digested_101, hc_102, hden⟩ := bnd_s hden
        refine m_cv (wc := [(a_this, .inr (5, [.int 0, .ref a_this_s, .ref a_this_aside, .ref a_this_saved, .int v_savedMany, .ref a_this_text, .int v_length, .ref a_this_states, .int v_many_2, .int v_at, .int v_isWrong, .int v_letters, .int v_matched, .ref a_this_rows, .int v_manyRows, .long v_digested_89]))]) (wr := [(a_this_states, .inl (cI, 66, .inl v_states_1)), (a_this_text, .inl (cI, 60, .inl v_text)), (a_this_aside, .inl (cI, 31, .inl v_aside)), (a_this_s, .inl (cI, 31, .inl v_s))]) (wc' := [(a_this, .inr (5, [.int 0, .ref a_this_s, .ref a_this_aside, .ref a_this_saved, .int v_savedMany, .ref a_this_text, .int v_length, .ref a_this_states, .int v_many_2, .int v_at, .int v_isWrong, .int v_letters, .int v_matched, .ref a_this_rows, .int v_manyRows, .long v_digested_101]))]) (va_runV (As := [.long ((r_99 : Int32).toInt64)]) (rest := []) ⟨hx, hb, hml, hown, hts⟩ (c_X6_digestOne l D cI cM cL F hc_102) (cwV 1 hts gX6_digest_X6_digestOne rfl rfl rfl (by decide +kernel) ⟨Nat.le_of_ble_eq_true rfl, Nat.le_of_ble_eq_true rfl⟩) (mPreV (ci := 5) (q0 := 0) (r := (RX6, TX6, 16)) hP hD hK hN [3] (by decide) rfl rfl rfl) rfl rfl hl.1 rfl (lv_room (Nat.le_of_ble_eq_true rfl)) dX6_digest_121 ⟨Nat.le_of_ble_eq_true rfl, Nat.le_of_ble_eq_true rfl⟩) hP hD hS hA [3] [0, 1, 2, 4] rfl rfl (by decide) (by decide) (fun H locs hP hD hS => ?_)
        have hP : va_P D vwCl [(a_this_states, .inl (cI, 66, .inl v_states_1)), (a_this_text, .inl (cI, 60, .inl v_text)), (a_this_aside, .inl (cI, 31, .inl v_aside)), (a_this_s, .inl (cI, 31, .inl v_s)), (a_this, .inr (5, [.int 0, .ref a_this_s, .ref a_this_aside, .ref a_this_saved, .int v_savedMany, .ref a_this_text, .int v_length, .ref a_this_states, .int v_many_2, .int v_at, .int v_isWrong, .int v_letters, .int v_matched, .ref a_this_rows, .int v_manyRows, .long v_digested_101]))] H := hP
        have hD : va_D A [(a_this_states, .inl (cI, 66, .inl v_states_1)), (a_this_text, .inl (cI, 60, .inl v_text)), (a_this_aside, .inl (cI, 31, .inl v_aside)), (a_this_s, .inl (cI, 31, .inl v_s)), (a_this, .inr (5, [.int 0, .ref a_this_s, .ref a_this_aside, .ref a_this_saved, .int v_savedMany, .ref a_this_text, .int v_length, .ref a_this_states, .int v_many_2, .int v_at, .int v_isWrong, .int v_letters, .int v_matched, .ref a_this_rows, .int v_manyRows, .long v_digested_101]))] := hD
        obtain ⟨x1_103, ex1_103, hden⟩ := nm_x hden
        refine lv_iinc (v := x1_103) (lv' := [(1, .int x1_103), (0, .ref a_this)]) hx hb dX6_digest_124 hl (k := 1) rfl (by rw [ex1_103]; rfl) (by decide) rfl (fun ls hl => ?_)
        refine lv_goto (tgt := 54) hx hb dX6_digest_127 (by decide) ?_
        exact ih x1_103 v_digested_101 _ _ (mSubP hP [4, 0, 3, 1, 2] rfl) (hD.sub [4, 0, 3, 1, 2] (by decide) rfl) hS ls (lv_sub hl [1, 0] rfl) hden
  refine hL54__76 _ (fun v_digested_75 H locs hP hD hS ls hl hden => ?_) F 0 v_digested_23 _ _ (mSubP hP [4, 0, 1, 2, 3] rfl) (hD.sub [4, 0, 1, 2, 3] (by decide) rfl) hS ls (lv_sub hl [1, 0] rfl) hden
  refine lv_iconst (v := 0) hx hb dX6_digest_130 (by decide) ?_
  refine lv_istore_n (lv' := [(1, .int 0), (0, .ref a_this)]) hx hb dX6_digest_131 rfl hl (by decide) rfl (fun ls hl => ?_)
  have hL132__130 : ∀ (k171 : Int64 → Option (Int64 × Int32 × Int64 × (Nat → Int32) × Int32 × (Nat → Int32) × (Nat → Int32))), (∀ (v_digested_129 : Int64) (H : Heap) (locs : List Loc), va_P D vwCl [(a_this, .inr (5, [.int 0, .ref a_this_s, .ref a_this_aside, .ref a_this_saved, .int v_savedMany, .ref a_this_text, .int v_length, .ref a_this_states, .int v_many_2, .int v_at, .int v_isWrong, .int v_letters, .int v_matched, .ref a_this_rows, .int v_manyRows, .long v_digested_129])), (a_this_states, .inl (cI, 66, .inl v_states_1)), (a_this_s, .inl (cI, 31, .inl v_s)), (a_this_text, .inl (cI, 60, .inl v_text)), (a_this_aside, .inl (cI, 31, .inl v_aside))] H → va_D A [(a_this, .inr (5, [.int 0, .ref a_this_s, .ref a_this_aside, .ref a_this_saved, .int v_savedMany, .ref a_this_text, .int v_length, .ref a_this_states, .int v_many_2, .int v_at, .int v_isWrong, .int v_letters, .int v_matched, .ref a_this_rows, .int v_manyRows, .long v_digested_129])), (a_this_states, .inl (cI, 66, .inl v_states_1)), (a_this_s, .inl (cI, 31, .inl v_s)), (a_this_text, .inl (cI, 60, .inl v_text)), (a_this_aside, .inl (cI, 31, .inl v_aside))] → va_S A s.heap H locs → ∀ ls : Array Slot, lv_has ls 3 [(0, .ref a_this)] → k171 v_digested_129 = some (r0, w_thrown, w_digested, w_states, w_many, w_s, w_aside) → W p l e rm_X6_digest s m (([.ref a_this] : List Value).toArray) below meth c H locs 0 0 Q (F0 m 171 ls [])) → ∀ (n : Nat) (x1_127 : Int32) (v_digested_128 : Int64) (H : Heap) (locs : List Loc), va_P D vwCl [(a_this, .inr (5, [.int 0, .ref a_this_s, .ref a_this_aside, .ref a_this_saved, .int v_savedMany, .ref a_this_text, .int v_length, .ref a_this_states, .int v_many_2, .int v_at, .int v_isWrong, .int v_letters, .int v_matched, .ref a_this_rows, .int v_manyRows, .long v_digested_128])), (a_this_states, .inl (cI, 66, .inl v_states_1)), (a_this_s, .inl (cI, 31, .inl v_s)), (a_this_text, .inl (cI, 60, .inl v_text)), (a_this_aside, .inl (cI, 31, .inl v_aside))] H → va_D A [(a_this, .inr (5, [.int 0, .ref a_this_s, .ref a_this_aside, .ref a_this_saved, .int v_savedMany, .ref a_this_text, .int v_length, .ref a_this_states, .int v_many_2, .int v_at, .int v_isWrong, .int v_letters, .int v_matched, .ref a_this_rows, .int v_manyRows, .long v_digested_128])), (a_this_states, .inl (cI, 66, .inl v_states_1)), (a_this_s, .inl (cI, 31, .inl v_s)), (a_this_text, .inl (cI, 60, .inl v_text)), (a_this_aside, .inl (cI, 31, .inl v_aside))] → va_S A s.heap H locs → ∀ ls : Array Slot, lv_has ls 3 [(0, .ref a_this), (1, .int x1_127)] → L_X6_digest_132 F k171 v_states_1 v_many_2 v_s n x1_127 v_digested_128 = some (r0, w_thrown, w_digested, w_states, w_many, w_s, w_aside) → W p l e rm_X6_digest s m (([.ref a_this] : List Value).toArray) below meth c H locs 0 0 Q (F0 m 132 ls []) := by
    intro k171 hk171 n
    induction n with
    | zero => intro x1_127 v_digested_128 H locs hP hD hS ls hl hden; exact no_none hden
    | succ n ih =>
      intro x1_127 v_digested_128 H locs hP hD hS ls hl hden
      rw [L_X6_digest_132] at hden
      refine lv_iload_n hx hb dX6_digest_132 rfl (lv_at hl 1 rfl) ?_
      refine lv_aload_n hx hb dX6_digest_133 rfl (lv_at hl 0 rfl) ?_
      refine va_get (D := D) (ci := 5) (v := .int v_many_2) (C := RX6) (T := TX6) (N := 16) hx hb hts hin_X6 hown hK hP 0 rfl rfl 8 (by decide) w_76 (fun _ h9 => h9) rfl dX6_digest_134 ?_
      refine lv_icmp_ge (tgt := 171) hx hb dX6_digest_137 (by decide) (fun c_142 => ?_) (fun c_142 => ?_)
      · have hden := if_s hden c_142
        exact hk171 v_digested_128 _ _ (mSubP hP [0, 1, 2, 3, 4] rfl) (hD.sub [0, 1, 2, 3, 4] (by decide) rfl) hS ls (lv_sub hl [0] rfl) hden
      · have hden := ifn_s hden c_142
        refine lv_iconst (v := 0) hx hb dX6_digest_140 (by decide) ?_
        refine lv_istore_n (lv' := [(2, .int 0), (0, .ref a_this), (1, .int x1_127)]) hx hb dX6_digest_141 rfl hl (by decide) rfl (fun ls hl => ?_)
        have hL142__134 : ∀ (k165 : Int64 → Option (Int64 × Int32 × Int64 × (Nat → Int32) × Int32 × (Nat → Int32) × (Nat → Int32))), (∀ (v_digested_133 : Int64) (H : Heap) (locs : List Loc), va_P D vwCl [(a_this, .inr (5, [.int 0, .ref a_this_s, .ref a_this_aside, .ref a_this_saved, .int v_savedMany, .ref a_this_text, .int v_length, .ref a_this_states, .int v_many_2, .int v_at, .int v_isWrong, .int v_letters, .int v_matched, .ref a_this_rows, .int v_manyRows, .long v_digested_133])), (a_this_states, .inl (cI, 66, .inl v_states_1)), (a_this_s, .inl (cI, 31, .inl v_s)), (a_this_text, .inl (cI, 60, .inl v_text)), (a_this_aside, .inl (cI, 31, .inl v_aside))] H → va_D A [(a_this, .inr (5, [.int 0, .ref a_this_s, .ref a_this_aside, .ref a_this_saved, .int v_savedMany, .ref a_this_text, .int v_length, .ref a_this_states, .int v_many_2, .int v_at, .int v_isWrong, .int v_letters, .int v_matched, .ref a_this_rows, .int v_manyRows, .long v_digested_133])), (a_this_states, .inl (cI, 66, .inl v_states_1)), (a_this_s, .inl (cI, 31, .inl v_s)), (a_this_text, .inl (cI, 60, .inl v_text)), (a_this_aside, .inl (cI, 31, .inl v_aside))] → va_S A s.heap H locs → ∀ ls : Array Slot, lv_has ls 3 [(0, .ref a_this), (1, .int x1_127)] → k165 v_digested_133 = some (r0, w_thrown, w_digested, w_states, w_many, w_s, w_aside) → W p l e rm_X6_digest s m (([.ref a_this] : List Value).toArray) below meth c H locs 0 0 Q (F0 m 165 ls [])) → ∀ (n : Nat) (x2_131 : Int32) (v_digested_132 : Int64) (H : Heap) (locs : List Loc), va_P D vwCl [(a_this, .inr (5, [.int 0, .ref a_this_s, .ref a_this_aside, .ref a_this_saved, .int v_savedMany, .ref a_this_text, .int v_length, .ref a_this_states, .int v_many_2, .int v_at, .int v_isWrong, .int v_letters, .int v_matched, .ref a_this_rows, .int v_manyRows, .long v_digested_132])), (a_this_states, .inl (cI, 66, .inl v_states_1)), (a_this_s, .inl (cI, 31, .inl v_s)), (a_this_text, .inl (cI, 60, .inl v_text)), (a_this_aside, .inl (cI, 31, .inl v_aside))] H → va_D A [(a_this, .inr (5, [.int 0, .ref a_this_s, .ref a_this_aside, .ref a_this_saved, .int v_savedMany, .ref a_this_text, .int v_length, .ref a_this_states, .int v_many_2, .int v_at, .int v_isWrong, .int v_letters, .int v_matched, .ref a_this_rows, .int v_manyRows, .long v_digested_132])), (a_this_states, .inl (cI, 66, .inl v_states_1)), (a_this_s, .inl (cI, 31, .inl v_s)), (a_this_text, .inl (cI, 60, .inl v_text)), (a_this_aside, .inl (cI, 31, .inl v_aside))] → va_S A s.heap H locs → ∀ ls : Array Slot, lv_has ls 3 [(0, .ref a_this), (1, .int x1_127), (2, .int x2_131)] → L_X6_digest_142 F k165 x1_127 v_states_1 v_s n x2_131 v_digested_132 = some (r0, w_thrown, w_digested, w_states, w_many, w_s, w_aside) → W p l e rm_X6_digest s m (([.ref a_this] : List Value).toArray) below meth c H locs 0 0 Q (F0 m 142 ls []) := by
          intro k165 hk165 n
          induction n with
          | zero => intro x2_131 v_digested_132 H locs hP hD hS ls hl hden; exact no_none hden
          | succ n ih =>
            intro x2_131 v_digested_132 H locs hP hD hS ls hl hden
            rw [L_X6_digest_142] at hden
            refine lv_iload_n hx hb dX6_digest_142 rfl (lv_at hl 2 rfl) ?_
            refine lv_bipush (v := 9) hx hb dX6_digest_143 (by decide) ?_
            refine lv_icmp_ge (tgt := 165) hx hb dX6_digest_145 (by decide) (fun c_140 => ?_) (fun c_140 => ?_)
            · have hden := if_s hden c_140
              exact hk165 v_digested_132 _ _ (mSubP hP [0, 1, 2, 3, 4] rfl) (hD.sub [0, 1, 2, 3, 4] (by decide) rfl) hS ls (lv_sub hl [0, 1] rfl) hden
            · have hden := ifn_s hden c_140
              refine lv_aload_n hx hb dX6_digest_148 rfl (lv_at hl 0 rfl) ?_
              refine lv_aload_n hx hb dX6_digest_149 rfl (lv_at hl 0 rfl) ?_
              refine lv_iload_n hx hb dX6_digest_150 rfl (lv_at hl 1 rfl) ?_
              refine lv_iload_n hx hb dX6_digest_151 rfl (lv_at hl 2 rfl) ?_
              obtain ⟨r_135, hc_136, hden⟩ := bnd_s hden
              refine m_ci (wc := [(a_this, .inr (5, [.int 0, .ref a_this_s, .ref a_this_aside, .ref a_this_saved, .int v_savedMany, .ref a_this_text, .int v_length, .ref a_this_states, .int v_many_2, .int v_at, .int v_isWrong, .int v_letters, .int v_matched, .ref a_this_rows, .int v_manyRows, .long v_digested_132])), (a_this_states, .inl (cI, 66, .inl v_states_1)), (a_this_s, .inl (cI, 31, .inl v_s))]) (wr := [(a_this_text, .inl (cI, 60, .inl v_text)), (a_this_aside, .inl (cI, 31, .inl v_aside))]) (wc' := [(a_this, .inr (5, [.int 0, .ref a_this_s, .ref a_this_aside, .ref a_this_saved, .int v_savedMany, .ref a_this_text, .int v_length, .ref a_this_states, .int v_many_2, .int v_at, .int v_isWrong, .int v_letters, .int v_matched, .ref a_this_rows, .int v_manyRows, .long v_digested_132])), (a_this_states, .inl (cI, 66, .inl v_states_1)), (a_this_s, .inl (cI, 31, .inl v_s))]) (va_runV (As := [.int x1_127, .int x2_131]) (rest := [.ref a_this]) ⟨hx, hb, hml, hown, hts⟩ (c_X6_stateOf l D cI cM cL F hc_136) (cwV 2 hts gX6_digest_X6_stateOf rfl rfl rfl (by decide +kernel) ⟨Nat.le_of_ble_eq_true rfl, Nat.le_of_ble_eq_true rfl⟩) (mPreV (ci := 5) (q0 := 0) (r := (RX6, TX6, 16)) hP hD hK hN [0, 1, 2] (by decide) rfl rfl rfl) rfl rfl hl.1 rfl (lv_room (Nat.le_of_ble_eq_true rfl)) dX6_digest_152 ⟨Nat.le_of_ble_eq_true rfl, Nat.le_of_ble_eq_true rfl⟩) hP hD hS hA [0, 1, 2] [3, 4] rfl rfl (by decide) (by decide) (fun H locs hP hD hS => ?_)
              have hP : va_P D vwCl [(a_this_text, .inl (cI, 60, .inl v_text)), (a_this_aside, .inl (cI, 31, .inl v_aside)), (a_this, .inr (5, [.int 0, .ref a_this_s, .ref a_this_aside, .ref a_this_saved, .int v_savedMany, .ref a_this_text, .int v_length, .ref a_this_states, .int v_many_2, .int v_at, .int v_isWrong, .int v_letters, .int v_matched, .ref a_this_rows, .int v_manyRows, .long v_digested_132])), (a_this_states, .inl (cI, 66, .inl v_states_1)), (a_this_s, .inl (cI, 31, .inl v_s))] H := hP
              have hD : va_D A [(a_this_text, .inl (cI, 60, .inl v_text)), (a_this_aside, .inl (cI, 31, .inl v_aside)), (a_this, .inr (5, [.int 0, .ref a_this_s, .ref a_this_aside, .ref a_this_saved, .int v_savedMany, .ref a_this_text, .int v_length, .ref a_this_states, .int v_many_2, .int v_at, .int v_isWrong, .int v_letters, .int v_matched, .ref a_this_rows, .int v_manyRows, .long v_digested_132])), (a_this_states, .inl (cI, 66, .inl v_states_1)), (a_this_s, .inl (cI, 31, .inl v_s))] := hD
              refine lv_i2l hx hb dX6_digest_155 rfl ?_
              obtain ⟨v_digested_137, hc_138, hden⟩ := bnd_s hden
              refine m_cv (wc := [(a_this, .inr (5, [.int 0, .ref a_this_s, .ref a_this_aside, .ref a_this_saved, .int v_savedMany, .ref a_this_text, .int v_length, .ref a_this_states, .int v_many_2, .int v_at, .int v_isWrong, .int v_letters, .int v_matched, .ref a_this_rows, .int v_manyRows, .long v_digested_132]))]) (wr := [(a_this_text, .inl (cI, 60, .inl v_text)), (a_this_aside, .inl (cI, 31, .inl v_aside)), (a_this_states, .inl (cI, 66, .inl v_states_1)), (a_this_s, .inl (cI, 31, .inl v_s))]) (wc' := [(a_this, .inr (5, [.int 0, .ref a_this_s, .ref a_this_aside, .ref a_this_saved, .int v_savedMany, .ref a_this_text, .int v_length, .ref a_this_states, .int v_many_2, .int v_at, .int v_isWrong, .int v_letters, .int v_matched, .ref a_this_rows, .int v_manyRows, .long v_digested_137]))]) (va_runV (As := [.long ((r_135 : Int32).toInt64)]) (rest := []) ⟨hx, hb, hml, hown, hts⟩ (c_X6_digestOne l D cI cM cL F hc_138) (cwV 1 hts gX6_digest_X6_digestOne rfl rfl rfl (by decide +kernel) ⟨Nat.le_of_ble_eq_true rfl, Nat.le_of_ble_eq_true rfl⟩) (mPreV (ci := 5) (q0 := 0) (r := (RX6, TX6, 16)) hP hD hK hN [2] (by decide) rfl rfl rfl) rfl rfl hl.1 rfl (lv_room (Nat.le_of_ble_eq_true rfl)) dX6_digest_156 ⟨Nat.le_of_ble_eq_true rfl, Nat.le_of_ble_eq_true rfl⟩) hP hD hS hA [2] [0, 1, 3, 4] rfl rfl (by decide) (by decide) (fun H locs hP hD hS => ?_)
              have hP : va_P D vwCl [(a_this_text, .inl (cI, 60, .inl v_text)), (a_this_aside, .inl (cI, 31, .inl v_aside)), (a_this_states, .inl (cI, 66, .inl v_states_1)), (a_this_s, .inl (cI, 31, .inl v_s)), (a_this, .inr (5, [.int 0, .ref a_this_s, .ref a_this_aside, .ref a_this_saved, .int v_savedMany, .ref a_this_text, .int v_length, .ref a_this_states, .int v_many_2, .int v_at, .int v_isWrong, .int v_letters, .int v_matched, .ref a_this_rows, .int v_manyRows, .long v_digested_137]))] H := hP
              have hD : va_D A [(a_this_text, .inl (cI, 60, .inl v_text)), (a_this_aside, .inl (cI, 31, .inl v_aside)), (a_this_states, .inl (cI, 66, .inl v_states_1)), (a_this_s, .inl (cI, 31, .inl v_s)), (a_this, .inr (5, [.int 0, .ref a_this_s, .ref a_this_aside, .ref a_this_saved, .int v_savedMany, .ref a_this_text, .int v_length, .ref a_this_states, .int v_many_2, .int v_at, .int v_isWrong, .int v_letters, .int v_matched, .ref a_this_rows, .int v_manyRows, .long v_digested_137]))] := hD
              obtain ⟨x2_139, ex2_139, hden⟩ := nm_x hden
              refine lv_iinc (v := x2_139) (lv' := [(2, .int x2_139), (0, .ref a_this), (1, .int x1_127)]) hx hb dX6_digest_159 hl (k := 2) rfl (by rw [ex2_139]; rfl) (by decide) rfl (fun ls hl => ?_)
              refine lv_goto (tgt := 142) hx hb dX6_digest_162 (by decide) ?_
              exact ih x2_139 v_digested_137 _ _ (mSubP hP [4, 2, 3, 0, 1] rfl) (hD.sub [4, 2, 3, 0, 1] (by decide) rfl) hS ls (lv_sub hl [1, 2, 0] rfl) hden
        refine hL142__134 _ (fun v_digested_133 H locs hP hD hS ls hl hden => ?_) F 0 v_digested_128 _ _ (mSubP hP [0, 1, 2, 3, 4] rfl) (hD.sub [0, 1, 2, 3, 4] (by decide) rfl) hS ls (lv_sub hl [1, 2, 0] rfl) hden
        obtain ⟨x1_141, ex1_141, hden⟩ := nm_x hden
        refine lv_iinc (v := x1_141) (lv' := [(1, .int x1_141), (0, .ref a_this)]) hx hb dX6_digest_165 hl (k := 1) rfl (by rw [ex1_141]; rfl) (by decide) rfl (fun ls hl => ?_)
        refine lv_goto (tgt := 132) hx hb dX6_digest_168 (by decide) ?_
        exact ih x1_141 v_digested_133 _ _ (mSubP hP [0, 1, 2, 3, 4] rfl) (hD.sub [0, 1, 2, 3, 4] (by decide) rfl) hS ls (lv_sub hl [1, 0] rfl) hden
  refine hL132__130 _ (fun v_digested_129 H locs hP hD hS ls hl hden => ?_) F 0 v_digested_75 _ _ (mSubP hP [0, 1, 2, 3, 4] rfl) (hD.sub [0, 1, 2, 3, 4] (by decide) rfl) hS ls (lv_sub hl [1, 0] rfl) hden
  refine lv_iconst (v := 0) hx hb dX6_digest_171 (by decide) ?_
  refine lv_istore_n (lv' := [(1, .int 0), (0, .ref a_this)]) hx hb dX6_digest_172 rfl hl (by decide) rfl (fun ls hl => ?_)
  have hL173__168 : ∀ (k208 : Int64 → Option (Int64 × Int32 × Int64 × (Nat → Int32) × Int32 × (Nat → Int32) × (Nat → Int32))), (∀ (v_digested_167 : Int64) (H : Heap) (locs : List Loc), va_P D vwCl [(a_this, .inr (5, [.int 0, .ref a_this_s, .ref a_this_aside, .ref a_this_saved, .int v_savedMany, .ref a_this_text, .int v_length, .ref a_this_states, .int v_many_2, .int v_at, .int v_isWrong, .int v_letters, .int v_matched, .ref a_this_rows, .int v_manyRows, .long v_digested_167])), (a_this_states, .inl (cI, 66, .inl v_states_1)), (a_this_s, .inl (cI, 31, .inl v_s)), (a_this_text, .inl (cI, 60, .inl v_text)), (a_this_aside, .inl (cI, 31, .inl v_aside))] H → va_D A [(a_this, .inr (5, [.int 0, .ref a_this_s, .ref a_this_aside, .ref a_this_saved, .int v_savedMany, .ref a_this_text, .int v_length, .ref a_this_states, .int v_many_2, .int v_at, .int v_isWrong, .int v_letters, .int v_matched, .ref a_this_rows, .int v_manyRows, .long v_digested_167])), (a_this_states, .inl (cI, 66, .inl v_states_1)), (a_this_s, .inl (cI, 31, .inl v_s)), (a_this_text, .inl (cI, 60, .inl v_text)), (a_this_aside, .inl (cI, 31, .inl v_aside))] → va_S A s.heap H locs → ∀ ls : Array Slot, lv_has ls 3 [(0, .ref a_this)] → k208 v_digested_167 = some (r0, w_thrown, w_digested, w_states, w_many, w_s, w_aside) → W p l e rm_X6_digest s m (([.ref a_this] : List Value).toArray) below meth c H locs 0 0 Q (F0 m 208 ls [])) → ∀ (n : Nat) (x1_165 : Int32) (v_digested_166 : Int64) (H : Heap) (locs : List Loc), va_P D vwCl [(a_this, .inr (5, [.int 0, .ref a_this_s, .ref a_this_aside, .ref a_this_saved, .int v_savedMany, .ref a_this_text, .int v_length, .ref a_this_states, .int v_many_2, .int v_at, .int v_isWrong, .int v_letters, .int v_matched, .ref a_this_rows, .int v_manyRows, .long v_digested_166])), (a_this_states, .inl (cI, 66, .inl v_states_1)), (a_this_s, .inl (cI, 31, .inl v_s)), (a_this_text, .inl (cI, 60, .inl v_text)), (a_this_aside, .inl (cI, 31, .inl v_aside))] H → va_D A [(a_this, .inr (5, [.int 0, .ref a_this_s, .ref a_this_aside, .ref a_this_saved, .int v_savedMany, .ref a_this_text, .int v_length, .ref a_this_states, .int v_many_2, .int v_at, .int v_isWrong, .int v_letters, .int v_matched, .ref a_this_rows, .int v_manyRows, .long v_digested_166])), (a_this_states, .inl (cI, 66, .inl v_states_1)), (a_this_s, .inl (cI, 31, .inl v_s)), (a_this_text, .inl (cI, 60, .inl v_text)), (a_this_aside, .inl (cI, 31, .inl v_aside))] → va_S A s.heap H locs → ∀ ls : Array Slot, lv_has ls 3 [(0, .ref a_this), (1, .int x1_165)] → L_X6_digest_173 F k208 v_states_1 v_s n x1_165 v_digested_166 = some (r0, w_thrown, w_digested, w_states, w_many, w_s, w_aside) → W p l e rm_X6_digest s m (([.ref a_this] : List Value).toArray) below meth c H locs 0 0 Q (F0 m 173 ls []) := by
    intro k208 hk208 n
    induction n with
    | zero => intro x1_165 v_digested_166 H locs hP hD hS ls hl hden; exact no_none hden
    | succ n ih =>
      intro x1_165 v_digested_166 H locs hP hD hS ls hl hden
      rw [L_X6_digest_173] at hden
      refine lv_iload_n hx hb dX6_digest_173 rfl (lv_at hl 1 rfl) ?_
      refine lv_iconst (v := 4) hx hb dX6_digest_174 (by decide) ?_
      refine lv_icmp_ge (tgt := 208) hx hb dX6_digest_175 (by decide) (fun c_180 => ?_) (fun c_180 => ?_)
      · have hden := if_s hden c_180
        exact hk208 v_digested_166 _ _ (mSubP hP [0, 1, 2, 3, 4] rfl) (hD.sub [0, 1, 2, 3, 4] (by decide) rfl) hS ls (lv_sub hl [0] rfl) hden
      · have hden := ifn_s hden c_180
        refine lv_iconst (v := 0) hx hb dX6_digest_178 (by decide) ?_
        refine lv_istore_n (lv' := [(2, .int 0), (0, .ref a_this), (1, .int x1_165)]) hx hb dX6_digest_179 rfl hl (by decide) rfl (fun ls hl => ?_)
        have hL180__172 : ∀ (k202 : Int64 → Option (Int64 × Int32 × Int64 × (Nat → Int32) × Int32 × (Nat → Int32) × (Nat → Int32))), (∀ (v_digested_171 : Int64) (H : Heap) (locs : List Loc), va_P D vwCl [(a_this, .inr (5, [.int 0, .ref a_this_s, .ref a_this_aside, .ref a_this_saved, .int v_savedMany, .ref a_this_text, .int v_length, .ref a_this_states, .int v_many_2, .int v_at, .int v_isWrong, .int v_letters, .int v_matched, .ref a_this_rows, .int v_manyRows, .long v_digested_171])), (a_this_states, .inl (cI, 66, .inl v_states_1)), (a_this_s, .inl (cI, 31, .inl v_s)), (a_this_text, .inl (cI, 60, .inl v_text)), (a_this_aside, .inl (cI, 31, .inl v_aside))] H → va_D A [(a_this, .inr (5, [.int 0, .ref a_this_s, .ref a_this_aside, .ref a_this_saved, .int v_savedMany, .ref a_this_text, .int v_length, .ref a_this_states, .int v_many_2, .int v_at, .int v_isWrong, .int v_letters, .int v_matched, .ref a_this_rows, .int v_manyRows, .long v_digested_171])), (a_this_states, .inl (cI, 66, .inl v_states_1)), (a_this_s, .inl (cI, 31, .inl v_s)), (a_this_text, .inl (cI, 60, .inl v_text)), (a_this_aside, .inl (cI, 31, .inl v_aside))] → va_S A s.heap H locs → ∀ ls : Array Slot, lv_has ls 3 [(0, .ref a_this), (1, .int x1_165)] → k202 v_digested_171 = some (r0, w_thrown, w_digested, w_states, w_many, w_s, w_aside) → W p l e rm_X6_digest s m (([.ref a_this] : List Value).toArray) below meth c H locs 0 0 Q (F0 m 202 ls [])) → ∀ (n : Nat) (x2_169 : Int32) (v_digested_170 : Int64) (H : Heap) (locs : List Loc), va_P D vwCl [(a_this, .inr (5, [.int 0, .ref a_this_s, .ref a_this_aside, .ref a_this_saved, .int v_savedMany, .ref a_this_text, .int v_length, .ref a_this_states, .int v_many_2, .int v_at, .int v_isWrong, .int v_letters, .int v_matched, .ref a_this_rows, .int v_manyRows, .long v_digested_170])), (a_this_states, .inl (cI, 66, .inl v_states_1)), (a_this_s, .inl (cI, 31, .inl v_s)), (a_this_text, .inl (cI, 60, .inl v_text)), (a_this_aside, .inl (cI, 31, .inl v_aside))] H → va_D A [(a_this, .inr (5, [.int 0, .ref a_this_s, .ref a_this_aside, .ref a_this_saved, .int v_savedMany, .ref a_this_text, .int v_length, .ref a_this_states, .int v_many_2, .int v_at, .int v_isWrong, .int v_letters, .int v_matched, .ref a_this_rows, .int v_manyRows, .long v_digested_170])), (a_this_states, .inl (cI, 66, .inl v_states_1)), (a_this_s, .inl (cI, 31, .inl v_s)), (a_this_text, .inl (cI, 60, .inl v_text)), (a_this_aside, .inl (cI, 31, .inl v_aside))] → va_S A s.heap H locs → ∀ ls : Array Slot, lv_has ls 3 [(0, .ref a_this), (1, .int x1_165), (2, .int x2_169)] → L_X6_digest_180 F k202 x1_165 v_states_1 v_s n x2_169 v_digested_170 = some (r0, w_thrown, w_digested, w_states, w_many, w_s, w_aside) → W p l e rm_X6_digest s m (([.ref a_this] : List Value).toArray) below meth c H locs 0 0 Q (F0 m 180 ls []) := by
          intro k202 hk202 n
          induction n with
          | zero => intro x2_169 v_digested_170 H locs hP hD hS ls hl hden; exact no_none hden
          | succ n ih =>
            intro x2_169 v_digested_170 H locs hP hD hS ls hl hden
            rw [L_X6_digest_180] at hden
            refine lv_iload_n hx hb dX6_digest_180 rfl (lv_at hl 2 rfl) ?_
            refine lv_iconst (v := 4) hx hb dX6_digest_181 (by decide) ?_
            refine lv_icmp_ge (tgt := 202) hx hb dX6_digest_182 (by decide) (fun c_178 => ?_) (fun c_178 => ?_)
            · have hden := if_s hden c_178
              exact hk202 v_digested_170 _ _ (mSubP hP [0, 1, 2, 3, 4] rfl) (hD.sub [0, 1, 2, 3, 4] (by decide) rfl) hS ls (lv_sub hl [0, 1] rfl) hden
            · have hden := ifn_s hden c_178
              refine lv_aload_n hx hb dX6_digest_185 rfl (lv_at hl 0 rfl) ?_
              refine lv_aload_n hx hb dX6_digest_186 rfl (lv_at hl 0 rfl) ?_
              refine lv_iload_n hx hb dX6_digest_187 rfl (lv_at hl 1 rfl) ?_
              refine lv_iload_n hx hb dX6_digest_188 rfl (lv_at hl 2 rfl) ?_
              obtain ⟨r_173, hc_174, hden⟩ := bnd_s hden
              refine m_ci (wc := [(a_this, .inr (5, [.int 0, .ref a_this_s, .ref a_this_aside, .ref a_this_saved, .int v_savedMany, .ref a_this_text, .int v_length, .ref a_this_states, .int v_many_2, .int v_at, .int v_isWrong, .int v_letters, .int v_matched, .ref a_this_rows, .int v_manyRows, .long v_digested_170])), (a_this_s, .inl (cI, 31, .inl v_s)), (a_this_states, .inl (cI, 66, .inl v_states_1))]) (wr := [(a_this_text, .inl (cI, 60, .inl v_text)), (a_this_aside, .inl (cI, 31, .inl v_aside))]) (wc' := [(a_this, .inr (5, [.int 0, .ref a_this_s, .ref a_this_aside, .ref a_this_saved, .int v_savedMany, .ref a_this_text, .int v_length, .ref a_this_states, .int v_many_2, .int v_at, .int v_isWrong, .int v_letters, .int v_matched, .ref a_this_rows, .int v_manyRows, .long v_digested_170])), (a_this_s, .inl (cI, 31, .inl v_s)), (a_this_states, .inl (cI, 66, .inl v_states_1))]) (va_runV (As := [.int x1_165, .int x2_169]) (rest := [.ref a_this]) ⟨hx, hb, hml, hown, hts⟩ (c_X6_fed l D cI cM cL F hc_174) (cwV 2 hts gX6_digest_X6_fed rfl rfl rfl (by decide +kernel) ⟨Nat.le_of_ble_eq_true rfl, Nat.le_of_ble_eq_true rfl⟩) (mPreV (ci := 5) (q0 := 0) (r := (RX6, TX6, 16)) hP hD hK hN [0, 2, 1] (by decide) rfl rfl rfl) rfl rfl hl.1 rfl (lv_room (Nat.le_of_ble_eq_true rfl)) dX6_digest_189 ⟨Nat.le_of_ble_eq_true rfl, Nat.le_of_ble_eq_true rfl⟩) hP hD hS hA [0, 2, 1] [3, 4] rfl rfl (by decide) (by decide) (fun H locs hP hD hS => ?_)
              have hP : va_P D vwCl [(a_this_text, .inl (cI, 60, .inl v_text)), (a_this_aside, .inl (cI, 31, .inl v_aside)), (a_this, .inr (5, [.int 0, .ref a_this_s, .ref a_this_aside, .ref a_this_saved, .int v_savedMany, .ref a_this_text, .int v_length, .ref a_this_states, .int v_many_2, .int v_at, .int v_isWrong, .int v_letters, .int v_matched, .ref a_this_rows, .int v_manyRows, .long v_digested_170])), (a_this_s, .inl (cI, 31, .inl v_s)), (a_this_states, .inl (cI, 66, .inl v_states_1))] H := hP
              have hD : va_D A [(a_this_text, .inl (cI, 60, .inl v_text)), (a_this_aside, .inl (cI, 31, .inl v_aside)), (a_this, .inr (5, [.int 0, .ref a_this_s, .ref a_this_aside, .ref a_this_saved, .int v_savedMany, .ref a_this_text, .int v_length, .ref a_this_states, .int v_many_2, .int v_at, .int v_isWrong, .int v_letters, .int v_matched, .ref a_this_rows, .int v_manyRows, .long v_digested_170])), (a_this_s, .inl (cI, 31, .inl v_s)), (a_this_states, .inl (cI, 66, .inl v_states_1))] := hD
              refine lv_i2l hx hb dX6_digest_192 rfl ?_
              obtain ⟨v_digested_175, hc_176, hden⟩ := bnd_s hden
              refine m_cv (wc := [(a_this, .inr (5, [.int 0, .ref a_this_s, .ref a_this_aside, .ref a_this_saved, .int v_savedMany, .ref a_this_text, .int v_length, .ref a_this_states, .int v_many_2, .int v_at, .int v_isWrong, .int v_letters, .int v_matched, .ref a_this_rows, .int v_manyRows, .long v_digested_170]))]) (wr := [(a_this_text, .inl (cI, 60, .inl v_text)), (a_this_aside, .inl (cI, 31, .inl v_aside)), (a_this_s, .inl (cI, 31, .inl v_s)), (a_this_states, .inl (cI, 66, .inl v_states_1))]) (wc' := [(a_this, .inr (5, [.int 0, .ref a_this_s, .ref a_this_aside, .ref a_this_saved, .int v_savedMany, .ref a_this_text, .int v_length, .ref a_this_states, .int v_many_2, .int v_at, .int v_isWrong, .int v_letters, .int v_matched, .ref a_this_rows, .int v_manyRows, .long v_digested_175]))]) (va_runV (As := [.long ((r_173 : Int32).toInt64)]) (rest := []) ⟨hx, hb, hml, hown, hts⟩ (c_X6_digestOne l D cI cM cL F hc_176) (cwV 1 hts gX6_digest_X6_digestOne rfl rfl rfl (by decide +kernel) ⟨Nat.le_of_ble_eq_true rfl, Nat.le_of_ble_eq_true rfl⟩) (mPreV (ci := 5) (q0 := 0) (r := (RX6, TX6, 16)) hP hD hK hN [2] (by decide) rfl rfl rfl) rfl rfl hl.1 rfl (lv_room (Nat.le_of_ble_eq_true rfl)) dX6_digest_193 ⟨Nat.le_of_ble_eq_true rfl, Nat.le_of_ble_eq_true rfl⟩) hP hD hS hA [2] [0, 1, 3, 4] rfl rfl (by decide) (by decide) (fun H locs hP hD hS => ?_)
              have hP : va_P D vwCl [(a_this_text, .inl (cI, 60, .inl v_text)), (a_this_aside, .inl (cI, 31, .inl v_aside)), (a_this_s, .inl (cI, 31, .inl v_s)), (a_this_states, .inl (cI, 66, .inl v_states_1)), (a_this, .inr (5, [.int 0, .ref a_this_s, .ref a_this_aside, .ref a_this_saved, .int v_savedMany, .ref a_this_text, .int v_length, .ref a_this_states, .int v_many_2, .int v_at, .int v_isWrong, .int v_letters, .int v_matched, .ref a_this_rows, .int v_manyRows, .long v_digested_175]))] H := hP
              have hD : va_D A [(a_this_text, .inl (cI, 60, .inl v_text)), (a_this_aside, .inl (cI, 31, .inl v_aside)), (a_this_s, .inl (cI, 31, .inl v_s)), (a_this_states, .inl (cI, 66, .inl v_states_1)), (a_this, .inr (5, [.int 0, .ref a_this_s, .ref a_this_aside, .ref a_this_saved, .int v_savedMany, .ref a_this_text, .int v_length, .ref a_this_states, .int v_many_2, .int v_at, .int v_isWrong, .int v_letters, .int v_matched, .ref a_this_rows, .int v_manyRows, .long v_digested_175]))] := hD
              obtain ⟨x2_177, ex2_177, hden⟩ := nm_x hden
              refine lv_iinc (v := x2_177) (lv' := [(2, .int x2_177), (0, .ref a_this), (1, .int x1_165)]) hx hb dX6_digest_196 hl (k := 2) rfl (by rw [ex2_177]; rfl) (by decide) rfl (fun ls hl => ?_)
              refine lv_goto (tgt := 180) hx hb dX6_digest_199 (by decide) ?_
              exact ih x2_177 v_digested_175 _ _ (mSubP hP [4, 3, 2, 0, 1] rfl) (hD.sub [4, 3, 2, 0, 1] (by decide) rfl) hS ls (lv_sub hl [1, 2, 0] rfl) hden
        refine hL180__172 _ (fun v_digested_171 H locs hP hD hS ls hl hden => ?_) F 0 v_digested_166 _ _ (mSubP hP [0, 1, 2, 3, 4] rfl) (hD.sub [0, 1, 2, 3, 4] (by decide) rfl) hS ls (lv_sub hl [1, 2, 0] rfl) hden
        obtain ⟨x1_179, ex1_179, hden⟩ := nm_x hden
        refine lv_iinc (v := x1_179) (lv' := [(1, .int x1_179), (0, .ref a_this)]) hx hb dX6_digest_202 hl (k := 1) rfl (by rw [ex1_179]; rfl) (by decide) rfl (fun ls hl => ?_)
        refine lv_goto (tgt := 173) hx hb dX6_digest_205 (by decide) ?_
        exact ih x1_179 v_digested_171 _ _ (mSubP hP [0, 1, 2, 3, 4] rfl) (hD.sub [0, 1, 2, 3, 4] (by decide) rfl) hS ls (lv_sub hl [1, 0] rfl) hden
  refine hL173__168 _ (fun v_digested_167 H locs hP hD hS ls hl hden => ?_) F 0 v_digested_129 _ _ (mSubP hP [0, 1, 2, 3, 4] rfl) (hD.sub [0, 1, 2, 3, 4] (by decide) rfl) hS ls (lv_sub hl [1, 0] rfl) hden
  refine lv_iconst (v := 0) hx hb dX6_digest_208 (by decide) ?_
  refine lv_istore_n (lv' := [(1, .int 0), (0, .ref a_this)]) hx hb dX6_digest_209 rfl hl (by decide) rfl (fun ls hl => ?_)
  have hL210__200 : ∀ (k233 : Int64 → (Nat → Int32) → (Nat → Int32) → Option (Int64 × Int32 × Int64 × (Nat → Int32) × Int32 × (Nat → Int32) × (Nat → Int32))), (∀ (v_digested_197 : Int64) (v_s_198 : (Nat → Int32)) (v_aside_199 : (Nat → Int32)) (H : Heap) (locs : List Loc), va_P D vwCl [(a_this, .inr (5, [.int 0, .ref a_this_s, .ref a_this_aside, .ref a_this_saved, .int v_savedMany, .ref a_this_text, .int v_length, .ref a_this_states, .int v_many_2, .int v_at, .int v_isWrong, .int v_letters, .int v_matched, .ref a_this_rows, .int v_manyRows, .long v_digested_197])), (a_this_states, .inl (cI, 66, .inl v_states_1)), (a_this_s, .inl (cI, 31, .inl v_s_198)), (a_this_text, .inl (cI, 60, .inl v_text)), (a_this_aside, .inl (cI, 31, .inl v_aside_199))] H → va_D A [(a_this, .inr (5, [.int 0, .ref a_this_s, .ref a_this_aside, .ref a_this_saved, .int v_savedMany, .ref a_this_text, .int v_length, .ref a_this_states, .int v_many_2, .int v_at, .int v_isWrong, .int v_letters, .int v_matched, .ref a_this_rows, .int v_manyRows, .long v_digested_197])), (a_this_states, .inl (cI, 66, .inl v_states_1)), (a_this_s, .inl (cI, 31, .inl v_s_198)), (a_this_text, .inl (cI, 60, .inl v_text)), (a_this_aside, .inl (cI, 31, .inl v_aside_199))] → va_S A s.heap H locs → ∀ ls : Array Slot, lv_has ls 3 [(0, .ref a_this)] → k233 v_digested_197 v_s_198 v_aside_199 = some (r0, w_thrown, w_digested, w_states, w_many, w_s, w_aside) → W p l e rm_X6_digest s m (([.ref a_this] : List Value).toArray) below meth c H locs 0 0 Q (F0 m 233 ls [])) → ∀ (n : Nat) (x1_193 : Int32) (v_digested_194 : Int64) (v_s_195 : (Nat → Int32)) (v_aside_196 : (Nat → Int32)) (H : Heap) (locs : List Loc), va_P D vwCl [(a_this, .inr (5, [.int 0, .ref a_this_s, .ref a_this_aside, .ref a_this_saved, .int v_savedMany, .ref a_this_text, .int v_length, .ref a_this_states, .int v_many_2, .int v_at, .int v_isWrong, .int v_letters, .int v_matched, .ref a_this_rows, .int v_manyRows, .long v_digested_194])), (a_this_states, .inl (cI, 66, .inl v_states_1)), (a_this_s, .inl (cI, 31, .inl v_s_195)), (a_this_text, .inl (cI, 60, .inl v_text)), (a_this_aside, .inl (cI, 31, .inl v_aside_196))] H → va_D A [(a_this, .inr (5, [.int 0, .ref a_this_s, .ref a_this_aside, .ref a_this_saved, .int v_savedMany, .ref a_this_text, .int v_length, .ref a_this_states, .int v_many_2, .int v_at, .int v_isWrong, .int v_letters, .int v_matched, .ref a_this_rows, .int v_manyRows, .long v_digested_194])), (a_this_states, .inl (cI, 66, .inl v_states_1)), (a_this_s, .inl (cI, 31, .inl v_s_195)), (a_this_text, .inl (cI, 60, .inl v_text)), (a_this_aside, .inl (cI, 31, .inl v_aside_196))] → va_S A s.heap H locs → ∀ ls : Array Slot, lv_has ls 3 [(0, .ref a_this), (1, .int x1_193)] → L_X6_digest_210 F k233 n x1_193 v_digested_194 v_s_195 v_aside_196 = some (r0, w_thrown, w_digested, w_states, w_many, w_s, w_aside) → W p l e rm_X6_digest s m (([.ref a_this] : List Value).toArray) below meth c H locs 0 0 Q (F0 m 210 ls []) := by
    intro k233 hk233 n
    induction n with
    | zero => intro x1_193 v_digested_194 v_s_195 v_aside_196 H locs hP hD hS ls hl hden; exact no_none hden
    | succ n ih =>
      intro x1_193 v_digested_194 v_s_195 v_aside_196 H locs hP hD hS ls hl hden
      rw [L_X6_digest_210] at hden
      refine lv_iload_n hx hb dX6_digest_210 rfl (lv_at hl 1 rfl) ?_
      refine lv_iconst (v := 4) hx hb dX6_digest_211 (by decide) ?_
      refine lv_icmp_ge (tgt := 233) hx hb dX6_digest_212 (by decide) (fun c_208 => ?_) (fun c_208 => ?_)
      · have hden := if_s hden c_208
        exact hk233 v_digested_194 v_s_195 v_aside_196 _ _ (mSubP hP [0, 1, 2, 3, 4] rfl) (hD.sub [0, 1, 2, 3, 4] (by decide) rfl) hS ls (lv_sub hl [0] rfl) hden
      · have hden := ifn_s hden c_208
        refine lv_aload_n hx hb dX6_digest_215 rfl (lv_at hl 0 rfl) ?_
        refine lv_aload_n hx hb dX6_digest_216 rfl (lv_at hl 0 rfl) ?_
        refine lv_iload_n hx hb dX6_digest_217 rfl (lv_at hl 1 rfl) ?_
        refine lv_bipush (v := 9) hx hb dX6_digest_218 (by decide) ?_
        obtain ⟨⟨r_201, v_aside_202, v_s_203⟩, hc_204, hden⟩ := bnd_s hden
        refine m_ci (wc := [(a_this, .inr (5, [.int 0, .ref a_this_s, .ref a_this_aside, .ref a_this_saved, .int v_savedMany, .ref a_this_text, .int v_length, .ref a_this_states, .int v_many_2, .int v_at, .int v_isWrong, .int v_letters, .int v_matched, .ref a_this_rows, .int v_manyRows, .long v_digested_194])), (a_this_s, .inl (cI, 31, .inl v_s_195)), (a_this_aside, .inl (cI, 31, .inl v_aside_196))]) (wr := [(a_this_states, .inl (cI, 66, .inl v_states_1)), (a_this_text, .inl (cI, 60, .inl v_text))]) (wc' := [(a_this, .inr (5, [.int 0, .ref a_this_s, .ref a_this_aside, .ref a_this_saved, .int v_savedMany, .ref a_this_text, .int v_length, .ref a_this_states, .int v_many_2, .int v_at, .int v_isWrong, .int v_letters, .int v_matched, .ref a_this_rows, .int v_manyRows, .long v_digested_194])), (a_this_s, .inl (cI, 31, .inl v_s_203)), (a_this_aside, .inl (cI, 31, .inl v_aside_202))]) (va_runV (As := [.int x1_193, .int 9]) (rest := [.ref a_this]) ⟨hx, hb, hml, hown, hts⟩ (c_X6_repeated l D cI cM cL F hc_204) (cwV 2 hts gX6_digest_X6_repeated rfl rfl rfl (by decide +kernel) ⟨Nat.le_of_ble_eq_true rfl, Nat.le_of_ble_eq_true rfl⟩) (mPreV (ci := 5) (q0 := 0) (r := (RX6, TX6, 16)) hP hD hK hN [0, 2, 4] (by decide) rfl rfl rfl) rfl rfl hl.1 rfl (lv_room (Nat.le_of_ble_eq_true rfl)) dX6_digest_220 ⟨Nat.le_of_ble_eq_true rfl, Nat.le_of_ble_eq_true rfl⟩) hP hD hS hA [0, 2, 4] [1, 3] rfl rfl (by decide) (by decide) (fun H locs hP hD hS => ?_)
        have hP : va_P D vwCl [(a_this_states, .inl (cI, 66, .inl v_states_1)), (a_this_text, .inl (cI, 60, .inl v_text)), (a_this, .inr (5, [.int 0, .ref a_this_s, .ref a_this_aside, .ref a_this_saved, .int v_savedMany, .ref a_this_text, .int v_length, .ref a_this_states, .int v_many_2, .int v_at, .int v_isWrong, .int v_letters, .int v_matched, .ref a_this_rows, .int v_manyRows, .long v_digested_194])), (a_this_s, .inl (cI, 31, .inl v_s_203)), (a_this_aside, .inl (cI, 31, .inl v_aside_202))] H := hP
        have hD : va_D A [(a_this_states, .inl (cI, 66, .inl v_states_1)), (a_this_text, .inl (cI, 60, .inl v_text)), (a_this, .inr (5, [.int 0, .ref a_this_s, .ref a_this_aside, .ref a_this_saved, .int v_savedMany, .ref a_this_text, .int v_length, .ref a_this_states, .int v_many_2, .int v_at, .int v_isWrong, .int v_letters, .int v_matched, .ref a_this_rows, .int v_manyRows, .long v_digested_194])), (a_this_s, .inl (cI, 31, .inl v_s_203)), (a_this_aside, .inl (cI, 31, .inl v_aside_202))] := hD
        refine lv_i2l hx hb dX6_digest_223 rfl ?_
        obtain ⟨v_digested_205, hc_206, hden⟩ := bnd_s hden
        refine m_cv (wc := [(a_this, .inr (5, [.int 0, .ref a_this_s, .ref a_this_aside, .ref a_this_saved, .int v_savedMany, .ref a_this_text, .int v_length, .ref a_this_states, .int v_many_2, .int v_at, .int v_isWrong, .int v_letters, .int v_matched, .ref a_this_rows, .int v_manyRows, .long v_digested_194]))]) (wr := [(a_this_states, .inl (cI, 66, .inl v_states_1)), (a_this_text, .inl (cI, 60, .inl v_text)), (a_this_s, .inl (cI, 31, .inl v_s_203)), (a_this_aside, .inl (cI, 31, .inl v_aside_202))]) (wc' := [(a_this, .inr (5, [.int 0, .ref a_this_s, .ref a_this_aside, .ref a_this_saved, .int v_savedMany, .ref a_this_text, .int v_length, .ref a_this_states, .int v_many_2, .int v_at, .int v_isWrong, .int v_letters, .int v_matched, .ref a_this_rows, .int v_manyRows, .long v_digested_205]))]) (va_runV (As := [.long ((r_201 : Int32).toInt64)]) (rest := []) ⟨hx, hb, hml, hown, hts⟩ (c_X6_digestOne l D cI cM cL F hc_206) (cwV 1 hts gX6_digest_X6_digestOne rfl rfl rfl (by decide +kernel) ⟨Nat.le_of_ble_eq_true rfl, Nat.le_of_ble_eq_true rfl⟩) (mPreV (ci := 5) (q0 := 0) (r := (RX6, TX6, 16)) hP hD hK hN [2] (by decide) rfl rfl rfl) rfl rfl hl.1 rfl (lv_room (Nat.le_of_ble_eq_true rfl)) dX6_digest_224 ⟨Nat.le_of_ble_eq_true rfl, Nat.le_of_ble_eq_true rfl⟩) hP hD hS hA [2] [0, 1, 3, 4] rfl rfl (by decide) (by decide) (fun H locs hP hD hS => ?_)
        have hP : va_P D vwCl [(a_this_states, .inl (cI, 66, .inl v_states_1)), (a_this_text, .inl (cI, 60, .inl v_text)), (a_this_s, .inl (cI, 31, .inl v_s_203)), (a_this_aside, .inl (cI, 31, .inl v_aside_202)), (a_this, .inr (5, [.int 0, .ref a_this_s, .ref a_this_aside, .ref a_this_saved, .int v_savedMany, .ref a_this_text, .int v_length, .ref a_this_states, .int v_many_2, .int v_at, .int v_isWrong, .int v_letters, .int v_matched, .ref a_this_rows, .int v_manyRows, .long v_digested_205]))] H := hP
        have hD : va_D A [(a_this_states, .inl (cI, 66, .inl v_states_1)), (a_this_text, .inl (cI, 60, .inl v_text)), (a_this_s, .inl (cI, 31, .inl v_s_203)), (a_this_aside, .inl (cI, 31, .inl v_aside_202)), (a_this, .inr (5, [.int 0, .ref a_this_s, .ref a_this_aside, .ref a_this_saved, .int v_savedMany, .ref a_this_text, .int v_length, .ref a_this_states, .int v_many_2, .int v_at, .int v_isWrong, .int v_letters, .int v_matched, .ref a_this_rows, .int v_manyRows, .long v_digested_205]))] := hD
        obtain ⟨x1_207, ex1_207, hden⟩ := nm_x hden
        refine lv_iinc (v := x1_207) (lv' := [(1, .int x1_207), (0, .ref a_this)]) hx hb dX6_digest_227 hl (k := 1) rfl (by rw [ex1_207]; rfl) (by decide) rfl (fun ls hl => ?_)
        refine lv_goto (tgt := 210) hx hb dX6_digest_230 (by decide) ?_
        exact ih x1_207 v_digested_205 v_s_203 v_aside_202 _ _ (mSubP hP [4, 0, 2, 1, 3] rfl) (hD.sub [4, 0, 2, 1, 3] (by decide) rfl) hS ls (lv_sub hl [1, 0] rfl) hden
  refine hL210__200 _ (fun v_digested_197 v_s_198 v_aside_199 H locs hP hD hS ls hl hden => ?_) F 0 v_digested_167 v_s v_aside _ _ (mSubP hP [0, 1, 2, 3, 4] rfl) (hD.sub [0, 1, 2, 3, 4] (by decide) rfl) hS ls (lv_sub hl [1, 0] rfl) hden
  refine lv_aload_n hx hb dX6_digest_233 rfl (lv_at hl 0 rfl) ?_
  refine lv_aload_n hx hb dX6_digest_234 rfl (lv_at hl 0 rfl) ?_
  obtain ⟨⟨r_209, v_states_210, v_many_211, v_s_212⟩, hc_213, hden⟩ := bnd_s hden
  refine m_ci (wc := [(a_this, .inr (5, [.int 0, .ref a_this_s, .ref a_this_aside, .ref a_this_saved, .int v_savedMany, .ref a_this_text, .int v_length, .ref a_this_states, .int v_many_2, .int v_at, .int v_isWrong, .int v_letters, .int v_matched, .ref a_this_rows, .int v_manyRows, .long v_digested_197])), (a_this_states, .inl (cI, 66, .inl v_states_1)), (a_this_s, .inl (cI, 31, .inl v_s_198))]) (wr := [(a_this_text, .inl (cI, 60, .inl v_text)), (a_this_aside, .inl (cI, 31, .inl v_aside_199))]) (wc' := [(a_this, .inr (5, [.int 0, .ref a_this_s, .ref a_this_aside, .ref a_this_saved, .int v_savedMany, .ref a_this_text, .int v_length, .ref a_this_states, .int v_many_211, .int v_at, .int v_isWrong, .int v_letters, .int v_matched, .ref a_this_rows, .int v_manyRows, .long v_digested_197])), (a_this_states, .inl (cI, 66, .inl v_states_210)), (a_this_s, .inl (cI, 31, .inl v_s_212))]) (va_runV (As := []) (rest := [.ref a_this]) ⟨hx, hb, hml, hown, hts⟩ (c_X6_heaviestOf l D cI cM cL F hc_213) (cwV 0 hts gX6_digest_X6_heaviestOf rfl rfl rfl (by decide +kernel) ⟨Nat.le_of_ble_eq_true rfl, Nat.le_of_ble_eq_true rfl⟩) (mPreV (ci := 5) (q0 := 0) (r := (RX6, TX6, 16)) hP hD hK hN [0, 1, 2] (by decide) rfl rfl rfl) rfl rfl hl.1 rfl (lv_room (Nat.le_of_ble_eq_true rfl)) dX6_digest_235 ⟨Nat.le_of_ble_eq_true rfl, Nat.le_of_ble_eq_true rfl⟩) hP hD hS hA [0, 1, 2] [3, 4] rfl rfl (by decide) (by decide) (fun H locs hP hD hS => ?_)
  have hP : va_P D vwCl [(a_this_text, .inl (cI, 60, .inl v_text)), (a_this_aside, .inl (cI, 31, .inl v_aside_199)), (a_this, .inr (5, [.int 0, .ref a_this_s, .ref a_this_aside, .ref a_this_saved, .int v_savedMany, .ref a_this_text, .int v_length, .ref a_this_states, .int v_many_211, .int v_at, .int v_isWrong, .int v_letters, .int v_matched, .ref a_this_rows, .int v_manyRows, .long v_digested_197])), (a_this_states, .inl (cI, 66, .inl v_states_210)), (a_this_s, .inl (cI, 31, .inl v_s_212))] H := hP
  have hD : va_D A [(a_this_text, .inl (cI, 60, .inl v_text)), (a_this_aside, .inl (cI, 31, .inl v_aside_199)), (a_this, .inr (5, [.int 0, .ref a_this_s, .ref a_this_aside, .ref a_this_saved, .int v_savedMany, .ref a_this_text, .int v_length, .ref a_this_states, .int v_many_211, .int v_at, .int v_isWrong, .int v_letters, .int v_matched, .ref a_this_rows, .int v_manyRows, .long v_digested_197])), (a_this_states, .inl (cI, 66, .inl v_states_210)), (a_this_s, .inl (cI, 31, .inl v_s_212))] := hD
  refine lv_i2l hx hb dX6_digest_238 rfl ?_
  obtain ⟨v_digested_214, hc_215, hden⟩ := bnd_s hden
  refine m_cv (wc := [(a_this, .inr (5, [.int 0, .ref a_this_s, .ref a_this_aside, .ref a_this_saved, .int v_savedMany, .ref a_this_text, .int v_length, .ref a_this_states, .int v_many_211, .int v_at, .int v_isWrong, .int v_letters, .int v_matched, .ref a_this_rows, .int v_manyRows, .long v_digested_197]))]) (wr := [(a_this_text, .inl (cI, 60, .inl v_text)), (a_this_aside, .inl (cI, 31, .inl v_aside_199)), (a_this_states, .inl (cI, 66, .inl v_states_210)), (a_this_s, .inl (cI, 31, .inl v_s_212))]) (wc' := [(a_this, .inr (5, [.int 0, .ref a_this_s, .ref a_this_aside, .ref a_this_saved, .int v_savedMany, .ref a_this_text, .int v_length, .ref a_this_states, .int v_many_211, .int v_at, .int v_isWrong, .int v_letters, .int v_matched, .ref a_this_rows, .int v_manyRows, .long v_digested_214]))]) (va_runV (As := [.long ((r_209 : Int32).toInt64)]) (rest := []) ⟨hx, hb, hml, hown, hts⟩ (c_X6_digestOne l D cI cM cL F hc_215) (cwV 1 hts gX6_digest_X6_digestOne rfl rfl rfl (by decide +kernel) ⟨Nat.le_of_ble_eq_true rfl, Nat.le_of_ble_eq_true rfl⟩) (mPreV (ci := 5) (q0 := 0) (r := (RX6, TX6, 16)) hP hD hK hN [2] (by decide) rfl rfl rfl) rfl rfl hl.1 rfl (lv_room (Nat.le_of_ble_eq_true rfl)) dX6_digest_239 ⟨Nat.le_of_ble_eq_true rfl, Nat.le_of_ble_eq_true rfl⟩) hP hD hS hA [2] [0, 1, 3, 4] rfl rfl (by decide) (by decide) (fun H locs hP hD hS => ?_)
  have hP : va_P D vwCl [(a_this_text, .inl (cI, 60, .inl v_text)), (a_this_aside, .inl (cI, 31, .inl v_aside_199)), (a_this_states, .inl (cI, 66, .inl v_states_210)), (a_this_s, .inl (cI, 31, .inl v_s_212)), (a_this, .inr (5, [.int 0, .ref a_this_s, .ref a_this_aside, .ref a_this_saved, .int v_savedMany, .ref a_this_text, .int v_length, .ref a_this_states, .int v_many_211, .int v_at, .int v_isWrong, .int v_letters, .int v_matched, .ref a_this_rows, .int v_manyRows, .long v_digested_214]))] H := hP
  have hD : va_D A [(a_this_text, .inl (cI, 60, .inl v_text)), (a_this_aside, .inl (cI, 31, .inl v_aside_199)), (a_this_states, .inl (cI, 66, .inl v_states_210)), (a_this_s, .inl (cI, 31, .inl v_s_212)), (a_this, .inr (5, [.int 0, .ref a_this_s, .ref a_this_aside, .ref a_this_saved, .int v_savedMany, .ref a_this_text, .int v_length, .ref a_this_states, .int v_many_211, .int v_at, .int v_isWrong, .int v_letters, .int v_matched, .ref a_this_rows, .int v_manyRows, .long v_digested_214]))] := hD
  refine lv_aload_n hx hb dX6_digest_242 rfl (lv_at hl 0 rfl) ?_
  refine lv_aload_n hx hb dX6_digest_243 rfl (lv_at hl 0 rfl) ?_
  obtain ⟨⟨r_216, v_states_217, v_many_218⟩, hc_219, hden⟩ := bnd_s hden
  refine m_cd (wc := [(a_this, .inr (5, [.int 0, .ref a_this_s, .ref a_this_aside, .ref a_this_saved, .int v_savedMany, .ref a_this_text, .int v_length, .ref a_this_states, .int v_many_211, .int v_at, .int v_isWrong, .int v_letters, .int v_matched, .ref a_this_rows, .int v_manyRows, .long v_digested_214])), (a_this_s, .inl (cI, 31, .inl v_s_212)), (a_this_states, .inl (cI, 66, .inl v_states_210))]) (wr := [(a_this_text, .inl (cI, 60, .inl v_text)), (a_this_aside, .inl (cI, 31, .inl v_aside_199))]) (wc' := [(a_this, .inr (5, [.int 0, .ref a_this_s, .ref a_this_aside, .ref a_this_saved, .int v_savedMany, .ref a_this_text, .int v_length, .ref a_this_states, .int v_many_218, .int v_at, .int v_isWrong, .int v_letters, .int v_matched, .ref a_this_rows, .int v_manyRows, .long v_digested_214])), (a_this_s, .inl (cI, 31, .inl v_s_212)), (a_this_states, .inl (cI, 66, .inl v_states_217))]) (va_runV (As := []) (rest := [.ref a_this]) ⟨hx, hb, hml, hown, hts⟩ (c_X6_share l D cI cM cL F hc_219) (cwV 0 hts gX6_digest_X6_share rfl rfl rfl (by decide +kernel) ⟨Nat.le_of_ble_eq_true rfl, Nat.le_of_ble_eq_true rfl⟩) (mPreV (ci := 5) (q0 := 0) (r := (RX6, TX6, 16)) hP hD hK hN [4, 3, 2] (by decide) rfl rfl rfl) rfl rfl hl.1 rfl (lv_room (Nat.le_of_ble_eq_true rfl)) dX6_digest_244 ⟨Nat.le_of_ble_eq_true rfl, Nat.le_of_ble_eq_true rfl⟩) hP hD hS hA [4, 3, 2] [0, 1] rfl rfl (by decide) (by decide) (fun H locs hP hD hS => ?_)
  have hP : va_P D vwCl [(a_this_text, .inl (cI, 60, .inl v_text)), (a_this_aside, .inl (cI, 31, .inl v_aside_199)), (a_this, .inr (5, [.int 0, .ref a_this_s, .ref a_this_aside, .ref a_this_saved, .int v_savedMany, .ref a_this_text, .int v_length, .ref a_this_states, .int v_many_218, .int v_at, .int v_isWrong, .int v_letters, .int v_matched, .ref a_this_rows, .int v_manyRows, .long v_digested_214])), (a_this_s, .inl (cI, 31, .inl v_s_212)), (a_this_states, .inl (cI, 66, .inl v_states_217))] H := hP
  have hD : va_D A [(a_this_text, .inl (cI, 60, .inl v_text)), (a_this_aside, .inl (cI, 31, .inl v_aside_199)), (a_this, .inr (5, [.int 0, .ref a_this_s, .ref a_this_aside, .ref a_this_saved, .int v_savedMany, .ref a_this_text, .int v_length, .ref a_this_states, .int v_many_218, .int v_at, .int v_isWrong, .int v_letters, .int v_matched, .ref a_this_rows, .int v_manyRows, .long v_digested_214])), (a_this_s, .inl (cI, 31, .inl v_s_212)), (a_this_states, .inl (cI, 66, .inl v_states_217))] := hD
  obtain ⟨r_220, hc_221, hden⟩ := bnd_s hden
  refine m_cl (wc := []) (wr := [(a_this_text, .inl (cI, 60, .inl v_text)), (a_this_aside, .inl (cI, 31, .inl v_aside_199)), (a_this, .inr (5, [.int 0, .ref a_this_s, .ref a_this_aside, .ref a_this_saved, .int v_savedMany, .ref a_this_text, .int v_length, .ref a_this_states, .int v_many_218, .int v_at, .int v_isWrong, .int v_letters, .int v_matched, .ref a_this_rows, .int v_manyRows, .long v_digested_214])), (a_this_s, .inl (cI, 31, .inl v_s_212)), (a_this_states, .inl (cI, 66, .inl v_states_217))]) (wc' := []) (va_runS (As := [.double r_216]) (rest := [.ref a_this]) ⟨hx, hb, hml, hown, hts⟩ (c_X6_bitsOfShare l D cI cM cL F hc_221) (va_cwS 1 hts gX6_digest_X6_bitsOfShare rfl rfl rfl (by decide +kernel) ⟨Nat.le_of_ble_eq_true rfl, Nat.le_of_ble_eq_true rfl⟩) (mPreS hP hD hK hN [] (by decide) rfl) rfl rfl hl.1 rfl (lv_room (Nat.le_of_ble_eq_true rfl)) dX6_digest_247 ⟨Nat.le_of_ble_eq_true rfl, Nat.le_of_ble_eq_true rfl⟩) hP hD hS hA [] [0, 1, 2, 3, 4] rfl rfl (by decide) (by decide) (fun H locs hP hD hS => ?_)
  have hP : va_P D vwCl [(a_this_text, .inl (cI, 60, .inl v_text)), (a_this_aside, .inl (cI, 31, .inl v_aside_199)), (a_this, .inr (5, [.int 0, .ref a_this_s, .ref a_this_aside, .ref a_this_saved, .int v_savedMany, .ref a_this_text, .int v_length, .ref a_this_states, .int v_many_218, .int v_at, .int v_isWrong, .int v_letters, .int v_matched, .ref a_this_rows, .int v_manyRows, .long v_digested_214])), (a_this_s, .inl (cI, 31, .inl v_s_212)), (a_this_states, .inl (cI, 66, .inl v_states_217))] H := hP
  have hD : va_D A [(a_this_text, .inl (cI, 60, .inl v_text)), (a_this_aside, .inl (cI, 31, .inl v_aside_199)), (a_this, .inr (5, [.int 0, .ref a_this_s, .ref a_this_aside, .ref a_this_saved, .int v_savedMany, .ref a_this_text, .int v_length, .ref a_this_states, .int v_many_218, .int v_at, .int v_isWrong, .int v_letters, .int v_matched, .ref a_this_rows, .int v_manyRows, .long v_digested_214])), (a_this_s, .inl (cI, 31, .inl v_s_212)), (a_this_states, .inl (cI, 66, .inl v_states_217))] := hD
  obtain ⟨v_digested_222, hc_223, hden⟩ := bnd_s hden
  refine m_cv (wc := [(a_this, .inr (5, [.int 0, .ref a_this_s, .ref a_this_aside, .ref a_this_saved, .int v_savedMany, .ref a_this_text, .int v_length, .ref a_this_states, .int v_many_218, .int v_at, .int v_isWrong, .int v_letters, .int v_matched, .ref a_this_rows, .int v_manyRows, .long v_digested_214]))]) (wr := [(a_this_text, .inl (cI, 60, .inl v_text)), (a_this_aside, .inl (cI, 31, .inl v_aside_199)), (a_this_s, .inl (cI, 31, .inl v_s_212)), (a_this_states, .inl (cI, 66, .inl v_states_217))]) (wc' := [(a_this, .inr (5, [.int 0, .ref a_this_s, .ref a_this_aside, .ref a_this_saved, .int v_savedMany, .ref a_this_text, .int v_length, .ref a_this_states, .int v_many_218, .int v_at, .int v_isWrong, .int v_letters, .int v_matched, .ref a_this_rows, .int v_manyRows, .long v_digested_222]))]) (va_runV (As := [.long r_220]) (rest := []) ⟨hx, hb, hml, hown, hts⟩ (c_X6_digestOne l D cI cM cL F hc_223) (cwV 1 hts gX6_digest_X6_digestOne rfl rfl rfl (by decide +kernel) ⟨Nat.le_of_ble_eq_true rfl, Nat.le_of_ble_eq_true rfl⟩) (mPreV (ci := 5) (q0 := 0) (r := (RX6, TX6, 16)) hP hD hK hN [2] (by decide) rfl rfl rfl) rfl rfl hl.1 rfl (lv_room (Nat.le_of_ble_eq_true rfl)) dX6_digest_250 ⟨Nat.le_of_ble_eq_true rfl, Nat.le_of_ble_eq_true rfl⟩) hP hD hS hA [2] [0, 1, 3, 4] rfl rfl (by decide) (by decide) (fun H locs hP hD hS => ?_)
  have hP : va_P D vwCl [(a_this_text, .inl (cI, 60, .inl v_text)), (a_this_aside, .inl (cI, 31, .inl v_aside_199)), (a_this_s, .inl (cI, 31, .inl v_s_212)), (a_this_states, .inl (cI, 66, .inl v_states_217)), (a_this, .inr (5, [.int 0, .ref a_this_s, .ref a_this_aside, .ref a_this_saved, .int v_savedMany, .ref a_this_text, .int v_length, .ref a_this_states, .int v_many_218, .int v_at, .int v_isWrong, .int v_letters, .int v_matched, .ref a_this_rows, .int v_manyRows, .long v_digested_222]))] H := hP
  have hD : va_D A [(a_this_text, .inl (cI, 60, .inl v_text)), (a_this_aside, .inl (cI, 31, .inl v_aside_199)), (a_this_s, .inl (cI, 31, .inl v_s_212)), (a_this_states, .inl (cI, 66, .inl v_states_217)), (a_this, .inr (5, [.int 0, .ref a_this_s, .ref a_this_aside, .ref a_this_saved, .int v_savedMany, .ref a_this_text, .int v_length, .ref a_this_states, .int v_many_218, .int v_at, .int v_isWrong, .int v_letters, .int v_matched, .ref a_this_rows, .int v_manyRows, .long v_digested_222]))] := hD
  refine lv_aload_n hx hb dX6_digest_253 rfl (lv_at hl 0 rfl) ?_
  refine lv_aload_n hx hb dX6_digest_254 rfl (lv_at hl 0 rfl) ?_
  refine va_get (D := D) (ci := 5) (v := .int v_length) (C := RX6) (T := TX6) (N := 16) hx hb hts hin_X6 hown hK hP 4 rfl rfl 6 (by decide) w_131 (fun _ h9 => h9) rfl dX6_digest_255 ?_
  refine lv_i2l hx hb dX6_digest_258 rfl ?_
  obtain ⟨v_digested_224, hc_225, hden⟩ := bnd_s hden
  refine m_cv (wc := [(a_this, .inr (5, [.int 0, .ref a_this_s, .ref a_this_aside, .ref a_this_saved, .int v_savedMany, .ref a_this_text, .int v_length, .ref a_this_states, .int v_many_218, .int v_at, .int v_isWrong, .int v_letters, .int v_matched, .ref a_this_rows, .int v_manyRows, .long v_digested_222]))]) (wr := [(a_this_text, .inl (cI, 60, .inl v_text)), (a_this_aside, .inl (cI, 31, .inl v_aside_199)), (a_this_s, .inl (cI, 31, .inl v_s_212)), (a_this_states, .inl (cI, 66, .inl v_states_217))]) (wc' := [(a_this, .inr (5, [.int 0, .ref a_this_s, .ref a_this_aside, .ref a_this_saved, .int v_savedMany, .ref a_this_text, .int v_length, .ref a_this_states, .int v_many_218, .int v_at, .int v_isWrong, .int v_letters, .int v_matched, .ref a_this_rows, .int v_manyRows, .long v_digested_224]))]) (va_runV (As := [.long ((v_length : Int32).toInt64)]) (rest := []) ⟨hx, hb, hml, hown, hts⟩ (c_X6_digestOne l D cI cM cL F hc_225) (cwV 1 hts gX6_digest_X6_digestOne rfl rfl rfl (by decide +kernel) ⟨Nat.le_of_ble_eq_true rfl, Nat.le_of_ble_eq_true rfl⟩) (mPreV (ci := 5) (q0 := 0) (r := (RX6, TX6, 16)) hP hD hK hN [4] (by decide) rfl rfl rfl) rfl rfl hl.1 rfl (lv_room (Nat.le_of_ble_eq_true rfl)) dX6_digest_259 ⟨Nat.le_of_ble_eq_true rfl, Nat.le_of_ble_eq_true rfl⟩) hP hD hS hA [4] [0, 1, 2, 3] rfl rfl (by decide) (by decide) (fun H locs hP hD hS => ?_)
  have hP : va_P D vwCl [(a_this_text, .inl (cI, 60, .inl v_text)), (a_this_aside, .inl (cI, 31, .inl v_aside_199)), (a_this_s, .inl (cI, 31, .inl v_s_212)), (a_this_states, .inl (cI, 66, .inl v_states_217)), (a_this, .inr (5, [.int 0, .ref a_this_s, .ref a_this_aside, .ref a_this_saved, .int v_savedMany, .ref a_this_text, .int v_length, .ref a_this_states, .int v_many_218, .int v_at, .int v_isWrong, .int v_letters, .int v_matched, .ref a_this_rows, .int v_manyRows, .long v_digested_224]))] H := hP
  have hD : va_D A [(a_this_text, .inl (cI, 60, .inl v_text)), (a_this_aside, .inl (cI, 31, .inl v_aside_199)), (a_this_s, .inl (cI, 31, .inl v_s_212)), (a_this_states, .inl (cI, 66, .inl v_states_217)), (a_this, .inr (5, [.int 0, .ref a_this_s, .ref a_this_aside, .ref a_this_saved, .int v_savedMany, .ref a_this_text, .int v_length, .ref a_this_states, .int v_many_218, .int v_at, .int v_isWrong, .int v_letters, .int v_matched, .ref a_this_rows, .int v_manyRows, .long v_digested_224]))] := hD
  refine lv_iconst (v := 0) hx hb dX6_digest_262 (by decide) ?_
  refine lv_istore_n (lv' := [(1, .int 0), (0, .ref a_this)]) hx hb dX6_digest_263 rfl hl (by decide) rfl (fun ls hl => ?_)
  have hL264__235 : ∀ (n : Nat) (x1_233 : Int32) (v_digested_234 : Int64) (H : Heap) (locs : List Loc), va_P D vwCl [(a_this, .inr (5, [.int 0, .ref a_this_s, .ref a_this_aside, .ref a_this_saved, .int v_savedMany, .ref a_this_text, .int v_length, .ref a_this_states, .int v_many_218, .int v_at, .int v_isWrong, .int v_letters, .int v_matched, .ref a_this_rows, .int v_manyRows, .long v_digested_234])), (a_this_states, .inl (cI, 66, .inl v_states_217)), (a_this_s, .inl (cI, 31, .inl v_s_212)), (a_this_text, .inl (cI, 60, .inl v_text)), (a_this_aside, .inl (cI, 31, .inl v_aside_199))] H → va_D A [(a_this, .inr (5, [.int 0, .ref a_this_s, .ref a_this_aside, .ref a_this_saved, .int v_savedMany, .ref a_this_text, .int v_length, .ref a_this_states, .int v_many_218, .int v_at, .int v_isWrong, .int v_letters, .int v_matched, .ref a_this_rows, .int v_manyRows, .long v_digested_234])), (a_this_states, .inl (cI, 66, .inl v_states_217)), (a_this_s, .inl (cI, 31, .inl v_s_212)), (a_this_text, .inl (cI, 60, .inl v_text)), (a_this_aside, .inl (cI, 31, .inl v_aside_199))] → va_S A s.heap H locs → ∀ ls : Array Slot, lv_has ls 3 [(0, .ref a_this), (1, .int x1_233)] → L_X6_digest_264 F 0 v_states_217 v_many_218 v_s_212 v_length v_text v_aside_199 n x1_233 v_digested_234 = some (r0, w_thrown, w_digested, w_states, w_many, w_s, w_aside) → W p l e rm_X6_digest s m (([.ref a_this] : List Value).toArray) below meth c H locs 0 0 Q (F0 m 264 ls []) := by
    intro n
    induction n with
    | zero => intro x1_233 v_digested_234 H locs hP hD hS ls hl hden; exact no_none hden
    | succ n ih =>
      intro x1_233 v_digested_234 H locs hP hD hS ls hl hden
      rw [L_X6_digest_264] at hden
      refine lv_iload_n hx hb dX6_digest_264 rfl (lv_at hl 1 rfl) ?_
      refine lv_aload_n hx hb dX6_digest_265 rfl (lv_at hl 0 rfl) ?_
      refine va_get (D := D) (ci := 5) (v := .int v_length) (C := RX6) (T := TX6) (N := 16) hx hb hts hin_X6 hown hK hP 0 rfl rfl 6 (by decide) w_131 (fun _ h9 => h9) rfl dX6_digest_266 ?_
      refine lv_icmp_ge (tgt := 289) hx hb dX6_digest_269 (by decide) (fun c_240 => ?_) (fun c_240 => ?_)
      · have hden := if_s hden c_240
        refine lv_aload_n hx hb dX6_digest_289 rfl (lv_at hl 0 rfl) ?_
        refine va_get (D := D) (ci := 5) (v := .long v_digested_234) (C := RX6) (T := TX6) (N := 16) hx hb hts hin_X6 hown hK hP 0 rfl rfl 15 (by decide) w_210 (fun _ h9 => h9) rfl dX6_digest_290 ?_
        subst hQe
        cases hden
        exact m_rl hx hb hr hP hD hS [0, 1, 2, 3, 4] (by decide) rfl rfl dX6_digest_293 hlocks
      · have hden := ifn_s hden c_240
        refine lv_aload_n hx hb dX6_digest_272 rfl (lv_at hl 0 rfl) ?_
        refine lv_aload_n hx hb dX6_digest_273 rfl (lv_at hl 0 rfl) ?_
        refine va_get (D := D) (ci := 5) (v := .ref a_this_text) (C := RX6) (T := TX6) (N := 16) hx hb hts hin_X6 hown hK hP 0 rfl rfl 5 (by decide) w_19 (fun _ h9 => h9) rfl dX6_digest_274 ?_
        refine lv_iload_n hx hb dX6_digest_277 rfl (lv_at hl 1 rfl) ?_
        obtain ⟨hg_236, hden⟩ := grd_s hden
        refine va_iald hx hb hK hP 3 0 rfl rfl (inb_in hg_236) dX6_digest_278 ?_
        refine lv_i2l hx hb dX6_digest_279 rfl ?_
        obtain ⟨v_digested_237, hc_238, hden⟩ := bnd_s hden
        refine m_cv (wc := [(a_this, .inr (5, [.int 0, .ref a_this_s, .ref a_this_aside, .ref a_this_saved, .int v_savedMany, .ref a_this_text, .int v_length, .ref a_this_states, .int v_many_218, .int v_at, .int v_isWrong, .int v_letters, .int v_matched, .ref a_this_rows, .int v_manyRows, .long v_digested_234]))]) (wr := [(a_this_states, .inl (cI, 66, .inl v_states_217)), (a_this_s, .inl (cI, 31, .inl v_s_212)), (a_this_text, .inl (cI, 60, .inl v_text)), (a_this_aside, .inl (cI, 31, .inl v_aside_199))]) (wc' := [(a_this, .inr (5, [.int 0, .ref a_this_s, .ref a_this_aside, .ref a_this_saved, .int v_savedMany, .ref a_this_text, .int v_length, .ref a_this_states, .int v_many_218, .int v_at, .int v_isWrong, .int v_letters, .int v_matched, .ref a_this_rows, .int v_manyRows, .long v_digested_237]))]) (va_runV (As := [.long ((v_text x1_233.toNatClampNeg).toInt64)]) (rest := []) ⟨hx, hb, hml, hown, hts⟩ (c_X6_digestOne l D cI cM cL F hc_238) (cwV 1 hts gX6_digest_X6_digestOne rfl rfl rfl (by decide +kernel) ⟨Nat.le_of_ble_eq_true rfl, Nat.le_of_ble_eq_true rfl⟩) (mPreV (ci := 5) (q0 := 0) (r := (RX6, TX6, 16)) hP hD hK hN [0] (by decide) rfl rfl rfl) rfl rfl hl.1 rfl (lv_room (Nat.le_of_ble_eq_true rfl)) dX6_digest_280 ⟨Nat.le_of_ble_eq_true rfl, Nat.le_of_ble_eq_true rfl⟩) hP hD hS hA [0] [1, 2, 3, 4] rfl rfl (by decide) (by decide) (fun H locs hP hD hS => ?_)
        have hP : va_P D vwCl [(a_this_states, .inl (cI, 66, .inl v_states_217)), (a_this_s, .inl (cI, 31, .inl v_s_212)), (a_this_text, .inl (cI, 60, .inl v_text)), (a_this_aside, .inl (cI, 31, .inl v_aside_199)), (a_this, .inr (5, [.int 0, .ref a_this_s, .ref a_this_aside, .ref a_this_saved, .int v_savedMany, .ref a_this_text, .int v_length, .ref a_this_states, .int v_many_218, .int v_at, .int v_isWrong, .int v_letters, .int v_matched, .ref a_this_rows, .int v_manyRows, .long v_digested_237]))] H := hP
        have hD : va_D A [(a_this_states, .inl (cI, 66, .inl v_states_217)), (a_this_s, .inl (cI, 31, .inl v_s_212)), (a_this_text, .inl (cI, 60, .inl v_text)), (a_this_aside, .inl (cI, 31, .inl v_aside_199)), (a_this, .inr (5, [.int 0, .ref a_this_s, .ref a_this_aside, .ref a_this_saved, .int v_savedMany, .ref a_this_text, .int v_length, .ref a_this_states, .int v_many_218, .int v_at, .int v_isWrong, .int v_letters, .int v_matched, .ref a_this_rows, .int v_manyRows, .long v_digested_237]))] := hD
        obtain ⟨x1_239, ex1_239, hden⟩ := nm_x hden
        refine lv_iinc (v := x1_239) (lv' := [(1, .int x1_239), (0, .ref a_this)]) hx hb dX6_digest_283 hl (k := 1) rfl (by rw [ex1_239]; rfl) (by decide) rfl (fun ls hl => ?_)
        refine lv_goto (tgt := 264) hx hb dX6_digest_286 (by decide) ?_
        exact ih x1_239 v_digested_237 _ _ (mSubP hP [4, 0, 1, 2, 3] rfl) (hD.sub [4, 0, 1, 2, 3] (by decide) rfl) hS ls (lv_sub hl [1, 0] rfl) hden
  exact hL264__235 F 0 v_digested_224 _ _ (mSubP hP [4, 3, 2, 0, 1] rfl) (hD.sub [4, 3, 2, 0, 1] (by decide) rfl) hS ls (lv_sub hl [1, 0] rfl) hden
