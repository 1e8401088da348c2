theorem law_str {own tx : String} {k cur : Nat} {args : Array Value} {s : State} (hcur : s.vm.findClass own = some cur) (h : (Cond.stringRef own k tx).before args s = true) : ∃ a, vk_R own k tx a s := by
  obtain ⟨_, _, _, a, -, -, -, -, -, h2⟩ := Cond.stringRef_spec hcur h
  exact ⟨a, vk_R.of h h2⟩
theorem law_arr {args : Array Value} {s : State} {ty : FieldType} (h : (Cond.arrayClass ty).before args s = true) : ∃ cA, ArrOfT s cA ty ∧ s.vm.findClass ("[" ++ ty.toString) = some cA := by
  obtain ⟨cA, kA, comp, h1, h2, h3⟩ := Cond.arrayClass_spec h
  exact ⟨cA, fun n z => ⟨fun k h => (by cases h), kA, h2, comp, h3⟩, h1⟩
theorem law_over {s : State} {C : String} (h : va_AO C s) : ∃ cA, ArrOfT s cA (.object C) ∧ va_RA s cA (.object C) := by
  obtain ⟨comp, c, k, h1, h2, h3, h4, h5⟩ := Cond.arrayOver_spec h
  exact ⟨c, fun n z => ⟨fun k h => (by cases h), k, h3, comp, h4⟩, k, comp, h3, h4, h1, h5⟩
set_option maxHeartbeats 4000000 in
set_option maxRecDepth 100000 in
theorem law_given {p : Program} {s : State} {m : MethodId} {meth : Method} {c : Code} {b L : Nat} {zs : Nat → Int32} (C0 : lw_At p s m meth c b L zs) : ∃ (D : va_G) (cI cM cL : ClassId), va_K D vwCl (mTy cI cM cL) s ∧ mNw s ∧ mX (fun q : Nat => s.heap.size ≤ q) s s.heap ∧ va_AO mM s := by
  obtain ⟨hx, hb, hr, hml, hown, hts0, hXs, hbl, hlocks, hgv⟩ := C0
  have hT : ∀ {w : Cond}, w ∈ tables_1 → w.before #[Value.ref b] s = true := fun {w} h => hts0 w (List.mem_append_right _ h)
  have hts : ∀ w ∈ wsL_law, w.before #[Value.ref b] s = true := fun w h => hts0 w (wsL_law_in w h)
  have hn := flat_of_before _ hgv
  have hi0 : (Cond.instantiable RX0 2).before #[Value.ref b] s = true := (hT (List.mem_of_getElem? (i := 122) (by decide +kernel)))
  obtain ⟨c0, iS0, hKn0⟩ := u_known (C := RX0) (T := TX0) (N := 2) (n := 2) hts inlX0 hi0
  have hi1 : (Cond.instantiable RX1 5).before #[Value.ref b] s = true := (hT (List.mem_of_getElem? (i := 93) (by decide +kernel)))
  obtain ⟨c1, iS1, hKn1⟩ := u_known (C := RX1) (T := TX1) (N := 5) (n := 5) hts inlX1 hi1
  have hi2 : (Cond.instantiable RX2 10).before #[Value.ref b] s = true := (hT (List.mem_of_getElem? (i := 25) (by decide +kernel)))
  obtain ⟨c2, iS2, hKn2⟩ := u_known (C := RX2) (T := TX2) (N := 10) (n := 10) hts inlX2 hi2
  have hi3 : (Cond.instantiable RX4 3).before #[Value.ref b] s = true := (hT (List.mem_of_getElem? (i := 73) (by decide +kernel)))
  obtain ⟨c3, iS3, hKn3⟩ := u_known (C := RX4) (T := TX4) (N := 3) (n := 3) hts inlX4 hi3
  have hi4 : (Cond.instantiable RX5 5).before #[Value.ref b] s = true := (hT (List.mem_of_getElem? (i := 17) (by decide +kernel)))
  obtain ⟨c4, iS4, hKn4⟩ := u_known (C := RX5) (T := TX5) (N := 5) (n := 5) hts inlX5 hi4
  have hi5 : (Cond.instantiable RX6 16).before #[Value.ref b] s = true := (hT (List.mem_of_getElem? (i := 685) (by decide +kernel)))
  obtain ⟨c5, iS5, hKn5⟩ := u_known (C := RX6) (T := TX6) (N := 16) (n := 16) hts inlX6 hi5
  have hAO : va_AO mM s := va_AO.of (hT (List.mem_of_getElem? (i := 79) (by decide +kernel)))
  obtain ⟨cI, aI, fI⟩ := law_arr (ty := .int) (hT (List.mem_of_getElem? (i := 71) (by decide +kernel)))
  obtain ⟨cL, aL, fL⟩ := law_arr (ty := .long) (hT (List.mem_of_getElem? (i := 1009) (by decide +kernel)))
  obtain ⟨cM, aM, rM⟩ := law_over hAO
  refine ⟨(fun k => match k with | 0 => c0 | 1 => c1 | 2 => c2 | 3 => c3 | 4 => c4 | _ => c5, fun k => match k with | 0 => iS0 | 1 => iS1 | 2 => iS2 | 3 => iS3 | 4 => iS4 | _ => iS5), cI, cM, cL, ⟨?_, ?_⟩, ?_, ?_, hAO⟩
  · intro k q hq
    match k, hq with
    | 0, hq => cases hq; exact hKn0
    | 1, hq => cases hq; exact hKn1
    | 2, hq => cases hq; exact hKn2
    | 3, hq => cases hq; exact hKn3
    | 4, hq => cases hq; exact hKn4
    | 5, hq => cases hq; exact hKn5
    | k + 6, hq => simp [vwCl] at hq
  · intro k q hq
    match k, hq with
    | 0, hq => cases hq; exact ⟨aI, fI⟩
    | 1, hq => cases hq; exact ⟨aM, rM⟩
    | 2, hq => cases hq; exact ⟨aL, fL⟩
    | k + 3, hq => simp at hq
  · exact ⟨va_Nw.of (w := .methodLinkNest RX0 27 yX5_at "FallingPatterns") rfl (hT (List.mem_of_getElem? (i := 196) (by decide +kernel))), va_Nw.of (w := .methodLinkNest RX0 19 yX5_put "FallingPatterns") rfl (hT (List.mem_of_getElem? (i := 615) (by decide +kernel))), va_Nw.of (w := .methodLinkNest RX1 36 yX5_at "FallingPatterns") rfl (hT (List.mem_of_getElem? (i := 278) (by decide +kernel))), va_Nw.of (w := .methodLinkNest RX1 24 yX5_put "FallingPatterns") rfl (hT (List.mem_of_getElem? (i := 98) (by decide +kernel))), va_Nw.of (w := .methodLinkNest RX2 31 yX5_at "FallingPatterns") rfl (hT (List.mem_of_getElem? (i := 168) (by decide +kernel))), va_Nw.of (w := .methodLinkNest RX2 35 yX5_put "FallingPatterns") rfl (hT (List.mem_of_getElem? (i := 171) (by decide +kernel)))⟩
  · have hA : ∀ a : Nat, a < s.heap.size → ¬ (fun q : Nat => s.heap.size ≤ q) a := fun a h => Nat.not_le.mpr h
    have hini := (hT (w := .initialized Bundle.tN) (List.mem_of_getElem? (i := 7) (by decide +kernel)))
    refine ⟨vx_Zqof (hT (List.mem_of_getElem? (i := 418) (by decide +kernel))) hini (hn _ (by decide +kernel)) hA, vx_Zqof (hT (List.mem_of_getElem? (i := 420) (by decide +kernel))) hini (hn _ (by decide +kernel)) hA, ?_, ?_⟩
    · exact ⟨va_Nw.of (w := .castable (exn 1) (exn 1)) rfl (hT (List.mem_of_getElem? (i := 393) (by decide +kernel))), va_Nw.of (w := .castable (exn 2) (exn 2)) rfl (hT (List.mem_of_getElem? (i := 472) (by decide +kernel))), va_Nw.of (w := .castable (exn 3) (exn 3)) rfl (hT (List.mem_of_getElem? (i := 521) (by decide +kernel))), va_Nc.of (C := exn 1) (T := exn 2) (hn (.not (.castable (exn 1) (exn 2))) (by decide +kernel)), va_Nc.of (C := exn 1) (T := exn 3) (hn (.not (.castable (exn 1) (exn 3))) (by decide +kernel)), va_Nc.of (C := exn 2) (T := exn 1) (hn (.not (.castable (exn 2) (exn 1))) (by decide +kernel)), va_Nc.of (C := exn 2) (T := exn 3) (hn (.not (.castable (exn 2) (exn 3))) (by decide +kernel)), va_Nc.of (C := exn 3) (T := exn 1) (hn (.not (.castable (exn 3) (exn 1))) (by decide +kernel)), va_Nc.of (C := exn 3) (T := exn 2) (hn (.not (.castable (exn 3) (exn 2))) (by decide +kernel)), va_Nw.of (w := .declares (Bundle.initS "java/lang/RuntimeException")) rfl (hT (List.mem_of_getElem? (i := 395) (by decide +kernel))), va_Nw.of (w := .declares (Bundle.initS "java/lang/Exception")) rfl (hT (List.mem_of_getElem? (i := 397) (by decide +kernel))), va_Nw.of (w := .declares (Bundle.initS Bundle.tN)) rfl (hT (List.mem_of_getElem? (i := 399) (by decide +kernel)))⟩
    · have hcur : s.vm.findClass RX5 = some c4 := hKn4.2.1
      exact ⟨law_str hcur (hT (w := .stringRef RX5 47 "the buffer is not complete patterns") (List.mem_of_getElem? (i := 432) (by decide +kernel))), law_str hcur (hT (w := .stringRef RX5 58 "there would be more than 8 patterns") (List.mem_of_getElem? (i := 479) (by decide +kernel))), law_str hcur (hT (w := .stringRef RX5 89 "there is no such slot") (List.mem_of_getElem? (i := 528) (by decide +kernel))), law_str hcur (hT (w := .stringRef RX5 96 "the slot is empty") (List.mem_of_getElem? (i := 535) (by decide +kernel))), law_str hcur (hT (w := .stringRef RX5 105 "rule is not 0 to 2") (List.mem_of_getElem? (i := 544) (by decide +kernel))), law_str hcur (hT (w := .stringRef RX5 114 "letter is not 0 to 3") (List.mem_of_getElem? (i := 555) (by decide +kernel))), law_str hcur (hT (w := .stringRef RX5 119 "9999 letters were read") (List.mem_of_getElem? (i := 556) (by decide +kernel))), law_str hcur (hT (w := .stringRef RX5 127 "the buffer is not complete letters") (List.mem_of_getElem? (i := 587) (by decide +kernel))), law_str hcur (hT (w := .stringRef RX5 132 "more than 9999 letters would have been read") (List.mem_of_getElem? (i := 595) (by decide +kernel))), law_str hcur (hT (w := .stringRef RX5 140 "code is not 33 to 126") (List.mem_of_getElem? (i := 609) (by decide +kernel))), law_str hcur (hT (w := .stringRef RX5 145 "the buffer has 60 characters") (List.mem_of_getElem? (i := 610) (by decide +kernel))), law_str hcur (hT (w := .stringRef RX5 159 "nothing is saved") (List.mem_of_getElem? (i := 623) (by decide +kernel))), law_str hcur (hT (w := .stringRef RX5 164 "what is not 0 to 5") (List.mem_of_getElem? (i := 635) (by decide +kernel))), law_str hcur (hT (w := .stringRef RX5 170 "place is not 0 to 7") (List.mem_of_getElem? (i := 643) (by decide +kernel))), law_str hcur (hT (w := .stringRef RX5 178 "there is no such state") (List.mem_of_getElem? (i := 651) (by decide +kernel))), law_str hcur (hT (w := .stringRef RX5 180 "what is not 0 to 8") (List.mem_of_getElem? (i := 652) (by decide +kernel))), law_str hcur (hT (w := .stringRef RX5 185 "what is not 0 to 9") (List.mem_of_getElem? (i := 660) (by decide +kernel))), law_str hcur (hT (w := .stringRef RX5 190 "what is not 0 to 3") (List.mem_of_getElem? (i := 668) (by decide +kernel))), law_str hcur (hT (w := .stringRef RX5 198 "times is not 1 to 200") (List.mem_of_getElem? (i := 683) (by decide +kernel)))⟩
