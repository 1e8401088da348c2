theorem law_arr {args : Array Value} {s : State} {ty : FieldType} (h : (Cond.arrayClass ty).before args s = true) : ∃ cA, ArrOfT s cA ty ∧ s.vm.findClass ("[" ++ ty.toString) = some cA := by
  obtain ⟨cA, kA, comp, h1, h2, h3⟩ := Cond.arrayClass_spec h
  exact ⟨cA, fun n z => ⟨fun k h => (by cases h), kA, h2, comp, h3⟩, h1⟩
theorem law_over {s : State} {C : String} (h : va_AO C s) : ∃ cA, ArrOfT s cA (.object C) ∧ va_RA s cA (.object C) := by
  obtain ⟨comp, c, k, h1, h2, h3, h4, h5⟩ := Cond.arrayOver_spec h
  exact ⟨c, fun n z => ⟨fun k h => (by cases h), k, h3, comp, h4⟩, k, comp, h3, h4, h1, h5⟩
set_option maxHeartbeats 4000000 in
set_option maxRecDepth 100000 in
theorem law_given {p : Program} {s : State} {m : MethodId} {meth : Method} {c : Code} {b L : Nat} {zs : Nat → Int32} (C0 : lw_At p s m meth c b L zs) : ∃ (D : va_G) (cI cM cL : ClassId), va_K D vwCl (mTy cI cM cL) s ∧ mNw s ∧ va_AO mM s := by
  obtain ⟨hx, hb, hr, hml, hown, hts0, hXs, hbl, hlocks, hgv⟩ := C0
  have hT : ∀ {w : Cond}, w ∈ tables_1 → w.before #[Value.ref b] s = true := fun {w} h => hts0 w (List.mem_append_right _ h)
  have hts : ∀ w ∈ wsL_law, w.before #[Value.ref b] s = true := fun w h => hts0 w (wsL_law_in w h)
  have hi0 : (Cond.instantiable RX0 2).before #[Value.ref b] s = true := (hT (List.mem_of_getElem? (i := 121) (by decide +kernel)))
  obtain ⟨c0, iS0, hKn0⟩ := u_known (C := RX0) (T := TX0) (N := 2) (n := 2) hts inlX0 hi0
  have hi1 : (Cond.instantiable RX1 5).before #[Value.ref b] s = true := (hT (List.mem_of_getElem? (i := 92) (by decide +kernel)))
  obtain ⟨c1, iS1, hKn1⟩ := u_known (C := RX1) (T := TX1) (N := 5) (n := 5) hts inlX1 hi1
  have hi2 : (Cond.instantiable RX2 10).before #[Value.ref b] s = true := (hT (List.mem_of_getElem? (i := 24) (by decide +kernel)))
  obtain ⟨c2, iS2, hKn2⟩ := u_known (C := RX2) (T := TX2) (N := 10) (n := 10) hts inlX2 hi2
  have hi3 : (Cond.instantiable RX4 3).before #[Value.ref b] s = true := (hT (List.mem_of_getElem? (i := 72) (by decide +kernel)))
  obtain ⟨c3, iS3, hKn3⟩ := u_known (C := RX4) (T := TX4) (N := 3) (n := 3) hts inlX4 hi3
  have hi4 : (Cond.instantiable RX5 5).before #[Value.ref b] s = true := (hT (List.mem_of_getElem? (i := 16) (by decide +kernel)))
  obtain ⟨c4, iS4, hKn4⟩ := u_known (C := RX5) (T := TX5) (N := 5) (n := 5) hts inlX5 hi4
  have hAO : va_AO mM s := va_AO.of (hT (List.mem_of_getElem? (i := 78) (by decide +kernel)))
  obtain ⟨cI, aI, fI⟩ := law_arr (ty := .int) (hT (List.mem_of_getElem? (i := 70) (by decide +kernel)))
  obtain ⟨cM, aM, rM⟩ := law_over hAO
  refine ⟨(fun k => match k with | 0 => c0 | 1 => c1 | 2 => c2 | 3 => c3 | _ => c4, fun k => match k with | 0 => iS0 | 1 => iS1 | 2 => iS2 | 3 => iS3 | _ => iS4), cI, cM, cI, ⟨?_, ?_⟩, ?_, hAO⟩
  · intro k q hq
    match k, hq with
    | 0, hq => cases hq; exact hKn0
    | 1, hq => cases hq; exact hKn1
    | 2, hq => cases hq; exact hKn2
    | 3, hq => cases hq; exact hKn3
    | 4, hq => cases hq; exact hKn4
    | k + 5, hq => simp [vwCl] at hq
  · intro k q hq
    match k, hq with
    | 0, hq => cases hq; exact ⟨aI, fI⟩
    | 1, hq => cases hq; exact ⟨aM, rM⟩
    | 2, hq => cases hq; exact ⟨aI, fI⟩
    | k + 3, hq => simp at hq
  · exact ⟨va_Nw.of (w := .methodLinkNest RX0 27 yX5_at "FallingPatterns") rfl (hT (List.mem_of_getElem? (i := 406) (by decide +kernel))), va_Nw.of (w := .methodLinkNest RX0 19 yX5_put "FallingPatterns") rfl (hT (List.mem_of_getElem? (i := 393) (by decide +kernel))), va_Nw.of (w := .methodLinkNest RX1 36 yX5_at "FallingPatterns") rfl (hT (List.mem_of_getElem? (i := 268) (by decide +kernel))), va_Nw.of (w := .methodLinkNest RX1 24 yX5_put "FallingPatterns") rfl (hT (List.mem_of_getElem? (i := 97) (by decide +kernel))), va_Nw.of (w := .methodLinkNest RX2 31 yX5_at "FallingPatterns") rfl (hT (List.mem_of_getElem? (i := 439) (by decide +kernel))), va_Nw.of (w := .methodLinkNest RX2 35 yX5_put "FallingPatterns") rfl (hT (List.mem_of_getElem? (i := 440) (by decide +kernel)))⟩
