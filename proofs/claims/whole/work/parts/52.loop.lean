theorem LI.hS {D : va_G} {cI cM cL : ClassId} {xa ma oa : Nat} {q r : Nat → Nat} {A : Nat → Prop} {H0 H : Heap} {locs : List Loc} (h : LI D cI cM cL xa q ma r oa A H0 H locs) : va_S A H0 H locs := by
  obtain ⟨_, _, _, _, _, _, _, _, _, _, _, _, _, _, _, _, _, _, _, _, _, _, _, _, _, _, _, _, _, _, _, _, _, _, _, _, _, _, _, _, _, _, _, _, _, _, _, _, _, _, hS, _⟩ := h
  exact hS
theorem law_go {L k : Nat} (hL : L ≤ 1536) (hk : 3 * k ≤ L) (h : ¬ Int32.ofNat L - 3 < nI (3 * k)) : 3 * k + 3 ≤ L := by
  rcases Nat.lt_or_ge L (3 * k + 3) with h1 | h1
  · refine absurd ?_ h
    rcases Nat.lt_or_ge L 3 with h2 | h2
    · have h3 : k = 0 := by omega
      subst h3
      rcases (show L = 0 ∨ L = 1 ∨ L = 2 by omega) with rfl | rfl | rfl <;> decide
    · obtain ⟨n, rfl⟩ : ∃ n, L = n + 3 := ⟨L - 3, by omega⟩
      have h4 : Int32.ofNat (n + 3) - 3 = nI n := by
        rw [Int32.ofNat_add]
        exact Int32.add_sub_cancel _ _
      rw [h4]
      exact nI_lt (by omega) (by omega)
  · exact h1
theorem law_sw {x : Int32} (h0 : ¬ x = 0) (h1 : ¬ x = 1) (h2 : ¬ x = 2) (h3 : ¬ x = 3) (h4 : ¬ x = 4) (h5 : ¬ x = 5) (h6 : ¬ x = 6) (h7 : ¬ x = 7) (h8 : ¬ x = 8) (h9 : ¬ x = 9) (h10 : ¬ x = 10) (h11 : ¬ x = 11) (h12 : ¬ x = 12) (h13 : ¬ x = 13) (h14 : ¬ x = 14) (h15 : ¬ x = 15) (h16 : ¬ x = 16) (h17 : ¬ x = 17) (h18 : ¬ x = 18) (h19 : ¬ x = 19) (h20 : ¬ x = 20) : x.toInt < 0 ∨ 20 < x.toInt := by
  have e0 := tsw_ne (k := 0) (by decide) h0
  have e1 := tsw_ne (k := 1) (by decide) h1
  have e2 := tsw_ne (k := 2) (by decide) h2
  have e3 := tsw_ne (k := 3) (by decide) h3
  have e4 := tsw_ne (k := 4) (by decide) h4
  have e5 := tsw_ne (k := 5) (by decide) h5
  have e6 := tsw_ne (k := 6) (by decide) h6
  have e7 := tsw_ne (k := 7) (by decide) h7
  have e8 := tsw_ne (k := 8) (by decide) h8
  have e9 := tsw_ne (k := 9) (by decide) h9
  have e10 := tsw_ne (k := 10) (by decide) h10
  have e11 := tsw_ne (k := 11) (by decide) h11
  have e12 := tsw_ne (k := 12) (by decide) h12
  have e13 := tsw_ne (k := 13) (by decide) h13
  have e14 := tsw_ne (k := 14) (by decide) h14
  have e15 := tsw_ne (k := 15) (by decide) h15
  have e16 := tsw_ne (k := 16) (by decide) h16
  have e17 := tsw_ne (k := 17) (by decide) h17
  have e18 := tsw_ne (k := 18) (by decide) h18
  have e19 := tsw_ne (k := 19) (by decide) h19
  have e20 := tsw_ne (k := 20) (by decide) h20
  omega
set_option maxHeartbeats 4000000 in
set_option maxRecDepth 100000 in
theorem law_loop {p : Program} {e : Env} {s : State} {m : MethodId} {below : List Frame} {meth : Method} {c : Code} {l : Launch} (hl0 : l.stackTraces = false) {b L : Nat} {zs : Nat → Int32} (hL : L ≤ 1536) (C0 : lw_At p s m meth c b L zs) {D : va_G} {cI cM cL : ClassId} (hK : va_K D vwCl (mTy cI cM cL) s) (hN : mNw s) (hX : mX (fun q : Nat => s.heap.size ≤ q) s s.heap) {xa ma oa : Nat} {q r : Nat → Nat} : ∀ (n k : Nat), 3 * k ≤ L → L < 3 * k + n → ∀ (i : Int32), i = nI (3 * k) → ∀ (ls : Array Slot) (H : Heap) (locs : List Loc), lv_has ls 9 [(0, .ref b), (1, .ref xa), (2, .ref ma), (3, .ref oa), (4, .int i)] → LI D cI cM cL xa q ma r oa (fun q : Nat => s.heap.size ≤ q) s.heap H locs → W p l e room_1 s m #[Value.ref b] below meth c H locs (47 + k) (1204 + 6 * k) (lw_Z below #[Value.ref b] s) (F0 m 23 ls []) := by
  obtain ⟨hx, hb, hr, hml, hown, hts0, hXs, hbl, hlocks, hgv⟩ := id C0
  have hbA : ¬ (fun q : Nat => s.heap.size ≤ q) b := Nat.not_le.mpr hbl
  intro n
  induction n with
  | zero => intro k h1 h2; exact absurd h2 (by omega)
  | succ n ih =>
    intro k hk hn i ei ls H locs hl hI
    have hS := hI.hS
    refine lv_iload hx hb dL_law_23 (lv_at hl 4 rfl) ?_
    refine lv_aload_n hx hb dL_law_25 rfl (lv_at hl 0 rfl) ?_
    refine va_slen hx hb hXs hbl hbA hS dL_law_26 ?_
    refine lv_iconst (v := 3) hx hb dL_law_27 (by decide) ?_
    refine lv_isub hx hb dL_law_28 ?_
    refine lv_icmp_gt (tgt := 1098) hx hb dL_law_29 (by decide) (fun _ => ?_) (fun c_1 => ?_)
    · refine lv_iconst (v := 1) hx hb dL_law_1098 (by decide) ?_
      refine va_forget (fun q hq => hS.2.2 q hq) ?_
      refine W.widen (k := 601024) (n := 7293034) (by omega) (by omega) ?_
      exact lw_ret (d0 := s.drawn) (Drawn.sameBut.refl s.drawn lw_cs) hx hb hr hlocks dL_law_1099
    · have h3 : 3 * k + 3 ≤ L := law_go hL hk (by rw [← ei]; exact c_1)
      have hi0 : vp_in i L := by rw [ei]; exact vp_in_nI (by omega) (by omega)
      have hi1 : vp_in (i + 1) L := by rw [ei, nI_1]; exact vp_in_nI (by omega) (by omega)
      have hi2 : vp_in (i + 2) L := by rw [ei, show nI (3 * k) + 2 = nI (3 * k + 2) from nI_add _ 2]; exact vp_in_nI (by omega) (by omega)
      have hcs : 47 + k + 1 ≤ 601024 ∧ 1204 + 6 * k + 6 ≤ 7293034 := ⟨by omega, by omega⟩
      have kk : ∀ (ls : Array Slot) (H : Heap) (locs : List Loc), lv_has ls 9 [(0, .ref b), (1, .ref xa), (2, .ref ma), (3, .ref oa), (4, .int i)] → LI D cI cM cL xa q ma r oa (fun q : Nat => s.heap.size ≤ q) s.heap H locs → W p l e room_1 s m #[Value.ref b] below meth c H locs (47 + k + 1) (1204 + 6 * k + 6) (lw_Z below #[Value.ref b] s) (F0 m 1092 ls []) := by
        intro ls H locs hl hI
        obtain ⟨j, ej⟩ : ∃ y : Int32, y = i + 3 := ⟨_, rfl⟩
        refine lv_iinc (v := j) (lv' := [(4, .int j), (0, .ref b), (1, .ref xa), (2, .ref ma), (3, .ref oa)]) hx hb dL_law_1092 hl (k := 4) rfl (by rw [ej]; rfl) (by decide) rfl (fun ls hl => ?_)
        refine lv_goto (tgt := 23) hx hb dL_law_1095 (by decide) ?_
        refine W.widen (k := 47 + (k + 1)) (n := 1204 + 6 * (k + 1)) (by omega) (by omega) ?_
        exact ih (k + 1) (by omega) (by omega) j (by rw [ej, ei, show 3 * (k + 1) = 3 * k + 3 by omega]; exact nI_add _ 3) ls H locs (lv_sub hl [1, 2, 3, 4, 0] rfl) hI
      refine lv_aload_n hx hb dL_law_32 rfl (lv_at hl 0 rfl) ?_
      refine lv_iload hx hb dL_law_33 (lv_at hl 4 rfl) ?_
      refine va_sld hx hb hXs hbl hbA hS hi0 dL_law_35 ?_
      refine lv_bipush (v := 31) hx hb dL_law_36 (by decide) ?_
      refine lv_iand hx hb dL_law_38 ?_
      refine lv_topi (fun v _ => ?_)
      by_cases h0 : v = 0
      · refine lv_tableIn (off := 97) (tgt := 136) hx hb dL_law_39 (by rw [h0]; decide) (by rw [h0]; decide) (by rw [h0]; rfl) (by decide) ?_
        exact lc_add hl0 C0 hK hN hX hi1 hi2 hcs kk hl hI
      by_cases h1 : v = 1
      · refine lv_tableIn (off := 141) (tgt := 180) hx hb dL_law_39 (by rw [h1]; decide) (by rw [h1]; decide) (by rw [h1]; rfl) (by decide) ?_
        exact lc_remove hl0 C0 hK hN hX hi1 hi2 hcs kk hl hI
      by_cases h2 : v = 2
      · refine lv_tableIn (off := 197) (tgt := 236) hx hb dL_law_39 (by rw [h2]; decide) (by rw [h2]; decide) (by rw [h2]; rfl) (by decide) ?_
        exact lc_rule hl0 C0 hK hN hX hi1 hi2 hcs kk hl hI
      by_cases h3 : v = 3
      · refine lv_tableIn (off := 253) (tgt := 292) hx hb dL_law_39 (by rw [h3]; decide) (by rw [h3]; decide) (by rw [h3]; rfl) (by decide) ?_
        exact lc_feed hl0 C0 hK hN hX hi1 hi2 hcs kk hl hI
      by_cases h4 : v = 4
      · refine lv_tableIn (off := 309) (tgt := 348) hx hb dL_law_39 (by rw [h4]; decide) (by rw [h4]; decide) (by rw [h4]; rfl) (by decide) ?_
        exact lc_feedAll hl0 C0 hK hN hX hi1 hi2 hcs kk hl hI
      by_cases h5 : v = 5
      · refine lv_tableIn (off := 353) (tgt := 392) hx hb dL_law_39 (by rw [h5]; decide) (by rw [h5]; decide) (by rw [h5]; rfl) (by decide) ?_
        exact lc_begin hl0 C0 hK hN hX hi1 hi2 hcs kk hl hI
      by_cases h6 : v = 6
      · refine lv_tableIn (off := 366) (tgt := 405) hx hb dL_law_39 (by rw [h6]; decide) (by rw [h6]; decide) (by rw [h6]; rfl) (by decide) ?_
        exact lc_append hl0 C0 hK hN hX hi1 hi2 hcs kk hl hI
      by_cases h7 : v = 7
      · refine lv_tableIn (off := 422) (tgt := 461) hx hb dL_law_39 (by rw [h7]; decide) (by rw [h7]; decide) (by rw [h7]; rfl) (by decide) ?_
        exact lc_clearBuffer hl0 C0 hK hN hX hi1 hi2 hcs kk hl hI
      by_cases h8 : v = 8
      · refine lv_tableIn (off := 435) (tgt := 474) hx hb dL_law_39 (by rw [h8]; decide) (by rw [h8]; decide) (by rw [h8]; rfl) (by decide) ?_
        exact lc_firstError hl0 C0 hK hN hX hi1 hi2 hcs kk hl hI
      by_cases h9 : v = 9
      · refine lv_tableIn (off := 476) (tgt := 515) hx hb dL_law_39 (by rw [h9]; decide) (by rw [h9]; decide) (by rw [h9]; rfl) (by decide) ?_
        exact lc_undo hl0 C0 hK hN hX hi1 hi2 hcs kk hl hI
      by_cases h10 : v = 10
      · refine lv_tableIn (off := 520) (tgt := 559) hx hb dL_law_39 (by rw [h10]; decide) (by rw [h10]; decide) (by rw [h10]; rfl) (by decide) ?_
        exact lc_pattern hl0 C0 hK hN hX hi1 hi2 hcs kk hl hI
      by_cases h11 : v = 11
      · refine lv_tableIn (off := 588) (tgt := 627) hx hb dL_law_39 (by rw [h11]; decide) (by rw [h11]; decide) (by rw [h11]; rfl) (by decide) ?_
        exact lc_letter hl0 C0 hK hN hX hi1 hi2 hcs kk hl hI
      by_cases h12 : v = 12
      · refine lv_tableIn (off := 656) (tgt := 695) hx hb dL_law_39 (by rw [h12]; decide) (by rw [h12]; decide) (by rw [h12]; rfl) (by decide) ?_
        exact lc_state hl0 C0 hK hN hX hi1 hi2 hcs kk hl hI
      by_cases h13 : v = 13
      · refine lv_tableIn (off := 724) (tgt := 763) hx hb dL_law_39 (by rw [h13]; decide) (by rw [h13]; decide) (by rw [h13]; rfl) (by decide) ?_
        exact lc_count hl0 C0 hK hN hX hi1 hi2 hcs kk hl hI
      by_cases h14 : v = 14
      · refine lv_tableIn (off := 780) (tgt := 819) hx hb dL_law_39 (by rw [h14]; decide) (by rw [h14]; decide) (by rw [h14]; rfl) (by decide) ?_
        exact lc_setting hl0 C0 hK hN hX hi1 hi2 hcs kk hl hI
      by_cases h15 : v = 15
      · refine lv_tableIn (off := 793) (tgt := 832) hx hb dL_law_39 (by rw [h15]; decide) (by rw [h15]; decide) (by rw [h15]; rfl) (by decide) ?_
        exact lc_ifFed hl0 C0 hK hN hX hi1 hi2 hcs kk hl hI
      by_cases h16 : v = 16
      · refine lv_tableIn (off := 861) (tgt := 900) hx hb dL_law_39 (by rw [h16]; decide) (by rw [h16]; decide) (by rw [h16]; rfl) (by decide) ?_
        exact lc_lettersTo hl0 C0 hK hN hX hi1 hi2 hcs kk hl hI
      by_cases h17 : v = 17
      · refine lv_tableIn (off := 917) (tgt := 956) hx hb dL_law_39 (by rw [h17]; decide) (by rw [h17]; decide) (by rw [h17]; rfl) (by decide) ?_
        exact lc_ifRepeated hl0 C0 hK hN hX hi1 hi2 hcs kk hl hI
      by_cases h18 : v = 18
      · refine lv_tableIn (off := 985) (tgt := 1024) hx hb dL_law_39 (by rw [h18]; decide) (by rw [h18]; decide) (by rw [h18]; rfl) (by decide) ?_
        exact lc_heaviest hl0 C0 hK hN hX hi1 hi2 hcs kk hl hI
      by_cases h19 : v = 19
      · refine lv_tableIn (off := 998) (tgt := 1037) hx hb dL_law_39 (by rw [h19]; decide) (by rw [h19]; decide) (by rw [h19]; rfl) (by decide) ?_
        exact lc_sharing hl0 C0 hK hN hX hi1 hi2 hcs kk hl hI
      by_cases h20 : v = 20
      · refine lv_tableIn (off := 1039) (tgt := 1078) hx hb dL_law_39 (by rw [h20]; decide) (by rw [h20]; decide) (by rw [h20]; rfl) (by decide) ?_
        exact lc_digest hl0 C0 hK hN hX hi1 hi2 hcs kk hl hI
      refine lv_tableOut (tgt := 1092) hx hb dL_law_39 (law_sw h0 h1 h2 h3 h4 h5 h6 h7 h8 h9 h10 h11 h12 h13 h14 h15 h16 h17 h18 h19 h20) (by decide) ?_
      refine W.widen (k := 47 + k + 1) (n := 1204 + 6 * k + 6) (Nat.le_add_right _ _) (Nat.le_add_right _ _) ?_
      exact kk ls H locs hl hI
