def NR (P : Nat → Nat) (ρ rd tl : Nat) (tot last falls most : Int32) (cnt lat s : Nat → Int32) : Prop := TR P ρ rd tl s ∧ s 27 = tot ∧ s 28 = last ∧ s 29 = falls ∧ s 30 = most ∧ ∀ p, p < 8 → s (8 + p) = cnt p ∧ s (16 + p) = lat p
theorem read_sim {F n ρ rd tl a : Nat} {P : Nat → Nat} {g : Nat → Nat} {pats rows sh en l cnt lat s : Nat → Int32} {tot last falls most : Int32} (hs : SP pats P) (hM : MO P n g rows sh en l) (h : NR P ρ rd tl tot last falls most cnt lat s) (hrd : rd < 2 ^ 29) (ha : a < 4) (hF : 300 ≤ F) : ∃ r tl' tot' last' falls' most' cnt' lat' s', D_X5_readLetter F (nI a) (nI tl) l (nI rd) last en (nI ρ) pats rows sh falls most cnt lat tot = some (r, falls', most', cnt', lat', tot', last', nI tl', nI (rd + 1)) ∧ D_X6_reads F (nI a) s = some (r, s') ∧ NR P ρ (rd + 1) tl' tot' last' falls' most' cnt' lat' s' := by
  obtain ⟨hT, h27, h28, h29, h30, hp⟩ := h
  obtain ⟨s', r1, r2, r3, r4, r5, r6, r7⟩ := reads6 (F := F) hT (by omega) ha (by omega)
  obtain ⟨cnt', lat', q1, q2⟩ := readLetter5 (F := F) (cnt := cnt) (lat := lat) (last := last) (falls := falls) (most := most) (tot := tot) hs hM hT.2.2.1 hT.2.2.2.2.2.1 ha (by omega) (rd := rd)
  subst h27
  subst h28
  subst h29
  subst h30
  refine ⟨_, _, _, _, _, _, cnt', lat', s', q1, r1, r2, r3, r4, r5, r6, fun p hp' => ?_⟩
  obtain ⟨a1, a2⟩ := r7 p hp'
  obtain ⟨b1, b2⟩ := q2 p hp'
  obtain ⟨c1, c2⟩ := hp p hp'
  rw [a1, a2, b1, b2, c1, c2]
  exact ⟨rfl, rfl⟩
theorem reads_loop {F n ρ a : Nat} {P : Nat → Nat} {g : Nat → Nat} {pats rows sh en l : Nat → Int32} {y3 : Int32} (hs : SP pats P) (hM : MO P n g rows sh en l) (ha : a < 4) (hF : 300 ≤ F) : ∀ (c j T fu rd tl : Nat) (acc tot last falls most : Int32) (cnt lat s : Nat → Int32), j + c = T → T < 1000 → c < fu → rd + c < 2 ^ 29 → NR P ρ rd tl tot last falls most cnt lat s → ∃ acc' tl' tot' last' falls' most' cnt' lat' s', (∀ k75, L_X5_readBuffer_54 F k75 (nI a) y3 (nI T) l en (nI ρ) pats rows sh fu acc (nI j) (nI tl) (nI rd) last falls most cnt lat tot = k75 acc' (nI tl') (nI (rd + c)) last' falls' most' cnt' lat' tot') ∧ (∀ (T' j' fv : Nat), j' + c ≤ T' → T' < 1000 → ∀ k208, L_X6_goLetters_175 F k208 1 (nI (97 + a)) (nI T') (fv + c) (nI j') acc s = L_X6_goLetters_175 F k208 1 (nI (97 + a)) (nI T') fv (nI (j' + c)) acc' s') ∧ NR P ρ (rd + c) tl' tot' last' falls' most' cnt' lat' s' := by
  intro c
  induction c with
  | zero =>
    intro j T fu rd tl acc tot last falls most cnt lat s hj hT hf hrd h
    obtain ⟨fu, rfl⟩ : ∃ z, fu = z + 1 := ⟨fu - 1, by omega⟩
    have hj : j = T := by omega
    subst hj
    exact ⟨acc, tl, tot, last, falls, most, cnt, lat, s, fun k75 => by rw [L_X5_readBuffer_54, if_pos (nI_le (Nat.le_refl _) (by omega))]; rfl, fun T' j' fv _ _ k208 => rfl, h⟩
  | succ c ih =>
    intro j T fu rd tl acc tot last falls most cnt lat s hj hT hf hrd h
    obtain ⟨fu, rfl⟩ : ∃ z, fu = z + 1 := ⟨fu - 1, by omega⟩
    obtain ⟨r, tl1, tot1, last1, falls1, most1, cnt1, lat1, s1, q1, q2, q3⟩ := read_sim (F := F) hs hM h (by omega) ha hF
    obtain ⟨acc', tl', tot', last', falls', most', cnt', lat', s', i1, i2, i3⟩ := ih (j + 1) T fu (rd + 1) tl1 (acc + r) tot1 last1 falls1 most1 cnt1 lat1 s1 (by omega) hT (by omega) (by omega) q3
    rw [show rd + 1 + c = rd + (c + 1) by omega] at i1 i3
    refine ⟨acc', tl', tot', last', falls', most', cnt', lat', s', fun k75 => ?_, fun T' j' fv hT1 hT2 k208 => ?_, i3⟩
    · rw [L_X5_readBuffer_54, if_neg (nI_ge (by omega) (by omega)), q1]
      simp only [bnd, nm]
      rw [nI_1]
      exact i1 k75
    · rw [← Nat.add_assoc, L_X6_goLetters_175, if_neg (nI_ge (by omega) (by omega)), if_neg (show ¬ (1 : Int32) = 0 by decide), show (97 : Int32) = nI 97 from rfl, pk_sub (by omega), show 97 + a - 97 = a by omega, q2]
      simp only [bnd, nm]
      rw [nI_1]
      have := i2 T' (j' + 1) fv (by omega) hT2 k208
      rw [show j' + 1 + c = j' + (c + 1) by omega] at this
      exact this
/-- the buffer's letters are read alike -/
theorem rb_sim {F b n ρ : Nat} {P : Nat → Nat} {g : Nat → Nat} {pats rows sh en l codes text : Nat → Int32} {C : Nat → Nat} (hC : CO codes text b C) (hs : SP pats P) (hM : MO P n g rows sh en l) (hF : 600 ≤ F) : ∀ (N c k fu fv rd tl : Nat) (f : Bool) (acc let0 x tot last falls most : Int32) (cnt lat s : Nat → Int32), c ≤ N → k + c = b → c < fu → c < fv → WL C c k f → (f = true → k < b → isT (C k) = false) → rd + told C c k < 2 ^ 29 → NR P ρ rd tl tot last falls most cnt lat s → ∃ t' w' x' acc' tl' tot' last' falls' most' cnt' lat' s', L_X5_readBuffer_6 F (nI b) codes l en (nI ρ) pats rows sh fu acc let0 (nI k) (nI tl) (nI rd) last falls most cnt lat tot = some (acc', nI tl', nI (rd + told C c k), last', falls', most', cnt', lat', tot') ∧ L_X6_goLetters_20 F 1 (nI b) text fv (nI k) 0 x acc s = some (t', w', x', acc', s') ∧ NR P ρ (rd + told C c k) tl' tot' last' falls' most' cnt' lat' s' := by
  intro N
  have hb := hC.1
  induction N with
  | zero =>
    intro c k fu fv rd tl f acc let0 x tot last falls most cnt lat s hN hk hf hv hW hT hrd h
    obtain ⟨fu, rfl⟩ : ∃ z, fu = z + 1 := ⟨fu - 1, by omega⟩
    obtain ⟨fv, rfl⟩ : ∃ z, fv = z + 1 := ⟨fv - 1, by omega⟩
    have hc : c = 0 := by omega
    subst hc
    have hk : k = b := by omega
    subst hk
    refine ⟨nI k, 0, x, acc, tl, tot, last, falls, most, cnt, lat, s, ?_, ?_, h⟩
    · rw [L_X5_readBuffer_6, if_pos (nI_le (Nat.le_refl _) (by omega))]
      rfl
    · rw [L_X6_goLetters_20, if_pos (nI_le (Nat.le_refl _) (by omega))]
  | succ N ih =>
    intro c k fu fv rd tl f acc let0 x tot last falls most cnt lat s hN hk hf hv hW hT hrd h
    rcases Nat.eq_zero_or_pos c with z | z
    · exact ih c k fu fv rd tl f acc let0 x tot last falls most cnt lat s (by omega) hk hf hv hW hT hrd h
    obtain ⟨c, rfl⟩ : ∃ y, c = y + 1 := ⟨c - 1, by omega⟩
    obtain ⟨fu, rfl⟩ : ∃ z, fu = z + 1 := ⟨fu - 1, by omega⟩
    obtain ⟨fv, rfl⟩ : ∃ z, fv = z + 1 := ⟨fv - 1, by omega⟩
    obtain ⟨c1, c2, c3⟩ := hC.2 k (by omega)
    have hl : isL (C k) = true := by
      rcases hW.1 with e | e
      · exact e
      · have := hT e.1 (by omega)
        rw [e.2] at this
        cases this
    have hlr := isL_iff.mp hl
    have hnT : isT (C k) = false := notboth hl
    obtain ⟨a, ha⟩ : ∃ a, C k = 97 + a := ⟨C k - 97, by omega⟩
    have ha4 : a < 4 := by omega
    have htold : told C (c + 1) k = 1 + told C c (k + 1) := by rw [told, if_neg (by rw [hnT]; decide)]
    have hW2 : WL C c (k + 1) true := by rw [← hl]; exact hW.2
    rw [htold] at hrd
    -- one letter
    obtain ⟨acc1, tl1, tot1, last1, falls1, most1, cnt1, lat1, s1, q1, q2, q3⟩ := reads_loop (F := F) (y3 := nI k) hs hM ha4 (by omega) 1 0 1 F rd tl acc tot last falls most cnt lat s (by omega) (by omega) (by omega) (by omega) h
    rw [L_X5_readBuffer_6, if_neg (nI_ge (by omega) (by omega)), at_in (by omega) (by decide), c1]
    simp only [bnd]
    rw [isLetterCode0 c3]
    simp only [jp, nm]
    rw [if_b2, if_pos hl, lettersOf0 c3, if_neg (show ¬ isT (C k) = true by rw [hnT]; decide)]
    simp only []
    rw [show nI (C k) - 97 = nI a by rw [ha]; exact pk_sub (a := 97 + a) (b := 97) (by omega) |>.trans (by rw [show 97 + a - 97 = a by omega])]
    rw [show nI 0 = (0 : Int32) from rfl] at q1
    rw [q1]
    rw [L_X6_goLetters_20, if_neg (nI_ge (by omega) (by omega)), if_pos rfl, grd_t (inb_nI (by omega) (by decide)), nI_clamp (by omega), c2]
    simp only [nm]
    rw [in6L c3]
    simp only [bnd, jp]
    rw [if_b2, if_pos hl, grd_t (show bo 0 = true by decide), if_pos True.intro, if_pos True.intro, nI_1, ha]
    by_cases hd : k + 1 < b ∧ isT (C (k + 1)) = true
    · obtain ⟨hk1, hT2⟩ := hd
      obtain ⟨c, rfl⟩ : ∃ y, c = y + 1 := ⟨c - 1, by omega⟩
      obtain ⟨fu, rfl⟩ : ∃ z, fu = z + 1 := ⟨fu - 1, by omega⟩
      obtain ⟨d1, d2, d3⟩ := hC.2 (k + 1) hk1
      have hr := isT_iff.mp hT2
      have hnl : isL (C (k + 1)) = false := by unfold isL; exact decide_eq_false (by omega)
      obtain ⟨e, he⟩ : ∃ e, C (k + 1) = 49 + e := ⟨C (k + 1) - 49, by omega⟩
      have htold2 : told C (c + 1) (k + 1) = e + told C c (k + 2) := by
        rw [told, if_pos hT2, he, show 49 + e - 49 = e by omega]
      rw [htold2] at hrd
      obtain ⟨acc2, tl2, tot2, last2, falls2, most2, cnt2, lat2, s2, p1, p2, p3⟩ := reads_loop (F := F) (y3 := nI (k + 1)) hs hM ha4 (by omega) e 0 e F (rd + 1) tl1 acc1 tot1 last1 falls1 most1 cnt1 lat1 s1 (by omega) (by omega) (by omega) (by omega) q3
      have hW3 : WL C c (k + 2) false := by rw [← hnl]; exact hW2.2
      obtain ⟨t', w', x', acc', tl', tot', last', falls', most', cnt', lat', s', i1, i2, i3⟩ := ih c (k + 2) fu fv (rd + 1 + e) tl2 false acc2 (nI a) (x + nI (1 + e)) tot2 last2 falls2 most2 cnt2 lat2 s2 (by omega) (by omega) (by omega) (by omega) hW3 (fun h => by cases h) (by omega) p3
      rw [show rd + 1 + e + told C c (k + 2) = rd + told C (c + 1 + 1) k by rw [htold, htold2]; omega] at i1 i3
      refine ⟨t', w', x', acc', tl', tot', last', falls', most', cnt', lat', s', ?_, ?_, i3⟩
      · rw [L_X5_readBuffer_6, if_neg (nI_ge (by omega) (by omega)), at_in (by omega) (by decide), d1]
        simp only [bnd]
        rw [isLetterCode0 d3]
        simp only [jp, nm]
        rw [if_b2, if_neg (show ¬ isL (C (k + 1)) = true by rw [hnl]; decide), lettersOf0 d3, if_pos hT2, he, show 49 + e - 49 = e by omega]
        simp only []
        rw [show nI 0 = (0 : Int32) from rfl] at p1
        rw [p1, nI_1]
        exact i1
      · rw [if_neg (nI_ge (by omega) (by omega)), grd_t (inb_nI (by omega) (by decide)), nI_clamp (by omega), d2, in6T d3]
        simp only []
        rw [if_b2, if_pos hT2, grd_t (inb_nI (by omega) (by decide)), he, show (48 : Int32) = nI 48 from rfl, pk_sub (by omega), show 49 + e - 48 = 1 + e by omega, if_neg (show ¬ nI (1 + e) ≤ 1 from nI_ge (a := 1) (by omega) (by omega))]
        obtain ⟨G, hG⟩ : ∃ G, F = G + 1 + e + 1 := ⟨F - e - 2, by omega⟩
        have m1 := q2 (1 + e) 0 (G + 1 + e) (by omega) (by omega)
        rw [← hG, show nI 0 = (0 : Int32) from rfl] at m1
        rw [m1]
        have m2 := p2 (1 + e) 1 (G + 1) (by omega) (by omega)
        rw [show 0 + 1 = 1 from rfl, m2, L_X6_goLetters_175, if_pos (nI_le (Nat.le_refl _) (by omega)), nI_1]
        exact i2
    · obtain ⟨t', w', x', acc', tl', tot', last', falls', most', cnt', lat', s', i1, i2, i3⟩ := ih c (k + 1) fu fv (rd + 1) tl1 true acc1 (nI a) (x + 1) tot1 last1 falls1 most1 cnt1 lat1 s1 (by omega) (by omega) (by omega) (by omega) hW2 (fun _ h => by
        cases hx : isT (C (k + 1)) with
        | false => rfl
        | true => exact absurd ⟨h, hx⟩ hd) (by omega) q3
      rw [show rd + 1 + told C c (k + 1) = rd + told C (c + 1) k by rw [htold]; omega] at i1 i3
      refine ⟨t', w', x', acc', tl', tot', last', falls', most', cnt', lat', s', i1, ?_, i3⟩
      obtain ⟨G, hG⟩ : ∃ G, F = G + 1 + 1 := ⟨F - 2, by omega⟩
      have m1 := q2 1 0 (G + 1) (by omega) (by omega)
      rw [← hG] at m1
      have m3 : ∀ k208, L_X6_goLetters_175 F k208 1 (nI (97 + a)) 1 F 0 acc s = k208 acc1 s1 := by
        intro k208
        refine Eq.trans (m1 k208) ?_
        rw [L_X6_goLetters_175, if_pos (nI_le (Nat.le_refl _) (by omega))]
      by_cases hk2 : b ≤ k + 1
      · rw [if_pos (nI_le hk2 (by omega)), if_pos (show (1 : Int32) ≤ 1 by decide), m3, nI_a0]
        exact i2
      · obtain ⟨d1, d2, d3⟩ := hC.2 (k + 1) (by omega)
        rw [if_neg (nI_ge (by omega) (by omega)), grd_t (inb_nI (by omega) (by decide)), nI_clamp (by omega), d2, in6T d3]
        simp only []
        rw [if_b2, if_neg (show ¬ isT (C (k + 1)) = true from fun e => hd ⟨by omega, e⟩), if_pos (show (1 : Int32) ≤ 1 by decide), m3, nI_a0]
        exact i2
