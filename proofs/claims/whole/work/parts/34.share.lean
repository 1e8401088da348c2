theorem bits6_7 {F : Nat} : ∀ (K : Nat) (v : UInt64) (y : Int64) (q : Int64 × UInt64), bt K v y = some q → ∀ fu, K ≤ fu → ∀ k29, L_X6_bitsOfShare_7 F k29 fu y v = k29 q.1 q.2 := by
  intro K
  induction K with
  | zero => intro v y q h; cases h
  | succ K ih =>
    intro v y q h fu hf k29
    obtain ⟨fu, rfl⟩ : ∃ z, fu = z + 1 := ⟨fu - 1, by omega⟩
    rw [L_X6_bitsOfShare_7]
    simp only [bt] at h
    by_cases h1 : 0 ≤ (Op.cmpValue (FP.dcmp v 4607182418800017408) .g)
    · rw [if_pos h1] at h ⊢
      cases h
      rfl
    · rw [if_neg h1] at h ⊢
      by_cases h2 : nnan (FP.dmul v 4611686018427387904) = true
      · rw [if_pos h2] at h
        rw [grd_t h2]
        simp only [nm]
        exact ih _ _ _ h fu (by omega) k29
      · rw [if_neg h2] at h
        cases h
theorem bits5_10 {F : Nat} : ∀ (K : Nat) (v : UInt64) (y : Int64) (q : Int64 × UInt64), bt K v y = some q → ∀ fu j, K ≤ fu → j + K ≤ 1023 → ∀ k42, L_X5_bitsOf_10 F k42 fu v y (nI j) = k42 q.2 q.1 := by
  intro K
  induction K with
  | zero => intro v y q h; cases h
  | succ K ih =>
    intro v y q h fu j hf hj k42
    obtain ⟨fu, rfl⟩ : ∃ z, fu = z + 1 := ⟨fu - 1, by omega⟩
    rw [L_X5_bitsOf_10, if_neg (show ¬ (1023 : Int32) ≤ nI j from nI_ge (a := j) (b := 1023) (by omega) (by omega))]
    simp only [bt] at h
    by_cases h1 : 0 ≤ (Op.cmpValue (FP.dcmp v 4607182418800017408) .g)
    · rw [if_pos h1] at h ⊢
      cases h
      rfl
    · rw [if_neg h1] at h ⊢
      by_cases h2 : nnan (FP.dmul v 4611686018427387904) = true
      · rw [if_pos h2] at h
        rw [grd_t h2]
        simp only [nm]
        rw [nI_1]
        exact ih _ _ _ h fu (j + 1) (by omega) (by omega) k42
      · rw [if_neg h2] at h
        cases h
theorem bits_sim {F : Nat} {v : UInt64} (hv : okV v = true) (hF : 300 ≤ F) : ∃ z, D_X5_bitsOf F v = some z ∧ D_X6_bitsOfShare F v = some z := by
  unfold okV at hv
  cases hb : bt 8 v 1023 with
  | none => rw [hb] at hv; cases hv
  | some q =>
    rw [hb] at hv
    simp only [Bool.and_eq_true, decide_eq_true_eq] at hv
    obtain ⟨h1, h2, h3⟩ := hv
    refine ⟨q.1 * 4503599627370496 + FP.d2l (FP.dmul (FP.dsub q.2 4607182418800017408) 4841369599423283200), ?_, ?_⟩
    rotate_left
    · unfold D_X6_bitsOfShare
      refine Eq.trans (bits6_7 8 v 1023 q hb F (by omega) _) ?_
      rw [grd_t h2, grd_t h3]
    · unfold D_X5_bitsOf
      refine Eq.trans (bits5_10 8 v 1023 q hb F 0 (by omega) (by omega) _) ?_
      simp only [nm]
      rw [grd_t h2, grd_t h3, h1]
theorem lsum_le {P : Nat → Nat} (ho : POs P) : lsum P ≤ 64 := sumF_le (b := 8) 8 0 (fun p _ h => (len3P (F := 20) ho (by omega) (by omega)).2)
theorem sumF_pos {f : Nat → Nat} : ∀ c k, 0 < sumF f c k → ∃ p, k ≤ p ∧ p < k + c ∧ 0 < f p := by
  intro c
  induction c with
  | zero => intro k h; simp [sumF] at h
  | succ c ih =>
    intro k h
    rcases Nat.eq_zero_or_pos (f k) with e | e
    · simp only [sumF] at h
      obtain ⟨p, p1, p2, p3⟩ := ih (k + 1) (by omega)
      exact ⟨p, by omega, by omega, p3⟩
    · exact ⟨k, Nat.le_refl k, by omega, e⟩
/-- the share is told alike, and its bits can be counted -/
theorem sharing_sim {F n : Nat} {P : Nat → Nat} {g : Nat → Nat} {pats s st : Nat → Int32} {mn : Int32} (hs : SP pats P) (hs6 : SP s P) (hE : EP P n g) (hF : 300 ≤ F) : ∃ v st' mn', D_X5_sharing F pats (nI n) = some v ∧ D_X6_share F s st mn = some (v, st', mn') ∧ okV v = true := by
  have ho := hE.2.2.2
  have h9 := hE.2.1
  have hl := lsum_le ho
  unfold D_X5_sharing D_X6_share
  rw [sum5 hs ho (by omega), sum6 hs6 ho (by omega)]
  simp only [bnd]
  rw [if_nI0 (a := lsum P) (by omega)]
  rcases Nat.eq_zero_or_pos (lsum P) with z | z
  · exact ⟨_, st, mn, by rw [if_pos (show nI (lsum P) ≤ 0 by rw [z]; decide)], by rw [if_pos z], ok_one⟩
  · obtain ⟨p, p1, p2, p3⟩ := sumF_pos 8 0 z
    have h0 : P p ≠ 0 := by
      intro e
      rw [e, ln_0] at p3
      omega
    obtain ⟨i, i1, i2⟩ := hE.idx (pat_st ho (show p < 8 by omega) h0)
    obtain ⟨q1, q2, q3⟩ := PO_V (ho p (by omega)) h0
    have hi : 0 < i := by
      rcases Nat.eq_zero_or_pos i with e | e
      · subst e
        rw [hE.g0] at i2
        rw [← i2] at q3
        have := V_inj q3 V_0
        rw [← i2, V_ln V_0] at q1
        omega
      · exact e
    obtain ⟨f', n', g', r1, r2, r3, r4, r5⟩ := list6 (F := F) (f := st) (x := mn) hs6 ho (by omega)
    have hn : n' = n := (r3.uniq hE.1).1
    subst hn
    have hok := ok_all (n' - 1) (by omega) (lsum P) (by omega) (by omega) (by omega)
    rw [Bool.and_eq_true] at hok
    refine ⟨dv (n' - 1) (lsum P), f', nI n', ?_, ?_, hok.2⟩
    · rw [if_neg (show ¬ nI (lsum P) ≤ 0 from nI_nle (by omega) (by omega)), nI_s1 (by omega)]
      exact grd_t hok.1
    · rw [if_neg (by omega)]
      unfold D_X6_manyStates
      rw [r1]
      simp only [bnd]
      rw [nI_s1 (by omega)]
      exact grd_t hok.1
