/-- an ending of the text that is a state is an ending of its state -/
theorem isEnd_sa {P : Nat → Nat} {k j r b : Nat} (hr : V k r) (hb : V j b) (h : isSt P b = true) : isEndB r b = isEndB (sa P r k) b := by
  obtain ⟨m, m1, m2, m3, m4⟩ := sa_ex P r k
  have hvm : V m (sa P r k) := by rw [m2]; exact V_suf r m
  apply Bool.eq_iff_iff.mpr
  unfold isEndB
  rw [decide_eq_true_eq, decide_eq_true_eq, V_ln hr, V_ln hvm, V_ln hb, m2]
  constructor
  · rintro ⟨h1, h2⟩
    have hle : j ≤ m := by
      rcases Nat.lt_or_ge m j with c | c
      · have := m4 j c h1
        rw [h2, h] at this
        exact absurd this (by decide)
      · exact c
    exact ⟨hle, by rw [suf_suf r hle]; exact h2⟩
  · rintro ⟨h1, h2⟩
    rw [suf_suf r h1] at h2
    exact ⟨by omega, h2⟩
theorem isEnd_1 (r : Nat) : isEndB r 1 = true := by
  unfold isEndB
  rw [decide_eq_true_eq, V_ln V_0]
  exact ⟨Nat.zero_le _, suf_0 r⟩
theorem beginsWith5 {F m r : Nat} {pats : Nat → Int32} {P : Nat → Nat} (hs : SP pats P) (ho : POs P) (hr : V m r) (hm : m ≤ 9) (hF : 100 ≤ F) : D_X5_patternsThatBeginWith F (nI r) pats = some (nI (bgn P r)) := by
  have key : ∀ (c k acc fu : Nat), k + c = 8 → c < fu → L_X5_patternsThatBeginWith_4 F (nI r) pats fu (nI acc) (nI k) = some (nI (acc + cntF (fun p => decide (P p ≠ 0) && isBegB (P p) r) c k)) := by
    intro c
    induction c with
    | zero =>
      intro k acc fu hk hf
      obtain ⟨fu, rfl⟩ : ∃ z, fu = z + 1 := ⟨fu - 1, by omega⟩
      have hk : k = 8 := by omega
      subst hk
      rw [L_X5_patternsThatBeginWith_4, if_pos (show (8 : Int32) ≤ nI 8 from by decide)]
      rfl
    | succ c ih =>
      intro k acc fu hk hf
      obtain ⟨fu, rfl⟩ : ∃ z, fu = z + 1 := ⟨fu - 1, by omega⟩
      rw [L_X5_patternsThatBeginWith_4, if_neg (show ¬ (8 : Int32) ≤ nI k from nI_ge (a := k) (b := 8) (by omega) (by omega)), patternIn5 hs (by omega)]
      simp only [bnd, nm]
      rw [if_nI0 (a := P k) (by have := PO_lt (ho k (by omega)); omega), nI_1, nI_1]
      simp only [cntF]
      by_cases h0 : P k = 0
      · rw [if_pos h0, ih (k + 1) acc fu (by omega) (by omega)]
        simp [h0]
      · obtain ⟨q1, q2, q3⟩ := PO_V (ho k (by omega)) h0
        rw [if_neg h0, beginsWith3 q3 (by omega) hr hm (by omega)]
        simp only []
        rw [if_b2, ih (k + 1) acc fu (by omega) (by omega), ih (k + 1) (acc + 1) fu (by omega) (by omega)]
        by_cases hb : isBegB (P k) r = true <;> simp [h0, hb, Nat.add_assoc]
  have := key 8 0 0 F (by omega) (by omega)
  rw [Nat.zero_add] at this
  exact this
theorem sum5 {F : Nat} {pats : Nat → Int32} {P : Nat → Nat} (hs : SP pats P) (ho : POs P) (hF : 100 ≤ F) : D_X5_sumOfLengths F pats = some (nI (lsum P)) := by
  have key : ∀ (c k acc fu : Nat), k + c = 8 → c < fu → L_X5_sumOfLengths_4 F pats fu (nI acc) (nI k) = some (nI (acc + sumF (fun p => ln (P p)) c k)) := by
    intro c
    induction c with
    | zero =>
      intro k acc fu hk hf
      obtain ⟨fu, rfl⟩ : ∃ z, fu = z + 1 := ⟨fu - 1, by omega⟩
      have hk : k = 8 := by omega
      subst hk
      rw [L_X5_sumOfLengths_4, if_pos (show (8 : Int32) ≤ nI 8 from by decide)]
      rfl
    | succ c ih =>
      intro k acc fu hk hf
      obtain ⟨fu, rfl⟩ : ∃ z, fu = z + 1 := ⟨fu - 1, by omega⟩
      rw [L_X5_sumOfLengths_4, if_neg (show ¬ (8 : Int32) ≤ nI k from nI_ge (a := k) (b := 8) (by omega) (by omega)), patternIn5 hs (by omega)]
      simp only [bnd, nm]
      rw [(len3P ho (show k < 8 by omega) (by omega)).1]
      simp only [sumF]
      rw [nI_add, nI_1, ih (k + 1) _ fu (by omega) (by omega), Nat.add_assoc]
  have := key 8 0 0 F (by omega) (by omega)
  rw [Nat.zero_add] at this
  exact this
theorem number5 {F : Nat} {pats : Nat → Int32} {P : Nat → Nat} (hs : SP pats P) (ho : POs P) (hF : 100 ≤ F) : D_X5_numberOfPatterns F pats = some (nI (bgn P 1)) := by
  have key : ∀ (c k acc fu : Nat), k + c = 8 → c < fu → L_X5_numberOfPatterns_4 F pats fu (nI acc) (nI k) = some (nI (acc + cntF (fun p => decide (P p ≠ 0) && isBegB (P p) 1) c k)) := by
    intro c
    induction c with
    | zero =>
      intro k acc fu hk hf
      obtain ⟨fu, rfl⟩ : ∃ z, fu = z + 1 := ⟨fu - 1, by omega⟩
      have hk : k = 8 := by omega
      subst hk
      rw [L_X5_numberOfPatterns_4, if_pos (show (8 : Int32) ≤ nI 8 from by decide)]
      rfl
    | succ c ih =>
      intro k acc fu hk hf
      obtain ⟨fu, rfl⟩ : ∃ z, fu = z + 1 := ⟨fu - 1, by omega⟩
      rw [L_X5_numberOfPatterns_4, if_neg (show ¬ (8 : Int32) ≤ nI k from nI_ge (a := k) (b := 8) (by omega) (by omega)), patternIn5 hs (by omega)]
      simp only [bnd, nm]
      rw [if_nI0 (a := P k) (by have := PO_lt (ho k (by omega)); omega), nI_1, nI_1, ih (k + 1) acc fu (by omega) (by omega), ih (k + 1) (acc + 1) fu (by omega) (by omega)]
      simp only [cntF]
      by_cases h0 : P k = 0
      · rw [if_pos h0]; simp [h0]
      · obtain ⟨q1, q2, q3⟩ := PO_V (ho k (by omega)) h0
        have hb : isBegB (P k) 1 = true := (isBegB_iff q3).mpr ⟨0, by omega, by rw [Nat.sub_zero]; exact V_end q3⟩
        rw [if_neg h0]; simp [h0, hb, Nat.add_assoc]
  have := key 8 0 0 F (by omega) (by omega)
  rw [Nat.zero_add] at this
  exact this

