/-- no error in the rest of a text of letters; f: a letter is right before -/
def WL (C : Nat → Nat) : Nat → Nat → Bool → Prop
  | 0, _, _ => True
  | c + 1, k, f => (isL (C k) = true ∨ (f = true ∧ isT (C k) = true)) ∧ WL C c (k + 1) (isL (C k))
def told (C : Nat → Nat) : Nat → Nat → Nat
  | 0, _ => 0
  | c + 1, k => (if isT (C k) = true then C k - 49 else 1) + told C c (k + 1)
theorem told_le (C : Nat → Nat) : ∀ c k, told C c k ≤ 8 * c := by
  intro c
  induction c with
  | zero => intro k; exact Nat.le_refl 0
  | succ c ih =>
    intro k
    have := ih (k + 1)
    rw [told]
    by_cases h : isT (C k) = true
    · have := isT_iff.mp h
      rw [if_pos h]; omega
    · rw [if_neg h]; omega
theorem told0 {F b : Nat} {codes text : Nat → Int32} {C : Nat → Nat} (hC : CO codes text b C) (hF : 300 ≤ F) : D_X0_lettersTold F (nI b) codes = some (nI (told C b 0)) := by
  have hb := hC.1
  have key : ∀ (c k fu acc : Nat), k + c = b → c < fu → L_X0_lettersTold_4 F (nI b) codes fu (nI acc) (nI k) = some (nI (acc + told C c k)) := by
    intro c
    induction c with
    | zero =>
      intro k fu acc hk hf
      obtain ⟨fu, rfl⟩ : ∃ z, fu = z + 1 := ⟨fu - 1, by omega⟩
      have hk : k = b := by omega
      subst hk
      rw [L_X0_lettersTold_4, if_pos (nI_le (Nat.le_refl _) (by omega))]
      rfl
    | succ c ih =>
      intro k fu acc hk hf
      obtain ⟨fu, rfl⟩ : ∃ z, fu = z + 1 := ⟨fu - 1, by omega⟩
      obtain ⟨c1, c2, c3⟩ := hC.2 k (by omega)
      rw [L_X0_lettersTold_4, if_neg (nI_ge (by omega) (by omega)), at_in (by omega) (by decide), c1]
      simp only [bnd, nm]
      rw [lettersOf0 c3]
      simp only []
      rw [nI_add, nI_1, ih (k + 1) fu _ (by omega) (by omega), told, Nat.add_assoc]
  have := key b 0 F 0 (by omega) (by omega)
  rw [Nat.zero_add] at this
  exact this
theorem notboth {c : Nat} (h : isL c = true) : isT c = false := by
  have := isL_iff.mp h
  unfold isT
  exact decide_eq_false (by omega)
/-- the first error in letters, and how many letters are told before it; nothing is read -/
theorem fel_sim {F b : Nat} {codes text : Nat → Int32} {C : Nat → Nat} (hC : CO codes text b C) (hF : 300 ≤ F) (s : Nat → Int32) : ∀ (N c k fu fv acc : Nat) (f : Bool), c ≤ N → k + c = b → c < fu → c < fv → (f = true → k < b → isT (C k) = false) → ∃ t w x, L_X0_firstErrorInLetters_4 F (nI b) codes fu (b2 f) (nI k) = some (nI t) ∧ L_X6_goLetters_20 F 0 (nI b) text fv (nI k) 0 (nI acc) 0 s = some (nI t, b2 w, nI x, 0, s) ∧ t ≤ b ∧ (w = true → t < b) ∧ (w = false → t = b ∧ WL C c k f ∧ x = acc + told C c k) := by
  intro N
  have hb := hC.1
  induction N with
  | zero =>
    intro c k fu fv acc f hN hk hf hv hT
    obtain ⟨fu, rfl⟩ : ∃ z, fu = z + 1 := ⟨fu - 1, by omega⟩
    obtain ⟨fv, rfl⟩ : ∃ z, fv = z + 1 := ⟨fv - 1, by omega⟩
    have hc : c = 0 := by omega
    subst hc
    have hk : k = b := by omega
    subst hk
    refine ⟨k, false, acc, ?_, ?_, Nat.le_refl k, fun h => (by cases h), fun _ => ⟨rfl, trivial, rfl⟩⟩
    · rw [L_X0_firstErrorInLetters_4, if_pos (nI_le (Nat.le_refl _) (by omega))]
    · rw [L_X6_goLetters_20, if_pos (nI_le (Nat.le_refl _) (by omega))]
      rfl
  | succ N ih =>
    intro c k fu fv acc f hN hk hf hv hT
    rcases Nat.eq_zero_or_pos c with z | z
    · exact ih c k fu fv acc f (by omega) hk hf hv hT
    obtain ⟨c, rfl⟩ : ∃ y, c = y + 1 := ⟨c - 1, by omega⟩
    obtain ⟨fu, rfl⟩ : ∃ z, fu = z + 1 := ⟨fu - 1, by omega⟩
    obtain ⟨fv, rfl⟩ : ∃ z, fv = z + 1 := ⟨fv - 1, by omega⟩
    obtain ⟨c1, c2, c3⟩ := hC.2 k (by omega)
    rw [L_X0_firstErrorInLetters_4, if_neg (nI_ge (by omega) (by omega)), at_in (by omega) (by decide), c1]
    simp only [bnd]
    rw [isLetterCode0 c3]
    simp only [jp, nm]
    rw [if_b2, if_b2, isTimesCode0 c3]
    simp only []
    rw [if_b2, L_X6_goLetters_20, if_neg (nI_ge (by omega) (by omega)), if_pos rfl, grd_t (inb_nI (by omega) (by decide)), nI_clamp (by omega), c2]
    simp only [nm]
    rw [in6L c3]
    simp only [bnd, jp]
    rw [if_b2]
    by_cases hl : isL (C k) = true
    · rw [if_pos hl, if_pos hl, grd_t (show bo 0 = true by decide), if_pos True.intro, if_pos True.intro, nI_1, hl]
      have hnT : isT (C k) = false := notboth hl
      have h175 : ∀ (k208 : Int32 → (Nat → Int32) → Option (Int32 × Int32 × Int32 × Int32 × (Nat → Int32))) (y2 y3 : Int32), L_X6_goLetters_175 F k208 0 y2 y3 F 0 0 s = k208 0 s := by
        intro k208 y2 y3
        obtain ⟨F, rfl⟩ : ∃ z, F = z + 1 := ⟨F - 1, by omega⟩
        rw [L_X6_goLetters_175]
        by_cases h : y3 ≤ 0
        · rw [if_pos h]
        · rw [if_neg h, if_pos rfl]
      by_cases hk2 : b ≤ k + 1
      · rw [if_pos (nI_le hk2 (by omega)), if_pos (show (1 : Int32) ≤ 1 by decide)]
        rw [h175, nI_a0, show (1 : Int32) = b2 true from rfl]
        obtain ⟨t, w, x, i1, i2, i3, i4, i5⟩ := ih c (k + 1) fu fv (acc + 1) true (by omega) (by omega) (by omega) (by omega) (fun _ h => absurd h (by omega))
        refine ⟨t, w, x, i1, ?_, i3, i4, fun hw => ?_⟩
        · rw [show nI acc + b2 true = nI (acc + 1) from nI_1 acc]
          exact i2
        · obtain ⟨j1, j2, j3⟩ := i5 hw
          refine ⟨j1, ⟨Or.inl hl, by rw [hl]; exact j2⟩, ?_⟩
          rw [told, if_neg (by rw [hnT]; decide), j3]
          omega
      · obtain ⟨d1, d2, d3⟩ := hC.2 (k + 1) (by omega)
        rw [if_neg (nI_ge (by omega) (by omega)), grd_t (inb_nI (by omega) (by decide)), nI_clamp (by omega), d2, in6T d3]
        simp only []
        rw [if_b2]
        by_cases hT2 : isT (C (k + 1)) = true
        · have hr := isT_iff.mp hT2
          obtain ⟨c, rfl⟩ : ∃ y, c = y + 1 := ⟨c - 1, by omega⟩
          obtain ⟨fu, rfl⟩ : ∃ z, fu = z + 1 := ⟨fu - 1, by omega⟩
          rw [if_pos hT2, grd_t (inb_nI (by omega) (by decide)), show (48 : Int32) = nI 48 from rfl, pk_sub (by omega), if_neg (show ¬ nI (C (k + 1) - 48) ≤ 1 from nI_ge (a := 1) (by omega) (by omega)), h175, nI_1, nI_add]
          have hnl : isL (C (k + 1)) = false := by unfold isL; exact decide_eq_false (by omega)
          obtain ⟨t, w, x, i1, i2, i3, i4, i5⟩ := ih c (k + 2) fu fv (acc + (C (k + 1) - 48)) false (by omega) (by omega) (by omega) (by omega) (fun h => by cases h)
          refine ⟨t, w, x, ?_, i2, i3, i4, fun hw => ?_⟩
          · rw [L_X0_firstErrorInLetters_4, if_neg (nI_ge (by omega) (by omega)), at_in (by omega) (by decide), d1]
            simp only [bnd]
            rw [isLetterCode0 d3]
            simp only [jp, nm]
            rw [if_b2, if_b2, isTimesCode0 d3]
            simp only []
            rw [if_b2, if_neg (show ¬ isL (C (k + 1)) = true by rw [hnl]; decide), if_pos True.intro, if_pos hT2, hnl, nI_1]
            exact i1
          · obtain ⟨j1, j2, j3⟩ := i5 hw
            refine ⟨j1, ⟨Or.inl hl, Or.inr ⟨hl, hT2⟩, by rw [hnl]; exact j2⟩, ?_⟩
            rw [told, if_neg (by rw [hnT]; decide), told, if_pos hT2, j3]
            have : told C c (k + 1 + 1) = told C c (k + 2) := rfl
            omega
        · rw [if_neg hT2, if_pos (show (1 : Int32) ≤ 1 by decide), h175, nI_a0]
          obtain ⟨t, w, x, i1, i2, i3, i4, i5⟩ := ih c (k + 1) fu fv (acc + 1) true (by omega) (by omega) (by omega) (by omega) (fun _ _ => by simpa using hT2)
          refine ⟨t, w, x, i1, ?_, i3, i4, fun hw => ?_⟩
          · rw [nI_1 acc]
            exact i2
          · obtain ⟨j1, j2, j3⟩ := i5 hw
            refine ⟨j1, ⟨Or.inl hl, by rw [hl]; exact j2⟩, ?_⟩
            rw [told, if_neg (by rw [hnT]; decide), j3]
            omega
    · rw [if_neg hl, if_neg hl]
      have hbad : (if f = true then (if isT (C k) = true then L_X0_firstErrorInLetters_4 F (nI b) codes fu (b2 (isL (C k))) (nI k + 1) else some (nI k)) else some (nI k)) = some (nI k) := by
        by_cases hf1 : f = true
        · rw [if_pos hf1, if_neg (by rw [hT hf1 (by omega)]; decide)]
        · rw [if_neg hf1]
      rw [hbad]
      refine ⟨k, true, acc + 1, rfl, ?_, by omega, fun _ => by omega, fun h => by cases h⟩
      have h175 : ∀ (k208 : Int32 → (Nat → Int32) → Option (Int32 × Int32 × Int32 × Int32 × (Nat → Int32))) (y2 y3 : Int32), L_X6_goLetters_175 F k208 0 y2 y3 F 0 0 s = k208 0 s := by
        intro k208 y2 y3
        obtain ⟨F, rfl⟩ : ∃ z, F = z + 1 := ⟨F - 1, by omega⟩
        rw [L_X6_goLetters_175]
        by_cases h : y3 ≤ 0
        · rw [if_pos h]
        · rw [if_neg h, if_pos rfl]
      obtain ⟨fv, rfl⟩ : ∃ z, fv = z + 1 := ⟨fv - 1, by omega⟩
      rw [grd_t (show bo 1 = true by decide)]
      rw [if_neg (show ¬ (1 : Int32) = 0 by decide), if_neg (show ¬ (1 : Int32) = 0 by decide), if_pos (show (1 : Int32) ≤ 1 by decide), h175, nI_a0, nI_a0, nI_1, L_X6_goLetters_20, if_neg (nI_ge (by omega) (by omega)), if_neg (show ¬ (1 : Int32) = 0 by decide)]
      rfl
