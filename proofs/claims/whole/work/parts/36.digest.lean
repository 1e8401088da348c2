theorem TR.cong {P : Nat → Nat} {ρ rd tl : Nat} {s s' : Nat → Int32} (h : TR P ρ rd tl s) (hc : ∀ i, i < 31 → s' i = s i) : TR P ρ rd tl s' :=
  ⟨fun p hp => (hc p (by omega)).trans (h.1 p hp), h.2.1, h.2.2.1, (hc 24 (by decide)).trans h.2.2.2.1, (hc 25 (by decide)).trans h.2.2.2.2.1, h.2.2.2.2.2.1, (hc 26 (by decide)).trans h.2.2.2.2.2.2⟩
theorem dig_count {F n ρ rd tl sz : Nat} {P : Nat → Nat} {g : Nat → Nat} {pats rows sh en l s st : Nat → Int32} (hs : SP pats P) (hM : MO P n g rows sh en l) (hT : TR P ρ rd tl s) (hrd : rd < 2 ^ 30) (hst : AR st n g) (hF : 300 ≤ F) : ∀ (c k fu fv : Nat) (h : Int64), k + c = 10 → c < fu → c < fv → ∃ h', (∀ k29, L_X5_digest_6 F k29 (nI n) (nI tl) l (s 28) (nI rd) pats (s 30) (s 29) (s 27) (nI sz) fu h (nI k) = k29 h') ∧ ∀ k40, L_X6_digest_18 F k40 st (nI n) s (nI sz) fv (nI k) h = k40 h' := by
  intro c
  induction c with
  | zero =>
    intro k fu fv h hk hf hv
    obtain ⟨fu, rfl⟩ : ∃ z, fu = z + 1 := ⟨fu - 1, by omega⟩
    obtain ⟨fv, rfl⟩ : ∃ z, fv = z + 1 := ⟨fv - 1, by omega⟩
    have hk : k = 10 := by omega
    subst hk
    exact ⟨h, fun k29 => by rw [L_X5_digest_6, if_pos (show (10 : Int32) ≤ nI 10 from by decide)], fun k40 => by rw [L_X6_digest_18, if_pos (show (10 : Int32) ≤ nI 10 from by decide)]⟩
  | succ c ih =>
    intro k fu fv h hk hf hv
    obtain ⟨fu, rfl⟩ : ∃ z, fu = z + 1 := ⟨fu - 1, by omega⟩
    obtain ⟨fv, rfl⟩ : ∃ z, fv = z + 1 := ⟨fv - 1, by omega⟩
    obtain ⟨r, r1, r2⟩ := count_sim (sz := sz) hs hM hT hrd hst (show k ≤ 9 by omega) hF
    obtain ⟨h', i1, i2⟩ := ih (k + 1) fu fv (31 * h + r.toInt64) (by omega) (by omega) (by omega)
    refine ⟨h', fun k29 => ?_, fun k40 => ?_⟩
    · rw [L_X5_digest_6, if_neg (show ¬ (10 : Int32) ≤ nI k from nI_ge (a := k) (b := 10) (by omega) (by omega)), r1]
      simp only [bnd, nm, D_X5_hashed]
      rw [nI_1]
      exact i1 k29
    · rw [L_X6_digest_18, if_neg (show ¬ (10 : Int32) ≤ nI k from nI_ge (a := k) (b := 10) (by omega) (by omega)), r2]
      simp only [bnd, nm, D_X6_digestOne]
      rw [nI_1]
      exact i2 k40
theorem dig_pat6 {F n p : Nat} {P : Nat → Nat} {g : Nat → Nat} {pats rows sh en l cnt lat s st : Nat → Int32} (hs : SP pats P) (hs6 : SP s P) (hM : MO P n g rows sh en l) (hst : AR st n g) (hc : ∀ p, p < 8 → s (8 + p) = cnt p) (hl : ∀ p, p < 8 → s (16 + p) = lat p) (hp : p < 8) (hF : 300 ≤ F) : ∀ (c k fu fv : Nat) (h : Int64), k + c = 6 → c < fu → c < fv → ∃ h', (∀ k34, L_X5_withPattern_6 F k34 (nI p) pats l lat cnt fu h (nI k) = k34 h') ∧ ∀ k85, L_X6_digest_62 F k85 (nI p) st s fv (nI k) h = k85 h' := by
  intro c
  induction c with
  | zero =>
    intro k fu fv h hk hf hv
    obtain ⟨fu, rfl⟩ : ∃ z, fu = z + 1 := ⟨fu - 1, by omega⟩
    obtain ⟨fv, rfl⟩ : ∃ z, fv = z + 1 := ⟨fv - 1, by omega⟩
    have hk : k = 6 := by omega
    subst hk
    exact ⟨h, fun k29 => by rw [L_X5_withPattern_6, if_pos (show (6 : Int32) ≤ nI 6 from by decide)], fun k40 => by rw [L_X6_digest_62, if_pos (show (6 : Int32) ≤ nI 6 from by decide)]⟩
  | succ c ih =>
    intro k fu fv h hk hf hv
    obtain ⟨fu, rfl⟩ : ∃ z, fu = z + 1 := ⟨fu - 1, by omega⟩
    obtain ⟨fv, rfl⟩ : ∃ z, fv = z + 1 := ⟨fv - 1, by omega⟩
    obtain ⟨r, r1, r2, r3⟩ := pattern_sim (F := F) (w := k) hs hs6 hM hst hc hl hp (by omega) hF
    obtain ⟨h', i1, i2⟩ := ih (k + 1) fu fv (31 * h + r.toInt64) (by omega) (by omega) (by omega)
    refine ⟨h', fun k29 => ?_, fun k40 => ?_⟩
    · rw [L_X5_withPattern_6, if_neg (show ¬ (6 : Int32) ≤ nI k from nI_ge (a := k) (b := 6) (by omega) (by omega)), r1]
      simp only [bnd, nm, D_X5_hashed]
      rw [nI_1]
      exact i1 k29
    · rw [L_X6_digest_62, if_neg (show ¬ (6 : Int32) ≤ nI k from nI_ge (a := k) (b := 6) (by omega) (by omega)), r2]
      simp only [bnd, nm, D_X6_digestOne]
      rw [nI_1]
      exact i2 k40
theorem dig_let {F n p : Nat} {P : Nat → Nat} {g : Nat → Nat} {pats rows sh en l cnt lat s st : Nat → Int32} (hs : SP pats P) (hs6 : SP s P) (hM : MO P n g rows sh en l) (hst : AR st n g) (hc : ∀ p, p < 8 → s (8 + p) = cnt p) (hl : ∀ p, p < 8 → s (16 + p) = lat p) (hp : p < 8) (hF : 300 ≤ F) : ∀ (c k fu fv : Nat) (h : Int64), k + c = ln (P p) → c < fu → c < fv → ∃ h', (∀ k78, L_X5_withPattern_47 F k78 (nI p) (nI (ln (P p))) pats fu h (nI k) = k78 h') ∧ ∀ k114, L_X6_digest_87 F k114 (nI p) st s fv (nI k) h = k114 h' := by
  intro c
  have ho := hM.1.2.2.2
  have h8 : ln (P p) ≤ 8 := by
    rcases Nat.eq_zero_or_pos (P p) with z | z
    · rw [z, ln_0]; exact Nat.zero_le _
    · exact (PO_V (ho p hp) (by omega)).2.1
  obtain ⟨q, q1, q2, q3⟩ := pattern_sim (F := F) (w := 0) hs hs6 hM hst hc hl hp (by omega) hF
  have q4 := q3 rfl
  subst q4
  induction c with
  | zero =>
    intro k fu fv h hk hf hv
    obtain ⟨fu, rfl⟩ : ∃ z, fu = z + 1 := ⟨fu - 1, by omega⟩
    obtain ⟨fv, rfl⟩ : ∃ z, fv = z + 1 := ⟨fv - 1, by omega⟩
    have hk : k = ln (P p) := by omega
    subst hk
    refine ⟨h, fun k29 => by rw [L_X5_withPattern_47, if_pos (nI_le (Nat.le_refl _) (by omega))], fun k40 => ?_⟩
    rw [L_X6_digest_87, show (0 : Int32) = nI 0 from rfl, q2]
    simp only [bnd]
    rw [if_pos (nI_le (Nat.le_refl _) (by omega))]
  | succ c ih =>
    intro k fu fv h hk hf hv
    obtain ⟨fu, rfl⟩ : ∃ z, fu = z + 1 := ⟨fu - 1, by omega⟩
    obtain ⟨fv, rfl⟩ : ∃ z, fv = z + 1 := ⟨fv - 1, by omega⟩
    obtain ⟨r, r1, r2⟩ := letter_sim (F := F) (k := k) hs6 ho hp (by omega) (by omega)
    obtain ⟨h', i1, i2⟩ := ih (k + 1) fu fv (31 * h + r.toInt64) (by omega) (by omega) (by omega)
    refine ⟨h', fun k29 => ?_, fun k40 => ?_⟩
    · rw [L_X5_withPattern_47, if_neg (nI_ge (by omega) (by omega)), patternIn5 hs hp]
      simp only [bnd]
      rw [r1]
      simp only [nm, D_X5_hashed]
      rw [nI_1]
      exact i1 k29
    · rw [L_X6_digest_87, show (0 : Int32) = nI 0 from rfl, q2]
      simp only [bnd]
      rw [if_neg (nI_ge (by omega) (by omega)), r2]
      simp only [nm, D_X6_digestOne]
      rw [nI_1]
      exact i2 k40
theorem ln_le8 {c : Nat} (h : PO c) : ln c ≤ 8 := by
  rcases Nat.eq_zero_or_pos c with z | z
  · rw [z, ln_0]; exact Nat.zero_le _
  · exact (PO_V h (by omega)).2.1
theorem len3P' {F c : Nat} (h : PO c) (hF : 100 ≤ F) : D_X3_lengthOf F (nI c) = some (nI (ln c)) := by
  rcases Nat.eq_zero_or_pos c with z | z
  · rw [z, ln_0]; exact len3_0 (by omega)
  · obtain ⟨q1, q2, q3⟩ := PO_V h (by omega)
    exact len3 q3 (by omega) (by omega)
theorem dig_pats {F n ρ rd tl : Nat} {P : Nat → Nat} {g : Nat → Nat} {pats rows sh en l cnt lat s st : Nat → Int32} (hs : SP pats P) (hM : MO P n g rows sh en l) (hT : TR P ρ rd tl s) (hrd : rd < 2 ^ 30) (hst : AR st n g) (hc : ∀ p, p < 8 → s (8 + p) = cnt p) (hl : ∀ p, p < 8 → s (16 + p) = lat p) (hF : 300 ≤ F) : ∀ (c k fu fv : Nat) (h : Int64), k + c = 8 → c < fu → c < fv → ∃ h', (∀ k63, L_X5_digest_44 F k63 (nI tl) l pats rows lat cnt fu h (nI k) = k63 h') ∧ ∀ k130, L_X6_digest_54 F k130 st s fv (nI k) h = k130 h' := by
  intro c
  have ho := hM.1.2.2.2
  have hs6 := hT.1
  induction c with
  | zero =>
    intro k fu fv h hk hf hv
    obtain ⟨fu, rfl⟩ : ∃ z, fu = z + 1 := ⟨fu - 1, by omega⟩
    obtain ⟨fv, rfl⟩ : ∃ z, fv = z + 1 := ⟨fv - 1, by omega⟩
    have hk : k = 8 := by omega
    subst hk
    exact ⟨h, fun k29 => by rw [L_X5_digest_44, if_pos (show (8 : Int32) ≤ nI 8 from by decide)], fun k40 => by rw [L_X6_digest_54, if_pos (show (8 : Int32) ≤ nI 8 from by decide)]⟩
  | succ c ih =>
    intro k fu fv h hk hf hv
    obtain ⟨fu, rfl⟩ : ∃ z, fu = z + 1 := ⟨fu - 1, by omega⟩
    obtain ⟨fv, rfl⟩ : ∃ z, fv = z + 1 := ⟨fv - 1, by omega⟩
    have h8 := ln_le8 (ho k (by omega))
    obtain ⟨h1, a1, a2⟩ := dig_pat6 hs hs6 hM hst hc hl (show k < 8 by omega) hF 6 0 F F h (by omega) (by omega) (by omega)
    obtain ⟨h2, b1, b2⟩ := dig_let hs hs6 hM hst hc hl (show k < 8 by omega) hF (ln (P k)) 0 F F h1 (by omega) (by omega) (by omega)
    obtain ⟨r, c1, c2⟩ := lettersTo_sim (F := F) hs hM hT hrd (show k < 8 by omega) hF
    obtain ⟨h', i1, i2⟩ := ih (k + 1) fu fv (31 * h2 + r.toInt64) (by omega) (by omega) (by omega)
    refine ⟨h', fun k29 => ?_, fun k40 => ?_⟩
    · rw [L_X5_digest_44, if_neg (show ¬ (8 : Int32) ≤ nI k from nI_ge (a := k) (b := 8) (by omega) (by omega))]
      unfold D_X5_withPattern
      rw [show (0 : Int32) = nI 0 from rfl, a1, patternIn5 hs (by omega)]
      simp only [bnd]
      rw [len3P' (ho k (by omega)) (by omega)]
      simp only []
      rw [b1]
      rw [c1]
      simp only [nm, D_X5_hashed]
      rw [nI_1]
      exact i1 k29
    · rw [L_X6_digest_54, if_neg (show ¬ (8 : Int32) ≤ nI k from nI_ge (a := k) (b := 8) (by omega) (by omega))]
      rw [show (0 : Int32) = nI 0 from rfl, a2, b2, c2]
      simp only [bnd, nm, D_X6_digestOne]
      rw [nI_1]
      exact i2 k40
theorem dig_st9 {F n i : Nat} {P : Nat → Nat} {g : Nat → Nat} {pats rows sh en l s st : Nat → Int32} (hs : SP pats P) (hs6 : SP s P) (hM : MO P n g rows sh en l) (hst : AR st n g) (hi : i < n) (hF : 300 ≤ F) : ∀ (c k fu fv : Nat) (h : Int64), k + c = 9 → c < fu → c < fv → ∃ h', L_X5_withState_6 F (nI i) rows pats en sh l fu h (nI k) = some h' ∧ ∀ k165, L_X6_digest_142 F k165 (nI i) st s fv (nI k) h = k165 h' := by
  intro c
  induction c with
  | zero =>
    intro k fu fv h hk hf hv
    obtain ⟨fu, rfl⟩ : ∃ z, fu = z + 1 := ⟨fu - 1, by omega⟩
    obtain ⟨fv, rfl⟩ : ∃ z, fv = z + 1 := ⟨fv - 1, by omega⟩
    have hk : k = 9 := by omega
    subst hk
    exact ⟨h, by rw [L_X5_withState_6, if_pos (show (9 : Int32) ≤ nI 9 from by decide)], fun k40 => by rw [L_X6_digest_142, if_pos (show (9 : Int32) ≤ nI 9 from by decide)]⟩
  | succ c ih =>
    intro k fu fv h hk hf hv
    obtain ⟨fu, rfl⟩ : ∃ z, fu = z + 1 := ⟨fu - 1, by omega⟩
    obtain ⟨fv, rfl⟩ : ∃ z, fv = z + 1 := ⟨fv - 1, by omega⟩
    obtain ⟨r, r1, r2⟩ := state_sim (F := F) (w := k) hs hs6 hM hst hi (by omega) hF
    obtain ⟨h', i1, i2⟩ := ih (k + 1) fu fv (31 * h + r.toInt64) (by omega) (by omega) (by omega)
    refine ⟨h', ?_, fun k40 => ?_⟩
    · rw [L_X5_withState_6, if_neg (show ¬ (9 : Int32) ≤ nI k from nI_ge (a := k) (b := 9) (by omega) (by omega)), r1]
      simp only [bnd, nm, D_X5_hashed]
      rw [nI_1]
      exact i1
    · rw [L_X6_digest_142, if_neg (show ¬ (9 : Int32) ≤ nI k from nI_ge (a := k) (b := 9) (by omega) (by omega)), r2]
      simp only [bnd, nm, D_X6_digestOne]
      rw [nI_1]
      exact i2 k40
theorem dig_sts {F n : Nat} {P : Nat → Nat} {g : Nat → Nat} {pats rows sh en l s st : Nat → Int32} (hs : SP pats P) (hs6 : SP s P) (hM : MO P n g rows sh en l) (hst : AR st n g) (hF : 300 ≤ F) : ∀ (c k fu fv : Nat) (h : Int64), k + c = n → c < fu → c < fv → ∃ h', (∀ k89, L_X5_digest_65 F k89 (nI n) l en pats rows sh fu h (nI k) = k89 h') ∧ ∀ k171, L_X6_digest_132 F k171 st (nI n) s fv (nI k) h = k171 h' := by
  intro c
  have h9 := hM.1.2.1
  induction c with
  | zero =>
    intro k fu fv h hk hf hv
    obtain ⟨fu, rfl⟩ : ∃ z, fu = z + 1 := ⟨fu - 1, by omega⟩
    obtain ⟨fv, rfl⟩ : ∃ z, fv = z + 1 := ⟨fv - 1, by omega⟩
    have hk : k = n := by omega
    subst hk
    exact ⟨h, fun k29 => by rw [L_X5_digest_65, if_pos (nI_le (Nat.le_refl _) (by omega))], fun k40 => by rw [L_X6_digest_132, if_pos (nI_le (Nat.le_refl _) (by omega))]⟩
  | succ c ih =>
    intro k fu fv h hk hf hv
    obtain ⟨fu, rfl⟩ : ∃ z, fu = z + 1 := ⟨fu - 1, by omega⟩
    obtain ⟨fv, rfl⟩ : ∃ z, fv = z + 1 := ⟨fv - 1, by omega⟩
    obtain ⟨h1, a1, a2⟩ := dig_st9 hs hs6 hM hst (show k < n by omega) hF 9 0 F F h (by omega) (by omega) (by omega)
    obtain ⟨h', i1, i2⟩ := ih (k + 1) fu fv h1 (by omega) (by omega) (by omega)
    refine ⟨h', fun k29 => ?_, fun k40 => ?_⟩
    · rw [L_X5_digest_65, if_neg (nI_ge (by omega) (by omega))]
      unfold D_X5_withState
      rw [show (0 : Int32) = nI 0 from rfl, a1]
      simp only [bnd, nm]
      rw [nI_1]
      exact i1 k29
    · rw [L_X6_digest_132, if_neg (nI_ge (by omega) (by omega))]
      rw [show (0 : Int32) = nI 0 from rfl, a2]
      simp only [nm]
      rw [nI_1]
      exact i2 k40
theorem dig_fed4 {F n ρ rd tl a : Nat} {P : Nat → Nat} {g : Nat → Nat} {pats rows sh en l s st : Nat → Int32} (hs : SP pats P) (hM : MO P n g rows sh en l) (hT : TR P ρ rd tl s) (hrd : rd < 2 ^ 30) (hst : AR st n g) (ha : a < 4) (hF : 300 ≤ F) : ∀ (c k fu fv : Nat) (h : Int64), k + c = 4 → c < fu → c < fv → ∃ h', (∀ k40, L_X5_withLettersThatWouldBe_14 F k40 (nI a) (nI tl) l (s 28) (nI rd) en (nI ρ) pats rows sh fu h (nI k) = k40 h') ∧ ∀ k202, L_X6_digest_180 F k202 (nI a) st s fv (nI k) h = k202 h' := by
  intro c
  induction c with
  | zero =>
    intro k fu fv h hk hf hv
    obtain ⟨fu, rfl⟩ : ∃ z, fu = z + 1 := ⟨fu - 1, by omega⟩
    obtain ⟨fv, rfl⟩ : ∃ z, fv = z + 1 := ⟨fv - 1, by omega⟩
    have hk : k = 4 := by omega
    subst hk
    exact ⟨h, fun k29 => by rw [L_X5_withLettersThatWouldBe_14, if_pos (show (4 : Int32) ≤ nI 4 from by decide)], fun k40 => by rw [L_X6_digest_180, if_pos (show (4 : Int32) ≤ nI 4 from by decide)]⟩
  | succ c ih =>
    intro k fu fv h hk hf hv
    obtain ⟨fu, rfl⟩ : ∃ z, fu = z + 1 := ⟨fu - 1, by omega⟩
    obtain ⟨fv, rfl⟩ : ∃ z, fv = z + 1 := ⟨fv - 1, by omega⟩
    obtain ⟨r, r1, r2⟩ := fed_sim (F := F) (w := nI k) hs hM hT hrd hst ha hF
    obtain ⟨h', i1, i2⟩ := ih (k + 1) fu fv (31 * h + r.toInt64) (by omega) (by omega) (by omega)
    refine ⟨h', fun k29 => ?_, fun k40 => ?_⟩
    · rw [L_X5_withLettersThatWouldBe_14, if_neg (show ¬ (4 : Int32) ≤ nI k from nI_ge (a := k) (b := 4) (by omega) (by omega)), r1]
      simp only [bnd, nm, D_X5_hashed]
      rw [nI_1]
      exact i1 k29
    · rw [L_X6_digest_180, if_neg (show ¬ (4 : Int32) ≤ nI k from nI_ge (a := k) (b := 4) (by omega) (by omega)), r2]
      simp only [bnd, nm, D_X6_digestOne]
      rw [nI_1]
      exact i2 k40
theorem dig_feds {F n ρ rd tl : Nat} {P : Nat → Nat} {g : Nat → Nat} {pats rows sh en l s st : Nat → Int32} (hs : SP pats P) (hM : MO P n g rows sh en l) (hT : TR P ρ rd tl s) (hrd : rd < 2 ^ 30) (hst : AR st n g) (hF : 300 ≤ F) : ∀ (c k fu fv : Nat) (h : Int64), k + c = 4 → c < fu → c < fv → ∃ h', (∀ k46, L_X5_withLettersThatWouldBe_5 F k46 (nI tl) l (s 28) (nI rd) en (nI ρ) pats rows sh fu h (nI k) = k46 h') ∧ ∀ k208, L_X6_digest_173 F k208 st s fv (nI k) h = k208 h' := by
  intro c
  induction c with
  | zero =>
    intro k fu fv h hk hf hv
    obtain ⟨fu, rfl⟩ : ∃ z, fu = z + 1 := ⟨fu - 1, by omega⟩
    obtain ⟨fv, rfl⟩ : ∃ z, fv = z + 1 := ⟨fv - 1, by omega⟩
    have hk : k = 4 := by omega
    subst hk
    exact ⟨h, fun k29 => by rw [L_X5_withLettersThatWouldBe_5, if_pos (show (4 : Int32) ≤ nI 4 from by decide)], fun k40 => by rw [L_X6_digest_173, if_pos (show (4 : Int32) ≤ nI 4 from by decide)]⟩
  | succ c ih =>
    intro k fu fv h hk hf hv
    obtain ⟨fu, rfl⟩ : ∃ z, fu = z + 1 := ⟨fu - 1, by omega⟩
    obtain ⟨fv, rfl⟩ : ∃ z, fv = z + 1 := ⟨fv - 1, by omega⟩
    obtain ⟨h1, a1, a2⟩ := dig_fed4 hs hM hT hrd hst (show k < 4 by omega) hF 4 0 F F h (by omega) (by omega) (by omega)
    obtain ⟨h', i1, i2⟩ := ih (k + 1) fu fv h1 (by omega) (by omega) (by omega)
    refine ⟨h', fun k29 => ?_, fun k40 => ?_⟩
    · rw [L_X5_withLettersThatWouldBe_5, if_neg (show ¬ (4 : Int32) ≤ nI k from nI_ge (a := k) (b := 4) (by omega) (by omega))]
      rw [show (0 : Int32) = nI 0 from rfl, a1]
      simp only [nm]
      rw [nI_1]
      exact i1 k29
    · rw [L_X6_digest_173, if_neg (show ¬ (4 : Int32) ≤ nI k from nI_ge (a := k) (b := 4) (by omega) (by omega))]
      rw [show (0 : Int32) = nI 0 from rfl, a2]
      simp only [nm]
      rw [nI_1]
      exact i2 k40
theorem dig_reps {F n ρ rd tl : Nat} {P : Nat → Nat} {g : Nat → Nat} {pats rows sh en l s : Nat → Int32} (hs : SP pats P) (hM : MO P n g rows sh en l) (hT : TR P ρ rd tl s) (hrd : rd < 2 ^ 29) (hF : 300 ≤ F) : ∀ (c k fu fv : Nat) (h : Int64) (s1 as : Nat → Int32), k + c = 4 → c < fu → c < fv → (∀ i, i < 31 → s1 i = s i) → ∃ h' s' as', L_X5_withLettersThatWouldBe_49 F (nI tl) l (s 28) (nI rd) en (nI ρ) pats fu h (nI k) = some h' ∧ (∀ i, i < 31 → s' i = s i) ∧ ∀ k233, L_X6_digest_210 F k233 fv (nI k) h s1 as = k233 h' s' as' := by
  intro c
  induction c with
  | zero =>
    intro k fu fv h s1 as hk hf hv hs1
    obtain ⟨fu, rfl⟩ : ∃ z, fu = z + 1 := ⟨fu - 1, by omega⟩
    obtain ⟨fv, rfl⟩ : ∃ z, fv = z + 1 := ⟨fv - 1, by omega⟩
    have hk : k = 4 := by omega
    subst hk
    exact ⟨h, s1, as, by rw [L_X5_withLettersThatWouldBe_49, if_pos (show (4 : Int32) ≤ nI 4 from by decide)], hs1, fun k40 => by rw [L_X6_digest_210, if_pos (show (4 : Int32) ≤ nI 4 from by decide)]⟩
  | succ c ih =>
    intro k fu fv h s1 as hk hf hv hs1
    obtain ⟨fu, rfl⟩ : ∃ z, fu = z + 1 := ⟨fu - 1, by omega⟩
    obtain ⟨fv, rfl⟩ : ∃ z, fv = z + 1 := ⟨fv - 1, by omega⟩
    obtain ⟨r, as1, s2, r1, r2, r3⟩ := repeated_sim (F := F) (T := 9) (as := as) hs hM (hT.cong hs1) hrd (show k < 4 by omega) (by omega) hF
    rw [hs1 28 (by decide)] at r1
    obtain ⟨h', s', as', i1, i2, i3⟩ := ih (k + 1) fu fv (31 * h + r.toInt64) s2 as1 (by omega) (by omega) (by omega) (fun i hi => (r3 i hi).trans (hs1 i hi))
    refine ⟨h', s', as', ?_, i2, fun k40 => ?_⟩
    · rw [L_X5_withLettersThatWouldBe_49, if_neg (show ¬ (4 : Int32) ≤ nI k from nI_ge (a := k) (b := 4) (by omega) (by omega)), show (9 : Int32) = nI 9 from rfl, r1]
      simp only [bnd, nm, D_X5_hashed]
      rw [nI_1]
      exact i1
    · rw [L_X6_digest_210, if_neg (show ¬ (4 : Int32) ≤ nI k from nI_ge (a := k) (b := 4) (by omega) (by omega)), show (9 : Int32) = nI 9 from rfl, r2]
      simp only [bnd, nm, D_X6_digestOne]
      rw [nI_1]
      exact i3 k40
theorem dig_buf {F b : Nat} {codes text s as st : Nat → Int32} {th mn : Int32} (hb : b ≤ 60) (hc : ∀ i, i < b → codes i = text i) (hF : 300 ≤ F) : ∀ (c k fu fv : Nat) (h : Int64), k + c = b → c < fu → c < fv → ∃ h', L_X5_withBuffer_16 F (nI b) codes fu h (nI k) = some h' ∧ L_X6_digest_264 F th st mn s (nI b) text as fv (nI k) h = some (h', th, h', st, mn, s, as) := by
  intro c
  induction c with
  | zero =>
    intro k fu fv h hk hf hv
    obtain ⟨fu, rfl⟩ : ∃ z, fu = z + 1 := ⟨fu - 1, by omega⟩
    obtain ⟨fv, rfl⟩ : ∃ z, fv = z + 1 := ⟨fv - 1, by omega⟩
    have hk : k = b := by omega
    subst hk
    exact ⟨h, by rw [L_X5_withBuffer_16, if_pos (nI_le (Nat.le_refl _) (by omega))], by rw [L_X6_digest_264, if_pos (nI_le (Nat.le_refl _) (by omega))]⟩
  | succ c ih =>
    intro k fu fv h hk hf hv
    obtain ⟨fu, rfl⟩ : ∃ z, fu = z + 1 := ⟨fu - 1, by omega⟩
    obtain ⟨fv, rfl⟩ : ∃ z, fv = z + 1 := ⟨fv - 1, by omega⟩
    obtain ⟨h', i1, i2⟩ := ih (k + 1) fu fv (31 * h + (text k).toInt64) (by omega) (by omega) (by omega)
    refine ⟨h', ?_, ?_⟩
    · rw [L_X5_withBuffer_16, if_neg (nI_ge (by omega) (by omega)), at_in (by omega) (by decide), hc k (by omega)]
      simp only [bnd, nm, D_X5_hashed]
      rw [nI_1]
      exact i1
    · rw [L_X6_digest_264, if_neg (nI_ge (by omega) (by omega)), grd_t (inb_nI (by omega) (by decide)), nI_clamp (by omega)]
      simp only [bnd, nm, D_X6_digestOne]
      rw [nI_1]
      exact i2
/-- the digest is told alike -/
theorem digest_sim {F n ρ rd tl sz b : Nat} {P : Nat → Nat} {g : Nat → Nat} {pats rows sh en l cnt lat s st codes text as : Nat → Int32} {th mn : Int32} {d0 : Int64} (hs : SP pats P) (hM : MO P n g rows sh en l) (hT : TR P ρ rd tl s) (hrd : rd < 2 ^ 29) (hc : ∀ p, p < 8 → s (8 + p) = cnt p) (hl : ∀ p, p < 8 → s (16 + p) = lat p) (hb : b ≤ 60) (ht : ∀ i, i < b → codes i = text i) (hF : 300 ≤ F) : ∃ r st' mn' s' as', D_X5_digest F (nI ρ) (nI n) (nI tl) l (s 28) (nI rd) en pats rows sh (nI b) codes lat cnt (s 30) (s 29) (s 27) (nI sz) = some r ∧ D_X6_digest F th d0 st mn s (nI b) text as (nI sz) = some (r, 0, r, st', mn', s', as') ∧ ∀ i, i < 31 → s' i = s i := by
  have ho := hM.1.2.2.2
  have h9 := hM.1.2.1
  obtain ⟨st1, n1, g1, l1, l2, l3, l4, l5⟩ := list6 (F := F) (f := st) (x := mn) hT.1 ho (by omega)
  have hn : n1 = n := (l3.uniq hM.1.1).1
  subst hn
  have hg : ∀ i, i < n1 → g1 i = g i := (l3.uniq hM.1.1).2
  have hst : AR st1 n1 g := fun i hi => by rw [l2 i hi, hg i hi]
  obtain ⟨h1, a1, a2⟩ := dig_count (sz := sz) hs hM hT (by omega) hst hF 10 0 F F 2767 (by omega) (by omega) (by omega)
  obtain ⟨h2, b1, b2⟩ := dig_pats hs hM hT (by omega) hst hc hl hF 8 0 F F (31 * h1 + (nI ρ).toInt64) (by omega) (by omega) (by omega)
  obtain ⟨h3, c1, c2⟩ := dig_sts hs hT.1 hM hst hF n1 0 F F h2 (by omega) (by omega) (by omega)
  obtain ⟨h4, d1, d2⟩ := dig_feds hs hM hT (by omega) hst hF 4 0 F F h3 (by omega) (by omega) (by omega)
  obtain ⟨h5, s1, as1, e1, e2, e3⟩ := dig_reps hs hM hT hrd hF 4 0 F F h4 s as (by omega) (by omega) (by omega) (fun _ _ => rfl)
  have hs1 : SP s1 P := (hT.cong e2).1
  obtain ⟨r1, st2, mn2, f1, f2⟩ := heaviest_sim (st := st1) (mn := nI n1) hs hs1 hM.1 hF
  obtain ⟨v, st3, mn3, g1, g2, g3⟩ := sharing_sim (st := st2) (mn := mn2) hs hs1 hM.1 hF
  obtain ⟨z, i1, i2⟩ := bits_sim (F := F) g3 hF
  obtain ⟨h6, j1, j2⟩ := dig_buf (s := s1) (as := as1) (st := st3) (th := 0) (mn := mn3) hb ht hF b 0 F F (31 * (31 * (31 * h5 + r1.toInt64) + z) + (nI b).toInt64) (by omega) (by omega) (by omega)
  refine ⟨h6, st3, mn3, s1, as1, ?_, ?_, e2⟩
  · unfold D_X5_digest
    rw [show (0 : Int32) = nI 0 from rfl]
    refine Eq.trans (a1 _) ?_
    simp only [bnd, D_X5_hashed]
    refine Eq.trans (b1 _) ?_
    refine Eq.trans (c1 _) ?_
    unfold D_X5_withLettersThatWouldBe
    rw [show (0 : Int32) = nI 0 from rfl, d1, e1]
    simp only []
    rw [f1]
    simp only []
    rw [g1]
    simp only []
    rw [i1]
    simp only []
    unfold D_X5_withBuffer
    simp only [bnd, D_X5_hashed]
    rw [show (0 : Int32) = nI 0 from rfl, j1]
  · unfold D_X6_digest
    rw [l1]
    simp only [bnd]
    rw [show (0 : Int32) = nI 0 from rfl]
    refine Eq.trans (a2 _) ?_
    rw [grd_t (show inb 24 31 = true by decide), show s (24 : Int32).toNatClampNeg = nI ρ from hT.2.2.2.1]
    simp only [bnd, D_X6_digestOne, nm]
    refine Eq.trans (b2 _) ?_
    refine Eq.trans (c2 _) ?_
    refine Eq.trans (d2 _) ?_
    refine Eq.trans (e3 _) ?_
    rw [f2]
    simp only []
    rw [g2]
    simp only []
    rw [i2]
    simp only []
    exact j2
