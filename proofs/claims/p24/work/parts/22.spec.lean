def anyF (f : Nat → Bool) : Nat → Nat → Bool
  | 0, _ => false
  | c + 1, k => f k || anyF f c (k + 1)
def cntF (f : Nat → Bool) : Nat → Nat → Nat
  | 0, _ => 0
  | c + 1, k => (if f k then 1 else 0) + cntF f c (k + 1)
def mskF (f : Nat → Bool) : Nat → Nat → Nat → Nat
  | 0, _, m => m
  | c + 1, k, m => mskF f c (k + 1) (if f k then m ||| 2 ^ k else m)
theorem cntF_le (f : Nat → Bool) : ∀ c k, cntF f c k ≤ c := by
  intro c
  induction c with
  | zero => intro k; exact Nat.le_refl 0
  | succ c ih =>
    intro k
    have := ih (k + 1)
    simp only [cntF]
    split <;> omega
theorem cntF_pos {f : Nat → Bool} : ∀ {c k : Nat}, 0 < cntF f c k ↔ ∃ p, k ≤ p ∧ p < k + c ∧ f p = true := by
  intro c
  induction c with
  | zero => intro k; simp only [cntF]; constructor
            · intro h; omega
            · rintro ⟨p, h1, h2, -⟩; omega
  | succ c ih =>
    intro k
    simp only [cntF]
    by_cases h : f k = true
    · rw [if_pos h]
      exact ⟨fun _ => ⟨k, Nat.le_refl k, by omega, h⟩, fun _ => by omega⟩
    · rw [if_neg h]
      rw [Nat.zero_add, ih]
      constructor
      · rintro ⟨p, h1, h2, h3⟩; exact ⟨p, by omega, by omega, h3⟩
      · rintro ⟨p, h1, h2, h3⟩
        rcases Nat.eq_or_lt_of_le h1 with q | q
        · subst q; exact absurd h3 h
        · exact ⟨p, by omega, by omega, h3⟩
theorem mskF_bit (f : Nat → Bool) (p : Nat) : ∀ c k m, (mskF f c k m).testBit p = (m.testBit p || (decide (k ≤ p ∧ p < k + c) && f p)) := by
  intro c
  induction c with
  | zero => intro k m; simp only [mskF]; simp; intro h1 h2; omega
  | succ c ih =>
    intro k m
    simp only [mskF]
    rw [ih]
    by_cases hk : f k = true
    · rw [if_pos hk, Nat.testBit_or, Nat.testBit_two_pow]
      by_cases e : k = p
      · subst e; simp [hk]
      · have : decide (k + 1 ≤ p ∧ p < k + 1 + c) = decide (k ≤ p ∧ p < k + (c + 1)) := by
          apply decide_eq_decide.mpr; omega
        rw [this]
        simp [e]
    · rw [if_neg hk]
      by_cases e : k = p
      · subst e; simp [hk]
      · have : decide (k + 1 ≤ p ∧ p < k + 1 + c) = decide (k ≤ p ∧ p < k + (c + 1)) := by
          apply decide_eq_decide.mpr; omega
        rw [this]
theorem mskF_lt (f : Nat → Bool) : ∀ c k m, k + c ≤ 8 → m < 256 → mskF f c k m < 256 := by
  intro c
  induction c with
  | zero => intro k m _ h; exact h
  | succ c ih =>
    intro k m hk hm
    simp only [mskF]
    refine ih (k + 1) _ (by omega) ?_
    split
    · exact Nat.or_lt_two_pow (n := 8) hm (Nat.pow_lt_pow_right (by decide) (by omega))
    · exact hm
-- patterns and states
def PO (c : Nat) : Prop := c = 0 ∨ ∃ n, 1 ≤ n ∧ n ≤ 8 ∧ V n c
theorem PO_lt {c : Nat} (h : PO c) : c < 524288 := by
  rcases h with h | ⟨n, h1, h2, h3⟩
  · omega
  · exact V_lt h3 (by omega)
def bgn (P : Nat → Nat) (r : Nat) : Nat := cntF (fun p => decide (P p ≠ 0) && isBegB (P p) r) 8 0
def isSt (P : Nat → Nat) (r : Nat) : Bool := decide (r = 1) || decide (0 < bgn P r)
theorem isSt_iff {P : Nat → Nat} {r : Nat} : isSt P r = true ↔ r = 1 ∨ ∃ p, p < 8 ∧ P p ≠ 0 ∧ isBegB (P p) r = true := by
  unfold isSt bgn
  rw [Bool.or_eq_true, decide_eq_true_eq, decide_eq_true_eq, cntF_pos]
  constructor
  · rintro (h | ⟨p, -, h2, h3⟩)
    · exact Or.inl h
    · rw [Bool.and_eq_true, decide_eq_true_eq] at h3
      exact Or.inr ⟨p, by omega, h3.1, h3.2⟩
  · rintro (h | ⟨p, h2, h3, h4⟩)
    · exact Or.inl h
    · exact Or.inr ⟨p, by omega, by omega, by rw [Bool.and_eq_true, decide_eq_true_eq]; exact ⟨h3, h4⟩⟩
theorem isSt_1 (P : Nat → Nat) : isSt P 1 = true := isSt_iff.mpr (Or.inl rfl)
theorem isSt_pre {P : Nat → Nat} {n q a : Nat} (hq : V n q) (ha : a < 4) (h : isSt P (4 * q + a) = true) : isSt P q = true := by
  have hv := V_succ hq ha
  have hp := V_pos hq
  rcases isSt_iff.mp h with h | ⟨p, h1, h2, h3⟩
  · omega
  · refine isSt_iff.mpr (Or.inr ⟨p, h1, h2, ?_⟩)
    unfold isBegB at h3 ⊢
    rw [decide_eq_true_eq, V_ln hv] at h3
    rw [decide_eq_true_eq, V_ln hq]
    refine ⟨by omega, ?_⟩
    have e : ln (P p) - n = ln (P p) - (n + 1) + 1 := by omega
    rw [e, Nat.pow_succ, ← Nat.div_div_eq_div_mul, h3.2]
    omega
def sa (P : Nat → Nat) (r : Nat) : Nat → Nat
  | 0 => suf r 0
  | M + 1 => if isSt P (suf r (M + 1)) then suf r (M + 1) else sa P r M
theorem sa_ex (P : Nat → Nat) (r : Nat) : ∀ M, ∃ m, m ≤ M ∧ sa P r M = suf r m ∧ isSt P (suf r m) = true ∧ ∀ j, m < j → j ≤ M → isSt P (suf r j) = false := by
  intro M
  induction M with
  | zero => exact ⟨0, Nat.le_refl 0, rfl, by rw [suf_0]; exact isSt_1 P, fun j h1 h2 => by omega⟩
  | succ M ih =>
    by_cases h : isSt P (suf r (M + 1)) = true
    · exact ⟨M + 1, Nat.le_refl _, by simp only [sa]; rw [if_pos h], h, fun j h1 h2 => by omega⟩
    · obtain ⟨m, h1, h2, h3, h4⟩ := ih
      refine ⟨m, by omega, by simp only [sa]; rw [if_neg h]; exact h2, h3, fun j q1 q2 => ?_⟩
      rcases Nat.eq_or_lt_of_le q2 with q | q
      · subst q
        cases e : isSt P (suf r (M + 1)) with
        | false => rfl
        | true => exact absurd e h
      · exact h4 j q1 (by omega)
theorem sa_V (P : Nat → Nat) (r M : Nat) : ∃ m, m ≤ M ∧ V m (sa P r M) := by
  obtain ⟨m, h1, h2, -, -⟩ := sa_ex P r M
  exact ⟨m, h1, by rw [h2]; exact V_suf r m⟩
theorem sa_st (P : Nat → Nat) (r M : Nat) : isSt P (sa P r M) = true := by
  obtain ⟨m, h1, h2, h3, -⟩ := sa_ex P r M
  rw [h2]; exact h3
theorem sa_ext {P : Nat → Nat} {r r' : Nat} : ∀ {M : Nat}, (∀ j, j ≤ M → suf r j = suf r' j) → sa P r M = sa P r' M := by
  intro M
  induction M with
  | zero => intro h; exact h 0 (Nat.le_refl 0)
  | succ M ih =>
    intro h
    simp only [sa]
    rw [h (M + 1) (Nat.le_refl _), ih (fun j hj => h j (by omega))]
/-- reading on from the longest state is reading on -/
theorem sa_step {P : Nat → Nat} {r a : Nat} (ha : a < 4) : ∀ M, sa P (4 * r + a) (M + 1) = sa P (4 * sa P r M + a) (ln (sa P r M) + 1) := by
  intro M
  induction M with
  | zero =>
    have e : sa P r 0 = 1 := suf_0 r
    rw [e, V_ln V_0]
    refine sa_ext (fun j hj => ?_)
    match j, hj with
    | 0, _ => rw [suf_0, suf_0]
    | 1, _ => rw [suf_succ r a 0 ha, suf_succ 1 a 0 ha, suf_0, suf_0]
  | succ M ih =>
    by_cases h : isSt P (suf r (M + 1)) = true
    · have e : sa P r (M + 1) = suf r (M + 1) := by simp only [sa]; rw [if_pos h]
      rw [e, V_ln (V_suf r (M + 1))]
      refine sa_ext (fun j hj => ?_)
      match j, hj with
      | 0, _ => rw [suf_0, suf_0]
      | j + 1, hj => rw [suf_succ _ a j ha, suf_succ _ a j ha, suf_suf r (by omega)]
    · have e : sa P r (M + 1) = sa P r M := by simp only [sa]; rw [if_neg h]
      rw [e, ← ih]
      have h2 : ¬ isSt P (suf (4 * r + a) (M + 1 + 1)) = true := by
        rw [suf_succ r a (M + 1) ha]
        exact fun q => h (isSt_pre (V_suf r (M + 1)) ha q)
      show (if isSt P (suf (4 * r + a) (M + 1 + 1)) then _ else _) = _
      rw [if_neg h2]
/-- where a letter leads -/
def dl (P : Nat → Nat) (q a : Nat) : Nat := sa P (4 * q + a) (ln q + 1)
def bk (P : Nat → Nat) (q : Nat) : Nat := sa P q (ln q - 1)
theorem dl_st {P : Nat → Nat} {n q a : Nat} (hq : V n q) (ha : a < 4) (h : isSt P (4 * q + a) = true) : dl P q a = 4 * q + a := by
  unfold dl
  rw [V_ln hq]
  have e := suf_self (V_succ hq ha)
  simp only [sa]
  rw [e, if_pos h]
theorem dl_no {P : Nat → Nat} {n q a : Nat} (hq : V n q) (ha : a < 4) (hn : 1 ≤ n) (h : ¬ isSt P (4 * q + a) = true) : dl P q a = dl P (bk P q) a := by
  unfold dl bk
  rw [V_ln hq]
  have e := suf_self (V_succ hq ha)
  show (if isSt P (suf (4 * q + a) (n + 1)) then _ else _) = _
  rw [e, if_neg h]
  have := sa_step (P := P) (r := q) ha (n - 1)
  rw [show n - 1 + 1 = n by omega] at this
  exact this
theorem dl_1 {P : Nat → Nat} {a : Nat} (ha : a < 4) (h : ¬ isSt P (4 * 1 + a) = true) : dl P 1 a = 1 := by
  unfold dl
  rw [V_ln V_0]
  have e := suf_self (V_succ V_0 ha)
  show (if isSt P (suf (4 * 1 + a) 1) then _ else _) = _
  rw [e, if_neg h]
  exact suf_0 _
theorem bk_child {P : Nat → Nat} {n q a : Nat} (hq : V n q) (ha : a < 4) (hn : 1 ≤ n) : bk P (4 * q + a) = dl P (bk P q) a := by
  unfold dl bk
  rw [V_ln hq, V_ln (V_succ hq ha)]
  have := sa_step (P := P) (r := q) ha (n - 1)
  rw [show n - 1 + 1 = n by omega] at this
  exact this
theorem bk_child1 {P : Nat → Nat} {a : Nat} (ha : a < 4) : bk P (4 * 1 + a) = 1 := by
  unfold bk
  rw [V_ln (V_succ V_0 ha)]
  exact suf_0 _
theorem bk_V {P : Nat → Nat} {n q : Nat} (hq : V n q) (hn : 1 ≤ n) : ∃ m, m < n ∧ V m (bk P q) := by
  unfold bk
  rw [V_ln hq]
  obtain ⟨m, h1, h2⟩ := sa_V P q (n - 1)
  exact ⟨m, by omega, h2⟩
theorem dl_V {P : Nat → Nat} {n q a : Nat} (hq : V n q) : ∃ m, m ≤ n + 1 ∧ V m (dl P q a) := by
  unfold dl
  rw [V_ln hq]
  exact sa_V P _ _
def fo (P : Nat → Nat) (a : Nat) : Nat → Nat → Nat
  | 0, _ => 0
  | k + 1, q => if isSt P (4 * q + a) then 0 else if q = 1 then 1 else 1 + fo P a k (bk P q)

