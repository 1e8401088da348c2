/-- an ending of the text that is a state is an ending of its state -/
theorem isEnd_sa {P : Nat → Nat} {k j r b : Nat} (hr : V k r) (hb : V j b) (h : isSt P b = true) : isEndB r b = isEndB (sa P r k) b := by
  obtain ⟨m, m1, m2, m3, m4⟩ := sa_ex P r k
  have hvm : V m (sa P r k) := by rw [m2]; exact V_suf r m
  apply Bool.eq_iff_iff.mpr
  unfold isEndB
  rw [decide_eq_true_eq, decide_eq_true_eq, V_ln hr, V_ln hvm, V_ln hb, m2]
  constructor
  · rintro ⟨h1, h2⟩
    have hle : j ≤ m := by
      rcases Nat.lt_or_ge m j with c | c
      · have := m4 j c h1
        rw [h2, h] at this
        exact absurd this (by decide)
      · exact c
    exact ⟨hle, by rw [suf_suf r hle]; exact h2⟩
  · rintro ⟨h1, h2⟩
    rw [suf_suf r h1] at h2
    exact ⟨by omega, h2⟩
theorem isEnd_1 (r : Nat) : isEndB r 1 = true := by
  unfold isEndB
  rw [decide_eq_true_eq, V_ln V_0]
  exact ⟨Nat.zero_le _, suf_0 r⟩
theorem lettersTo_sim {F n p ρ rd tl : Nat} {P : Nat → Nat} {g : Nat → Nat} {pats rows sh en l s : Nat → Int32} (hs : SP pats P) (hM : MO P n g rows sh en l) (hT : TR P ρ rd tl s) (hrd : rd < 2 ^ 30) (hp : p < 8) (hF : 300 ≤ F) : ∃ r, D_X5_fewestLettersTo F (nI (P p)) (nI tl) l rows = some r ∧ D_X6_lettersOf F (nI p) s = some r := by
  obtain ⟨hE, hA, hB, hen⟩ := hM
  obtain ⟨hs6, ho, hρ, h24, h25, htl, h26⟩ := hT
  have h9 := hE.2.1
  have e0 : s ((0 : Int32) + nI p).toNatClampNeg = nI (P p) := by rw [nI_0a, nI_clamp (by omega)]; exact hs6 p hp
  have g0 : inb ((0 : Int32) + nI p) 31 = true := by rw [nI_0a]; exact inb_nI (by omega) (by decide)
  unfold D_X5_fewestLettersTo D_X6_lettersOf
  rw [if_nI0 (by have := PO_lt (ho p hp); omega), isThere6 hs6 ho hp]
  simp only [bnd, nm]
  rw [if_b2]
  by_cases h0 : P p = 0
  · exact ⟨-1, by rw [if_pos h0], by rw [if_neg (by simp [h0])]⟩
  · obtain ⟨q1, q2, q3⟩ := PO_V (ho p hp) h0
    obtain ⟨i, i1, i2, i3⟩ := currentState5 (F := F) hE hB htl (by omega)
    have hg := (st_lt ho (hE.1.1 i i1)).1
    obtain ⟨mi, mi1, mi2⟩ := st_V ho (hE.1.1 i i1)
    rw [if_neg h0, if_pos (by simp [h0]), grd_t g0, e0, len6 q3 (by omega) (by omega), i3]
    simp only []
    rw [at_in (show i < 65 by omega) (by decide), hA i i1]
    simp only []
    rw [len3 q3 (by omega) (by omega)]
    simp only []
    have hst : ∀ j, j ≤ ln (P p) → isSt P (P p / 4 ^ (ln (P p) - j)) = true := fun j hj => isSt_iff.mpr (Or.inr ⟨p, hp, h0, (isBegB_iff q3).mpr ⟨j, hj, rfl⟩⟩)
    have h8 : min rd 8 ≤ 8 := Nat.min_le_right _ _
    have ht6 := tail6 (F := F) h25 h26 (by omega)
    rw [show 4 ^ min rd 8 + (tl - 4 ^ min rd 8) = tl from by have := htl.1; omega] at ht6
    have key : ∀ (d x fu fv : Nat), x + d = ln (P p) → 1 ≤ x → d < fu → d < fv → ∃ r, L_X5_fewestLettersTo_29 F (nI (P p)) (nI (g i)) (nI (ln (P p))) fu (nI x) = some r ∧ L_X6_lettersOf_26 F (nI p) (nI (ln (P p))) s fv (nI d) = some r := by
      intro d
      induction d with
      | zero =>
        intro x fu fv hx h1 hf hv
        obtain ⟨fu, rfl⟩ : ∃ z, fu = z + 1 := ⟨fu - 1, by omega⟩
        obtain ⟨fv, rfl⟩ : ∃ z, fv = z + 1 := ⟨fv - 1, by omega⟩
        refine ⟨nI (ln (P p)), ?_, ?_⟩
        · rw [L_X5_fewestLettersTo_29, if_le (by omega) (by omega), if_pos (by omega)]
        · rw [L_X6_lettersOf_26, ht6]
          simp only [bnd]
          rw [grd_t g0, e0, beginOf6 q3 (by omega) (by omega) (by omega), Nat.sub_zero, V_end q3]
          simp only []
          rw [isEnd6 htl (by omega) V_0 (by omega) (by omega), isEnd_1]
          simp only []
          rw [if_neg b2_t, pk_sub (by omega)]
          rfl
      | succ d ih =>
        intro x fu fv hx h1 hf hv
        obtain ⟨fu, rfl⟩ : ∃ z, fu = z + 1 := ⟨fu - 1, by omega⟩
        obtain ⟨fv, rfl⟩ : ∃ z, fv = z + 1 := ⟨fv - 1, by omega⟩
        obtain ⟨r, r1, r2⟩ := ih (x + 1) fu fv (by omega) (by omega) (by omega) (by omega)
        have hbv : V (d + 1) (P p / 4 ^ (ln (P p) - (d + 1))) := V_beg q3 (by omega)
        have he := isEnd_sa (P := P) htl hbv (hst (d + 1) (by omega))
        rw [L_X5_fewestLettersTo_29, if_le (by omega) (by omega), if_neg (by omega), pk_sub (by omega), show ln (P p) - x = d + 1 by omega, beginning3 q3 (by omega) (by omega) (by omega)]
        simp only [bnd]
        rw [endsWith3 mi2 (by omega) hbv (by omega) (by omega), i2, show qS P tl rd = sa P tl (min rd 8) from rfl, ← he]
        simp only [nm]
        rw [if_b2, nI_1, L_X6_lettersOf_26, ht6]
        simp only [bnd]
        rw [grd_t g0, e0, beginOf6 q3 (by omega) (by omega) (by omega)]
        simp only []
        rw [isEnd6 htl (by omega) hbv (by omega) (by omega)]
        simp only [nm]
        rw [if_b2, nI_m1 (by omega), Nat.add_sub_cancel, pk_sub (by omega)]
        by_cases hb : isEndB tl (P p / 4 ^ (ln (P p) - (d + 1))) = true
        · rw [if_pos hb, if_pos hb]
          exact ⟨nI x, rfl, by rw [show ln (P p) - (d + 1) = x by omega]⟩
        · rw [if_neg hb, if_neg hb]
          rw [i2] at r1
          exact ⟨r, r1, r2⟩
    obtain ⟨r, r1, r2⟩ := key (ln (P p) - 1) 1 F F (by omega) (by omega) (by omega) (by omega)
    exact ⟨r, r1, by rw [nI_s1 (by omega)]; exact r2⟩
theorem beginsWith5 {F m r : Nat} {pats : Nat → Int32} {P : Nat → Nat} (hs : SP pats P) (ho : POs P) (hr : V m r) (hm : m ≤ 9) (hF : 100 ≤ F) : D_X5_patternsThatBeginWith F (nI r) pats = some (nI (bgn P r)) := by
  have key : ∀ (c k acc fu : Nat), k + c = 8 → c < fu → L_X5_patternsThatBeginWith_4 F (nI r) pats fu (nI acc) (nI k) = some (nI (acc + cntF (fun p => decide (P p ≠ 0) && isBegB (P p) r) c k)) := by
    intro c
    induction c with
    | zero =>
      intro k acc fu hk hf
      obtain ⟨fu, rfl⟩ : ∃ z, fu = z + 1 := ⟨fu - 1, by omega⟩
      have hk : k = 8 := by omega
      subst hk
      rw [L_X5_patternsThatBeginWith_4, if_pos (show (8 : Int32) ≤ nI 8 from by decide)]
      rfl
    | succ c ih =>
      intro k acc fu hk hf
      obtain ⟨fu, rfl⟩ : ∃ z, fu = z + 1 := ⟨fu - 1, by omega⟩
      rw [L_X5_patternsThatBeginWith_4, if_neg (show ¬ (8 : Int32) ≤ nI k from nI_ge (a := k) (b := 8) (by omega) (by omega)), patternIn5 hs (by omega)]
      simp only [bnd, nm]
      rw [if_nI0 (a := P k) (by have := PO_lt (ho k (by omega)); omega), nI_1, nI_1]
      simp only [cntF]
      by_cases h0 : P k = 0
      · rw [if_pos h0, ih (k + 1) acc fu (by omega) (by omega)]
        simp [h0]
      · obtain ⟨q1, q2, q3⟩ := PO_V (ho k (by omega)) h0
        rw [if_neg h0, beginsWith3 q3 (by omega) hr hm (by omega)]
        simp only []
        rw [if_b2, ih (k + 1) acc fu (by omega) (by omega), ih (k + 1) (acc + 1) fu (by omega) (by omega)]
        by_cases hb : isBegB (P k) r = true <;> simp [h0, hb, Nat.add_assoc]
  have := key 8 0 0 F (by omega) (by omega)
  rw [Nat.zero_add] at this
  exact this
/-- a state's properties are told alike -/
theorem state_sim {F n i w : Nat} {P : Nat → Nat} {g : Nat → Nat} {pats rows sh en l s st : Nat → Int32} (hs : SP pats P) (hs6 : SP s P) (hM : MO P n g rows sh en l) (hst : AR st n g) (hi : i < n) (hw : w ≤ 8) (hF : 300 ≤ F) : ∃ r, D_X5_stateProperty F (nI i) (nI w) rows pats en sh l = some r ∧ D_X6_stateOf F (nI i) (nI w) st s = some r := by
  obtain ⟨hE, hA, hB, hen⟩ := hM
  have ho := hE.2.2.2
  have h9 := hE.2.1
  have hg := (st_lt ho (hE.1.1 i hi)).1
  obtain ⟨m, m1, m2⟩ := st_V ho (hE.1.1 i hi)
  have hno : ∀ j, j < n → D_X6_numberOf F (nI (g j)) st = some (nI j) := fun j hj => numberOf6 hst hE.1 h9 (fun v hv => by have := (st_lt ho hv).1; omega) hj (by omega)
  have h1 : (g i = 1) = (i = 0) := propext ⟨fun e => by
    rcases Nat.eq_zero_or_pos i with z | z
    · exact z
    · exact absurd e (hE.ne1 hi z), fun e => by rw [e]; exact hE.g0⟩
  have hi1 : ∀ {β : Type} {x y : β} {d : Decidable (nI (g i) = 1)}, (@ite β (nI (g i) = 1) d x y) = (if i = 0 then x else y) := by
    intro β x y d
    have h2 : (nI (g i) = 1) = (g i = 1) := propext (nI_eq (a := g i) (b := 1) (by omega) (by omega))
    by_cases e : i = 0
    · rw [if_pos e, if_pos (by rw [h2, h1]; exact e)]
    · rw [if_neg e, if_neg (by rw [h2, h1]; exact e)]
  unfold D_X5_stateProperty D_X6_stateOf
  rw [at_in (f := rows) (show i < 65 by omega) (by decide), hA i hi, grd_t (inb_nI (show i < 66 by omega) (by decide)), nI_clamp (by omega), hst i hi]
  simp only [bnd, nm]
  rcases (show w = 0 ∨ w = 1 ∨ w = 2 ∨ w = 3 ∨ w = 4 ∨ (5 ≤ w ∧ w ≤ 8) by omega) with e | e | e | e | e | e
  · subst e
    refine ⟨nI m, ?_, ?_⟩
    · rw [if_pos (show nI 0 = 0 from rfl), len3 m2 (by omega) (by omega)]
    · rw [if_pos (show nI 0 = 0 from rfl), len6 m2 (by omega) (by omega)]
  · subst e
    rw [if_neg (show ¬ nI 1 = 0 by decide), if_pos (show nI 1 = 1 from rfl), if_neg (show ¬ nI 1 = 0 by decide), if_pos (show nI 1 = 1 from rfl), if_nI0 (a := i) (by omega), hi1]
    by_cases e : i = 0
    · exact ⟨-1, by rw [if_pos e], by rw [if_pos e]⟩
    · refine ⟨nI (g i % 4), by rw [if_neg e, last3 (by omega)], ?_⟩
      rw [if_neg e]
      have h2 : nI (g i) &&& 3 = nI (g i % 2 ^ 2) := pk_andN (by omega) 2 (by decide)
      rw [h2]
  · subst e
    rw [if_neg (show ¬ nI 2 = 0 by decide), if_neg (show ¬ nI 2 = 1 by decide), if_pos (show nI 2 = 2 from rfl), if_neg (show ¬ nI 2 = 0 by decide), if_neg (show ¬ nI 2 = 1 by decide), if_pos (show nI 2 = 2 from rfl), hi1, at_in (show i < 65 by omega) (by decide)]
    rcases Nat.eq_zero_or_pos i with z | z
    · refine ⟨-1, ?_, by rw [if_pos z]⟩
      rw [z, hB.2.2.2]
    · obtain ⟨u, u1, u2, u3⟩ := hB.short hE hi z
      have hm1 : 1 ≤ m := by
        rcases Nat.eq_zero_or_pos m with e | e
        · subst e; exact absurd (V_0e m2) (hE.ne1 hi z)
        · exact e
      refine ⟨nI u, by rw [u2], ?_⟩
      rw [if_neg (by omega), back6 hs6 ho m2 (by omega) hm1 (by omega), ← u3]
      simp only []
      rw [hno u (by omega)]
  · subst e
    rw [if_neg (show ¬ nI 3 = 0 by decide), if_neg (show ¬ nI 3 = 1 by decide), if_neg (show ¬ nI 3 = 2 by decide), if_pos (show nI 3 = 3 from rfl), if_neg (show ¬ nI 3 = 0 by decide), if_neg (show ¬ nI 3 = 1 by decide), if_neg (show ¬ nI 3 = 2 by decide), if_pos (show nI 3 = 3 from rfl), at_in (f := en) (show i < 65 by omega) (by decide)]
    refine ⟨nI (mk P (g i)), by rw [hen i hi], ?_⟩
    rw [ending6 hs6 ho m2 (by omega) (by omega)]
  · subst e
    rw [if_neg (show ¬ nI 4 = 0 by decide), if_neg (show ¬ nI 4 = 1 by decide), if_neg (show ¬ nI 4 = 2 by decide), if_neg (show ¬ nI 4 = 3 by decide), if_pos (show nI 4 = 4 from rfl), if_neg (show ¬ nI 4 = 0 by decide), if_neg (show ¬ nI 4 = 1 by decide), if_neg (show ¬ nI 4 = 2 by decide), if_neg (show ¬ nI 4 = 3 by decide), if_pos (show nI 4 = 4 from rfl)]
    refine ⟨nI (bgn P (g i)), ?_, ?_⟩
    · rw [beginsWith5 hs ho m2 (by omega) (by omega)]
    · rw [beginning6 hs6 ho m2 (by omega) (by omega)]
  · have hn : ∀ k, k ≤ 4 → ¬ nI w = nI k := fun k hk h => by have := (nI_eq (by omega) (by omega)).mp h; omega
    have e5 : nI w - 5 = nI (w - 5) := pk_sub (a := w) (b := 5) (by omega)
    obtain ⟨t, t1, t2, t3⟩ := lead_at (F := F) hE hB hi (show w - 5 < 4 by omega)
    refine ⟨nI t, ?_, ?_⟩
    · rw [if_neg (show ¬ nI w = 0 from hn 0 (by omega)), if_neg (show ¬ nI w = 1 from hn 1 (by omega)), if_neg (show ¬ nI w = 2 from hn 2 (by omega)), if_neg (show ¬ nI w = 3 from hn 3 (by omega)), if_neg (show ¬ nI w = 4 from hn 4 (by omega)), e5, t3]
    · rw [if_neg (show ¬ nI w = 0 from hn 0 (by omega)), if_neg (show ¬ nI w = 1 from hn 1 (by omega)), if_neg (show ¬ nI w = 2 from hn 2 (by omega)), if_neg (show ¬ nI w = 3 from hn 3 (by omega)), if_neg (show ¬ nI w = 4 from hn 4 (by omega)), e5, behind6 hs6 ho m2 m1 (by omega) (by omega), ← t2]
      simp only []
      rw [hno t t1]
def sumF (f : Nat → Nat) : Nat → Nat → Nat
  | 0, _ => 0
  | c + 1, k => f k + sumF f c (k + 1)
theorem sumF_le {f : Nat → Nat} {b : Nat} : ∀ c k, (∀ p, k ≤ p → p < k + c → f p ≤ b) → sumF f c k ≤ b * c := by
  intro c
  induction c with
  | zero => intro k _; exact Nat.zero_le _
  | succ c ih =>
    intro k h
    have h1 := h k (Nat.le_refl k) (by omega)
    have h2 := ih (k + 1) (fun p q1 q2 => h p (by omega) (by omega))
    simp only [sumF]
    rw [Nat.mul_succ]
    omega
def lsum (P : Nat → Nat) : Nat := sumF (fun p => ln (P p)) 8 0
theorem sum5 {F : Nat} {pats : Nat → Int32} {P : Nat → Nat} (hs : SP pats P) (ho : POs P) (hF : 100 ≤ F) : D_X5_sumOfLengths F pats = some (nI (lsum P)) := by
  have key : ∀ (c k acc fu : Nat), k + c = 8 → c < fu → L_X5_sumOfLengths_4 F pats fu (nI acc) (nI k) = some (nI (acc + sumF (fun p => ln (P p)) c k)) := by
    intro c
    induction c with
    | zero =>
      intro k acc fu hk hf
      obtain ⟨fu, rfl⟩ : ∃ z, fu = z + 1 := ⟨fu - 1, by omega⟩
      have hk : k = 8 := by omega
      subst hk
      rw [L_X5_sumOfLengths_4, if_pos (show (8 : Int32) ≤ nI 8 from by decide)]
      rfl
    | succ c ih =>
      intro k acc fu hk hf
      obtain ⟨fu, rfl⟩ : ∃ z, fu = z + 1 := ⟨fu - 1, by omega⟩
      rw [L_X5_sumOfLengths_4, if_neg (show ¬ (8 : Int32) ≤ nI k from nI_ge (a := k) (b := 8) (by omega) (by omega)), patternIn5 hs (by omega)]
      simp only [bnd, nm]
      rw [(len3P ho (show k < 8 by omega) (by omega)).1]
      simp only [sumF]
      rw [nI_add, nI_1, ih (k + 1) _ fu (by omega) (by omega), Nat.add_assoc]
  have := key 8 0 0 F (by omega) (by omega)
  rw [Nat.zero_add] at this
  exact this
theorem sum6 {F : Nat} {s : Nat → Int32} {P : Nat → Nat} (hs : SP s P) (ho : POs P) (hF : 100 ≤ F) : D_X6_sumOfLengths F s = some (nI (lsum P)) := by
  have key : ∀ (c k acc fu : Nat), k + c = 8 → c < fu → L_X6_sumOfLengths_4 F s fu (nI acc) (nI k) = some (nI (acc + sumF (fun p => ln (P p)) c k)) := by
    intro c
    induction c with
    | zero =>
      intro k acc fu hk hf
      obtain ⟨fu, rfl⟩ : ∃ z, fu = z + 1 := ⟨fu - 1, by omega⟩
      have hk : k = 8 := by omega
      subst hk
      rw [L_X6_sumOfLengths_4, if_pos (show (8 : Int32) ≤ nI 8 from by decide)]
      rfl
    | succ c ih =>
      intro k acc fu hk hf
      obtain ⟨fu, rfl⟩ : ∃ z, fu = z + 1 := ⟨fu - 1, by omega⟩
      rw [L_X6_sumOfLengths_4, if_neg (show ¬ (8 : Int32) ≤ nI k from nI_ge (a := k) (b := 8) (by omega) (by omega)), isThere6 hs ho (by omega)]
      simp only [bnd, nm]
      rw [if_b2, nI_0a, grd_t (inb_nI (show k < 31 by omega) (by decide)), nI_clamp (by omega), hs k (by omega), nI_a0, nI_1]
      simp only [sumF]
      by_cases h0 : P k = 0
      · rw [if_neg (by simp [h0]), ih (k + 1) acc fu (by omega) (by omega), h0, ln_0, Nat.zero_add]
      · obtain ⟨q1, q2, q3⟩ := PO_V (ho k (by omega)) h0
        rw [if_pos (by simp [h0]), len6 q3 (by omega) (by omega)]
        simp only []
        rw [nI_add, ih (k + 1) _ fu (by omega) (by omega), Nat.add_assoc]
  have := key 8 0 0 F (by omega) (by omega)
  rw [Nat.zero_add] at this
  exact this
theorem number5 {F : Nat} {pats : Nat → Int32} {P : Nat → Nat} (hs : SP pats P) (ho : POs P) (hF : 100 ≤ F) : D_X5_numberOfPatterns F pats = some (nI (bgn P 1)) := by
  have key : ∀ (c k acc fu : Nat), k + c = 8 → c < fu → L_X5_numberOfPatterns_4 F pats fu (nI acc) (nI k) = some (nI (acc + cntF (fun p => decide (P p ≠ 0) && isBegB (P p) 1) c k)) := by
    intro c
    induction c with
    | zero =>
      intro k acc fu hk hf
      obtain ⟨fu, rfl⟩ : ∃ z, fu = z + 1 := ⟨fu - 1, by omega⟩
      have hk : k = 8 := by omega
      subst hk
      rw [L_X5_numberOfPatterns_4, if_pos (show (8 : Int32) ≤ nI 8 from by decide)]
      rfl
    | succ c ih =>
      intro k acc fu hk hf
      obtain ⟨fu, rfl⟩ : ∃ z, fu = z + 1 := ⟨fu - 1, by omega⟩
      rw [L_X5_numberOfPatterns_4, if_neg (show ¬ (8 : Int32) ≤ nI k from nI_ge (a := k) (b := 8) (by omega) (by omega)), patternIn5 hs (by omega)]
      simp only [bnd, nm]
      rw [if_nI0 (a := P k) (by have := PO_lt (ho k (by omega)); omega), nI_1, nI_1, ih (k + 1) acc fu (by omega) (by omega), ih (k + 1) (acc + 1) fu (by omega) (by omega)]
      simp only [cntF]
      by_cases h0 : P k = 0
      · rw [if_pos h0]; simp [h0]
      · obtain ⟨q1, q2, q3⟩ := PO_V (ho k (by omega)) h0
        have hb : isBegB (P k) 1 = true := (isBegB_iff q3).mpr ⟨0, by omega, by rw [Nat.sub_zero]; exact V_end q3⟩
        rw [if_neg h0]; simp [h0, hb, Nat.add_assoc]
  have := key 8 0 0 F (by omega) (by omega)
  rw [Nat.zero_add] at this
  exact this
/-- numbers are told alike -/
theorem count_sim {F n w ρ rd tl sz : Nat} {P : Nat → Nat} {g : Nat → Nat} {pats rows sh en l s st : Nat → Int32} (hs : SP pats P) (hM : MO P n g rows sh en l) (hT : TR P ρ rd tl s) (hrd : rd < 2 ^ 30) (hst : AR st n g) (hw : w ≤ 9) (hF : 300 ≤ F) : ∃ r, D_X5_numberTold F (nI w) pats (s 30) (s 29) (s 28) (s 27) (nI rd) (nI tl) l (nI n) (nI sz) = some r ∧ D_X6_counted F (nI w) s st (nI n) (nI sz) = some r := by
  obtain ⟨hE, hA, hB, hen⟩ := hM
  obtain ⟨hs6, ho, hρ, h24, h25, htl, h26⟩ := hT
  have h9 := hE.2.1
  have hne : ∀ k, k ≤ 9 → k ≠ w → ¬ nI w = nI k := fun k hk hkw h => by have := (nI_eq (by omega) (by omega)).mp h; omega
  unfold D_X5_numberTold D_X6_counted
  rcases (show w = 0 ∨ w = 1 ∨ w = 2 ∨ w = 3 ∨ w = 4 ∨ w = 5 ∨ w = 6 ∨ w = 7 ∨ w = 8 ∨ w = 9 by omega) with e | e | e | e | e | e | e | e | e | e
  · subst e
    refine ⟨nI (bgn P 1), ?_, ?_⟩
    · rw [if_pos (show nI 0 = 0 from rfl), number5 hs ho (by omega)]; rfl
    · rw [if_pos (show nI 0 = 0 from rfl), show (1 : Int32) = nI 1 from rfl, beginning6 hs6 ho V_0 (by omega) (by omega)]; rfl
  · subst e
    refine ⟨nI n, ?_, ?_⟩
    · rw [if_neg (show ¬ nI 1 = 0 by decide), if_pos (show nI 1 = 1 from rfl)]
    · rw [if_neg (show ¬ nI 1 = 0 by decide), if_pos (show nI 1 = 1 from rfl)]
  · subst e
    obtain ⟨i, i1, i2, i3⟩ := currentState5 (F := F) hE hB htl (by omega)
    refine ⟨nI i, ?_, ?_⟩
    · rw [if_neg (show ¬ nI 2 = 0 by decide), if_neg (show ¬ nI 2 = 1 by decide), if_pos (show nI 2 = 2 from rfl), i3]; rfl
    · rw [if_neg (show ¬ nI 2 = 0 by decide), if_neg (show ¬ nI 2 = 1 by decide), if_pos (show nI 2 = 2 from rfl), state6 hs6 ho h25 htl h26 (by omega) (by omega)]
      simp only [bnd]
      rw [show sa P tl (min rd 8) = qS P tl rd from rfl, ← i2, numberOf6 hst hE.1 h9 (fun v hv => by have := (st_lt ho hv).1; omega) i1 (by omega)]
  · subst e
    refine ⟨nI rd, ?_, ?_⟩
    · rw [if_neg (show ¬ nI 3 = 0 by decide), if_neg (show ¬ nI 3 = 1 by decide), if_neg (show ¬ nI 3 = 2 by decide), if_pos (show nI 3 = 3 from rfl)]
    · rw [if_neg (show ¬ nI 3 = 0 by decide), if_neg (show ¬ nI 3 = 1 by decide), if_neg (show ¬ nI 3 = 2 by decide), if_pos (show nI 3 = 3 from rfl), grd_t (by decide)]
      exact congrArg some h25
  · subst e
    refine ⟨s 27, ?_, ?_⟩
    · rw [if_neg (show ¬ nI 4 = 0 by decide), if_neg (show ¬ nI 4 = 1 by decide), if_neg (show ¬ nI 4 = 2 by decide), if_neg (show ¬ nI 4 = 3 by decide), if_pos (show nI 4 = 4 from rfl)]
    · rw [if_neg (show ¬ nI 4 = 0 by decide), if_neg (show ¬ nI 4 = 1 by decide), if_neg (show ¬ nI 4 = 2 by decide), if_neg (show ¬ nI 4 = 3 by decide), if_pos (show nI 4 = 4 from rfl), grd_t (by decide)]; rfl
  · subst e
    refine ⟨s 28, ?_, ?_⟩
    · rw [if_neg (show ¬ nI 5 = 0 by decide), if_neg (show ¬ nI 5 = 1 by decide), if_neg (show ¬ nI 5 = 2 by decide), if_neg (show ¬ nI 5 = 3 by decide), if_neg (show ¬ nI 5 = 4 by decide), if_pos (show nI 5 = 5 from rfl)]
    · rw [if_neg (show ¬ nI 5 = 0 by decide), if_neg (show ¬ nI 5 = 1 by decide), if_neg (show ¬ nI 5 = 2 by decide), if_neg (show ¬ nI 5 = 3 by decide), if_neg (show ¬ nI 5 = 4 by decide), if_pos (show nI 5 = 5 from rfl), grd_t (by decide)]; rfl
  · subst e
    refine ⟨s 29, ?_, ?_⟩
    · rw [if_neg (show ¬ nI 6 = 0 by decide), if_neg (show ¬ nI 6 = 1 by decide), if_neg (show ¬ nI 6 = 2 by decide), if_neg (show ¬ nI 6 = 3 by decide), if_neg (show ¬ nI 6 = 4 by decide), if_neg (show ¬ nI 6 = 5 by decide), if_pos (show nI 6 = 6 from rfl)]
    · rw [if_neg (show ¬ nI 6 = 0 by decide), if_neg (show ¬ nI 6 = 1 by decide), if_neg (show ¬ nI 6 = 2 by decide), if_neg (show ¬ nI 6 = 3 by decide), if_neg (show ¬ nI 6 = 4 by decide), if_neg (show ¬ nI 6 = 5 by decide), if_pos (show nI 6 = 6 from rfl), grd_t (by decide)]; rfl
  · subst e
    refine ⟨s 30, ?_, ?_⟩
    · rw [if_neg (show ¬ nI 7 = 0 by decide), if_neg (show ¬ nI 7 = 1 by decide), if_neg (show ¬ nI 7 = 2 by decide), if_neg (show ¬ nI 7 = 3 by decide), if_neg (show ¬ nI 7 = 4 by decide), if_neg (show ¬ nI 7 = 5 by decide), if_neg (show ¬ nI 7 = 6 by decide), if_pos (show nI 7 = 7 from rfl)]
    · rw [if_neg (show ¬ nI 7 = 0 by decide), if_neg (show ¬ nI 7 = 1 by decide), if_neg (show ¬ nI 7 = 2 by decide), if_neg (show ¬ nI 7 = 3 by decide), if_neg (show ¬ nI 7 = 4 by decide), if_neg (show ¬ nI 7 = 5 by decide), if_neg (show ¬ nI 7 = 6 by decide), if_pos (show nI 7 = 7 from rfl), grd_t (by decide)]; rfl
  · subst e
    refine ⟨nI (lsum P), ?_, ?_⟩
    · rw [if_neg (show ¬ nI 8 = 0 by decide), if_neg (show ¬ nI 8 = 1 by decide), if_neg (show ¬ nI 8 = 2 by decide), if_neg (show ¬ nI 8 = 3 by decide), if_neg (show ¬ nI 8 = 4 by decide), if_neg (show ¬ nI 8 = 5 by decide), if_neg (show ¬ nI 8 = 6 by decide), if_neg (show ¬ nI 8 = 7 by decide), if_pos (show nI 8 = 8 from rfl), sum5 hs ho (by omega)]; rfl
    · rw [if_neg (show ¬ nI 8 = 0 by decide), if_neg (show ¬ nI 8 = 1 by decide), if_neg (show ¬ nI 8 = 2 by decide), if_neg (show ¬ nI 8 = 3 by decide), if_neg (show ¬ nI 8 = 4 by decide), if_neg (show ¬ nI 8 = 5 by decide), if_neg (show ¬ nI 8 = 6 by decide), if_neg (show ¬ nI 8 = 7 by decide), if_pos (show nI 8 = 8 from rfl), sum6 hs6 ho (by omega)]; rfl
  · subst e
    refine ⟨nI sz, ?_, ?_⟩
    · rw [if_neg (show ¬ nI 9 = 0 by decide), if_neg (show ¬ nI 9 = 1 by decide), if_neg (show ¬ nI 9 = 2 by decide), if_neg (show ¬ nI 9 = 3 by decide), if_neg (show ¬ nI 9 = 4 by decide), if_neg (show ¬ nI 9 = 5 by decide), if_neg (show ¬ nI 9 = 6 by decide), if_neg (show ¬ nI 9 = 7 by decide), if_neg (show ¬ nI 9 = 8 by decide)]
    · rw [if_neg (show ¬ nI 9 = 0 by decide), if_neg (show ¬ nI 9 = 1 by decide), if_neg (show ¬ nI 9 = 2 by decide), if_neg (show ¬ nI 9 = 3 by decide), if_neg (show ¬ nI 9 = 4 by decide), if_neg (show ¬ nI 9 = 5 by decide), if_neg (show ¬ nI 9 = 6 by decide), if_neg (show ¬ nI 9 = 7 by decide), if_neg (show ¬ nI 9 = 8 by decide)]
