theorem numberOfE {F n i : Nat} {P : Nat → Nat} {g : Nat → Nat} {st : Nat → Int32} (hE : EP P n g) (hst : AR st n g) (hi : i < n) (hF : 100 ≤ F) : D_X6_numberOf F (nI (g i)) st = some (nI i) :=
  numberOf6 hst hE.1 hE.2.1 (fun v hv => by have := (st_lt hE.2.2.2 hv).1; omega) hi hF
/-- what a letter would do is told alike -/
theorem fed_sim {F n ρ rd tl a : Nat} {w : Int32} {P : Nat → Nat} {g : Nat → Nat} {pats rows sh en l s st : Nat → Int32} (hs : SP pats P) (hM : MO P n g rows sh en l) (hT : TR P ρ rd tl s) (hrd : rd < 2 ^ 30) (hst : AR st n g) (ha : a < 4) (hF : 300 ≤ F) : ∃ r, D_X5_fedNumber F (nI a) w (nI tl) l (nI rd) (s 28) en (nI ρ) pats rows sh = some r ∧ D_X6_fed F (nI a) w s st = some r := by
  obtain ⟨hE, hA, hB, hen⟩ := hM
  obtain ⟨hs6, ho, hρ, h24, h25, htl, h26⟩ := hT
  have h9 := hE.2.1
  obtain ⟨i, i1, i2, i3⟩ := currentState5 (F := F) hE hB htl (by omega)
  obtain ⟨t, t1, t2, t3⟩ := lead_at (F := F) hE hB i1 ha
  obtain ⟨mq, mq1, mq2⟩ := qS_V (P := P) (tl := tl) (rd := rd)
  obtain ⟨md, md1, md2⟩ := dl_V8 (P := P) ho (q := qS P tl rd) (a := a)
  have e25 : s (25 : Int32).toNatClampNeg = nI rd := h25
  have hm5 : D_X5_matchesThatCount F (nI t) (nI rd) (s 28) en (nI ρ) pats = some (nI (mS P ρ tl rd a (nI rd) (s 28))) := by
    have := matches5 (F := F) (m := mk P (g t)) (y2 := nI rd) (y3 := s 28) hs ho (mk_lt _ _) hρ (by omega) (fun p _ hb => mk_ne hb) (show t < 65 by omega) (hen t t1)
    rw [t2, i2] at this
    exact this
  have hf5 := fallsBefore1 (F := F) hE hA hB ha i1 (by omega)
  rw [i2] at hf5
  unfold D_X5_fedNumber D_X6_fed
  rw [i3, state6 hs6 ho h25 htl h26 (by omega) (by omega)]
  simp only [bnd]
  rw [t3, show nI (sa P tl (min rd 8)) = nI (qS P tl rd) from rfl, behind6 hs6 ho mq2 mq1 ha (by omega)]
  simp only []
  rw [ending6 hs6 ho md2 (by omega) (by omega)]
  simp only []
  rw [grd_t (show inb 25 31 = true by decide), e25, counting6 hs6 ho (mk_lt _ _) hρ h24 (by omega) (fun p _ hb => mk_ne hb)]
  simp only []
  rw [show cM P ρ (mk P (dl P (qS P tl rd) a)) (nI rd) (s 28) = mS P ρ tl rd a (nI rd) (s 28) from rfl]
  have e39 := fun k70 => fed_39 (F := F) (m := mS P ρ tl rd a (nI rd) (s 28)) (y1 := nI a) (y2 := w) (y3 := nI (qS P tl rd)) (y4 := nI (dl P (qS P tl rd) a)) mS_lt 8 F (-1) (by omega) (by omega) k70
  rw [show nI 8 - 1 = 7 from by decide] at e39
  rw [e39]
  by_cases w0 : w = 0
  · refine ⟨nI t, by rw [if_pos w0], ?_⟩
    rw [if_pos w0, ← i2, ← t2, numberOfE hE hst t1 (by omega)]
  · rw [if_neg w0, if_neg w0]
    by_cases w1 : w = 1
    · refine ⟨nI (fo P a 10 (qS P tl rd)), by rw [if_pos w1, hf5], ?_⟩
      rw [if_pos w1, fallsOf6 hs6 ho mq2 mq1 ha (by omega)]
    · rw [if_neg w1, if_neg w1]
      by_cases w2 : w = 2
      · refine ⟨nI (pc (mS P ρ tl rd a (nI rd) (s 28))), ?_, ?_⟩
        · rw [if_pos w2, hm5]
          simp only []
          rw [bitCount6 _ mS_lt]
        · rw [if_pos w2, bitsOf6 mS_lt (by omega)]
      · refine ⟨lw (mS P ρ tl rd a (nI rd) (s 28)), ?_, ?_⟩
        · rw [if_neg w2, hm5]
          simp only []
          rw [lowestSlot5 mS_lt (by omega)]
        · rw [if_neg w2]
          rfl
theorem putAside6 {F : Nat} {s as : Nat → Int32} (hF : 100 ≤ F) : ∃ as', D_X6_putAside F s as = some as' ∧ ∀ i, i < 31 → as' i = s i := by
  have key : ∀ (c k fu : Nat) (as : Nat → Int32), k + c = 31 → c < fu → (∀ i, i < k → as i = s i) → ∃ as', L_X6_putAside_2 F s fu (nI k) as = some as' ∧ ∀ i, i < 31 → as' i = s i := by
    intro c
    induction c with
    | zero =>
      intro k fu as hk hf h
      obtain ⟨fu, rfl⟩ : ∃ z, fu = z + 1 := ⟨fu - 1, by omega⟩
      have hk : k = 31 := by omega
      subst hk
      exact ⟨as, by rw [L_X6_putAside_2, if_pos (show (31 : Int32) ≤ nI 31 from by decide)], h⟩
    | succ c ih =>
      intro k fu as hk hf h
      obtain ⟨fu, rfl⟩ : ∃ z, fu = z + 1 := ⟨fu - 1, by omega⟩
      obtain ⟨as', r1, r2⟩ := ih (k + 1) fu (upd as k (s k)) (by omega) (by omega) (fun i hi => by
        unfold upd
        by_cases e : i = k
        · rw [if_pos e, e]
        · rw [if_neg e]; exact h i (by omega))
      refine ⟨as', ?_, r2⟩
      rw [L_X6_putAside_2, if_neg (show ¬ (31 : Int32) ≤ nI k from nI_ge (a := k) (b := 31) (by omega) (by omega)), grd_t (inb_nI (show k < 31 by omega) (by decide)), nI_clamp (by omega)]
      simp only [nm]
      rw [grd_t (inb_nI (show k < 31 by omega) (by decide)), nI_1]
      exact r1
  exact key 31 0 F as (by omega) (by omega) (fun i hi => absurd hi (by omega))
theorem putBack6 {F : Nat} {s as : Nat → Int32} (hF : 100 ≤ F) : ∃ s', D_X6_putBack F as s = some s' ∧ ∀ i, i < 31 → s' i = as i := by
  have key : ∀ (c k fu : Nat) (s : Nat → Int32), k + c = 31 → c < fu → (∀ i, i < k → s i = as i) → ∃ s', L_X6_putBack_2 F as fu (nI k) s = some s' ∧ ∀ i, i < 31 → s' i = as i := by
    intro c
    induction c with
    | zero =>
      intro k fu s hk hf h
      obtain ⟨fu, rfl⟩ : ∃ z, fu = z + 1 := ⟨fu - 1, by omega⟩
      have hk : k = 31 := by omega
      subst hk
      exact ⟨s, by rw [L_X6_putBack_2, if_pos (show (31 : Int32) ≤ nI 31 from by decide)], h⟩
    | succ c ih =>
      intro k fu s hk hf h
      obtain ⟨fu, rfl⟩ : ∃ z, fu = z + 1 := ⟨fu - 1, by omega⟩
      obtain ⟨s', r1, r2⟩ := ih (k + 1) fu (upd s k (as k)) (by omega) (by omega) (fun i hi => by
        unfold upd
        by_cases e : i = k
        · rw [if_pos e, e]
        · rw [if_neg e]; exact h i (by omega))
      refine ⟨s', ?_, r2⟩
      rw [L_X6_putBack_2, if_neg (show ¬ (31 : Int32) ≤ nI k from nI_ge (a := k) (b := 31) (by omega) (by omega)), grd_t (inb_nI (show k < 31 by omega) (by decide)), nI_clamp (by omega)]
      simp only [nm]
      rw [grd_t (inb_nI (show k < 31 by omega) (by decide)), nI_1]
      exact r1
  exact key 31 0 F s (by omega) (by omega) (fun i hi => absurd hi (by omega))
theorem rep_sim {F n ρ a T rd0 : Nat} {P : Nat → Nat} {g : Nat → Nat} {pats rows sh en l : Nat → Int32} (hs : SP pats P) (hM : MO P n g rows sh en l) (ha : a < 4) (hT : T ≤ 200) (hrd : rd0 < 2 ^ 29) (hF : 300 ≤ F) : ∀ (c j fu fv rd tl i acc : Nat) (s : Nat → Int32), j + c = T → rd = rd0 + j → c < fu → c < fv → TR P ρ rd tl s → i < n → g i = qS P tl rd → ∃ r s', L_X5_matchesIfRepeated_20 F (nI a) (nI T) l (nI rd0) en (nI ρ) pats fu (nI acc) (nI i) (s 28) (nI j) = some r ∧ ∀ k29, L_X6_repeated_9 F k29 (nI a) (nI T) fv (nI acc) (nI j) s = k29 r s' := by
  intro c
  obtain ⟨hE, hA, hB, hen⟩ := hM
  have h9 := hE.2.1
  induction c with
  | zero =>
    intro j fu fv rd tl i acc s hj hr hf hv hTR hi hg
    obtain ⟨fu, rfl⟩ : ∃ z, fu = z + 1 := ⟨fu - 1, by omega⟩
    obtain ⟨fv, rfl⟩ : ∃ z, fv = z + 1 := ⟨fv - 1, by omega⟩
    have hj : j = T := by omega
    subst hj
    exact ⟨nI acc, s, by rw [L_X5_matchesIfRepeated_20, if_pos (nI_le (Nat.le_refl j) (by omega))], fun k29 => by rw [L_X6_repeated_9, if_pos (nI_le (Nat.le_refl j) (by omega))]⟩
  | succ c ih =>
    intro j fu fv rd tl i acc s hj hr hf hv hTR hi hg
    obtain ⟨fu, rfl⟩ : ∃ z, fu = z + 1 := ⟨fu - 1, by omega⟩
    obtain ⟨fv, rfl⟩ : ∃ z, fv = z + 1 := ⟨fv - 1, by omega⟩
    have ho := hE.2.2.2
    obtain ⟨t, t1, t2, t3⟩ := lead_at (F := F) hE hB hi ha
    obtain ⟨s1, d1, d2, d3, d4, d5, d6, d7⟩ := reads6 (F := F) hTR (by omega) ha (by omega)
    have htl := hTR.2.2.2.2.2.1
    have hg1 : g t = qS P (nx tl rd a) (rd + 1) := by
      rw [t2, hg]
      exact (sa_nx htl ha ho).symm
    obtain ⟨r, s', r1, r2⟩ := ih (j + 1) fu fv (rd + 1) (nx tl rd a) t (acc + pc (mS P ρ tl rd a (nI rd) (s 28))) s1 (by omega) (by omega) (by omega) (by omega) d2 t1 hg1
    refine ⟨r, s', ?_, fun k29 => ?_⟩
    · rw [L_X5_matchesIfRepeated_20, if_neg (nI_ge (show j < T by omega) (by omega)), t3]
      simp only [bnd]
      have hm5 := matches5 (F := F) (m := mk P (g t)) (y2 := nI rd) (y3 := s 28) hs ho (mk_lt _ _) hTR.2.2.1 (by omega) (fun p _ hb => mk_ne hb) (show t < 65 by omega) (hen t t1)
      rw [t2, hg] at hm5
      rw [nI_add, ← hr, hm5]
      simp only [jp, nm]
      rw [show cM P ρ (mk P (dl P (qS P tl rd) a)) (nI rd) (s 28) = mS P ρ tl rd a (nI rd) (s 28) from rfl]
      rw [bitCount6 _ mS_lt]
      simp only []
      rw [nI_add, nI_1, if_nI0 (a := mS P ρ tl rd a (nI rd) (s 28)) (by have := mS_lt (P := P) (ρ := ρ) (tl := tl) (rd := rd) (a := a) (read := nI rd) (last := s 28); omega)]
      rw [d4] at r1
      by_cases z : mS P ρ tl rd a (nI rd) (s 28) = 0
      · rw [if_pos z]; rw [if_pos z] at r1; exact r1
      · rw [if_neg z]; rw [if_neg z] at r1; exact r1
    · rw [L_X6_repeated_9, if_neg (nI_ge (show j < T by omega) (by omega)), d1]
      simp only [bnd, nm]
      rw [nI_add, nI_1]
      exact r2 k29
/-- a letter read again and again is told alike -/
theorem repeated_sim {F n ρ rd tl a T : Nat} {P : Nat → Nat} {g : Nat → Nat} {pats rows sh en l s as : Nat → Int32} (hs : SP pats P) (hM : MO P n g rows sh en l) (hTR : TR P ρ rd tl s) (hrd : rd < 2 ^ 29) (ha : a < 4) (hT : T ≤ 200) (hF : 300 ≤ F) : ∃ r as' s', D_X5_matchesIfRepeated F (nI a) (nI T) (nI tl) l (s 28) (nI rd) en (nI ρ) pats = some r ∧ D_X6_repeated F (nI a) (nI T) s as = some (r, as', s') ∧ ∀ i, i < 31 → s' i = s i := by
  have htl := hTR.2.2.2.2.2.1
  obtain ⟨i, i1, i2, i3⟩ := currentState5 (F := F) hM.1 hM.2.2.1 htl (by omega)
  obtain ⟨as1, a1, a2⟩ := putAside6 (F := F) (s := s) (as := as) (by omega)
  obtain ⟨r, s1, r1, r2⟩ := rep_sim hs hM ha hT hrd hF T 0 F F rd tl i 0 s (by omega) (by omega) (by omega) (by omega) hTR i1 i2
  obtain ⟨s2, b1, b2⟩ := putBack6 (F := F) (s := s1) (as := as1) (by omega)
  refine ⟨r, as1, s2, ?_, ?_, fun i hi => (b2 i hi).trans (a2 i hi)⟩
  · unfold D_X5_matchesIfRepeated
    rw [i3]
    exact r1
  · unfold D_X6_repeated
    rw [a1]
    simp only [bnd]
    refine Eq.trans (r2 _) ?_
    rw [b1]
/-- a pattern's letters are told alike -/
theorem letter_sim {F p k : Nat} {P : Nat → Nat} {s : Nat → Int32} (hs6 : SP s P) (ho : POs P) (hp : p < 8) (hk : k < 16) (hF : 100 ≤ F) : ∃ r, D_X3_letterAt F (nI (P p)) (nI k) = some r ∧ D_X6_letterOf F (nI p) (nI k) s = some r := by
  have e0 : s ((0 : Int32) + nI p).toNatClampNeg = nI (P p) := by rw [nI_0a, nI_clamp (by omega)]; exact hs6 p hp
  have g0 : inb ((0 : Int32) + nI p) 31 = true := by rw [nI_0a]; exact inb_nI (by omega) (by decide)
  unfold D_X6_letterOf
  rw [isThere6 hs6 ho hp]
  simp only [bnd, jp]
  rw [if_b2, e0]
  by_cases h0 : P p = 0
  · refine ⟨-1, by rw [h0]; exact letterAt3_0 hk (by omega), ?_⟩
    rw [if_neg (by simp [h0]), if_pos (nI_pos' (by omega))]
  · obtain ⟨q1, q2, q3⟩ := PO_V (ho p hp) h0
    refine ⟨_, letterAt3 q3 (by omega) hk (by omega), ?_⟩
    rw [if_pos (by simp [h0]), grd_t g0, len6 q3 (by omega) (by omega)]
    simp only []
    rw [if_le (by omega) (by omega)]
    by_cases h1 : ln (P p) ≤ k
    · rw [if_pos h1, if_neg (by omega)]
    · rw [if_neg h1, if_pos (by omega), grd_t g0]
      have e1 : nI (ln (P p)) - 1 - nI k = nI (ln (P p) - 1 - k) := by
        rw [nI_s1 (by omega), pk_sub (by omega)]
      have hlt := PO_lt (ho p hp)
      rw [e1, nI_shr (by omega) (by omega)]
      have hd : P p / 4 ^ (ln (P p) - 1 - k) ≤ P p := Nat.div_le_self _ _
      have h2 : nI (P p / 4 ^ (ln (P p) - 1 - k)) &&& 3 = nI (P p / 4 ^ (ln (P p) - 1 - k) % 2 ^ 2) := pk_andN (by omega) 2 (by decide)
      rw [h2]
