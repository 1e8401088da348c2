theorem cntF_t {f : Nat → Bool} {c k : Nat} (h : f k = true) : cntF f (c + 1) k = 1 + cntF f c (k + 1) := by
  simp only [cntF]
  rw [if_pos h]
theorem cntF_n {f : Nat → Bool} {c k : Nat} (h : ¬ f k = true) : cntF f (c + 1) k = cntF f c (k + 1) := by
  simp only [cntF]
  rw [if_neg h, Nat.zero_add]
theorem nI_or0 {a : Nat} (ha : a < 2 ^ 32) : nI a ||| 0 = nI a := by
  have := nI_or2 (a := a) (b := 0) ha (by omega)
  rw [Nat.or_zero] at this
  exact this
theorem FB.lead {P : Nat → Nat} {n : Nat} {g : Nat → Nat} {sh l : Nat → Int32} (h : FB P n g sh l (4 * n)) {i a : Nat} (hi : i < n) (ha : a < 4) : ∃ t, t < n ∧ l (4 * i + a) = nI t ∧ g t = dl P (g i) a := by
  obtain ⟨t, t1, t2, t3⟩ := h.1 (4 * i + a) (by omega) (by omega)
  rw [show (4 * i + a) / 4 = i by omega, show (4 * i + a) % 4 = a by omega] at t3
  exact ⟨t, t1, t2, t3⟩
theorem FB.short {P : Nat → Nat} {n : Nat} {g : Nat → Nat} {sh l : Nat → Int32} (hE : EP P n g) (h : FB P n g sh l (4 * n)) {i : Nat} (hi : i < n) (h1 : 1 ≤ i) : ∃ u, u < i ∧ sh i = nI u ∧ g u = bk P (g i) := by
  have h' : FB P n g sh l (4 * i + (4 * n - 4 * i)) := by rw [show 4 * i + (4 * n - 4 * i) = 4 * n by omega]; exact h
  exact h'.sh hE hi h1
theorem lead_at {F n i a : Nat} {P : Nat → Nat} {g : Nat → Nat} {sh l : Nat → Int32} (hE : EP P n g) (h : FB P n g sh l (4 * n)) (hi : i < n) (ha : a < 4) : ∃ t, t < n ∧ g t = dl P (g i) a ∧ D_X1_leadsTo F (nI i) (nI a) l = some (nI t) := by
  obtain ⟨t, t1, t2, t3⟩ := h.lead hi ha
  have := hE.2.1
  exact ⟨t, t1, t3, by rw [leadsTo1 (by omega), t2]⟩
theorem stateBehind1 {F n m r : Nat} {P : Nat → Nat} {g : Nat → Nat} {sh l : Nat → Int32} (hE : EP P n g) (h : FB P n g sh l (4 * n)) (hr : V m r) (hm : m ≤ 8) (hF : 100 ≤ F) : ∃ i, i < n ∧ g i = sa P r m ∧ D_X1_stateBehind F (nI r) l = some (nI i) := by
  have key : ∀ (d k fu t : Nat), k + d = m → d < fu → t < n → g t = sa P (r / 4 ^ (m - k)) k → ∃ i, i < n ∧ g i = sa P r m ∧ L_X1_stateBehind_10 F (nI r) (nI m) l fu (nI t) (nI k) = some (nI i) := by
    intro d
    induction d with
    | zero =>
      intro k fu t hk hf ht hg
      obtain ⟨fu, rfl⟩ : ∃ z, fu = z + 1 := ⟨fu - 1, by omega⟩
      have hk : k = m := by omega
      subst hk
      rw [Nat.sub_self, Nat.pow_zero, Nat.div_one] at hg
      exact ⟨t, ht, hg, by rw [L_X1_stateBehind_10, if_pos (nI_le (Nat.le_refl k) (by omega))]⟩
    | succ d ih =>
      intro k fu t hk hf ht hg
      obtain ⟨fu, rfl⟩ : ∃ z, fu = z + 1 := ⟨fu - 1, by omega⟩
      have ha : r / 4 ^ (m - 1 - k) % 4 < 4 := Nat.mod_lt _ (by decide)
      obtain ⟨t', t1, t2, t3⟩ := lead_at (F := F) hE h ht ha
      have e4 : r / 4 ^ (m - (k + 1)) = 4 * (r / 4 ^ (m - k)) + r / 4 ^ (m - 1 - k) % 4 := by
        have e1 : m - (k + 1) = m - 1 - k := by omega
        have e2 : r / 4 ^ (m - k) = r / 4 ^ (m - 1 - k) / 4 := by
          rw [show m - k = m - 1 - k + 1 by omega, Nat.pow_succ, Nat.div_div_eq_div_mul]
        rw [e1, e2]
        exact (Nat.div_add_mod _ 4).symm
      obtain ⟨i, i1, i2, i3⟩ := ih (k + 1) fu t' (by omega) (by omega) t1 (by
        rw [t2, hg, e4]
        unfold dl
        exact (sa_step ha k).symm)
      refine ⟨i, i1, i2, ?_⟩
      rw [L_X1_stateBehind_10, if_neg (nI_ge (show k < m by omega) (by omega)), letterAt3 hr (by omega) (by omega) (by omega), if_pos (show k < m by omega)]
      simp only [bnd]
      rw [t3]
      simp only [nm]
      rw [nI_1]
      exact i3
  unfold D_X1_stateBehind
  rw [len3 hr (by omega) (by omega)]
  simp only [bnd]
  refine key m 0 F 0 (by omega) (by omega) hE.2.2.1 ?_
  rw [hE.g0]
  exact (suf_0 _).symm
theorem goesOn1 {F n i a : Nat} {P : Nat → Nat} {g : Nat → Nat} {rows sh l : Nat → Int32} (hE : EP P n g) (hA : AR rows n g) (h : FB P n g sh l (4 * n)) (hi : i < n) (ha : a < 4) (hF : 100 ≤ F) : D_X1_goesOn F (nI i) (nI a) l rows = some (b2 (isSt P (4 * g i + a))) := by
  unfold D_X1_goesOn
  have h9 := hE.2.1
  obtain ⟨t, t1, t2, t3⟩ := lead_at (F := F) hE h hi ha
  have hg := (st_lt hE.2.2.2 (hE.1.1 i hi)).1
  have ht := (st_lt hE.2.2.2 (hE.1.1 t t1)).1
  rw [t3]
  simp only [bnd]
  rw [at_in (show t < 65 by omega) (by decide), hA t t1]
  simp only []
  rw [at_in (show i < 65 by omega) (by decide), hA i hi]
  simp only []
  rw [behind3 (by omega) ha]
  simp only []
  rw [if_eq (by omega) (by omega), b2_ite]
  congr 2
  obtain ⟨m, m1, m2⟩ := st_V hE.2.2.2 (hE.1.1 i hi)
  apply Bool.eq_iff_iff.mpr
  rw [decide_eq_true_eq]
  constructor
  · intro e
    rw [← e, t2]
    exact sa_st P _ _
  · intro e
    rw [t2]
    exact dl_st m2 ha e
theorem falls1 {F n a : Nat} {P : Nat → Nat} {g : Nat → Nat} {rows sh l : Nat → Int32} (hE : EP P n g) (hA : AR rows n g) (h : FB P n g sh l (4 * n)) (ha : a < 4) (hF : 100 ≤ F) : ∀ (m i k fu acc : Nat), i < n → V m (g i) → acc + m ≤ 8 → m < k → m < fu → L_X1_fallsBefore_5 F (nI a) l rows sh fu (nI i) (nI acc) = some (nI (acc + fo P a k (g i))) := by
  intro m
  have h9 := hE.2.1
  induction m using Nat.strongRecOn with
  | ind m ih =>
    intro i k fu acc hi hv hm hk hf
    obtain ⟨fu, rfl⟩ : ∃ z, fu = z + 1 := ⟨fu - 1, by omega⟩
    obtain ⟨k, rfl⟩ : ∃ z, k = z + 1 := ⟨k - 1, by omega⟩
    rw [L_X1_fallsBefore_5, if_neg (show ¬ (8 : Int32) < nI acc from nI_nlt (a := 8) (b := acc) (by omega) (by omega)), goesOn1 hE hA h hi ha hF]
    simp only [bnd, fo]
    rw [if_b2]
    by_cases hs : isSt P (4 * g i + a) = true
    · rw [if_pos hs, if_pos hs]; rfl
    · rw [if_neg hs, if_neg hs]
      rcases Nat.eq_zero_or_pos i with z | z
      · subst z
        rw [if_pos (show nI 0 = 0 from rfl), if_pos hE.g0, nI_1]
      · rw [if_neg (nI_ne0 z (by omega)), if_neg (hE.ne1 hi z), at_in (show i < 65 by omega) (by decide)]
        obtain ⟨u, u1, u2, u3⟩ := h.short hE hi z
        have hm1 : 1 ≤ m := by
          rcases Nat.eq_zero_or_pos m with e | e
          · subst e; exact absurd (V_0e hv) (hE.ne1 hi z)
          · exact e
        obtain ⟨q, q1, q2⟩ := bk_V (P := P) hv hm1
        rw [← u3] at q2
        rw [u2]
        simp only [nm]
        rw [nI_1, ih q q1 u k fu (acc + 1) (by omega) q2 (by omega) (by omega) (by omega), u3, Nat.add_assoc]
theorem fallsBefore1 {F n a i : Nat} {P : Nat → Nat} {g : Nat → Nat} {rows sh l : Nat → Int32} (hE : EP P n g) (hA : AR rows n g) (h : FB P n g sh l (4 * n)) (ha : a < 4) (hi : i < n) (hF : 100 ≤ F) : D_X1_fallsBefore F (nI i) (nI a) l rows sh = some (nI (fo P a 10 (g i))) := by
  obtain ⟨m, m1, m2⟩ := st_V hE.2.2.2 (hE.1.1 i hi)
  have := falls1 hE hA h ha hF m i 10 F 0 hi m2 (by omega) (by omega) (by omega)
  rw [Nat.zero_add] at this
  exact this
theorem Int32_add_s (x : Int32) (k : Nat) : x + 1 + nI k = x + nI (1 + k) := by
  rw [Int32.add_assoc, show (1 : Int32) + nI k = nI (1 + k) from nI_add 1 k]
theorem takeMatches2 {F m : Nat} (hm : m < 256) {cnt lat : Nat → Int32} {read tot last : Int32} (hF : 100 ≤ F) : ∃ cnt' lat', D_X2_takeMatches F (nI m) cnt read lat tot last = some (cnt', lat', tot + nI (pc m), if m = 0 then last else read) ∧ ∀ p, p < 8 → cnt' p = (if m.testBit p = true then cnt p + 1 else cnt p) ∧ lat' p = (if m.testBit p = true then read else lat p) := by
  have key : ∀ (c k fu : Nat) (cnt lat : Nat → Int32) (tot last : Int32), k + c = 8 → c < fu → ∃ cnt' lat', L_X2_takeMatches_2 F (nI m) read fu (nI k) cnt lat tot last = some (cnt', lat', tot + nI (cntF m.testBit c k), if cntF m.testBit c k = 0 then last else read) ∧ (∀ p, p < k → cnt' p = cnt p ∧ lat' p = lat p) ∧ ∀ p, k ≤ p → p < 8 → cnt' p = (if m.testBit p = true then cnt p + 1 else cnt p) ∧ lat' p = (if m.testBit p = true then read else lat p) := by
    intro c
    induction c with
    | zero =>
      intro k fu cnt lat tot last hk hf
      obtain ⟨fu, rfl⟩ : ∃ z, fu = z + 1 := ⟨fu - 1, by omega⟩
      have hk : k = 8 := by omega
      subst hk
      refine ⟨cnt, lat, ?_, fun p _ => ⟨rfl, rfl⟩, fun p q1 q2 => by omega⟩
      rw [L_X2_takeMatches_2, if_pos (show (8 : Int32) ≤ nI 8 from by decide)]
      rw [show cntF m.testBit 0 8 = 0 from rfl, show tot + nI 0 = tot from Int32.add_zero tot, if_pos rfl]
    | succ c ih =>
      intro k fu cnt lat tot last hk hf
      obtain ⟨fu, rfl⟩ : ∃ z, fu = z + 1 := ⟨fu - 1, by omega⟩
      rw [L_X2_takeMatches_2, if_neg (show ¬ (8 : Int32) ≤ nI k from nI_ge (a := k) (b := 8) (by omega) (by omega)), if_bit hm (by omega)]
      by_cases hb : m.testBit k = true
      · rw [if_pos hb, cntF_t hb, at_in (show k < 8 by omega) (by decide)]
        simp only [bnd]
        rw [put_in (show k < 8 by omega) (by decide)]
        simp only []
        rw [put_in (show k < 8 by omega) (by decide)]
        simp only [nm]
        rw [nI_1]
        obtain ⟨cnt', lat', r1, r2, r3⟩ := ih (k + 1) fu (upd cnt k (cnt k + 1)) (upd lat k read) (tot + 1) read (by omega) (by omega)
        refine ⟨cnt', lat', ?_, fun p hp => ?_, fun p q1 q2 => ?_⟩
        · rw [r1, Int32_add_s, if_neg (show ¬ 1 + cntF m.testBit c (k + 1) = 0 by omega)]
          split <;> rfl
        · have := r2 p (by omega)
          unfold upd at this
          rw [if_neg (by omega), if_neg (by omega)] at this
          exact this
        · by_cases e : p = k
          · have := r2 p (by omega)
            unfold upd at this
            rw [if_pos e, if_pos e] at this
            rw [e] at this ⊢
            rw [if_pos hb, if_pos hb]
            exact this
          · have := r3 p (by omega) q2
            unfold upd at this
            rw [if_neg e, if_neg e] at this
            exact this
      · rw [if_neg hb, cntF_n hb]
        simp only [nm]
        rw [nI_1]
        obtain ⟨cnt', lat', r1, r2, r3⟩ := ih (k + 1) fu cnt lat tot last (by omega) (by omega)
        refine ⟨cnt', lat', r1, fun p hp => r2 p (by omega), fun p q1 q2 => ?_⟩
        by_cases e : p = k
        · rw [e, if_neg hb, if_neg hb]; exact r2 k (by omega)
        · exact r3 p (by omega) q2
  obtain ⟨cnt', lat', r1, r2, r3⟩ := key 8 0 F cnt lat tot last (by omega) (by omega)
  refine ⟨cnt', lat', ?_, fun p hp => r3 p (by omega) hp⟩
  refine Eq.trans r1 ?_
  have e : (cntF m.testBit 8 0 = 0) = (m = 0) := propext (pc_0 m hm)
  by_cases h : m = 0
  · rw [if_pos h, if_pos (by rw [e]; exact h)]; rfl
  · rw [if_neg h, if_neg (by rw [e]; exact h)]; rfl
