theorem cntF_t {f : Nat → Bool} {c k : Nat} (h : f k = true) : cntF f (c + 1) k = 1 + cntF f c (k + 1) := by
  simp only [cntF]
  rw [if_pos h]
theorem cntF_n {f : Nat → Bool} {c k : Nat} (h : ¬ f k = true) : cntF f (c + 1) k = cntF f c (k + 1) := by
  simp only [cntF]
  rw [if_neg h, Nat.zero_add]
theorem nI_or0 {a : Nat} (ha : a < 2 ^ 32) : nI a ||| 0 = nI a := by
  have := nI_or2 (a := a) (b := 0) ha (by omega)
  rw [Nat.or_zero] at this
  exact this
theorem ending6 {F m r : Nat} {s : Nat → Int32} {P : Nat → Nat} (hs : SP s P) (ho : POs P) (hr : V m r) (hm : m ≤ 9) (hF : 100 ≤ F) : D_X6_ending F (nI r) s = some (nI (mk P r)) := by
  have key : ∀ (c k fu acc : Nat), k + c = 8 → c < fu → acc < 256 → L_X6_ending_4 F (nI r) s fu (nI acc) (nI k) = some (nI (mskF (fun p => decide (P p ≠ 0) && isEndB r (P p)) c k acc)) := by
    intro c
    induction c with
    | zero =>
      intro k fu acc hk hf ha
      obtain ⟨fu, rfl⟩ : ∃ z, fu = z + 1 := ⟨fu - 1, by omega⟩
      have hk : k = 8 := by omega
      subst hk
      rw [L_X6_ending_4, if_pos (show (8 : Int32) ≤ nI 8 from by decide)]
      rfl
    | succ c ih =>
      intro k fu acc hk hf ha
      obtain ⟨fu, rfl⟩ : ∃ z, fu = z + 1 := ⟨fu - 1, by omega⟩
      have h2 : 2 ^ k < 2 ^ 8 := Nat.pow_lt_pow_right (by decide) (by omega)
      have h3 : acc ||| 2 ^ k < 2 ^ 8 := Nat.or_lt_two_pow ha h2
      rw [L_X6_ending_4, if_neg (show ¬ (8 : Int32) ≤ nI k from nI_ge (a := k) (b := 8) (by omega) (by omega)), isThere6 hs ho (show k < 8 by omega)]
      simp only [bnd, nm]
      rw [if_b2, nI_0a, grd_t (inb_nI (show k < 31 by omega) (by decide)), nI_clamp (by omega), hs k (by omega), nI_1, nI_or0 (by omega), nI_bit (by omega), nI_or2 (by omega) (by omega)]
      simp only [mskF]
      by_cases h0 : P k = 0
      · rw [if_neg (by simp [h0]), ih (k + 1) fu acc (by omega) (by omega) ha]
        simp [h0]
      · obtain ⟨q1, q2, q3⟩ := PO_V (ho k (by omega)) h0
        rw [if_pos (by simp [h0]), isEnd6 hr hm q3 (by omega) (by omega)]
        simp only []
        rw [if_b2, ih (k + 1) fu acc (by omega) (by omega) ha, ih (k + 1) fu (acc ||| 2 ^ k) (by omega) (by omega) h3]
        by_cases hb : isEndB r (P k) = true <;> simp [h0, hb]
  exact key 8 0 F 0 (by omega) (by omega) (by omega)
theorem tail6 {F rd t : Nat} {s : Nat → Int32} (h25 : s 25 = nI rd) (h26 : s 26 = nI t) (hrd : rd < 2 ^ 31) : D_X6_tail F s = some (nI (4 ^ min rd 8 + t)) := by
  unfold D_X6_tail
  have e25 : s (25 : Int32).toNatClampNeg = nI rd := h25
  have e26 : s (26 : Int32).toNatClampNeg = nI t := h26
  simp only [jp]
  rw [grd_t (show inb 25 31 = true by decide), e25, e26]
  show (if nI 8 ≤ nI rd then _ else _) = _
  rw [if_le (by omega) hrd]
  by_cases h : 8 ≤ rd
  · rw [if_pos h, grd_t (show inb 26 31 = true by decide), Nat.min_eq_right h]
    show some (((1 : Int32) <<< (((2 : Int32) * nI 8) &&& 31)) + nI t) = _
    rw [nI_shl (show 8 < 15 by omega), nI_add]
  · rw [if_neg h, grd_t (show inb 25 31 = true by decide), grd_t (show inb 26 31 = true by decide), Nat.min_eq_left (by omega), nI_shl (show rd < 15 by omega), nI_add]
theorem state6 {F rd tl : Nat} {s : Nat → Int32} {P : Nat → Nat} (hs : SP s P) (ho : POs P) (h25 : s 25 = nI rd) (htl : V (min rd 8) tl) (h26 : s 26 = nI (tl - 4 ^ min rd 8)) (hrd : rd < 2 ^ 31) (hF : 100 ≤ F) : D_X6_state F s = some (nI (sa P tl (min rd 8))) := by
  unfold D_X6_state
  have h8 : min rd 8 ≤ 8 := Nat.min_le_right _ _
  have e := tail6 (F := F) h25 h26 hrd
  rw [show 4 ^ min rd 8 + (tl - 4 ^ min rd 8) = tl from by have := htl.1; omega] at e
  rw [e]
  simp only [bnd]
  rw [len6 htl (by omega) (by omega)]
  simp only []
  rw [stateAt6 hs ho (by have := V_lt htl (by omega); omega) (by omega) (by omega)]
theorem FB.lead {P : Nat → Nat} {n : Nat} {g : Nat → Nat} {sh l : Nat → Int32} (h : FB P n g sh l (4 * n)) {i a : Nat} (hi : i < n) (ha : a < 4) : ∃ t, t < n ∧ l (4 * i + a) = nI t ∧ g t = dl P (g i) a := by
  obtain ⟨t, t1, t2, t3⟩ := h.1 (4 * i + a) (by omega) (by omega)
  rw [show (4 * i + a) / 4 = i by omega, show (4 * i + a) % 4 = a by omega] at t3
  exact ⟨t, t1, t2, t3⟩
theorem FB.short {P : Nat → Nat} {n : Nat} {g : Nat → Nat} {sh l : Nat → Int32} (hE : EP P n g) (h : FB P n g sh l (4 * n)) {i : Nat} (hi : i < n) (h1 : 1 ≤ i) : ∃ u, u < i ∧ sh i = nI u ∧ g u = bk P (g i) := by
  have h' : FB P n g sh l (4 * i + (4 * n - 4 * i)) := by rw [show 4 * i + (4 * n - 4 * i) = 4 * n by omega]; exact h
  exact h'.sh hE hi h1
theorem lead_at {F n i a : Nat} {P : Nat → Nat} {g : Nat → Nat} {sh l : Nat → Int32} (hE : EP P n g) (h : FB P n g sh l (4 * n)) (hi : i < n) (ha : a < 4) : ∃ t, t < n ∧ g t = dl P (g i) a ∧ D_X1_leadsTo F (nI i) (nI a) l = some (nI t) := by
  obtain ⟨t, t1, t2, t3⟩ := h.lead hi ha
  have := hE.2.1
  exact ⟨t, t1, t3, by rw [leadsTo1 (by omega), t2]⟩
theorem stateBehind1 {F n m r : Nat} {P : Nat → Nat} {g : Nat → Nat} {sh l : Nat → Int32} (hE : EP P n g) (h : FB P n g sh l (4 * n)) (hr : V m r) (hm : m ≤ 8) (hF : 100 ≤ F) : ∃ i, i < n ∧ g i = sa P r m ∧ D_X1_stateBehind F (nI r) l = some (nI i) := by
  have key : ∀ (d k fu t : Nat), k + d = m → d < fu → t < n → g t = sa P (r / 4 ^ (m - k)) k → ∃ i, i < n ∧ g i = sa P r m ∧ L_X1_stateBehind_10 F (nI r) (nI m) l fu (nI t) (nI k) = some (nI i) := by
    intro d
    induction d with
    | zero =>
      intro k fu t hk hf ht hg
      obtain ⟨fu, rfl⟩ : ∃ z, fu = z + 1 := ⟨fu - 1, by omega⟩
      have hk : k = m := by omega
      subst hk
      rw [Nat.sub_self, Nat.pow_zero, Nat.div_one] at hg
      exact ⟨t, ht, hg, by rw [L_X1_stateBehind_10, if_pos (nI_le (Nat.le_refl k) (by omega))]⟩
    | succ d ih =>
      intro k fu t hk hf ht hg
      obtain ⟨fu, rfl⟩ : ∃ z, fu = z + 1 := ⟨fu - 1, by omega⟩
      have ha : r / 4 ^ (m - 1 - k) % 4 < 4 := Nat.mod_lt _ (by decide)
      obtain ⟨t', t1, t2, t3⟩ := lead_at (F := F) hE h ht ha
      have e4 : r / 4 ^ (m - (k + 1)) = 4 * (r / 4 ^ (m - k)) + r / 4 ^ (m - 1 - k) % 4 := by
        have e1 : m - (k + 1) = m - 1 - k := by omega
        have e2 : r / 4 ^ (m - k) = r / 4 ^ (m - 1 - k) / 4 := by
          rw [show m - k = m - 1 - k + 1 by omega, Nat.pow_succ, Nat.div_div_eq_div_mul]
        rw [e1, e2]
        exact (Nat.div_add_mod _ 4).symm
      obtain ⟨i, i1, i2, i3⟩ := ih (k + 1) fu t' (by omega) (by omega) t1 (by
        rw [t2, hg, e4]
        unfold dl
        exact (sa_step ha k).symm)
      refine ⟨i, i1, i2, ?_⟩
      rw [L_X1_stateBehind_10, if_neg (nI_ge (show k < m by omega) (by omega)), letterAt3 hr (by omega) (by omega) (by omega), if_pos (show k < m by omega)]
      simp only [bnd]
      rw [t3]
      simp only [nm]
      rw [nI_1]
      exact i3
  unfold D_X1_stateBehind
  rw [len3 hr (by omega) (by omega)]
  simp only [bnd]
  refine key m 0 F 0 (by omega) (by omega) hE.2.2.1 ?_
  rw [hE.g0]
  exact (suf_0 _).symm
theorem goesOn1 {F n i a : Nat} {P : Nat → Nat} {g : Nat → Nat} {rows sh l : Nat → Int32} (hE : EP P n g) (hA : AR rows n g) (h : FB P n g sh l (4 * n)) (hi : i < n) (ha : a < 4) (hF : 100 ≤ F) : D_X1_goesOn F (nI i) (nI a) l rows = some (b2 (isSt P (4 * g i + a))) := by
  unfold D_X1_goesOn
  have h9 := hE.2.1
  obtain ⟨t, t1, t2, t3⟩ := lead_at (F := F) hE h hi ha
  have hg := (st_lt hE.2.2.2 (hE.1.1 i hi)).1
  have ht := (st_lt hE.2.2.2 (hE.1.1 t t1)).1
  rw [t3]
  simp only [bnd]
  rw [at_in (show t < 65 by omega) (by decide), hA t t1]
  simp only []
  rw [at_in (show i < 65 by omega) (by decide), hA i hi]
  simp only []
  rw [behind3 (by omega) ha]
  simp only []
  rw [if_eq (by omega) (by omega), b2_ite]
  congr 2
  obtain ⟨m, m1, m2⟩ := st_V hE.2.2.2 (hE.1.1 i hi)
  apply Bool.eq_iff_iff.mpr
  rw [decide_eq_true_eq]
  constructor
  · intro e
    rw [← e, t2]
    exact sa_st P _ _
  · intro e
    rw [t2]
    exact dl_st m2 ha e
theorem falls1 {F n a : Nat} {P : Nat → Nat} {g : Nat → Nat} {rows sh l : Nat → Int32} (hE : EP P n g) (hA : AR rows n g) (h : FB P n g sh l (4 * n)) (ha : a < 4) (hF : 100 ≤ F) : ∀ (m i k fu acc : Nat), i < n → V m (g i) → acc + m ≤ 8 → m < k → m < fu → L_X1_fallsBefore_5 F (nI a) l rows sh fu (nI i) (nI acc) = some (nI (acc + fo P a k (g i))) := by
  intro m
  have h9 := hE.2.1
  induction m using Nat.strongRecOn with
  | ind m ih =>
    intro i k fu acc hi hv hm hk hf
    obtain ⟨fu, rfl⟩ : ∃ z, fu = z + 1 := ⟨fu - 1, by omega⟩
    obtain ⟨k, rfl⟩ : ∃ z, k = z + 1 := ⟨k - 1, by omega⟩
    rw [L_X1_fallsBefore_5, if_neg (show ¬ (8 : Int32) < nI acc from nI_nlt (a := 8) (b := acc) (by omega) (by omega)), goesOn1 hE hA h hi ha hF]
    simp only [bnd, fo]
    rw [if_b2]
    by_cases hs : isSt P (4 * g i + a) = true
    · rw [if_pos hs, if_pos hs]; rfl
    · rw [if_neg hs, if_neg hs]
      rcases Nat.eq_zero_or_pos i with z | z
      · subst z
        rw [if_pos (show nI 0 = 0 from rfl), if_pos hE.g0, nI_1]
      · rw [if_neg (nI_ne0 z (by omega)), if_neg (hE.ne1 hi z), at_in (show i < 65 by omega) (by decide)]
        obtain ⟨u, u1, u2, u3⟩ := h.short hE hi z
        have hm1 : 1 ≤ m := by
          rcases Nat.eq_zero_or_pos m with e | e
          · subst e; exact absurd (V_0e hv) (hE.ne1 hi z)
          · exact e
        obtain ⟨q, q1, q2⟩ := bk_V (P := P) hv hm1
        rw [← u3] at q2
        rw [u2]
        simp only [nm]
        rw [nI_1, ih q q1 u k fu (acc + 1) (by omega) q2 (by omega) (by omega) (by omega), u3, Nat.add_assoc]
theorem fallsBefore1 {F n a i : Nat} {P : Nat → Nat} {g : Nat → Nat} {rows sh l : Nat → Int32} (hE : EP P n g) (hA : AR rows n g) (h : FB P n g sh l (4 * n)) (ha : a < 4) (hi : i < n) (hF : 100 ≤ F) : D_X1_fallsBefore F (nI i) (nI a) l rows sh = some (nI (fo P a 10 (g i))) := by
  obtain ⟨m, m1, m2⟩ := st_V hE.2.2.2 (hE.1.1 i hi)
  have := falls1 hE hA h ha hF m i 10 F 0 hi m2 (by omega) (by omega) (by omega)
  rw [Nat.zero_add] at this
  exact this
theorem Int32_add_s (x : Int32) (k : Nat) : x + 1 + nI k = x + nI (1 + k) := by
  rw [Int32.add_assoc, show (1 : Int32) + nI k = nI (1 + k) from nI_add 1 k]
theorem takeMatches2 {F m : Nat} (hm : m < 256) {cnt lat : Nat → Int32} {read tot last : Int32} (hF : 100 ≤ F) : ∃ cnt' lat', D_X2_takeMatches F (nI m) cnt read lat tot last = some (cnt', lat', tot + nI (pc m), if m = 0 then last else read) ∧ ∀ p, p < 8 → cnt' p = (if m.testBit p = true then cnt p + 1 else cnt p) ∧ lat' p = (if m.testBit p = true then read else lat p) := by
  have key : ∀ (c k fu : Nat) (cnt lat : Nat → Int32) (tot last : Int32), k + c = 8 → c < fu → ∃ cnt' lat', L_X2_takeMatches_2 F (nI m) read fu (nI k) cnt lat tot last = some (cnt', lat', tot + nI (cntF m.testBit c k), if cntF m.testBit c k = 0 then last else read) ∧ (∀ p, p < k → cnt' p = cnt p ∧ lat' p = lat p) ∧ ∀ p, k ≤ p → p < 8 → cnt' p = (if m.testBit p = true then cnt p + 1 else cnt p) ∧ lat' p = (if m.testBit p = true then read else lat p) := by
    intro c
    induction c with
    | zero =>
      intro k fu cnt lat tot last hk hf
      obtain ⟨fu, rfl⟩ : ∃ z, fu = z + 1 := ⟨fu - 1, by omega⟩
      have hk : k = 8 := by omega
      subst hk
      refine ⟨cnt, lat, ?_, fun p _ => ⟨rfl, rfl⟩, fun p q1 q2 => by omega⟩
      rw [L_X2_takeMatches_2, if_pos (show (8 : Int32) ≤ nI 8 from by decide)]
      rw [show cntF m.testBit 0 8 = 0 from rfl, show tot + nI 0 = tot from Int32.add_zero tot, if_pos rfl]
    | succ c ih =>
      intro k fu cnt lat tot last hk hf
      obtain ⟨fu, rfl⟩ : ∃ z, fu = z + 1 := ⟨fu - 1, by omega⟩
      rw [L_X2_takeMatches_2, if_neg (show ¬ (8 : Int32) ≤ nI k from nI_ge (a := k) (b := 8) (by omega) (by omega)), if_bit hm (by omega)]
      by_cases hb : m.testBit k = true
      · rw [if_pos hb, cntF_t hb, at_in (show k < 8 by omega) (by decide)]
        simp only [bnd]
        rw [put_in (show k < 8 by omega) (by decide)]
        simp only []
        rw [put_in (show k < 8 by omega) (by decide)]
        simp only [nm]
        rw [nI_1]
        obtain ⟨cnt', lat', r1, r2, r3⟩ := ih (k + 1) fu (upd cnt k (cnt k + 1)) (upd lat k read) (tot + 1) read (by omega) (by omega)
        refine ⟨cnt', lat', ?_, fun p hp => ?_, fun p q1 q2 => ?_⟩
        · rw [r1, Int32_add_s, if_neg (show ¬ 1 + cntF m.testBit c (k + 1) = 0 by omega)]
          split <;> rfl
        · have := r2 p (by omega)
          unfold upd at this
          rw [if_neg (by omega), if_neg (by omega)] at this
          exact this
        · by_cases e : p = k
          · have := r2 p (by omega)
            unfold upd at this
            rw [if_pos e, if_pos e] at this
            rw [e] at this ⊢
            rw [if_pos hb, if_pos hb]
            exact this
          · have := r3 p (by omega) q2
            unfold upd at this
            rw [if_neg e, if_neg e] at this
            exact this
      · rw [if_neg hb, cntF_n hb]
        simp only [nm]
        rw [nI_1]
        obtain ⟨cnt', lat', r1, r2, r3⟩ := ih (k + 1) fu cnt lat tot last (by omega) (by omega)
        refine ⟨cnt', lat', r1, fun p hp => r2 p (by omega), fun p q1 q2 => ?_⟩
        by_cases e : p = k
        · rw [e, if_neg hb, if_neg hb]; exact r2 k (by omega)
        · exact r3 p (by omega) q2
  obtain ⟨cnt', lat', r1, r2, r3⟩ := key 8 0 F cnt lat tot last (by omega) (by omega)
  refine ⟨cnt', lat', ?_, fun p hp => r3 p (by omega) hp⟩
  refine Eq.trans r1 ?_
  have e : (cntF m.testBit 8 0 = 0) = (m = 0) := propext (pc_0 m hm)
  by_cases h : m = 0
  · rw [if_pos h, if_pos (by rw [e]; exact h)]; rfl
  · rw [if_neg h, if_neg (by rw [e]; exact h)]; rfl
theorem reads_114 {F m : Nat} (hm : m < 256) {read : Int32} (hF : 100 ≤ F) : ∀ (c k fu : Nat) (s : Nat → Int32), k + c = 8 → c < fu → ∃ s', (∀ k184, L_X6_reads_114 F k184 read (nI m) fu (nI k) s = k184 s') ∧ s' 27 = s 27 + nI (cntF m.testBit c k) ∧ s' 28 = (if cntF m.testBit c k = 0 then s 28 else read) ∧ (∀ i, i < 8 + k → s' i = s i) ∧ (∀ i, 16 ≤ i → i < 16 + k → s' i = s i) ∧ (∀ i, i = 24 ∨ i = 25 ∨ i = 26 ∨ i = 29 ∨ i = 30 → s' i = s i) ∧ ∀ p, k ≤ p → p < 8 → s' (8 + p) = (if m.testBit p = true then s (8 + p) + 1 else s (8 + p)) ∧ s' (16 + p) = (if m.testBit p = true then read else s (16 + p)) := by
  intro c
  induction c with
  | zero =>
    intro k fu s hk hf
    obtain ⟨fu, rfl⟩ : ∃ z, fu = z + 1 := ⟨fu - 1, by omega⟩
    have hk : k = 8 := by omega
    subst hk
    refine ⟨s, fun k184 => by rw [L_X6_reads_114, if_pos (show (8 : Int32) ≤ nI 8 from by decide)], (Int32.add_zero _).symm, rfl, fun i _ => rfl, fun i _ _ => rfl, fun i _ => rfl, fun p q1 q2 => by omega⟩
  | succ c ih =>
    intro k fu s hk hf
    obtain ⟨fu, rfl⟩ : ∃ z, fu = z + 1 := ⟨fu - 1, by omega⟩
    by_cases hb : m.testBit k = true
    · obtain ⟨s', r0, r1, r2, r3, r4, r5, r6⟩ := ih (k + 1) fu (upd (upd (upd (upd s (8 + k) (s (8 + k) + 1)) (16 + k) read) 28 read) 27 (s 27 + 1)) (by omega) (by omega)
      have a0 : ∀ i, i ≠ 8 + k → i ≠ 16 + k → i ≠ 28 → i ≠ 27 → (upd (upd (upd (upd s (8 + k) (s (8 + k) + 1)) (16 + k) read) 28 read) 27 (s 27 + 1)) i = s i := by
        intro i q1 q2 q3 q4
        unfold upd
        rw [if_neg q4, if_neg q3, if_neg q2, if_neg q1]
      have a1 : (upd (upd (upd (upd s (8 + k) (s (8 + k) + 1)) (16 + k) read) 28 read) 27 (s 27 + 1)) (8 + k) = s (8 + k) + 1 := by
        unfold upd
        rw [if_neg (by omega), if_neg (by omega), if_neg (by omega), if_pos rfl]
      have a2 : (upd (upd (upd (upd s (8 + k) (s (8 + k) + 1)) (16 + k) read) 28 read) 27 (s 27 + 1)) (16 + k) = read := by
        unfold upd
        rw [if_neg (by omega), if_neg (by omega), if_pos rfl]
      refine ⟨s', fun k184 => ?_, ?_, ?_, fun i hi => ?_, fun i h1 h2 => ?_, fun i hi => ?_, fun p q1 q2 => ?_⟩
      · rw [L_X6_reads_114, if_neg (show ¬ (8 : Int32) ≤ nI k from nI_ge (a := k) (b := 8) (by omega) (by omega)), if_bit1 hm (by omega), if_pos hb]
        have e8 : (8 : Int32) + nI k = nI (8 + k) := nI_add 8 k
        have e16 : (16 : Int32) + nI k = nI (16 + k) := nI_add 16 k
        have e27 : (27 : Int32).toNatClampNeg = 27 := rfl
        have e28 : (28 : Int32).toNatClampNeg = 28 := rfl
        rw [e8, e16, e27, e28, grd_t (inb_nI (show 8 + k < 31 by omega) (by decide)), nI_clamp (by omega)]
        simp only [nm]
        rw [grd_t (inb_nI (show 8 + k < 31 by omega) (by decide)), grd_t (inb_nI (show 16 + k < 31 by omega) (by decide)), grd_t (show inb 28 31 = true by decide), grd_t (show inb 27 31 = true by decide), grd_t (show inb 27 31 = true by decide), nI_clamp (by omega), nI_1]
        have e : upd (upd (upd s (8 + k) (s (8 + k) + 1)) (16 + k) read) 28 read 27 = s 27 := by
          unfold upd
          rw [if_neg (by omega), if_neg (by omega), if_neg (by omega)]
        rw [e]
        exact r0 k184
      · rw [r1]
        rw [cntF_t hb, ← Int32_add_s]
        rfl
      · rw [r2]
        rw [cntF_t hb, if_neg (show ¬ 1 + cntF m.testBit c (k + 1) = 0 by omega)]
        have : (upd (upd (upd (upd s (8 + k) (s (8 + k) + 1)) (16 + k) read) 28 read) 27 (s 27 + 1)) 28 = read := rfl
        rw [this]
        split <;> rfl
      · rw [r3 i (by omega)]; exact a0 i (by omega) (by omega) (by omega) (by omega)
      · rw [r4 i h1 (by omega)]; exact a0 i (by omega) (by omega) (by omega) (by omega)
      · rw [r5 i hi]; exact a0 i (by omega) (by omega) (by omega) (by omega)
      · by_cases e : p = k
        · rw [e, if_pos hb, if_pos hb]
          exact ⟨by rw [r3 (8 + k) (by omega)]; exact a1, by rw [r4 (16 + k) (by omega) (by omega)]; exact a2⟩
        · obtain ⟨z1, z2⟩ := r6 p (by omega) q2
          rw [a0 (8 + p) (by omega) (by omega) (by omega) (by omega)] at z1
          rw [a0 (16 + p) (by omega) (by omega) (by omega) (by omega)] at z2
          exact ⟨z1, z2⟩
    · obtain ⟨s', r0, r1, r2, r3, r4, r5, r6⟩ := ih (k + 1) fu s (by omega) (by omega)
      refine ⟨s', fun k184 => ?_, ?_, ?_, fun i hi => r3 i (by omega), fun i h1 h2 => r4 i h1 (by omega), r5, fun p q1 q2 => ?_⟩
      · rw [L_X6_reads_114, if_neg (show ¬ (8 : Int32) ≤ nI k from nI_ge (a := k) (b := 8) (by omega) (by omega)), if_bit1 hm (by omega), if_neg hb]
        simp only [nm]
        rw [nI_1]
        exact r0 k184
      · rw [cntF_n hb]; exact r1
      · rw [cntF_n hb]; exact r2
      · by_cases e : p = k
        · rw [e, if_neg hb, if_neg hb]
          exact ⟨r3 (8 + k) (by omega), r4 (16 + k) (by omega) (by omega)⟩
        · exact r6 p (by omega) q2
