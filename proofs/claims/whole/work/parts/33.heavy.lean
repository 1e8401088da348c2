theorem cntF_snoc (f : Nat → Bool) : ∀ c k, cntF f (c + 1) k = cntF f c k + (if f (k + c) then 1 else 0) := by
  intro c
  induction c with
  | zero => intro k; simp [cntF]
  | succ c ih =>
    intro k
    have h1 : cntF f (c + 1 + 1) k = (if f k then 1 else 0) + cntF f (c + 1) (k + 1) := rfl
    have h2 : cntF f (c + 1) k = (if f k then 1 else 0) + cntF f c (k + 1) := rfl
    rw [h1, ih (k + 1), h2, show k + 1 + c = k + (c + 1) by omega, Nat.add_assoc]
theorem Enum_cnt {Q : Nat → Bool} {n : Nat} {g : Nat → Nat} (h : Enum n g (fun v => Q v = true)) : ∀ N, ∃ m, m ≤ n ∧ cntF Q N 0 = m ∧ (∀ i, i < m → g i < N) ∧ ∀ i, m ≤ i → i < n → N ≤ g i := by
  intro N
  induction N with
  | zero => exact ⟨0, Nat.zero_le _, rfl, fun i hi => absurd hi (by omega), fun i _ _ => Nat.zero_le _⟩
  | succ N ih =>
    obtain ⟨m, m1, m2, m3, m4⟩ := ih
    rw [cntF_snoc, m2, Nat.zero_add]
    by_cases hq : Q N = true
    · obtain ⟨i, i1, i2⟩ := h.2.2 N hq
      have him : m ≤ i := by
        rcases Nat.lt_or_ge i m with c | c
        · have := m3 i c; omega
        · exact c
      have hmi : i = m := by
        rcases Nat.eq_or_lt_of_le him with e | e
        · exact e.symm
        · have h1 := h.2.1 m i e i1
          have h2 := m4 m (Nat.le_refl m) (by omega)
          omega
      subst hmi
      refine ⟨i + 1, by omega, by rw [if_pos hq], fun j hj => ?_, fun j h1 h2 => ?_⟩
      · rcases Nat.eq_or_lt_of_le (Nat.lt_succ_iff.mp hj) with e | e
        · subst e; omega
        · have := m3 j e; omega
      · have := h.2.1 i j (by omega) h2; omega
    · refine ⟨m, m1, by rw [if_neg hq, Nat.add_zero], fun j hj => by have := m3 j hj; omega, fun j h1 h2 => ?_⟩
      have h3 := m4 j h1 h2
      rcases Nat.eq_or_lt_of_le h3 with e | e
      · have := h.1 j h2
        rw [← e] at this
        exact absurd this hq
      · exact e
theorem Enum_card {Q : Nat → Bool} {n N : Nat} {g : Nat → Nat} (h : Enum n g (fun v => Q v = true)) (hN : ∀ v, Q v = true → v < N) : cntF Q N 0 = n := by
  obtain ⟨m, m1, m2, m3, m4⟩ := Enum_cnt h N
  rw [m2]
  rcases Nat.eq_or_lt_of_le m1 with e | e
  · exact e
  · have h1 := m4 m (Nat.le_refl m) e
    have h2 := hN _ (h.1 m e)
    omega
theorem cntF_split {Q Q' : Nat → Bool} (h : ∀ v, Q' v = true → Q v = true) : ∀ c k, cntF Q c k = cntF Q' c k + cntF (fun v => Q v && !Q' v) c k := by
  intro c
  induction c with
  | zero => intro k; rfl
  | succ c ih =>
    intro k
    by_cases h1 : Q' k = true
    · rw [cntF_t (f := Q) (h k h1), cntF_t (f := Q') h1, cntF_n (f := fun v => Q v && !Q' v) (show ¬ (Q k && !Q' k) = true by simp [h1]), ih (k + 1)]
      omega
    · by_cases h2 : Q k = true
      · rw [cntF_t (f := Q) h2, cntF_n (f := Q') h1, cntF_t (f := fun v => Q v && !Q' v) (show (Q k && !Q' k) = true by simp [h1, h2]), ih (k + 1)]
        omega
      · rw [cntF_n (f := Q) h2, cntF_n (f := Q') h1, cntF_n (f := fun v => Q v && !Q' v) (show ¬ (Q k && !Q' k) = true by simp [h2]), ih (k + 1)]
theorem cntF_congr {f g : Nat → Bool} : ∀ c k, (∀ p, k ≤ p → p < k + c → f p = g p) → cntF f c k = cntF g c k := by
  intro c
  induction c with
  | zero => intro k _; rfl
  | succ c ih =>
    intro k h
    simp only [cntF]
    rw [h k (Nat.le_refl k) (by omega), ih (k + 1) (fun p q1 q2 => h p (by omega) (by omega))]
theorem cntF_one {f : Nat → Bool} {p : Nat} (hf : f p = true) : ∀ c k, k ≤ p → p < k + c → cntF f c k = 1 + cntF (fun q => decide (q ≠ p) && f q) c k := by
  intro c
  induction c with
  | zero => intro k h1 h2; omega
  | succ c ih =>
    intro k h1 h2
    by_cases e : k = p
    · subst e
      rw [cntF_t hf]
      have h3 : cntF (fun q => decide (q ≠ k) && f q) (c + 1) k = cntF (fun q => decide (q ≠ k) && f q) c (k + 1) := cntF_n (by simp)
      rw [h3]
      congr 1
      exact cntF_congr c (k + 1) (fun q q1 q2 => by simp [show q ≠ k by omega])
    · simp only [cntF]
      rw [ih (k + 1) (by omega) (by omega)]
      simp [e]
      omega
/-- the patterns without one -/
def dropP (P : Nat → Nat) (p : Nat) : Nat → Nat := fun q => if q = p then 0 else P q
theorem dropP_o {P : Nat → Nat} (ho : POs P) (p : Nat) : POs (dropP P p) := by
  intro q hq
  unfold dropP
  by_cases e : q = p
  · rw [if_pos e]; exact Or.inl rfl
  · rw [if_neg e]; exact ho q hq
theorem dropP_bgn {P : Nat → Nat} {p r : Nat} : bgn (dropP P p) r = cntF (fun q => decide (q ≠ p) && (decide (P q ≠ 0) && isBegB (P q) r)) 8 0 := by
  unfold bgn
  refine cntF_congr 8 0 (fun q _ _ => ?_)
  unfold dropP
  by_cases e : q = p
  · simp [e]
  · simp [e]
theorem dropP_st {P : Nat → Nat} {p r : Nat} (h : isSt (dropP P p) r = true) : isSt P r = true := by
  rcases isSt_iff.mp h with h | ⟨q, q1, q2, q3⟩
  · exact isSt_iff.mpr (Or.inl h)
  · unfold dropP at q2 q3
    by_cases e : q = p
    · rw [if_pos e] at q2; exact absurd rfl q2
    · rw [if_neg e] at q2 q3; exact isSt_iff.mpr (Or.inr ⟨q, q1, q2, q3⟩)
def own (P : Nat → Nat) (p : Nat) : Nat := cntF (fun x => decide (bgn P (P p / 4 ^ (ln (P p) - x)) = 1)) (ln (P p)) 1
theorem own_le {P : Nat → Nat} {p : Nat} : own P p ≤ ln (P p) := cntF_le _ _ _
theorem own_diff {P : Nat → Nat} {p n n' : Nat} {g g' : Nat → Nat} (ho : POs P) (hp : p < 8) (h0 : P p ≠ 0) (h : Enum n g (fun r => isSt P r = true)) (h' : Enum n' g' (fun r => isSt (dropP P p) r = true)) : n = n' + own P p := by
  obtain ⟨q1, q2, q3⟩ := PO_V (ho p hp) h0
  have hb : ∀ v, isSt P v = true → v < 131072 := fun v hv => (st_lt ho hv).1
  have hbv : ∀ x, x ≤ ln (P p) → V x (P p / 4 ^ (ln (P p) - x)) := fun x hx => V_beg q3 hx
  -- a beginning is its own, if it's none without the pattern
  have key : ∀ x, 1 ≤ x → x ≤ ln (P p) → (bgn P (P p / 4 ^ (ln (P p) - x)) = 1 ↔ isSt (dropP P p) (P p / 4 ^ (ln (P p) - x)) = false) := by
    intro x x1 x2
    have hv := hbv x x2
    have hf : (fun q => decide (P q ≠ 0) && isBegB (P q) (P p / 4 ^ (ln (P p) - x))) p = true := by
      show (decide (P p ≠ 0) && isBegB (P p) (P p / 4 ^ (ln (P p) - x))) = true
      rw [Bool.and_eq_true, decide_eq_true_eq]
      exact ⟨h0, (isBegB_iff q3).mpr ⟨x, x2, rfl⟩⟩
    have e1 : bgn P (P p / 4 ^ (ln (P p) - x)) = 1 + bgn (dropP P p) (P p / 4 ^ (ln (P p) - x)) := by
      rw [dropP_bgn]
      exact cntF_one hf 8 0 (by omega) (by omega)
    have hne : P p / 4 ^ (ln (P p) - x) ≠ 1 := by
      intro e
      rw [e] at hv
      have := V_inj hv V_0
      omega
    unfold isSt
    rw [e1]
    simp only [hne, decide_false, Bool.false_or, decide_eq_false_iff_not]
    omega
  have hD : ∀ X, X ≤ ln (P p) → ∃ h, Enum (cntF (fun x => decide (bgn P (P p / 4 ^ (ln (P p) - x)) = 1)) X 1) h (fun v => ∃ x, 1 ≤ x ∧ x ≤ X ∧ bgn P (P p / 4 ^ (ln (P p) - x)) = 1 ∧ P p / 4 ^ (ln (P p) - x) = v) := by
    intro X
    induction X with
    | zero => intro _; exact ⟨fun _ => 0, fun i hi => absurd hi (by simp [cntF]), fun i j _ hj => absurd hj (by simp [cntF]), fun v ⟨x, x1, x2, _⟩ => by omega⟩
    | succ X ih =>
      intro hX
      obtain ⟨h, hh⟩ := ih (by omega)
      rw [cntF_snoc]
      by_cases ho : bgn P (P p / 4 ^ (ln (P p) - (1 + X))) = 1
      · rw [if_pos (by simp [ho])]
        refine ⟨insg h _ (P p / 4 ^ (ln (P p) - (1 + X))), (hh.ins (Nat.le_refl _) (fun i hi => ?_) (fun i h1 h2 => by omega)).congr (fun v => ?_)⟩
        · obtain ⟨x, x1, x2, x3, x4⟩ := hh.1 i hi
          rw [← x4]
          exact V_le (hbv x (by omega)) (hbv (1 + X) (by omega)) (by omega)
        · constructor
          · rintro (⟨x, x1, x2, x3, x4⟩ | e)
            · exact ⟨x, x1, by omega, x3, x4⟩
            · exact ⟨1 + X, by omega, by omega, ho, e.symm⟩
          · rintro ⟨x, x1, x2, x3, x4⟩
            by_cases e : x = 1 + X
            · subst e; exact Or.inr x4.symm
            · exact Or.inl ⟨x, x1, by omega, x3, x4⟩
      · rw [if_neg (by simp [ho]), Nat.add_zero]
        refine ⟨h, hh.congr (fun v => ⟨fun ⟨x, x1, x2, x3, x4⟩ => ⟨x, x1, by omega, x3, x4⟩, fun ⟨x, x1, x2, x3, x4⟩ => ?_⟩)⟩
        by_cases e : x = 1 + X
        · subst e; exact absurd x3 ho
        · exact ⟨x, x1, by omega, x3, x4⟩
  obtain ⟨d, hd⟩ := hD (ln (P p)) (Nat.le_refl _)
  have hd2 : Enum (own P p) d (fun v => (fun v => isSt P v && !isSt (dropP P p) v) v = true) := hd.congr (fun v => by
    show _ ↔ (isSt P v && !isSt (dropP P p) v) = true
    rw [Bool.and_eq_true]
    constructor
    · rintro ⟨x, x1, x2, x3, x4⟩
      have := (key x x1 x2).mp x3
      rw [x4] at this
      rw [this]
      refine ⟨?_, rfl⟩
      rw [← x4]
      exact isSt_iff.mpr (Or.inr ⟨p, hp, h0, (isBegB_iff q3).mpr ⟨x, x2, rfl⟩⟩)
    · rintro ⟨h1, h2⟩
      have h2 : isSt (dropP P p) v = false := by
        cases e : isSt (dropP P p) v with
        | false => rfl
        | true => rw [e] at h2; exact absurd h2 (by decide)
      rcases isSt_iff.mp h1 with e | ⟨q, z1, z2, z3⟩
      · rw [e, isSt_1] at h2; exact absurd h2 (by decide)
      · by_cases e : q = p
        · subst e
          obtain ⟨j, j1, j2⟩ := (isBegB_iff q3).mp z3
          have hj : 1 ≤ j := by
            rcases Nat.eq_zero_or_pos j with z | z
            · subst z
              rw [Nat.sub_zero, V_end q3] at j2
              rw [← j2, isSt_1] at h2
              exact absurd h2 (by decide)
            · exact z
          refine ⟨j, hj, j1, (key j hj j1).mpr (by rw [j2]; exact h2), j2⟩
        · have : isSt (dropP P p) v = true := isSt_iff.mpr (Or.inr ⟨q, z1, by unfold dropP; rw [if_neg e]; exact z2, by unfold dropP; rw [if_neg e]; exact z3⟩)
          rw [this] at h2
          exact absurd h2 (by decide))
  have c1 := Enum_card (Q := fun v => isSt P v) h hb
  have c2 := Enum_card (Q := fun v => isSt (dropP P p) v) h' (fun v hv => hb v (dropP_st hv))
  have c3 := Enum_card hd2 (fun v hv => by
    have : (isSt P v && !isSt (dropP P p) v) = true := hv
    rw [Bool.and_eq_true] at this
    exact hb v this.1)
  have c4 := cntF_split (Q := fun v => isSt P v) (Q' := fun v => isSt (dropP P p) v) (fun v hv => dropP_st hv) 131072 0
  rw [c1, c2, c3] at c4
  exact c4
theorem own5 {F p : Nat} {pats : Nat → Int32} {P : Nat → Nat} (hs : SP pats P) (ho : POs P) (hp : p < 8) (hF : 100 ≤ F) : D_X5_statesOfItsOwn F (nI (P p)) pats = some (nI (own P p)) := by
  unfold D_X5_statesOfItsOwn
  rw [(len3P ho hp (by omega)).1]
  simp only [bnd]
  by_cases h0 : P p = 0
  · unfold own
    obtain ⟨F, rfl⟩ : ∃ z, F = z + 1 := ⟨F - 1, by omega⟩
    rw [h0, ln_0, L_X5_statesOfItsOwn_10, if_pos (show nI 0 < 1 by decide)]
    rfl
  · obtain ⟨q1, q2, q3⟩ := PO_V (ho p hp) h0
    have key : ∀ (c x acc fu : Nat), x + c = ln (P p) + 1 → c < fu → L_X5_statesOfItsOwn_10 F (nI (P p)) (nI (ln (P p))) pats fu (nI acc) (nI x) = some (nI (acc + cntF (fun x => decide (bgn P (P p / 4 ^ (ln (P p) - x)) = 1)) c x)) := by
      intro c
      induction c with
      | zero =>
        intro x acc fu hx hf
        obtain ⟨fu, rfl⟩ : ∃ z, fu = z + 1 := ⟨fu - 1, by omega⟩
        rw [L_X5_statesOfItsOwn_10, if_lt (by omega) (by omega), if_pos (by omega)]
        rfl
      | succ c ih =>
        intro x acc fu hx hf
        obtain ⟨fu, rfl⟩ : ∃ z, fu = z + 1 := ⟨fu - 1, by omega⟩
        rw [L_X5_statesOfItsOwn_10, if_lt (by omega) (by omega), if_neg (by omega), beginning3 q3 (by omega) (by omega) (by omega)]
        simp only [bnd, nm]
        rw [beginsWith5 hs ho (V_beg q3 (by omega)) (by omega) hF]
        simp only []
        have hb : bgn P (P p / 4 ^ (ln (P p) - x)) ≤ 8 := cntF_le _ 8 0
        have h2 : (nI (bgn P (P p / 4 ^ (ln (P p) - x))) = 1) = (bgn P (P p / 4 ^ (ln (P p) - x)) = 1) := propext (nI_eq (b := 1) (by omega) (by omega))
        rw [nI_1, nI_1, ih (x + 1) acc fu (by omega) (by omega), ih (x + 1) (acc + 1) fu (by omega) (by omega)]
        simp only [cntF]
        by_cases h1 : bgn P (P p / 4 ^ (ln (P p) - x)) = 1
        · rw [if_pos (by rw [h2]; exact h1)]; simp [h1, Nat.add_assoc]
        · rw [if_neg (by rw [h2]; exact h1)]; simp [h1]
    have := key (ln (P p)) 1 0 F (by omega) (by omega)
    rw [Nat.zero_add] at this
    exact this
theorem upd_back (s : Nat → Int32) (p : Nat) : upd (upd s p 0) p (s p) = s := by
  funext i
  unfold upd
  by_cases e : i = p
  · rw [if_pos e, e]
  · rw [if_neg e, if_neg e]
/-- what is found so far: none, or a number and a slot -/
def hv1 (c : Option (Nat × Nat)) : Int32 := match c with
  | none => -1
  | some q => nI q.1
def hv2 (c : Option (Nat × Nat)) : Int32 := match c with
  | none => -1
  | some q => nI q.2
def hv3 (c : Option (Nat × Nat)) : Int32 := match c with
  | none => -1
  | some q => 100 * nI q.1 + nI q.2
theorem hv1_le {c : Option (Nat × Nat)} {o : Nat} (ho : o ≤ 8) (hc : ∀ q, c = some q → q.1 ≤ 8) : (nI o ≤ hv1 c) ↔ ∃ q, c = some q ∧ o ≤ q.1 := by
  cases c with
  | none =>
    constructor
    · intro h
      have h1 := nI_pos' (n := o) (by omega)
      have : ∀ o, o ≤ 8 → ¬ nI o ≤ (-1 : Int32) := by decide
      exact absurd h (this o ho)
    · rintro ⟨q, h, _⟩; cases h
  | some q =>
    have := hc q rfl
    show nI o ≤ nI q.1 ↔ _
    rw [nI_leI (by omega) (by omega)]
    exact ⟨fun h => ⟨q, rfl, h⟩, fun ⟨q', h1, h2⟩ => by cases h1; exact h2⟩
theorem heavy_sim {F n : Nat} {P : Nat → Nat} {g : Nat → Nat} {pats s : Nat → Int32} (hs : SP pats P) (hs6 : SP s P) (hE : EP P n g) (hF : 300 ≤ F) : ∀ (c k fu fv : Nat) (cur : Option (Nat × Nat)) (st : Nat → Int32) (mn : Int32), k + c = 8 → c < fu → c < fv → (∀ q, cur = some q → q.1 ≤ 8 ∧ q.2 < 8) → ∃ cur' st' mn', (∀ q, cur' = some q → q.1 ≤ 8 ∧ q.2 < 8) ∧ (∀ k48, L_X5_heaviest_6 F k48 pats fu (hv1 cur) (hv2 cur) (nI k) = k48 (hv1 cur') (hv2 cur')) ∧ L_X6_heaviestOf_12 F (nI n) fv (hv3 cur) (hv1 cur) (nI k) st mn s = some (hv3 cur', st', mn', s) := by
  intro c
  have ho := hE.2.2.2
  have h9 := hE.2.1
  induction c with
  | zero =>
    intro k fu fv cur st mn hk hf hv hc
    obtain ⟨fu, rfl⟩ : ∃ z, fu = z + 1 := ⟨fu - 1, by omega⟩
    obtain ⟨fv, rfl⟩ : ∃ z, fv = z + 1 := ⟨fv - 1, by omega⟩
    have hk : k = 8 := by omega
    subst hk
    refine ⟨cur, st, mn, hc, fun k48 => ?_, ?_⟩
    · rw [L_X5_heaviest_6, if_pos (show (8 : Int32) ≤ nI 8 from by decide)]
    · rw [L_X6_heaviestOf_12, if_pos (show (8 : Int32) ≤ nI 8 from by decide)]
  | succ c ih =>
    intro k fu fv cur st mn hk hf hv hc
    obtain ⟨fu, rfl⟩ : ∃ z, fu = z + 1 := ⟨fu - 1, by omega⟩
    obtain ⟨fv, rfl⟩ : ∃ z, fv = z + 1 := ⟨fv - 1, by omega⟩
    have hk8 : k < 8 := by omega
    have hlt := PO_lt (ho k hk8)
    have hol : own P k ≤ 8 := Nat.le_trans own_le (len3P (F := 20) ho hk8 (by omega)).2
    -- the class's turn
    have class_step : ∀ k48, L_X5_heaviest_6 F k48 pats (fu + 1) (hv1 cur) (hv2 cur) (nI k) = (if nI (own P k) ≤ hv1 cur ∨ P k = 0 then L_X5_heaviest_6 F k48 pats fu (hv1 cur) (hv2 cur) (nI (k + 1)) else L_X5_heaviest_6 F k48 pats fu (nI (own P k)) (nI k) (nI (k + 1))) := by
      intro k48
      rw [L_X5_heaviest_6, if_neg (show ¬ (8 : Int32) ≤ nI k from nI_ge (a := k) (b := 8) (by omega) (by omega)), patternIn5 hs hk8]
      simp only [bnd, nm]
      rw [own5 hs ho hk8 (by omega)]
      simp only []
      rw [if_nI0 (a := P k) (by omega), nI_1]
      by_cases h1 : nI (own P k) ≤ hv1 cur
      · rw [if_pos h1, if_pos (Or.inl h1)]
      · rw [if_neg h1]
        by_cases h2 : P k = 0
        · rw [if_pos h2, if_pos (Or.inr h2)]
        · rw [if_neg h2, if_neg (fun h => h.elim h1 h2)]
    -- the reference's turn
    have ref_step : ∃ st' mn', L_X6_heaviestOf_12 F (nI n) (fv + 1) (hv3 cur) (hv1 cur) (nI k) st mn s = (if nI (own P k) ≤ hv1 cur ∨ P k = 0 then L_X6_heaviestOf_12 F (nI n) fv (hv3 cur) (hv1 cur) (nI (k + 1)) st' mn' s else L_X6_heaviestOf_12 F (nI n) fv (100 * nI (own P k) + nI k) (nI (own P k)) (nI (k + 1)) st' mn' s) := by
      have e0 : s ((0 : Int32) + nI k).toNatClampNeg = nI (P k) := by rw [nI_0a, nI_clamp (by omega)]; exact hs6 k hk8
      have g0 : inb ((0 : Int32) + nI k) 31 = true := by rw [nI_0a]; exact inb_nI (by omega) (by decide)
      have n0 : ((0 : Int32) + nI k).toNatClampNeg = k := by rw [nI_0a, nI_clamp (by omega)]
      have hback : upd (upd s k 0) k (nI (P k)) = s := by rw [← hs6 k hk8]; exact upd_back s k
      by_cases h0 : P k = 0
      · refine ⟨st, mn, ?_⟩
        rw [L_X6_heaviestOf_12, if_neg (show ¬ (8 : Int32) ≤ nI k from nI_ge (a := k) (b := 8) (by omega) (by omega)), grd_t g0, if_pos (Or.inr h0)]
        simp only [nm, jp]
        rw [e0, n0, grd_t g0, if_pos (show nI (P k) ≤ 0 by rw [h0]; decide), grd_t g0, hback]
        have hm : (-1 : Int32) ≤ hv1 cur := by
          cases cur with
          | none => exact Int32.le_refl _
          | some q => have : ∀ x, x ≤ 8 → (-1 : Int32) ≤ nI x := by decide
                      exact this q.1 (hc q rfl).1
        rw [if_pos hm, if_pos hm, nI_1]
      · have hs' : SP (upd s k 0) (dropP P k) := by
          intro q hq
          unfold upd dropP
          by_cases e : q = k
          · rw [if_pos e, if_pos e]; rfl
          · rw [if_neg e, if_neg e]; exact hs6 q hq
        obtain ⟨f', n', g', r1, r2, r3, r4, r5⟩ := list6 (F := F) (f := st) (x := mn) hs' (dropP_o ho k) (by omega)
        have hd := own_diff ho hk8 h0 hE.1 r3
        refine ⟨f', nI n', ?_⟩
        rw [L_X6_heaviestOf_12, if_neg (show ¬ (8 : Int32) ≤ nI k from nI_ge (a := k) (b := 8) (by omega) (by omega)), grd_t g0]
        simp only [nm, jp]
        rw [e0, n0, grd_t g0, if_neg (show ¬ nI (P k) ≤ 0 from nI_nle (by omega) (by omega))]
        unfold D_X6_manyStates
        rw [r1]
        simp only [bnd]
        rw [grd_t g0, hback, pk_sub (show n' ≤ n by omega), show n - n' = own P k by omega, nI_1]
        by_cases h1 : nI (own P k) ≤ hv1 cur
        · rw [if_pos h1, if_pos h1, if_pos (Or.inl h1)]
        · rw [if_neg h1, if_neg h1, if_neg (fun h => h.elim h1 h0)]
    obtain ⟨st1, mn1, hr⟩ := ref_step
    by_cases h : nI (own P k) ≤ hv1 cur ∨ P k = 0
    · obtain ⟨cur', st', mn', r0, r1, r2⟩ := ih (k + 1) fu fv cur st1 mn1 (by omega) (by omega) (by omega) hc
      exact ⟨cur', st', mn', r0, fun k48 => by rw [class_step, if_pos h]; exact r1 k48, by rw [hr, if_pos h]; exact r2⟩
    · obtain ⟨cur', st', mn', r0, r1, r2⟩ := ih (k + 1) fu fv (some (own P k, k)) st1 mn1 (by omega) (by omega) (by omega) (fun q hq => by cases hq; exact ⟨hol, hk8⟩)
      exact ⟨cur', st', mn', r0, fun k48 => by rw [class_step, if_neg h]; exact r1 k48, by rw [hr, if_neg h]; exact r2⟩
theorem heaviest_sim {F n : Nat} {P : Nat → Nat} {g : Nat → Nat} {pats s st : Nat → Int32} {mn : Int32} (hs : SP pats P) (hs6 : SP s P) (hE : EP P n g) (hF : 300 ≤ F) : ∃ r st' mn', D_X5_heaviest F pats = some r ∧ D_X6_heaviestOf F st mn s = some (r, st', mn', s) := by
  obtain ⟨f', n', g', r1, r2, r3, r4, r5⟩ := list6 (F := F) (f := st) (x := mn) hs6 hE.2.2.2 (by omega)
  have hn : n' = n := (r3.uniq hE.1).1
  subst hn
  obtain ⟨cur', st', mn', c0, c1, c2⟩ := heavy_sim hs hs6 hE hF 8 0 F F none f' (nI n') (by omega) (by omega) (by omega) (fun q hq => by cases hq)
  refine ⟨hv3 cur', st', mn', ?_, ?_⟩
  · unfold D_X5_heaviest
    refine Eq.trans (c1 _) ?_
    cases cur' with
    | none => rfl
    | some q =>
      obtain ⟨q1, q2⟩ := c0 q rfl
      have : ∀ x, x < 8 → ¬ nI x = (-1 : Int32) := by decide
      show (if nI q.2 = -1 then _ else _) = _
      rw [if_neg (this q.2 q2)]
      rfl
  · unfold D_X6_heaviestOf D_X6_manyStates
    rw [r1]
    exact c2
