theorem nI_or2 {a b : Nat} (ha : a < 2 ^ 32) (hb : b < 2 ^ 32) : nI a ||| nI b = nI (a ||| b) := by
  apply Int32.toBitVec_inj.mp
  show (Int32.ofNat a).toBitVec ||| (Int32.ofNat b).toBitVec = (Int32.ofNat (a ||| b)).toBitVec
  apply BitVec.eq_of_toNat_eq
  simp only [Int32.toBitVec_ofNat', BitVec.toNat_or, BitVec.toNat_ofNat]
  rw [Nat.mod_eq_of_lt ha, Nat.mod_eq_of_lt hb, Nat.mod_eq_of_lt (Nat.or_lt_two_pow ha hb)]
theorem nI_sh1 : ∀ p, p < 16 → ((nI p &&& 31).toBitVec.smod 32).toNat = p := by decide +kernel
theorem nI_bit {p : Nat} (hp : p < 16) : (1 : Int32) <<< (nI p &&& 31) = nI (2 ^ p) := by
  have h := pk_shlN (n := 1) (nI p &&& 31) p (nI_sh1 p hp) (by rw [Nat.one_mul]; exact Nat.pow_lt_pow_right (by decide) (by omega))
  rw [Nat.one_mul] at h
  exact h
theorem nI_4i (i a : Nat) : nI i * 4 + nI a = nI (4 * i + a) := by
  rw [show nI i * 4 = nI (i * 4) from pk_mul i 4, nI_add, Nat.mul_comm]
theorem leadsTo1 {F i a : Nat} {l : Nat → Int32} (h : 4 * i + a < 260) : D_X1_leadsTo F (nI i) (nI a) l = some (l (4 * i + a)) := by
  unfold D_X1_leadsTo
  rw [nI_4i, at_in h (by decide)]
  rfl
theorem lead_2 {F : Nat} : ∀ (d x fu : Nat) (l : Nat → Int32), x + d = 260 → d < fu → (∀ i, i < x → l i = 0) → ∃ l' : Nat → Int32, (∀ i, i < 260 → l' i = 0) ∧ ∀ k24, L_X1_leadToLongerStates_2 F k24 fu (nI x) l = k24 l' := by
  intro d
  induction d with
  | zero =>
    intro x fu l hx hf h
    obtain ⟨fu, rfl⟩ : ∃ z, fu = z + 1 := ⟨fu - 1, by omega⟩
    have hx : x = 260 := by omega
    subst hx
    exact ⟨l, h, fun k24 => by rw [L_X1_leadToLongerStates_2, if_pos (show (260 : Int32) ≤ nI 260 from by decide)]⟩
  | succ d ih =>
    intro x fu l hx hf h
    obtain ⟨fu, rfl⟩ : ∃ z, fu = z + 1 := ⟨fu - 1, by omega⟩
    obtain ⟨l', h1, h2⟩ := ih (x + 1) fu (upd l x 0) (by omega) (by omega) (fun i hi => by
      unfold upd
      by_cases e : i = x
      · rw [if_pos e]
      · rw [if_neg e]; exact h i (by omega))
    refine ⟨l', h1, fun k24 => ?_⟩
    rw [L_X1_leadToLongerStates_2, if_neg (show ¬ (260 : Int32) ≤ nI x from nI_ge (a := x) (b := 260) (by omega) (by omega)), grd_t (inb_nI (show x < 260 by omega) (by decide)), nI_clamp (by omega)]
    simp only [nm]
    rw [nI_1]
    exact h2 k24
theorem nI_q4 {r : Nat} (hr : r < 524288) : nI r >>> ((2 : Int32) &&& 31) = nI (r / 4) := pk_shrN (by omega) _ 2 (by decide)
/-- what a state stands on -/
theorem st_par {P : Nat → Nat} (ho : POs P) {r : Nat} (h : isSt P r = true) (h1 : r ≠ 1) : ∃ m, 1 ≤ m ∧ m ≤ 8 ∧ V m r ∧ isSt P (r / 4) = true ∧ V (m - 1) (r / 4) ∧ 4 * (r / 4) + r % 4 = r := by
  rcases isSt_iff.mp h with e | ⟨p, p1, p2, p3⟩
  · exact absurd e h1
  · obtain ⟨q1, q2, q3⟩ := PO_V (ho p p1) p2
    obtain ⟨j, j1, j2⟩ := (isBegB_iff q3).mp p3
    have hv := V_div q3 (show ln (P p) - j ≤ ln (P p) by omega)
    rw [j2, show ln (P p) - (ln (P p) - j) = j by omega] at hv
    have hj : 1 ≤ j := by
      rcases Nat.eq_zero_or_pos j with z | z
      · subst z; exact absurd (V_0e hv) h1
      · exact z
    have hd := V_div hv hj
    rw [Nat.pow_one] at hd
    have e := Nat.div_add_mod r 4
    have hs : isSt P (4 * (r / 4) + r % 4) = true := by rw [e]; exact h
    exact ⟨j, hj, by omega, hv, isSt_pre hd (Nat.mod_lt _ (by decide)) hs, hd, e⟩
theorem st_V {P : Nat → Nat} (ho : POs P) {r : Nat} (h : isSt P r = true) : ∃ m, m ≤ 8 ∧ V m r := by
  by_cases h1 : r = 1
  · subst h1; exact ⟨0, by omega, V_0⟩
  · obtain ⟨m, _, h2, h3, _⟩ := st_par ho h h1
    exact ⟨m, h2, h3⟩
theorem st_lt {P : Nat → Nat} (ho : POs P) {r : Nat} (h : isSt P r = true) : r < 131072 ∧ 1 ≤ r := by
  obtain ⟨m, h1, h2⟩ := st_V ho h
  have h3 : (4 : Nat) ^ m ≤ 4 ^ 8 := Nat.pow_le_pow_right (by decide) h1
  have := h2.2
  have := V_pos h2
  omega
def EP (P : Nat → Nat) (n : Nat) (g : Nat → Nat) : Prop := Enum n g (fun r => isSt P r = true) ∧ n ≤ 65 ∧ 0 < n ∧ POs P
theorem EP.g0 {P : Nat → Nat} {n : Nat} {g : Nat → Nat} (h : EP P n g) : g 0 = 1 := by
  have h1 := (Enum_0 h.1 (isSt_1 P)).2
  have h2 := (st_lt h.2.2.2 (h.1.1 0 h.2.2.1)).2
  omega
theorem EP.idx {P : Nat → Nat} {n : Nat} {g : Nat → Nat} (h : EP P n g) {r : Nat} (hr : isSt P r = true) : ∃ i, i < n ∧ g i = r := h.1.2.2 r hr
theorem EP.lt {P : Nat → Nat} {n : Nat} {g : Nat → Nat} (h : EP P n g) {i j : Nat} (hi : i < n) (hj : j < n) : g i < g j ↔ i < j := by
  constructor
  · intro q
    rcases Nat.lt_trichotomy i j with c | c | c
    · exact c
    · subst c; omega
    · have := h.1.2.1 j i c hi; omega
  · exact fun q => h.1.2.1 i j q hj
theorem EP.ne1 {P : Nat → Nat} {n : Nat} {g : Nat → Nat} (h : EP P n g) {i : Nat} (hi : i < n) (h0 : 0 < i) : g i ≠ 1 := by
  have := h.1.2.1 0 i h0 hi
  rw [h.g0] at this
  omega
theorem lead_45 {F n i t : Nat} {rows : Nat → Int32} {g : Nat → Nat} {P : Nat → Nat} (hE : EP P n g) (hA : AR rows n g) (hi : i < n) (ht : t < i) (hp : g t = g i / 4) (hF : 100 ≤ F) : ∀ (d w fu : Nat), w + d = t → d < fu → ∀ k70, L_X1_leadToLongerStates_45 F k70 (nI i) (nI (g i)) rows fu (nI w) = k70 (nI t) := by
  intro d
  have h9 := hE.2.1
  have hgi := (st_lt hE.2.2.2 (hE.1.1 i hi)).1
  induction d with
  | zero =>
    intro w fu hw hf k70
    obtain ⟨fu, rfl⟩ : ∃ z, fu = z + 1 := ⟨fu - 1, by omega⟩
    have hw : w = t := by omega
    subst hw
    rw [L_X1_leadToLongerStates_45, if_le (by omega) (by omega), if_neg (by omega), at_in (show w < 65 by omega) (by decide), hA w (by omega)]
    simp only [bnd]
    rw [nI_q4 (by omega), if_eq (by omega) (by omega), if_pos hp]
  | succ d ih =>
    intro w fu hw hf k70
    obtain ⟨fu, rfl⟩ : ∃ z, fu = z + 1 := ⟨fu - 1, by omega⟩
    have hlt := hE.1.2.1 w t (by omega) (by omega)
    rw [L_X1_leadToLongerStates_45, if_le (by omega) (by omega), if_neg (by omega), at_in (show w < 65 by omega) (by decide), hA w (by omega)]
    simp only [bnd]
    rw [nI_q4 (by omega), if_eq (by omega) (by omega), if_neg (by omega)]
    simp only [nm]
    rw [nI_1]
    exact ih (w + 1) fu (by omega) (by omega) k70
/-- the ways to longer states, as far as x -/
def LD (P : Nat → Nat) (n : Nat) (g : Nat → Nat) (l : Nat → Int32) (x : Nat) : Prop := ∀ κ, κ < 4 * n → (∃ t, 1 ≤ t ∧ t < x ∧ g t = 4 * g (κ / 4) + κ % 4 ∧ l κ = nI t) ∨ (l κ = 0 ∧ ∀ t, 1 ≤ t → t < x → g t ≠ 4 * g (κ / 4) + κ % 4)
theorem lead_28 {F n : Nat} {rows : Nat → Int32} {g : Nat → Nat} {P : Nat → Nat} (hE : EP P n g) (hA : AR rows n g) (hF : 300 ≤ F) : ∀ (d i w fu : Nat) (l : Nat → Int32), i + d = n → 1 ≤ i → d < fu → LD P n g l i → (∀ t, t < n → i < n → g t = g i / 4 → w ≤ t) → ∃ l', LD P n g l' n ∧ L_X1_leadToLongerStates_28 F (nI n) rows fu (nI w) (nI i) l = some l' := by
  intro d
  have h9 := hE.2.1
  induction d with
  | zero =>
    intro i w fu l hi h1 hf hL hw
    obtain ⟨fu, rfl⟩ : ∃ z, fu = z + 1 := ⟨fu - 1, by omega⟩
    have hi : i = n := by omega
    subst hi
    exact ⟨l, hL, by rw [L_X1_leadToLongerStates_28, if_pos (nI_le (Nat.le_refl i) (by omega))]⟩
  | succ d ih =>
    intro i w fu l hi h1 hf hL hw
    obtain ⟨fu, rfl⟩ : ∃ z, fu = z + 1 := ⟨fu - 1, by omega⟩
    have hin : i < n := by omega
    obtain ⟨m, m1, m2, m3, m4, m5, m6⟩ := st_par hE.2.2.2 (hE.1.1 i hin) (hE.ne1 hin h1)
    obtain ⟨t, t1, t2⟩ := hE.idx m4
    have hti : t < i := (hE.lt t1 hin).mp (by rw [t2]; have := V_pos m3; omega)
    have hgi := (st_lt hE.2.2.2 (hE.1.1 i hin)).1
    have hwt := hw t t1 hin t2
    have h4 : g i % 4 < 4 := Nat.mod_lt _ (by decide)
    have hk : 4 * t + g i % 4 < 260 := by omega
    obtain ⟨l', r1, r2⟩ := ih (i + 1) t fu (upd l (4 * t + g i % 4) (nI i)) (by omega) (by omega) (by omega) (by
      intro κ hκ
      unfold upd
      by_cases e : κ = 4 * t + g i % 4
      · rw [if_pos e]
        refine Or.inl ⟨i, h1, by omega, ?_, rfl⟩
        rw [e, show (4 * t + g i % 4) / 4 = t by omega, show (4 * t + g i % 4) % 4 = g i % 4 by omega, t2]
        exact m6.symm
      · rw [if_neg e]
        rcases hL κ hκ with ⟨u, u1, u2, u3, u4⟩ | ⟨u1, u2⟩
        · exact Or.inl ⟨u, u1, by omega, u3, u4⟩
        · refine Or.inr ⟨u1, fun u q1 q2 q3 => ?_⟩
          rcases Nat.eq_or_lt_of_le (Nat.lt_succ_iff.mp q2) with z | z
          · subst z
            have hv : κ % 4 < 4 := Nat.mod_lt _ (by decide)
            have e1 : g (κ / 4) = g t := by omega
            have e2 := hE.1.inj (show κ / 4 < n by omega) t1 e1
            omega
          · exact u2 u q1 z q3) (by
      intro u q1 q2 q3
      have h5 := hE.1.2.1 i (i + 1) (by omega) q2
      rcases Nat.lt_or_ge u t with c | c
      · have := hE.1.2.1 u t c t1
        have : g i / 4 ≤ g (i + 1) / 4 := Nat.div_le_div_right (Nat.le_of_lt h5)
        omega
      · exact c)
    refine ⟨l', r1, ?_⟩
    rw [L_X1_leadToLongerStates_28, if_neg (nI_ge hin (by omega)), at_in (show i < 65 by omega) (by decide), hA i hin]
    simp only [bnd]
    refine Eq.trans (lead_45 hE hA hin hti t2 (by omega) (t - w) w F (by omega) (by omega) _) ?_
    rw [last3 (by omega)]
    simp only []
    rw [nI_4i, put_in hk (by decide)]
    simp only [nm]
    rw [nI_1]
    exact r2

theorem lead1 {F n : Nat} {rows l : Nat → Int32} {g : Nat → Nat} {P : Nat → Nat} (hE : EP P n g) (hA : AR rows n g) (hF : 300 ≤ F) : ∃ l', LD P n g l' n ∧ D_X1_leadToLongerStates F (nI n) rows l = some l' := by
  unfold D_X1_leadToLongerStates
  have h9 := hE.2.1
  have h0 := hE.2.2.1
  obtain ⟨l1, h1, h2⟩ := lead_2 (F := F) 260 0 F l (by omega) (by omega) (fun i hi => by omega)
  obtain ⟨l', r1, r2⟩ := lead_28 hE hA hF (n - 1) 1 0 F l1 (by omega) (Nat.le_refl 1) (by omega) (fun κ hκ => Or.inr ⟨h1 κ (by omega), fun t q1 q2 => by omega⟩) (fun t _ _ _ => Nat.zero_le t)
  refine ⟨l', r1, ?_⟩
  refine Eq.trans (h2 _) ?_
  exact r2

