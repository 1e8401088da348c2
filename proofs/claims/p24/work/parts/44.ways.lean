/-- the rows of the states to which j letters lead from the row q -/
def RS (P : Nat → Nat) (q : Nat) : Nat → Nat → Prop
  | 0, r => r = q
  | j + 1, r => ∃ x a, RS P q j x ∧ a < 4 ∧ r = dl P x a
theorem RS_st {P : Nat → Nat} {q : Nat} (hq : isSt P q = true) : ∀ j r, RS P q j r → isSt P r = true := by
  intro j r h
  match j, h with
  | 0, h => rw [show r = q from h]; exact hq
  | j + 1, h =>
    obtain ⟨x, a, _, _, e⟩ := h
    rw [e]
    exact sa_st P _ _
/-- an end that is longer than what was read: its beginning was there before -/
theorem RS_no {P : Nat → Nat} {q : Nat} (ho : POs P) (hq : isSt P q = true) : ∀ (j r e x : Nat), RS P q j r → V x e → isEndB r e = true → j < x → isEndB q (e / 4 ^ j) = true := by
  intro j
  induction j with
  | zero =>
    intro r e x h hV he hj
    rw [show r = q from h] at he
    rw [Nat.pow_zero, Nat.div_one]
    exact he
  | succ j ih =>
    intro r e x h hV he hj
    obtain ⟨y, a, h1, ha, hr⟩ := h
    obtain ⟨x, rfl⟩ : ∃ z, x = z + 1 := ⟨x - 1, by omega⟩
    unfold dl at hr
    obtain ⟨m, m1, m2, -, -⟩ := sa_ex P (4 * y + a) (ln y + 1)
    rw [m2] at hr
    have hrV : V m r := by rw [hr]; exact V_suf _ _
    unfold isEndB at he
    rw [decide_eq_true_eq, V_ln hV, V_ln hrV, hr] at he
    obtain ⟨e1, e2⟩ := he
    rw [suf_suf _ e1, suf_succ y a x ha] at e2
    have e4 : e / 4 = suf y x := by rw [← e2]; omega
    have hend : isEndB y (e / 4) = true := by
      unfold isEndB
      rw [decide_eq_true_eq, e4, V_ln (V_suf y x)]
      exact ⟨by omega, rfl⟩
    have := ih y (e / 4) x h1 (by rw [e4]; exact V_suf y x) hend (by omega)
    rw [Nat.div_div_eq_div_mul] at this
    rw [Nat.pow_succ, Nat.mul_comm]
    exact this
/-- letters lead on to an end that is a state -/
theorem RS_yes {P : Nat → Nat} {q c L k : Nat} (ho : POs P) (hq : isSt P q = true) (hc : V L c) (hk : k ≤ L) (hst : ∀ i, i ≤ k → isSt P (c / 4 ^ (k - i)) = true) (h0 : isEndB q (c / 4 ^ k) = true) : ∀ i, i ≤ k → ∃ r, RS P q i r ∧ isEndB r (c / 4 ^ (k - i)) = true := by
  intro i
  induction i with
  | zero => intro _; exact ⟨q, rfl, by rw [Nat.sub_zero]; exact h0⟩
  | succ i ih =>
    intro hi
    obtain ⟨r, r1, r2⟩ := ih (by omega)
    obtain ⟨mr, mr1, mr2⟩ := st_V ho (RS_st hq i r r1)
    have hv := V_div hc (show k - i ≤ L by omega)
    have hv1 := V_div hc (show k - (i + 1) ≤ L by omega)
    have ha : c / 4 ^ (k - (i + 1)) % 4 < 4 := Nat.mod_lt _ (by decide)
    have hd : c / 4 ^ (k - i) = c / 4 ^ (k - (i + 1)) / 4 := by
      rw [show k - i = k - (i + 1) + 1 by omega, Nat.pow_succ, Nat.div_div_eq_div_mul]
    refine ⟨dl P r (c / 4 ^ (k - (i + 1)) % 4), ⟨r, _, r1, ha, rfl⟩, ?_⟩
    unfold dl
    rw [V_ln mr2, ← isEnd_sa (V_succ mr2 ha) hv1 (hst (i + 1) hi)]
    unfold isEndB at r2 ⊢
    rw [decide_eq_true_eq, V_ln hv, V_ln mr2] at r2
    rw [decide_eq_true_eq, V_ln hv1, V_ln (V_succ mr2 ha)]
    obtain ⟨e1, e2⟩ := r2
    have hLs : L - (k - (i + 1)) = L - (k - i) + 1 := by omega
    refine ⟨by omega, ?_⟩
    rw [hLs, suf_succ r _ _ ha, e2, hd]
    omega
section WY
variable {F n p : Nat} {P g : Nat → Nat} {np xr xs xe xl : Nat → Int32}
theorem wy_89 {κ : Nat} {y2 y3 y5 : Int32} {is : Nat → Int32} (hM : MO P n g xr xs xe xl) (hn : n ≤ 64) (hκ : κ < n) (hp : p < 8) (hi : is κ = 1) (hF : 300 ≤ F) : ∀ (d b fu : Nat) (th : Nat → Int32) (B : Bool), b + d = 4 → d < fu → ∃ th' B', (∀ k155, L_L_areWaysSo_89 F k155 (nI p) y2 y3 y5 (nI κ) np xl xr (nI n) is xe xs fu (b2 B) (nI b) th = k155 (b2 B') th') ∧ (∀ k, k < n → (th' k = 1 ↔ th k = 1 ∨ ∃ a, b ≤ a ∧ a < 4 ∧ g k = dl P (g κ) a)) ∧ (B' = true ↔ B = true ∨ ∃ a, b ≤ a ∧ a < 4 ∧ (mk P (dl P (g κ) a)).testBit p = true) := by
  intro d
  have h9 := hM.1.2.1
  induction d with
  | zero =>
    intro b fu th B hb hf
    obtain ⟨fu, rfl⟩ : ∃ z, fu = z + 1 := ⟨fu - 1, by omega⟩
    have hb : b = 4 := by omega
    subst hb
    refine ⟨th, B, fun k155 => ?_, fun k hk => ⟨Or.inl, fun h => h.elim id (fun ⟨a, a1, a2, _⟩ => absurd a1 (by omega))⟩, ⟨Or.inl, fun h => h.elim id (fun ⟨a, a1, a2, _⟩ => absurd a1 (by omega))⟩⟩
    rw [L_L_areWaysSo_89]
    exact it_e (show (4 : Int32) ≤ nI 4 from by decide) rfl
  | succ d ih =>
    intro b fu th B hb hf
    obtain ⟨fu, rfl⟩ : ∃ z, fu = z + 1 := ⟨fu - 1, by omega⟩
    have hb4 : b < 4 := by omega
    obtain ⟨t, t1, t2, t3⟩ := hM.2.2.1.lead hκ hb4
    obtain ⟨Bn, hBn⟩ : ∃ Bn : Bool, Bn = (B || (mk P (g t)).testBit p) := ⟨_, rfl⟩
    obtain ⟨th', B', i1, i2, i3⟩ := ih (b + 1) fu (upd th t 1) Bn (by omega) (by omega)
    refine ⟨th', B', fun k155 => ?_, fun k hk => ?_, ?_⟩
    · rw [L_L_areWaysSo_89]
      refine if_e (show ¬ (4 : Int32) ≤ nI b from nI_ge (a := b) (b := 4) hb4 (by decide)) ?_
      refine grd_e (inb_nI (by omega) (by decide)) ?_
      rw [nI_clamp (by omega)]
      refine it_e hi ?_
      refine bnd_e (st5 hM hκ hb4) ?_
      rw [t2]
      refine grd_e (inb_nI (by omega) (by decide)) ?_
      rw [nI_clamp (by omega)]
      refine nmv_e ?_
      have hnx := i1 k155
      cases B with
      | true =>
        have hB1 : Bn = true := by rw [hBn]; rfl
        rw [hB1] at hnx
        refine if_e b2_t ?_
        refine nmv_e ?_
        rw [nI_1]
        exact hnx
      | false =>
        refine it_e rfl ?_
        refine bnd_e (st3 hM t1) ?_
        by_cases hbit : (mk P (g t)).testBit p = true
        · have hB1 : Bn = true := by rw [hBn, hbit]; rfl
          rw [hB1] at hnx
          refine it_e (bit_is (mk_lt _ _) hp hbit) ?_
          refine nmv_e ?_
          rw [nI_1]
          exact hnx
        · have hB1 : Bn = false := by
            rw [hBn]
            cases hz : (mk P (g t)).testBit p with
            | false => rfl
            | true => exact absurd hz hbit
          rw [hB1] at hnx
          refine if_e (bit_isnt (mk_lt _ _) hp hbit) ?_
          refine nmv_e ?_
          rw [nI_1]
          exact hnx
    · rw [i2 k hk]
      unfold upd
      constructor
      · rintro (h | ⟨a, a1, a2, a3⟩)
        · by_cases e : k = t
          · exact Or.inr ⟨b, Nat.le_refl b, hb4, by rw [e]; exact t3⟩
          · rw [if_neg e] at h; exact Or.inl h
        · exact Or.inr ⟨a, by omega, a2, a3⟩
      · rintro (h | ⟨a, a1, a2, a3⟩)
        · by_cases e : k = t
          · exact Or.inl (by rw [if_pos e])
          · exact Or.inl (by rw [if_neg e]; exact h)
        · by_cases e : a = b
          · subst e
            exact Or.inl (by rw [if_pos (hM.1.1.inj hk t1 (a3.trans t3.symm))])
          · exact Or.inr ⟨a, by omega, a2, a3⟩
    · rw [i3, hBn, Bool.or_eq_true]
      constructor
      · rintro ((h | h) | ⟨a, a1, a2, a3⟩)
        · exact Or.inl h
        · exact Or.inr ⟨b, Nat.le_refl b, hb4, by rw [← t3]; exact h⟩
        · exact Or.inr ⟨a, by omega, a2, a3⟩
      · rintro (h | ⟨a, a1, a2, a3⟩)
        · exact Or.inl (Or.inl h)
        · by_cases e : a = b
          · subst e
            exact Or.inl (Or.inr (by rw [t3]; exact a3))
          · exact Or.inr ⟨a, by omega, a2, a3⟩
theorem wy_80 {y2 y5 : Int32} {is : Nat → Int32} (hM : MO P n g xr xs xe xl) (hn : n ≤ 64) (hp : p < 8) (hF : 300 ≤ F) : ∀ (d κ fu : Nat) (th : Nat → Int32) (B : Bool), κ + d = n → d < fu → ∃ th' B', (∀ k161, L_L_areWaysSo_80 F k161 (nI p) y2 (nI n) y5 np xl xr (nI n) is xe xs fu (b2 B) (nI κ) th = k161 (b2 B') th') ∧ (∀ k, k < n → (th' k = 1 ↔ th k = 1 ∨ ∃ x a, κ ≤ x ∧ x < n ∧ is x = 1 ∧ a < 4 ∧ g k = dl P (g x) a)) ∧ (B' = true ↔ B = true ∨ ∃ x a, κ ≤ x ∧ x < n ∧ is x = 1 ∧ a < 4 ∧ (mk P (dl P (g x) a)).testBit p = true) := by
  intro d
  have h9 := hM.1.2.1
  induction d with
  | zero =>
    intro κ fu th B hκ hf
    obtain ⟨fu, rfl⟩ : ∃ z, fu = z + 1 := ⟨fu - 1, by omega⟩
    refine ⟨th, B, fun k161 => ?_, fun k hk => ⟨Or.inl, fun h => h.elim id (fun ⟨x, a, x1, x2, _⟩ => absurd x1 (by omega))⟩, ⟨Or.inl, fun h => h.elim id (fun ⟨x, a, x1, x2, _⟩ => absurd x1 (by omega))⟩⟩
    rw [L_L_areWaysSo_80]
    exact it_e (nI_le (by omega) (by omega)) rfl
  | succ d ih =>
    intro κ fu th B hκ hf
    obtain ⟨fu, rfl⟩ : ∃ z, fu = z + 1 := ⟨fu - 1, by omega⟩
    have hκn : κ < n := by omega
    by_cases hi : is κ = 1
    · obtain ⟨th1, B1, j1, j2, j3⟩ := wy_89 (F := F) (np := np) (y2 := y2) (y3 := nI n) (y5 := y5) hM hn hκn hp hi hF 4 0 F th B (by omega) (by omega)
      obtain ⟨th', B', i1, i2, i3⟩ := ih (κ + 1) fu th1 B1 (by omega) (by omega)
      refine ⟨th', B', fun k161 => ?_, fun k hk => ?_, ?_⟩
      · rw [L_L_areWaysSo_80]
        refine if_e (nI_ge hκn (by omega)) ?_
        refine (j1 _).trans ?_
        refine nmv_e ?_
        rw [nI_1]
        exact i1 k161
      · rw [i2 k hk, j2 k hk]
        constructor
        · rintro ((h | ⟨a, a1, a2, a3⟩) | ⟨x, a, x1, x2, x3⟩)
          · exact Or.inl h
          · exact Or.inr ⟨κ, a, Nat.le_refl κ, hκn, hi, a2, a3⟩
          · exact Or.inr ⟨x, a, by omega, x2, x3⟩
        · rintro (h | ⟨x, a, x1, x2, x3, x4, x5⟩)
          · exact Or.inl (Or.inl h)
          · by_cases e : x = κ
            · subst e
              exact Or.inl (Or.inr ⟨a, Nat.zero_le a, x4, x5⟩)
            · exact Or.inr ⟨x, a, by omega, x2, x3, x4, x5⟩
      · rw [i3, j3]
        constructor
        · rintro ((h | ⟨a, a1, a2, a3⟩) | ⟨x, a, x1, x2, x3⟩)
          · exact Or.inl h
          · exact Or.inr ⟨κ, a, Nat.le_refl κ, hκn, hi, a2, a3⟩
          · exact Or.inr ⟨x, a, by omega, x2, x3⟩
        · rintro (h | ⟨x, a, x1, x2, x3, x4, x5⟩)
          · exact Or.inl (Or.inl h)
          · by_cases e : x = κ
            · subst e
              exact Or.inl (Or.inr ⟨a, Nat.zero_le a, x4, x5⟩)
            · exact Or.inr ⟨x, a, by omega, x2, x3, x4, x5⟩
    · obtain ⟨th', B', i1, i2, i3⟩ := ih (κ + 1) fu th B (by omega) (by omega)
      refine ⟨th', B', fun k161 => ?_, fun k hk => ?_, ?_⟩
      · rw [L_L_areWaysSo_80]
        refine if_e (nI_ge hκn (by omega)) ?_
        obtain ⟨G, hG⟩ : ∃ G, F = G + 1 := ⟨F - 1, by omega⟩
        have hskip : ∀ k155, ∀ fv, fv = G + 1 → L_L_areWaysSo_89 F k155 (nI p) y2 (nI n) y5 (nI κ) np xl xr (nI n) is xe xs fv (b2 B) 0 th = k155 (b2 B) th := by
          intro k155 fv hfv
          subst hfv
          rw [L_L_areWaysSo_89]
          refine if_e (show ¬ (4 : Int32) ≤ 0 by decide) ?_
          refine grd_e (inb_nI (by omega) (by decide)) ?_
          rw [nI_clamp (by omega)]
          exact if_e hi rfl
        refine (hskip _ F hG).trans ?_
        refine nmv_e ?_
        rw [nI_1]
        exact i1 k161
      · rw [i2 k hk]
        constructor
        · rintro (h | ⟨x, a, x1, x2, x3⟩)
          · exact Or.inl h
          · exact Or.inr ⟨x, a, by omega, x2, x3⟩
        · rintro (h | ⟨x, a, x1, x2, x3, x4, x5⟩)
          · exact Or.inl h
          · by_cases e : x = κ
            · subst e; exact absurd x3 hi
            · exact Or.inr ⟨x, a, by omega, x2, x3, x4, x5⟩
      · rw [i3]
        constructor
        · rintro (h | ⟨x, a, x1, x2, x3⟩)
          · exact Or.inl h
          · exact Or.inr ⟨x, a, by omega, x2, x3⟩
        · rintro (h | ⟨x, a, x1, x2, x3, x4, x5⟩)
          · exact Or.inl h
          · by_cases e : x = κ
            · subst e; exact absurd x3 hi
            · exact Or.inr ⟨x, a, by omega, x2, x3, x4, x5⟩
/-- j letters: the row of marks is that of the states to which they lead -/
theorem wy_62 {q ls : Nat} (hM : MO P n g xr xs xe xl) (hn : n ≤ 64) (hp : p < 8) (hq : isSt P q = true) (hls : ls ≤ 8) (hyes : ∃ r, RS P q ls r ∧ (mk P r).testBit p = true) (hno : ∀ j r, 1 ≤ j → j < ls → RS P q j r → ¬ (mk P r).testBit p = true) (hF : 300 ≤ F) : ∀ (d j fu : Nat) (is : Nat → Int32), j + d = ls → d < fu → (∀ k, k < n → (is k = 1 ↔ RS P q j (g k))) → ∀ k189, L_L_areWaysSo_62 F k189 (nI p) (nI ls) (nI n) np xl xr (nI n) xe xs fu (nI (j + 1)) is = k189 () := by
  intro d
  have h9 := hM.1.2.1
  induction d with
  | zero =>
    intro j fu is hj hf hI k189
    obtain ⟨fu, rfl⟩ : ∃ z, fu = z + 1 := ⟨fu - 1, by omega⟩
    rw [L_L_areWaysSo_62]
    exact it_e (nI_lt (by omega) (by omega)) rfl
  | succ d ih =>
    intro j fu is hj hf hI k189
    obtain ⟨fu, rfl⟩ : ∃ z, fu = z + 1 := ⟨fu - 1, by omega⟩
    obtain ⟨th', B', i1, i2, i3⟩ := wy_80 (F := F) (np := np) (y2 := nI ls) (y5 := nI (j + 1)) (is := is) hM hn hp hF n 0 F (fun _ => 0) false (by omega) (by omega)
    have i1' : ∀ k161, L_L_areWaysSo_80 F k161 (nI p) (nI ls) (nI n) (nI (j + 1)) np xl xr (nI n) is xe xs F 0 0 (fun _ => 0) = k161 (b2 B') th' := i1
    have hI' : ∀ k, k < n → (th' k = 1 ↔ RS P q (j + 1) (g k)) := by
      intro k hk
      rw [i2 k hk]
      constructor
      · rintro (h | ⟨x, a, x1, x2, x3, x4, x5⟩)
        · exact absurd h (by decide)
        · exact ⟨g x, a, (hI x x2).mp x3, x4, x5⟩
      · rintro ⟨x, a, h1, h2, h3⟩
        obtain ⟨y, y1, y2⟩ := hM.1.idx (RS_st hq j x h1)
        rw [← y2] at h1 h3
        exact Or.inr ⟨y, a, Nat.zero_le y, y1, (hI y y1).mpr h1, h2, h3⟩
    have hB : B' = true ↔ ∃ r, RS P q (j + 1) r ∧ (mk P r).testBit p = true := by
      rw [i3]
      constructor
      · rintro (h | ⟨x, a, x1, x2, x3, x4, x5⟩)
        · cases h
        · exact ⟨_, ⟨g x, a, (hI x x2).mp x3, x4, rfl⟩, x5⟩
      · rintro ⟨r, ⟨x, a, h1, h2, h3⟩, h4⟩
        obtain ⟨y, y1, y2⟩ := hM.1.idx (RS_st hq j x h1)
        rw [← y2] at h1 h3
        rw [h3] at h4
        exact Or.inr ⟨y, a, Nat.zero_le y, y1, (hI y y1).mpr h1, h2, h4⟩
    have hnx := ih (j + 1) fu th' (by omega) (by omega) hI' k189
    rw [L_L_areWaysSo_62]
    refine if_e (fun h => by have := (nI_ltI (by omega) (by omega)).mp h; omega) ?_
    refine (i1' _).trans ?_
    refine jp_e (fun j174 e174 => ?_)
    by_cases hl : j + 1 = ls
    · have hBt : B' = true := hB.mpr (by rw [hl]; exact hyes)
      refine it_e (by rw [hl]) ?_
      subst e174
      rw [hBt]
      refine it_e rfl ?_
      refine nmv_e ?_
      rw [nI_1]
      exact hnx
    · have hBf : B' = false := by
        cases hz : B' with
        | false => rfl
        | true =>
          obtain ⟨r, r1, r2⟩ := hB.mp hz
          exact absurd r2 (hno (j + 1) r (by omega) (by omega) r1)
      refine if_e (fun h => hl ((nI_eq (by omega) (by omega)).mp h)) ?_
      subst e174
      rw [hBf]
      refine it_e rfl ?_
      refine nmv_e ?_
      rw [nI_1]
      exact hnx
end WY
section WZ
variable {F n rd tl p : Nat} {P g : Nat → Nat} {np nc nl dp dc dl xr xs xe xl bc dr : Nat → Int32} {nru nre nrd nto nla nfa nmo ss so dru dre drd dto dla dfa dmo xz bl : Int32} {mems : Nat → Option Nat} {ad : Nat}
/-- the fewest letters to a match lead there, by states: no fewer, and by some -/
theorem areWays5 (hs : SP np P) (hM : MO P n g xr xs xe xl) (htl : V (min rd 8) tl) (hp : p < 8) (hF : 300 ≤ F) : D_L_areWaysSo F (nI p) np (nI tl) xl xr nmo nfa nla nto (nI rd) (nI n) ss nl nc xe xs = some 1 := by
  obtain ⟨i, i1, i2, i3⟩ := currentState5 (F := F) hM.1 hM.2.2.1 htl (by omega)
  have h9 := hM.1.2.1
  have hpo := hM.1.2.2.2
  unfold D_L_areWaysSo
  by_cases h0 : P p = 0
  · refine bnd_e (few0 hs hp h0) ?_
    refine bnd_e ct1 ?_
    refine bnd_e (pt0 hs hpo hp hF) ?_
    refine jp_e (fun j27 e27 => ?_)
    refine it_e (by rw [h0, ln_0]; rfl) ?_
    subst e27
    by_cases h64 : (64 : Int32) < nI n
    · exact it_e h64 rfl
    · exact if_e h64 (it_e rfl rfl)
  · obtain ⟨q1, q2, q3⟩ := PO_V (hpo p hp) h0
    obtain ⟨ls, l1, l2, l3, l4, l5⟩ := few1 (F := F) (xs := xs) (xe := xe) hs hM i1 i3 hp h0 hF
    refine bnd_e l3 ?_
    refine bnd_e ct1 ?_
    refine bnd_e (pt0 hs hpo hp hF) ?_
    refine jp_e (fun j27 e27 => ?_)
    refine if_e (nI_ne0 (by omega) (by omega)) ?_
    by_cases hn : n ≤ 64
    · refine it_e (show nI n ≤ (64 : Int32) from nI_le (b := 64) hn (by decide)) ?_
      refine bnd_e (ct2 i3) ?_
      refine grd_e (inb_nI (by omega) (by decide)) ?_
      rw [nI_clamp (by omega)]
      refine nmv_e ?_
      have hq := hM.1.1.1 i i1
      have hbits : ∀ r, (mk P r).testBit p = isEndB r (P p) := by
        intro r
        rw [mk_bit]
        simp [hp, h0]
      have hbeg : ∀ x, x ≤ ln (P p) → isSt P (P p / 4 ^ x) = true := fun x hx => isSt_iff.mpr (Or.inr ⟨p, hp, h0, (isBegB_iff q3).mpr ⟨ln (P p) - x, by omega, by rw [show ln (P p) - (ln (P p) - x) = x by omega]⟩⟩)
      have hyes : ∃ r, RS P (g i) ls r ∧ (mk P r).testBit p = true := by
        obtain ⟨r, r1, r2⟩ := RS_yes (k := ls) hpo hq q3 l2 (fun x hx => hbeg _ (by omega)) (by
          rcases l5 with e | e
          · rw [e, V_end q3]; exact isEnd_1 _
          · exact e) ls (Nat.le_refl ls)
        rw [Nat.sub_self, Nat.pow_zero, Nat.div_one] at r2
        exact ⟨r, r1, by rw [hbits]; exact r2⟩
      have hno : ∀ j r, 1 ≤ j → j < ls → RS P (g i) j r → ¬ (mk P r).testBit p = true := by
        intro j r j1 j2 hr hb
        rw [hbits] at hb
        have := RS_no hpo hq j r (P p) (ln (P p)) hr q3 hb (by omega)
        rw [l4 j j1 j2] at this
        cases this
      refine (wy_62 (np := np) (q := g i) hM hn hp hq (by omega) hyes hno hF ls 0 9 (upd (fun _ => 0) i 1) (by omega) (by omega) (fun k hk => ?_) _).trans ?_
      · unfold upd
        by_cases e : k = i
        · rw [if_pos e, e]
          exact ⟨fun _ => rfl, fun _ => rfl⟩
        · rw [if_neg e]
          exact ⟨fun h => absurd h (show ¬ (0 : Int32) = 1 by decide), fun h => absurd (hM.1.1.inj hk i1 h) e⟩
      · refine if_e (fun h => by have := (nI_ltI (a := ls) (b := 1) (by omega) (by decide)).mp h; omega) ?_
        exact if_e (fun h => by have := (nI_ltI (a := 8) (b := ls) (by decide) (by omega)).mp h; omega) rfl
    · refine if_e (show ¬ nI n ≤ (64 : Int32) from nI_ge (a := 64) (by omega) (by omega)) ?_
      subst e27
      exact it_e (show (64 : Int32) < nI n from nI_lt (a := 64) (by omega) (by omega)) rfl
end WZ
