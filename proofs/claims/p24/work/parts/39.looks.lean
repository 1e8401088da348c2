/-! what the class's looks answer, one by one; steps of a computed value -/
theorem bnd_e {α β : Type} {o : Option α} {K : α → Option β} {a : α} {r : Option β} (h : o = some a) (k : K a = r) : bnd o K = r := by rw [h]; exact k
theorem nmv_e {α β : Type} {e : α} {K : α → Option β} {r : Option β} (k : K e = r) : nm e K = r := k
theorem jp_e {γ β : Type} {J : γ} {f : γ → Option β} {r : Option β} (h : ∀ j, j = J → f j = r) : jp J f = r := h J rfl
theorem grd_e {β : Type} {b : Bool} {x r : Option β} (h : b = true) (k : x = r) : grd b x = r := by rw [grd_t h]; exact k
theorem it_e {β : Type} {c : Prop} {i : Decidable c} {a b r : β} (h : c) (k : a = r) : (@ite β c i a b) = r := by rw [if_pos h]; exact k
theorem if_e {β : Type} {c : Prop} {i : Decidable c} {a b r : β} (h : ¬ c) (k : b = r) : (@ite β c i a b) = r := by rw [if_neg h]; exact k
theorem n10 : ¬ (1 : Int32) = 0 := by decide
theorem slot1 {F p : Nat} (hp : p < 8) : D_X5_isSlot F (nI p) = some 1 := by
  unfold D_X5_isSlot
  exact if_e (nI_pos (by omega)) (if_e (show ¬ (8 : Int32) ≤ nI p from nI_ge (a := p) (b := 8) hp (by decide)) rfl)
theorem letter1 {F a : Nat} (ha : a < 4) : D_X5_isLetter F (nI a) = some 1 := by
  unfold D_X5_isLetter
  exact if_e (nI_pos (by omega)) (if_e (show ¬ (4 : Int32) ≤ nI a from nI_ge (a := a) (b := 4) ha (by decide)) rfl)
section PT
variable {F p n : Nat} {w : Int32} {P g : Nat → Nat} {np nc nl xr xs xe xl : Nat → Int32}
theorem ptw (hp : p < 8) (h0 : ¬ w < 0) (h1 : w < 6) : D_X5_pattern F (nI p) w np xl nl nc = D_X5_patternProperty F (nI p) w np xl nl nc := by
  unfold D_X5_pattern
  refine bnd_e (slot1 hp) ?_
  refine if_e n10 ?_
  refine jp_e (fun j _ => ?_)
  refine if_e h0 ?_
  refine it_e h1 ?_
  cases D_X5_patternProperty F (nI p) w np xl nl nc <;> rfl
theorem pt0 (hs : SP np P) (ho : POs P) (hp : p < 8) (hF : 300 ≤ F) : D_X5_pattern F (nI p) 0 np xl nl nc = some (nI (ln (P p))) := by
  rw [ptw hp (by decide) (by decide)]
  unfold D_X5_patternProperty
  refine bnd_e (patternIn5 hs hp) ?_
  refine it_e rfl ?_
  exact bnd_e (len3P ho hp (by omega)).1 rfl
theorem pt1 (hs : SP np P) (hp : p < 8) : D_X5_pattern F (nI p) 1 np xl nl nc = some (nc p) := by
  rw [ptw hp (by decide) (by decide)]
  unfold D_X5_patternProperty
  refine bnd_e (patternIn5 hs hp) ?_
  refine if_e (by decide) ?_
  refine it_e rfl ?_
  exact bnd_e (at_in hp (by decide)) rfl
theorem pt2 (hs : SP np P) (hp : p < 8) : D_X5_pattern F (nI p) 2 np xl nl nc = some (nl p) := by
  rw [ptw hp (by decide) (by decide)]
  unfold D_X5_patternProperty
  refine bnd_e (patternIn5 hs hp) ?_
  refine if_e (by decide) ?_
  refine if_e (by decide) ?_
  refine it_e rfl ?_
  exact bnd_e (at_in hp (by decide)) rfl
theorem pt3_0 (hs : SP np P) (hp : p < 8) (h : P p = 0) : D_X5_pattern F (nI p) 3 np xl nl nc = some (-1) := by
  rw [ptw hp (by decide) (by decide)]
  unfold D_X5_patternProperty
  refine bnd_e (patternIn5 hs hp) ?_
  refine if_e (by decide) ?_
  refine if_e (by decide) ?_
  refine if_e (by decide) ?_
  refine it_e rfl ?_
  exact it_e (by rw [h]; rfl) rfl
theorem pt3 (hs : SP np P) (hM : MO P n g xr xs xe xl) (hp : p < 8) (h : P p ≠ 0) (hF : 300 ≤ F) : ∃ i, i < n ∧ g i = P p ∧ 1 ≤ i ∧ D_X5_pattern F (nI p) 3 np xl nl nc = some (nI i) := by
  obtain ⟨hE, hA, hB, hen⟩ := hM
  have ho := hE.2.2.2
  obtain ⟨q1, q2, q3⟩ := PO_V (ho p hp) h
  obtain ⟨i, i1, i2, i3⟩ := stateBehind1 (F := F) hE hB q3 q2 (by omega)
  rw [sa_self q3 (pat_st ho hp h)] at i2
  refine ⟨i, i1, i2, ?_, ?_⟩
  · rcases Nat.eq_zero_or_pos i with z | z
    · subst z
      rw [hE.g0] at i2
      rw [← i2, V_ln V_0] at q1
      omega
    · exact z
  · rw [ptw hp (by decide) (by decide)]
    unfold D_X5_patternProperty
    refine bnd_e (patternIn5 hs hp) ?_
    refine if_e (by decide) ?_
    refine if_e (by decide) ?_
    refine if_e (by decide) ?_
    refine it_e rfl ?_
    refine if_e (nI_ne0 (by omega) (by have := PO_lt (ho p hp); omega)) ?_
    exact bnd_e i3 rfl
theorem ltw (hp : p < 8) (h0 : ¬ w < 0) (h1 : w < 8) (hs : SP np P) : D_X5_letter F (nI p) w np = D_X3_letterAt F (nI (P p)) w := by
  unfold D_X5_letter
  refine bnd_e (slot1 hp) ?_
  refine if_e n10 ?_
  refine jp_e (fun j _ => ?_)
  refine if_e h0 ?_
  refine it_e h1 ?_
  refine bnd_e (patternIn5 hs hp) ?_
  cases D_X3_letterAt F (nI (P p)) w <;> rfl
theorem ltr_0 (hs : SP np P) (hp : p < 8) (h : P p = 0) (hF : 300 ≤ F) : D_X5_letter F (nI p) 0 np = some (-1) := by
  rw [ltw hp (by decide) (by decide) hs, h]
  exact letterAt3_0 (k := 0) (by decide) (by omega)
theorem ltr_1 (hs : SP np P) (ho : POs P) (hp : p < 8) (h : P p ≠ 0) (hF : 300 ≤ F) : D_X5_letter F (nI p) (nI (ln (P p)) - 1) np = some (nI (P p % 4)) := by
  obtain ⟨q1, q2, q3⟩ := PO_V (ho p hp) h
  rw [nI_s1 q1, ltw hp (nI_pos (by omega)) (show nI (ln (P p) - 1) < (8 : Int32) from nI_lt (a := ln (P p) - 1) (b := 8) (by omega) (by decide)) hs, letterAt3 q3 (by omega) (by omega) (by omega), if_pos (by omega), show ln (P p) - 1 - (ln (P p) - 1) = 0 by omega, Nat.pow_zero, Nat.div_one]
end PT
section CT
variable {F n : Nat} {w : Int32} {P g : Nat → Nat} {np xl : Nat → Int32} {nru nre nrd nto nla nfa nmo xz ss : Int32}
theorem ctw (h0 : ¬ w < 0) (h1 : w < 10) : D_X5_count F w np nmo nfa nla nto nrd nre xl xz ss = D_X5_numberTold F w np nmo nfa nla nto nrd nre xl xz ss := by
  unfold D_X5_count
  refine jp_e (fun j _ => ?_)
  refine if_e h0 (it_e h1 ?_)
  cases D_X5_numberTold F w np nmo nfa nla nto nrd nre xl xz ss <;> rfl
theorem ct0 (hs : SP np P) (ho : POs P) (hF : 300 ≤ F) : D_X5_count F 0 np nmo nfa nla nto nrd nre xl xz ss = some (nI (bgn P 1)) := by
  rw [ctw (by decide) (by decide)]
  unfold D_X5_numberTold
  refine it_e rfl ?_
  exact bnd_e (number5 hs ho (by omega)) rfl
theorem ct1 : D_X5_count F 1 np nmo nfa nla nto nrd nre xl xz ss = some xz := by
  rw [ctw (by decide) (by decide)]
  unfold D_X5_numberTold
  exact if_e (by decide) (it_e rfl rfl)
theorem ct2 {i : Int32} (h : D_X5_currentState F nre xl = some i) : D_X5_count F 2 np nmo nfa nla nto nrd nre xl xz ss = some i := by
  rw [ctw (by decide) (by decide)]
  unfold D_X5_numberTold
  exact if_e (by decide) (if_e (by decide) (it_e rfl (bnd_e h rfl)))
theorem ct3 : D_X5_count F 3 np nmo nfa nla nto nrd nre xl xz ss = some nrd := by
  rw [ctw (by decide) (by decide)]
  unfold D_X5_numberTold
  exact if_e (by decide) (if_e (by decide) (if_e (by decide) (it_e rfl rfl)))
theorem ct4 : D_X5_count F 4 np nmo nfa nla nto nrd nre xl xz ss = some nto := by
  rw [ctw (by decide) (by decide)]
  unfold D_X5_numberTold
  exact if_e (by decide) (if_e (by decide) (if_e (by decide) (if_e (by decide) (it_e rfl rfl))))
theorem ct5 : D_X5_count F 5 np nmo nfa nla nto nrd nre xl xz ss = some nla := by
  rw [ctw (by decide) (by decide)]
  unfold D_X5_numberTold
  exact if_e (by decide) (if_e (by decide) (if_e (by decide) (if_e (by decide) (if_e (by decide) (it_e rfl rfl)))))
theorem ct6 : D_X5_count F 6 np nmo nfa nla nto nrd nre xl xz ss = some nfa := by
  rw [ctw (by decide) (by decide)]
  unfold D_X5_numberTold
  exact if_e (by decide) (if_e (by decide) (if_e (by decide) (if_e (by decide) (if_e (by decide) (if_e (by decide) (it_e rfl rfl))))))
theorem ct8 (hs : SP np P) (ho : POs P) (hF : 300 ≤ F) : D_X5_count F 8 np nmo nfa nla nto nrd nre xl xz ss = some (nI (lsum P)) := by
  rw [ctw (by decide) (by decide)]
  unfold D_X5_numberTold
  exact if_e (by decide) (if_e (by decide) (if_e (by decide) (if_e (by decide) (if_e (by decide) (if_e (by decide) (if_e (by decide) (if_e (by decide) (it_e rfl (bnd_e (sum5 hs ho (by omega)) rfl)))))))))
end CT
section SQ
variable {F n i a : Nat} {w : Int32} {P g : Nat → Nat} {np xr xs xe xl : Nat → Int32}
theorem stw (hi : i < n) (hn : n < 2 ^ 31) (h0 : ¬ w < 0) (h1 : w < 9) : D_X5_state F (nI i) w (nI n) xr np xe xs xl = D_X5_stateProperty F (nI i) w xr np xe xs xl := by
  unfold D_X5_state
  refine jp_e (fun j _ => ?_)
  refine if_e (nI_pos (by omega)) ?_
  refine it_e (nI_lt hi hn) ?_
  refine jp_e (fun j _ => ?_)
  refine if_e h0 (it_e h1 ?_)
  cases D_X5_stateProperty F (nI i) w xr np xe xs xl <;> rfl
theorem st0 (hM : MO P n g xr xs xe xl) (hi : i < n) (hF : 300 ≤ F) : D_X5_state F (nI i) 0 (nI n) xr np xe xs xl = some (nI (ln (g i))) := by
  obtain ⟨hE, hA, hB, hen⟩ := hM
  have h9 := hE.2.1
  obtain ⟨m, m1, m2⟩ := st_V hE.2.2.2 (hE.1.1 i hi)
  rw [stw hi (by omega) (by decide) (by decide)]
  unfold D_X5_stateProperty
  refine it_e rfl ?_
  refine bnd_e ((at_in (show i < 65 by omega) (by decide)).trans (by rw [hA i hi])) ?_
  rw [V_ln m2]
  exact bnd_e (len3 m2 (by omega) (by omega)) rfl
theorem st1 (hM : MO P n g xr xs xe xl) (hi : i < n) (h1 : 1 ≤ i) : D_X5_state F (nI i) 1 (nI n) xr np xe xs xl = some (nI (g i % 4)) := by
  obtain ⟨hE, hA, hB, hen⟩ := hM
  have h9 := hE.2.1
  have hg := (st_lt hE.2.2.2 (hE.1.1 i hi)).1
  rw [stw hi (by omega) (by decide) (by decide)]
  unfold D_X5_stateProperty
  refine if_e (by decide) (it_e rfl ?_)
  refine if_e (nI_ne0 (by omega) (by omega)) ?_
  refine bnd_e ((at_in (show i < 65 by omega) (by decide)).trans (by rw [hA i hi])) ?_
  exact bnd_e (last3 (by omega)) rfl
theorem st2 (hM : MO P n g xr xs xe xl) (hi : i < n) : D_X5_state F (nI i) 2 (nI n) xr np xe xs xl = some (xs i) := by
  have h9 := hM.1.2.1
  rw [stw hi (by omega) (by decide) (by decide)]
  unfold D_X5_stateProperty
  refine if_e (by decide) (if_e (by decide) (it_e rfl ?_))
  exact bnd_e (at_in (show i < 65 by omega) (by decide)) rfl
theorem st3 (hM : MO P n g xr xs xe xl) (hi : i < n) : D_X5_state F (nI i) 3 (nI n) xr np xe xs xl = some (nI (mk P (g i))) := by
  have h9 := hM.1.2.1
  rw [stw hi (by omega) (by decide) (by decide)]
  unfold D_X5_stateProperty
  refine if_e (by decide) (if_e (by decide) (if_e (by decide) (it_e rfl ?_)))
  exact bnd_e ((at_in (show i < 65 by omega) (by decide)).trans (by rw [hM.2.2.2 i hi])) rfl
theorem st4 (hs : SP np P) (hM : MO P n g xr xs xe xl) (hi : i < n) (hF : 300 ≤ F) : D_X5_state F (nI i) 4 (nI n) xr np xe xs xl = some (nI (bgn P (g i))) := by
  obtain ⟨hE, hA, hB, hen⟩ := hM
  have h9 := hE.2.1
  obtain ⟨m, m1, m2⟩ := st_V hE.2.2.2 (hE.1.1 i hi)
  rw [stw hi (by omega) (by decide) (by decide)]
  unfold D_X5_stateProperty
  refine if_e (by decide) (if_e (by decide) (if_e (by decide) (if_e (by decide) (it_e rfl ?_))))
  refine bnd_e ((at_in (show i < 65 by omega) (by decide)).trans (by rw [hA i hi])) ?_
  exact bnd_e (beginsWith5 hs hE.2.2.2 m2 (by omega) (by omega)) rfl
theorem st5 (hM : MO P n g xr xs xe xl) (hi : i < n) (ha : a < 4) : D_X5_state F (nI i) ((5 : Int32) + nI a) (nI n) xr np xe xs xl = some (xl (4 * i + a)) := by
  have h9 := hM.1.2.1
  have hn : ∀ k, k ≤ 4 → ¬ nI (5 + a) = nI k := fun k hk h => by have := (nI_eq (by omega) (by omega)).mp h; omega
  rw [show (5 : Int32) + nI a = nI (5 + a) from nI_add 5 a, stw hi (by omega) (nI_pos (by omega)) (show nI (5 + a) < (9 : Int32) from nI_lt (a := 5 + a) (b := 9) (by omega) (by decide))]
  unfold D_X5_stateProperty
  refine if_e (show ¬ nI (5 + a) = 0 from hn 0 (by omega)) (if_e (show ¬ nI (5 + a) = 1 from hn 1 (by omega)) (if_e (show ¬ nI (5 + a) = 2 from hn 2 (by omega)) (if_e (show ¬ nI (5 + a) = 3 from hn 3 (by omega)) (if_e (show ¬ nI (5 + a) = 4 from hn 4 (by omega)) ?_))))
  rw [show nI (5 + a) - 5 = nI a from (pk_sub (a := 5 + a) (b := 5) (by omega)).trans (by rw [show 5 + a - 5 = a by omega])]
  exact bnd_e (leadsTo1 (show 4 * i + a < 260 by omega)) rfl
end SQ
section FD
variable {F n i t a ρ : Nat} {w : Int32} {P g : Nat → Nat} {np xr xs xe xl : Nat → Int32} {nru nre nrd nla : Int32}
theorem fdw (ha : a < 4) (h0 : ¬ w < 0) (h1 : w < 4) : D_X5_ifFed F (nI a) w nre xl nrd nla xe nru np xr xs = D_X5_fedNumber F (nI a) w nre xl nrd nla xe nru np xr xs := by
  unfold D_X5_ifFed
  refine bnd_e (letter1 ha) ?_
  refine if_e n10 ?_
  refine jp_e (fun j _ => ?_)
  refine if_e h0 (it_e h1 ?_)
  cases D_X5_fedNumber F (nI a) w nre xl nrd nla xe nru np xr xs <;> rfl
theorem fd0 (ha : a < 4) (hc : D_X5_currentState F nre xl = some (nI i)) (hl : D_X1_leadsTo F (nI i) (nI a) xl = some (nI t)) : D_X5_ifFed F (nI a) 0 nre xl nrd nla xe nru np xr xs = some (nI t) := by
  rw [fdw ha (by decide) (by decide)]
  unfold D_X5_fedNumber
  exact bnd_e hc (bnd_e hl (it_e rfl rfl))
theorem fd1 (hM : MO P n g xr xs xe xl) (hi : i < n) (ha : a < 4) (hc : D_X5_currentState F nre xl = some (nI i)) (hl : D_X1_leadsTo F (nI i) (nI a) xl = some (nI t)) (hF : 300 ≤ F) : D_X5_ifFed F (nI a) 1 nre xl nrd nla xe nru np xr xs = some (nI (fo P a 10 (g i))) := by
  rw [fdw ha (by decide) (by decide)]
  unfold D_X5_fedNumber
  exact bnd_e hc (bnd_e hl (if_e (by decide) (it_e rfl (bnd_e (fallsBefore1 hM.1 hM.2.1 hM.2.2.1 ha hi (by omega)) rfl))))
theorem mtc (hs : SP np P) (hM : MO P n g xr xs xe xl) (ht : t < n) (hρ : ρ ≤ 2) (hF : 300 ≤ F) : D_X5_matchesThatCount F (nI t) nrd nla xe (nI ρ) np = some (nI (cM P ρ (mk P (g t)) nrd nla)) :=
  matches5 hs hM.1.2.2.2 (mk_lt _ _) hρ (by omega) (fun p _ hb => mk_ne hb) (by have := hM.1.2.1; omega) (hM.2.2.2 t ht)
theorem fd2 (hs : SP np P) (hM : MO P n g xr xs xe xl) (ht : t < n) (ha : a < 4) (hρ : ρ ≤ 2) (hc : D_X5_currentState F nre xl = some (nI i)) (hl : D_X1_leadsTo F (nI i) (nI a) xl = some (nI t)) (hF : 300 ≤ F) : D_X5_ifFed F (nI a) 2 nre xl nrd nla xe (nI ρ) np xr xs = some (nI (pc (cM P ρ (mk P (g t)) nrd nla))) := by
  rw [fdw ha (by decide) (by decide)]
  unfold D_X5_fedNumber
  exact bnd_e hc (bnd_e hl (if_e (by decide) (if_e (by decide) (it_e rfl (bnd_e (mtc hs hM ht hρ hF) (bnd_e (bitCount6 _ (cM_lt (mk_lt _ _)) _) rfl))))))
theorem fd3 (hs : SP np P) (hM : MO P n g xr xs xe xl) (ht : t < n) (ha : a < 4) (hρ : ρ ≤ 2) (hc : D_X5_currentState F nre xl = some (nI i)) (hl : D_X1_leadsTo F (nI i) (nI a) xl = some (nI t)) (hF : 300 ≤ F) : D_X5_ifFed F (nI a) 3 nre xl nrd nla xe (nI ρ) np xr xs = some (lw (cM P ρ (mk P (g t)) nrd nla)) := by
  rw [fdw ha (by decide) (by decide)]
  unfold D_X5_fedNumber
  exact bnd_e hc (bnd_e hl (if_e (by decide) (if_e (by decide) (if_e (by decide) (bnd_e (mtc hs hM ht hρ hF) (bnd_e (lowestSlot5 (cM_lt (mk_lt _ _)) (by omega)) rfl))))))
theorem rpt1 (hs : SP np P) (hM : MO P n g xr xs xe xl) (ht : t < n) (ha : a < 4) (hρ : ρ ≤ 2) (hc : D_X5_currentState F nre xl = some (nI i)) (hl : D_X1_leadsTo F (nI i) (nI a) xl = some (nI t)) (hF : 300 ≤ F) : D_X5_ifRepeated F (nI a) 1 nre xl nla nrd xe (nI ρ) np = some (nI (pc (cM P ρ (mk P (g t)) nrd nla))) := by
  unfold D_X5_ifRepeated
  refine bnd_e (letter1 ha) ?_
  refine if_e n10 ?_
  refine jp_e (fun j _ => ?_)
  refine if_e (show ¬ (1 : Int32) < 1 by decide) (it_e (show (1 : Int32) ≤ 200 by decide) ?_)
  refine bnd_e (a := nI (pc (cM P ρ (mk P (g t)) nrd nla))) ?_ rfl
  unfold D_X5_matchesIfRepeated
  refine bnd_e hc ?_
  obtain ⟨f, hf⟩ : ∃ f, F = f + 2 := ⟨F - 2, by omega⟩
  have go : ∀ fu, fu = f + 2 → L_X5_matchesIfRepeated_20 F (nI a) 1 xl nrd xe (nI ρ) np fu 0 (nI i) nla 0 = some (nI (pc (cM P ρ (mk P (g t)) nrd nla))) := by
    intro fu e
    subst e
    rw [L_X5_matchesIfRepeated_20]
    refine if_e (show ¬ (1 : Int32) ≤ 0 by decide) ?_
    refine bnd_e hl ?_
    rw [show nrd + 0 = nrd from Int32.add_zero nrd]
    refine bnd_e (mtc hs hM ht hρ hF) ?_
    refine jp_e (fun j ej => ?_)
    have kj : ∀ x, j x = some (nI (pc (cM P ρ (mk P (g t)) nrd nla))) := by
      intro x
      subst ej
      refine bnd_e (bitCount6 _ (cM_lt (mk_lt _ _)) _) ?_
      refine nmv_e (nmv_e ?_)
      rw [L_X5_matchesIfRepeated_20]
      refine it_e (show (1 : Int32) ≤ 0 + 1 by decide) ?_
      rw [nI_0a]
    by_cases z : nI (cM P ρ (mk P (g t)) nrd nla) = 0
    · exact it_e z (kj _)
    · exact if_e z (nmv_e (kj _))
  exact go F hf
end FD
/-- the fewest letters to a match -/
theorem few_29 {F L r q m : Nat} (hr : V L r) (hL : L ≤ 8) (hq : V m q) (hm : m ≤ 8) (hF : 300 ≤ F) : ∀ (d j fu : Nat), j + d = L → 1 ≤ j → d < fu → (∀ x, 1 ≤ x → x < j → isEndB q (r / 4 ^ x) = false) → ∃ k, 1 ≤ k ∧ k ≤ L ∧ L_X5_fewestLettersTo_29 F (nI r) (nI q) (nI L) fu (nI j) = some (nI k) ∧ (∀ x, 1 ≤ x → x < k → isEndB q (r / 4 ^ x) = false) ∧ (k = L ∨ isEndB q (r / 4 ^ k) = true) := by
  intro d
  induction d with
  | zero =>
    intro j fu hj h1 hf h
    obtain ⟨fu, rfl⟩ : ∃ z, fu = z + 1 := ⟨fu - 1, by omega⟩
    have hj : j = L := by omega
    subst hj
    refine ⟨j, h1, Nat.le_refl j, ?_, h, Or.inl rfl⟩
    rw [L_X5_fewestLettersTo_29]
    exact it_e (nI_le (Nat.le_refl j) (by omega)) rfl
  | succ d ih =>
    intro j fu hj h1 hf h
    obtain ⟨fu, rfl⟩ : ∃ z, fu = z + 1 := ⟨fu - 1, by omega⟩
    have hb := V_div hr (show j ≤ L by omega)
    have e1 : L_X5_fewestLettersTo_29 F (nI r) (nI q) (nI L) (fu + 1) (nI j) = (if isEndB q (r / 4 ^ j) = true then some (nI j) else L_X5_fewestLettersTo_29 F (nI r) (nI q) (nI L) fu (nI (j + 1))) := by
      rw [L_X5_fewestLettersTo_29]
      refine if_e (nI_ge (by omega) (by omega)) ?_
      rw [pk_sub (by omega)]
      refine bnd_e (beginning3 hr (by omega) (show L - j ≤ L by omega) (by omega)) ?_
      rw [show L - (L - j) = j by omega]
      refine bnd_e (endsWith3 hq (by omega) hb (by omega) (by omega)) ?_
      rw [if_b2]
      simp only [nm]
      rw [nI_1]
    by_cases hx : isEndB q (r / 4 ^ j) = true
    · exact ⟨j, h1, by omega, by rw [e1, if_pos hx], h, Or.inr hx⟩
    · obtain ⟨k, k1, k2, k3, k4, k5⟩ := ih (j + 1) fu (by omega) (by omega) (by omega) (fun x x1 x2 => by
        by_cases e : x = j
        · subst e
          cases hz : isEndB q (r / 4 ^ x) with
          | false => rfl
          | true => exact absurd hz hx
        · exact h x x1 (by omega))
      exact ⟨k, k1, k2, by rw [e1, if_neg hx]; exact k3, k4, k5⟩
theorem few0 {F p : Nat} {P : Nat → Nat} {np xr xl : Nat → Int32} {nre : Int32} (hs : SP np P) (hp : p < 8) (h : P p = 0) : D_X5_lettersTo F (nI p) np nre xl xr = some (-1) := by
  unfold D_X5_lettersTo
  refine bnd_e (slot1 hp) (if_e n10 (bnd_e (patternIn5 hs hp) ?_))
  refine bnd_e (a := -1) ?_ rfl
  unfold D_X5_fewestLettersTo
  exact it_e (by rw [h]; rfl) rfl
theorem few1 {F p n i : Nat} {P g : Nat → Nat} {np xr xs xe xl : Nat → Int32} {nre : Int32} (hs : SP np P) (hM : MO P n g xr xs xe xl) (hi : i < n) (hc : D_X5_currentState F nre xl = some (nI i)) (hp : p < 8) (h : P p ≠ 0) (hF : 300 ≤ F) : ∃ k, 1 ≤ k ∧ k ≤ ln (P p) ∧ D_X5_lettersTo F (nI p) np nre xl xr = some (nI k) ∧ (∀ x, 1 ≤ x → x < k → isEndB (g i) (P p / 4 ^ x) = false) ∧ (k = ln (P p) ∨ isEndB (g i) (P p / 4 ^ k) = true) := by
  obtain ⟨hE, hA, hB, hen⟩ := hM
  have h9 := hE.2.1
  have ho := hE.2.2.2
  obtain ⟨q1, q2, q3⟩ := PO_V (ho p hp) h
  obtain ⟨m, m1, m2⟩ := st_V ho (hE.1.1 i hi)
  obtain ⟨k, k1, k2, k3, k4, k5⟩ := few_29 (F := F) q3 q2 m2 m1 hF (ln (P p) - 1) 1 F (by omega) (by omega) (by omega) (fun x x1 x2 => by omega)
  refine ⟨k, k1, k2, ?_, k4, k5⟩
  unfold D_X5_lettersTo
  refine bnd_e (slot1 hp) (if_e n10 (bnd_e (patternIn5 hs hp) ?_))
  refine bnd_e (a := nI k) ?_ rfl
  unfold D_X5_fewestLettersTo
  refine if_e (nI_ne0 (by omega) (by have := PO_lt (ho p hp); omega)) ?_
  refine bnd_e hc ?_
  refine bnd_e ((at_in (show i < 65 by omega) (by decide)).trans (by rw [hA i hi])) ?_
  refine bnd_e (len3P ho hp (by omega)).1 ?_
  exact k3
