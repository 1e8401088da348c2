def rg (x lo hi : Int32) : Bool := !decide (x < lo) && !decide (hi < x)
theorem lt_nlt {x a b : Int32} (h : b.toInt = a.toInt + 1) : x < b ↔ ¬ a < x := by
  rw [Int32.lt_iff_toInt_lt, Int32.lt_iff_toInt_lt]
  omega
theorem le_nlt {x a : Int32} : x ≤ a ↔ ¬ a < x := by
  rw [Int32.le_iff_toInt_le, Int32.lt_iff_toInt_lt]
  omega
theorem rg_nat {x : Int32} {lo hi : Nat} (hl : lo < 2 ^ 31) (hh : hi < 2 ^ 31) (h : rg x (nI lo) (nI hi) = true) : ∃ a, lo ≤ a ∧ a ≤ hi ∧ x = nI a := by
  unfold rg at h
  simp only [Bool.and_eq_true, Bool.not_eq_true', decide_eq_false_iff_not, Int32.lt_iff_toInt_lt, nI_toInt hl, nI_toInt hh] at h
  obtain ⟨h1, h2⟩ := h
  refine ⟨x.toInt.toNat, by omega, by omega, ?_⟩
  apply Int32.toInt_inj.mp
  rw [nI_toInt (by omega)]
  omega
theorem rg_two {β : Type} {x lo hi hi1 : Int32} {A j : β} (h : hi1.toInt = hi.toInt + 1) : (if x < lo then j else if x < hi1 then A else j) = (if rg x lo hi = true then A else j) := by
  unfold rg
  by_cases h1 : x < lo
  · rw [if_pos h1, if_neg (by simp [h1])]
  · rw [if_neg h1]
    by_cases h2 : hi < x
    · rw [if_neg (fun e => (lt_nlt h).mp e h2), if_neg (by simp [h2])]
    · rw [if_pos ((lt_nlt h).mpr h2), if_pos (by simp [h1, h2])]
theorem rg_twole {β : Type} {x lo hi : Int32} {A j : β} : (if x < lo then j else if x ≤ hi then A else j) = (if rg x lo hi = true then A else j) := by
  unfold rg
  by_cases h1 : x < lo
  · rw [if_pos h1, if_neg (by simp [h1])]
  · rw [if_neg h1]
    by_cases h2 : hi < x
    · rw [if_neg (fun e => le_nlt.mp e h2), if_neg (by simp [h2])]
    · rw [if_pos (le_nlt.mpr h2), if_pos (by simp [h1, h2])]
theorem in6r {F : Nat} {x lo hi : Int32} : D_X6_in F x lo hi = some (b2 (rg x lo hi)) := by
  unfold D_X6_in rg
  by_cases h1 : x < lo
  · rw [if_pos h1]; simp [h1]; rfl
  · rw [if_neg h1]
    by_cases h2 : hi < x
    · rw [if_pos h2]; simp [h2]; rfl
    · rw [if_neg h2]; simp [h1, h2]; rfl
theorem isSlot5 {F : Nat} {x : Int32} : D_X5_isSlot F x = some (b2 (rg x 0 7)) := by
  unfold D_X5_isSlot rg
  by_cases h1 : x < 0
  · rw [if_pos h1]; simp [h1]; rfl
  · rw [if_neg h1]
    by_cases h2 : 7 < x
    · rw [if_pos (Int32.not_lt.mp (fun e => (lt_nlt (a := 7) (b := 8) (by decide)).mp e h2))]; simp [h2]; rfl
    · rw [if_neg (Int32.not_le.mpr ((lt_nlt (a := 7) (b := 8) (by decide)).mpr h2))]; simp [h1, h2]; rfl
theorem isLetter5 {F : Nat} {x : Int32} : D_X5_isLetter F x = some (b2 (rg x 0 3)) := by
  unfold D_X5_isLetter rg
  by_cases h1 : x < 0
  · rw [if_pos h1]; simp [h1]; rfl
  · rw [if_neg h1]
    by_cases h2 : 3 < x
    · rw [if_pos (Int32.not_lt.mp (fun e => (lt_nlt (a := 3) (b := 4) (by decide)).mp e h2))]; simp [h2]; rfl
    · rw [if_neg (Int32.not_le.mpr ((lt_nlt (a := 3) (b := 4) (by decide)).mpr h2))]; simp [h1, h2]; rfl
theorem holds6_0 {F : Nat} {th : Int32} : D_X6_holds F 0 th = some (1, 0) := rfl
theorem holds6_1 {F : Nat} {th : Int32} : D_X6_holds F 1 th = some (0, 1) := rfl
theorem holds6_2 {F : Nat} {th : Int32} : D_X6_holds F 2 th = some (0, 2) := rfl
theorem no1 {A : Prop} (h : (1 : Int32) = 0) : A := absurd h (by decide)
theorem no2 {A : Prop} (h : (2 : Int32) = 0) : A := absurd h (by decide)
/-- a memory of the class and a row of the model say the same -/
def RN (P : Nat → Nat) (np nc nl : Nat → Int32) (nru nre nrd nto nla nfa nmo : Int32) (s : Nat → Int32) : Prop := SP np P ∧ ∃ ρ rd tl, nru = nI ρ ∧ nre = nI tl ∧ nrd = nI rd ∧ rd ≤ 9999 ∧ NR P ρ rd tl nto nla nfa nmo nc nl s
theorem RN.cong {P : Nat → Nat} {np nc nl np' nc' nl' : Nat → Int32} {nru nre nrd nto nla nfa nmo : Int32} {s s' : Nat → Int32} (h : RN P np nc nl nru nre nrd nto nla nfa nmo s) (h1 : EQ8 np' np) (h2 : EQ8 nc' nc) (h3 : EQ8 nl' nl) (h4 : ∀ i, i < 31 → s' i = s i) : RN P np' nc' nl' nru nre nrd nto nla nfa nmo s' := by
  obtain ⟨hs, ρ, rd, tl, e1, e2, e3, e4, hT, a1, a2, a3, a4, a5⟩ := h
  refine ⟨fun p hp => (h1 p hp).trans (hs p hp), ρ, rd, tl, e1, e2, e3, e4, hT.cong h4, (h4 _ (by decide)).trans a1, (h4 _ (by decide)).trans a2, (h4 _ (by decide)).trans a3, (h4 _ (by decide)).trans a4, fun p hp => ?_⟩
  obtain ⟨b1, b2⟩ := a5 p hp
  exact ⟨((h4 _ (by omega)).trans b1).trans (h2 p hp).symm, ((h4 _ (by omega)).trans b2).trans (h3 p hp).symm⟩
/-- what is shown of the patterns, the text and the machine -/
def RV (np nc nl : Nat → Int32) (nru nre nrd nto nla nfa nmo : Int32) (xr xs xe xl : Nat → Int32) (xz : Int32) (s : Nat → Int32) : Prop := ∃ P n g, RN P np nc nl nru nre nrd nto nla nfa nmo s ∧ xz = nI n ∧ MO P n g xr xs xe xl
theorem vp_updL0 (f : Nat → Int64) (x : Int64) : vp_updL f (0 : Int32).toNatClampNeg x 0 = x := rfl
section LK
variable {F : Nat} {np nc nl xr xs xe xl s st : Nat → Int32} {nru nre nrd nto nla nfa nmo xz th mn ss sm : Int32} {o4 : Nat → Int64}
theorem listM {P : Nat → Nat} {n : Nat} {g : Nat → Nat} (hs6 : SP s P) (hE : EP P n g) (hF : 300 ≤ F) : ∃ st', D_X6_list F st mn s = some (st', nI n) ∧ AR st' n g := by
  obtain ⟨st1, n1, g1, l1, l2, l3, l4, l5⟩ := list6 (F := F) (f := st) (x := mn) hs6 hE.2.2.2 (by omega)
  have hu := l3.uniq hE.1
  have hn := hu.1
  subst hn
  exact ⟨st1, l1, fun i hi => by rw [l2 i hi, hu.2 i hi]⟩
theorem st_pattern (h : RV np nc nl nru nre nrd nto nla nfa nmo xr xs xe xl xz s) (p2 p3 : Int32) (hF : 300 ≤ F) : ∃ k o' r st' mn', D_L_pattern F p2 p3 np xl nl nc o4 = some (k, o') ∧ D_X6_pattern F p2 p3 st mn s th = some (r, st', mn', k) ∧ (k = 0 → o' 0 = r.toInt64) := by
  obtain ⟨P, n, g, ⟨hs, ρ, rd, tl, e1, e2, e3, e4, hT, a1, a2, a3, a4, a5⟩, hz, hM⟩ := h
  obtain ⟨st1, l1, hst⟩ := listM (st := st) (mn := mn) hT.1 hM.1 hF
  unfold D_L_pattern D_X5_pattern D_X6_pattern
  rw [isSlot5, l1]
  simp only [bnd, jp, nm]
  rw [if_b2, rg_two (hi := 5) (by decide), in6r]
  simp only []
  rw [if_b2, in6r]
  simp only []
  rw [if_b2]
  by_cases h1 : rg p2 0 7 = true
  · rw [if_pos h1, if_pos h1]
    by_cases h2 : rg p3 0 5 = true
    · rw [if_pos h2, if_pos h2]
      obtain ⟨p, -, p1, rfl⟩ := rg_nat (lo := 0) (hi := 7) (by decide) (by decide) h1
      obtain ⟨w, -, w1, rfl⟩ := rg_nat (lo := 0) (hi := 5) (by decide) (by decide) h2
      obtain ⟨r, r1, r2, -⟩ := pattern_sim (F := F) hs hT.1 hM hst (fun p hp => (a5 p hp).1) (fun p hp => (a5 p hp).2) (show p < 8 by omega) w1 hF
      rw [r1, holds6_0]
      simp only []
      rw [if_pos True.intro, if_neg (show ¬ (1 : Int32) = 0 by decide), r2]
      exact ⟨_, _, _, _, _, rfl, rfl, fun _ => rfl⟩
    · rw [if_neg h2, if_neg h2, holds6_2]
      exact ⟨2, o4, 0, st1, nI n, rfl, rfl, no2⟩
  · rw [if_neg h1, if_neg h1, holds6_1]
    exact ⟨1, o4, 0, st1, nI n, rfl, rfl, no1⟩
theorem st_letter (h : RV np nc nl nru nre nrd nto nla nfa nmo xr xs xe xl xz s) (p2 p3 : Int32) (hF : 300 ≤ F) : ∃ k o' r, D_L_letter F p2 p3 np o4 = some (k, o') ∧ D_X6_letter F p2 p3 th s = some (r, k) ∧ (k = 0 → o' 0 = r.toInt64) := by
  obtain ⟨P, n, g, ⟨hs, ρ, rd, tl, e1, e2, e3, e4, hT, a1, a2, a3, a4, a5⟩, hz, hM⟩ := h
  unfold D_L_letter D_X5_letter D_X6_letter
  rw [isSlot5]
  simp only [bnd, jp, nm]
  rw [if_b2, rg_two (hi := 7) (by decide), in6r]
  simp only []
  rw [if_b2, in6r]
  simp only []
  rw [if_b2]
  by_cases h1 : rg p2 0 7 = true
  · rw [if_pos h1, if_pos h1]
    by_cases h2 : rg p3 0 7 = true
    · rw [if_pos h2, if_pos h2]
      obtain ⟨p, -, p1, rfl⟩ := rg_nat (lo := 0) (hi := 7) (by decide) (by decide) h1
      obtain ⟨w, -, w1, rfl⟩ := rg_nat (lo := 0) (hi := 7) (by decide) (by decide) h2
      obtain ⟨r, r1, r2⟩ := letter_sim (F := F) (k := w) hT.1 hM.1.2.2.2 (show p < 8 by omega) (by omega) (by omega)
      rw [patternIn5 hs (by omega)]
      simp only []
      rw [r1, holds6_0]
      simp only []
      rw [if_pos True.intro, if_neg (show ¬ (1 : Int32) = 0 by decide), r2]
      exact ⟨_, _, _, rfl, rfl, fun _ => rfl⟩
    · rw [if_neg h2, if_neg h2, holds6_2]
      exact ⟨2, o4, 0, rfl, rfl, no2⟩
  · rw [if_neg h1, if_neg h1, holds6_1]
    exact ⟨1, o4, 0, rfl, rfl, no1⟩
theorem st_state (h : RV np nc nl nru nre nrd nto nla nfa nmo xr xs xe xl xz s) (p2 p3 : Int32) (hF : 300 ≤ F) : ∃ k o' r st' mn', D_L_state F p2 p3 xz xr np xe xs xl o4 = some (k, o') ∧ D_X6_state_ F p2 p3 st mn s th = some (r, st', mn', k) ∧ (k = 0 → o' 0 = r.toInt64) := by
  obtain ⟨P, n, g, ⟨hs, ρ, rd, tl, e1, e2, e3, e4, hT, a1, a2, a3, a4, a5⟩, hz, hM⟩ := h
  obtain ⟨st1, l1, hst⟩ := listM (st := st) (mn := mn) hT.1 hM.1 hF
  have h9 := hM.1.2.1
  have hn0 := hM.1.2.2.1
  subst hz
  unfold D_L_state D_X5_state D_X6_state_
  rw [l1]
  simp only [bnd, jp, nm]
  rw [rg_two (hi := nI (n - 1)) (by rw [nI_toInt (by omega), nI_toInt (by omega)]; omega), rg_two (hi := 8) (by decide), nI_s1 hn0, in6r]
  simp only []
  rw [if_b2, in6r]
  simp only []
  rw [if_b2]
  by_cases h1 : rg p2 0 (nI (n - 1)) = true
  · rw [if_pos h1, if_pos h1]
    by_cases h2 : rg p3 0 8 = true
    · rw [if_pos h2, if_pos h2]
      obtain ⟨i, -, p1, rfl⟩ := rg_nat (lo := 0) (hi := n - 1) (by decide) (by omega) h1
      obtain ⟨w, -, w1, rfl⟩ := rg_nat (lo := 0) (hi := 8) (by decide) (by decide) h2
      obtain ⟨r, r1, r2⟩ := state_sim (F := F) hs hT.1 hM hst (show i < n by omega) w1 hF
      rw [r1, holds6_0]
      simp only []
      rw [if_pos True.intro, if_neg (show ¬ (1 : Int32) = 0 by decide), r2]
      exact ⟨_, _, _, _, _, rfl, rfl, fun _ => rfl⟩
    · rw [if_neg h2, if_neg h2, holds6_2]
      exact ⟨2, o4, 0, st1, nI n, rfl, rfl, no2⟩
  · rw [if_neg h1, if_neg h1, holds6_1]
    exact ⟨1, o4, 0, st1, nI n, rfl, rfl, no1⟩
theorem st_count (h : RV np nc nl nru nre nrd nto nla nfa nmo xr xs xe xl xz s) (hk : ∃ k, ss = nI k ∧ sm = nI k) (p2 : Int32) (hF : 300 ≤ F) : ∃ k o' r st' mn', D_L_count F p2 np nmo nfa nla nto nrd nre xl xz ss o4 = some (k, o') ∧ D_X6_count F p2 st mn s th sm = some (r, st', mn', k) ∧ (k = 0 → o' 0 = r.toInt64) := by
  obtain ⟨P, n, g, ⟨hs, ρ, rd, tl, e1, e2, e3, e4, hT, a1, a2, a3, a4, a5⟩, hz, hM⟩ := h
  obtain ⟨st1, l1, hst⟩ := listM (st := st) (mn := mn) hT.1 hM.1 hF
  obtain ⟨kk, rfl, rfl⟩ := hk
  subst hz e1 e2 e3 a1 a2 a3 a4
  unfold D_L_count D_X5_count D_X6_count
  rw [l1]
  simp only [bnd, jp, nm]
  rw [rg_two (hi := 9) (by decide), in6r]
  simp only []
  rw [if_b2]
  by_cases h1 : rg p2 0 9 = true
  · rw [if_pos h1, if_pos h1]
    obtain ⟨w, -, w1, rfl⟩ := rg_nat (lo := 0) (hi := 9) (by decide) (by decide) h1
    obtain ⟨r, r1, r2⟩ := count_sim (F := F) (sz := kk) hs hM hT (by omega) hst w1 hF
    rw [r1, holds6_0]
    simp only []
    rw [if_pos True.intro, if_neg (show ¬ (1 : Int32) = 0 by decide), r2]
    exact ⟨_, _, _, _, _, rfl, rfl, fun _ => rfl⟩
  · rw [if_neg h1, if_neg h1, holds6_1]
    exact ⟨1, o4, 0, st1, nI n, rfl, rfl, no1⟩
theorem st_ifFed (h : RV np nc nl nru nre nrd nto nla nfa nmo xr xs xe xl xz s) (p2 p3 : Int32) (hF : 300 ≤ F) : ∃ k o' r st' mn', D_L_ifFed F p2 p3 nre xl nrd nla xe nru np xr xs o4 = some (k, o') ∧ D_X6_ifFed F p2 p3 st mn s th = some (r, st', mn', k) ∧ (k = 0 → o' 0 = r.toInt64) := by
  obtain ⟨P, n, g, ⟨hs, ρ, rd, tl, e1, e2, e3, e4, hT, a1, a2, a3, a4, a5⟩, hz, hM⟩ := h
  obtain ⟨st1, l1, hst⟩ := listM (st := st) (mn := mn) hT.1 hM.1 hF
  subst hz e1 e2 e3 a1 a2 a3 a4
  unfold D_L_ifFed D_X5_ifFed D_X6_ifFed
  rw [l1, isLetter5]
  simp only [bnd, jp, nm]
  rw [if_b2, rg_two (hi := 3) (by decide), in6r]
  simp only []
  rw [if_b2, in6r]
  simp only []
  rw [if_b2]
  by_cases h1 : rg p2 0 3 = true
  · rw [if_pos h1, if_pos h1]
    by_cases h2 : rg p3 0 3 = true
    · rw [if_pos h2, if_pos h2]
      obtain ⟨a, -, p1, rfl⟩ := rg_nat (lo := 0) (hi := 3) (by decide) (by decide) h1
      obtain ⟨r, r1, r2⟩ := fed_sim (F := F) (w := p3) hs hM hT (by omega) hst (show a < 4 by omega) hF
      rw [r1, holds6_0]
      simp only []
      rw [if_pos True.intro, if_neg (show ¬ (1 : Int32) = 0 by decide), r2]
      exact ⟨_, _, _, _, _, rfl, rfl, fun _ => rfl⟩
    · rw [if_neg h2, if_neg h2, holds6_1]
      exact ⟨1, o4, 0, st1, nI n, rfl, rfl, no1⟩
  · rw [if_neg h1, if_neg h1, holds6_1]
    exact ⟨1, o4, 0, st1, nI n, rfl, rfl, no1⟩
theorem st_lettersTo (h : RV np nc nl nru nre nrd nto nla nfa nmo xr xs xe xl xz s) (p2 : Int32) (hF : 300 ≤ F) : ∃ k o' r, D_L_lettersTo F p2 np nre xl xr o4 = some (k, o') ∧ D_X6_lettersTo F p2 th s = some (r, k) ∧ (k = 0 → o' 0 = r.toInt64) := by
  obtain ⟨P, n, g, ⟨hs, ρ, rd, tl, e1, e2, e3, e4, hT, a1, a2, a3, a4, a5⟩, hz, hM⟩ := h
  subst hz e1 e2 e3 a1 a2 a3 a4
  unfold D_L_lettersTo D_X5_lettersTo D_X6_lettersTo
  rw [isSlot5]
  simp only [bnd, jp, nm]
  rw [if_b2, in6r]
  simp only []
  rw [if_b2]
  by_cases h1 : rg p2 0 7 = true
  · rw [if_pos h1, if_pos h1]
    obtain ⟨p, -, p1, rfl⟩ := rg_nat (lo := 0) (hi := 7) (by decide) (by decide) h1
    obtain ⟨r, r1, r2⟩ := lettersTo_sim (F := F) hs hM hT (by omega) (show p < 8 by omega) hF
    rw [patternIn5 hs (by omega)]
    simp only []
    rw [r1, holds6_0]
    simp only []
    rw [if_pos True.intro, if_neg (show ¬ (1 : Int32) = 0 by decide), r2]
    exact ⟨_, _, _, rfl, rfl, fun _ => rfl⟩
  · rw [if_neg h1, if_neg h1, holds6_1]
    exact ⟨1, o4, 0, rfl, rfl, no1⟩
theorem st_ifRepeated {as : Nat → Int32} (h : RV np nc nl nru nre nrd nto nla nfa nmo xr xs xe xl xz s) (p2 p3 : Int32) (hF : 300 ≤ F) : ∃ k o' r s' as', D_L_ifRepeated F p2 p3 nre xl nla nrd xe nru np o4 = some (k, o') ∧ D_X6_ifRepeated F p2 p3 th s as = some (r, k, s', as') ∧ (k = 0 → o' 0 = r.toInt64) ∧ ∀ i, i < 31 → s' i = s i := by
  obtain ⟨P, n, g, ⟨hs, ρ, rd, tl, e1, e2, e3, e4, hT, a1, a2, a3, a4, a5⟩, hz, hM⟩ := h
  subst hz e1 e2 e3 a1 a2 a3 a4
  unfold D_L_ifRepeated D_X5_ifRepeated D_X6_ifRepeated
  rw [isLetter5]
  simp only [bnd, jp, nm]
  rw [if_b2, rg_twole, in6r]
  simp only []
  rw [if_b2, in6r]
  simp only []
  rw [if_b2]
  by_cases h1 : rg p2 0 3 = true
  · rw [if_pos h1, if_pos h1]
    by_cases h2 : rg p3 1 200 = true
    · rw [if_pos h2, if_pos h2]
      obtain ⟨a, -, p1, rfl⟩ := rg_nat (lo := 0) (hi := 3) (by decide) (by decide) h1
      obtain ⟨T, T0, T1, rfl⟩ := rg_nat (lo := 1) (hi := 200) (by decide) (by decide) h2
      obtain ⟨r, as', s', r1, r2, r3⟩ := repeated_sim (F := F) (as := as) hs hM hT (by omega) (show a < 4 by omega) T1 hF
      rw [r1, holds6_0]
      simp only []
      rw [if_pos True.intro, if_neg (show ¬ (1 : Int32) = 0 by decide), r2]
      exact ⟨_, _, _, _, _, rfl, rfl, fun _ => rfl, r3⟩
    · rw [if_neg h2, if_neg h2, holds6_1]
      exact ⟨1, o4, 0, s, as, rfl, rfl, no1, fun _ _ => rfl⟩
  · rw [if_neg h1, if_neg h1, holds6_1]
    exact ⟨1, o4, 0, s, as, rfl, rfl, no1, fun _ _ => rfl⟩
theorem st_heaviest (h : RV np nc nl nru nre nrd nto nla nfa nmo xr xs xe xl xz s) (hF : 300 ≤ F) : ∃ r st' mn', D_X5_heaviest F np = some r ∧ D_X6_heaviest F th st mn s = some (r, 0, st', mn', s) := by
  obtain ⟨P, n, g, ⟨hs, ρ, rd, tl, e1, e2, e3, e4, hT, a1, a2, a3, a4, a5⟩, hz, hM⟩ := h
  obtain ⟨r, st', mn', r1, r2⟩ := heaviest_sim (st := st) (mn := mn) hs hT.1 hM.1 hF
  refine ⟨r, st', mn', r1, ?_⟩
  unfold D_X6_heaviest
  rw [r2]
  rfl
theorem st_sharing (h : RV np nc nl nru nre nrd nto nla nfa nmo xr xs xe xl xz s) (hF : 300 ≤ F) : ∃ v st' mn', D_X5_sharing F np xz = some v ∧ D_X6_sharing F th s st mn = some (v, 0, st', mn') ∧ nnan v = true := by
  obtain ⟨P, n, g, ⟨hs, ρ, rd, tl, e1, e2, e3, e4, hT, a1, a2, a3, a4, a5⟩, hz, hM⟩ := h
  subst hz
  obtain ⟨v, st', mn', r1, r2, r3⟩ := sharing_sim (st := st) (mn := mn) hs hT.1 hM.1 hF
  refine ⟨v, st', mn', r1, ?_, ?_⟩
  · unfold D_X6_sharing
    rw [r2]
    rfl
  · unfold D_X5_sharing at r1
    rw [sum5 hs hM.1.2.2.2 (by omega)] at r1
    simp only [bnd] at r1
    split at r1
    · cases r1
      decide +kernel
    · obtain ⟨q1, q2⟩ := grd_s r1
      cases q2
      exact q1
theorem st_setting (h : RV np nc nl nru nre nrd nto nla nfa nmo xr xs xe xl xz s) : D_X5_setting F nru = some nru ∧ D_X6_setting F th s = some (nru, 0) := by
  obtain ⟨P, n, g, ⟨hs, ρ, rd, tl, e1, e2, e3, e4, hT, a1, a2, a3, a4, a5⟩, hz, hM⟩ := h
  subst e1
  refine ⟨rfl, ?_⟩
  unfold D_X6_setting
  rw [grd_t (show inb 24 31 = true by decide), show s (24 : Int32).toNatClampNeg = nI ρ from hT.2.2.2.1]
theorem st_digest {bc tx as : Nat → Int32} {bl lnn : Int32} {d0 : Int64} (h : RV np nc nl nru nre nrd nto nla nfa nmo xr xs xe xl xz s) (hk : ∃ k, ss = nI k ∧ sm = nI k) (hb : ∃ b C, bl = nI b ∧ lnn = nI b ∧ CO bc tx b C) (hF : 300 ≤ F) : ∃ r st' mn' s' as', D_X5_digest F nru xz nre xl nla nrd xe np xr xs bl bc nl nc nmo nfa nto ss = some r ∧ D_X6_digest F th d0 st mn s lnn tx as sm = some (r, 0, r, st', mn', s', as') ∧ ∀ i, i < 31 → s' i = s i := by
  obtain ⟨P, n, g, ⟨hs, ρ, rd, tl, e1, e2, e3, e4, hT, a1, a2, a3, a4, a5⟩, hz, hM⟩ := h
  obtain ⟨kk, rfl, rfl⟩ := hk
  obtain ⟨b, C, rfl, rfl, hC⟩ := hb
  subst hz e1 e2 e3 a1 a2 a3 a4
  exact digest_sim (F := F) hs hM hT (by omega) (fun p hp => (a5 p hp).1) (fun p hp => (a5 p hp).2) hC.1 (fun i hi => (hC.2 i hi).1.trans (hC.2 i hi).2.1.symm) hF
theorem st_firstError {bc tx rws : Nat → Int32} {bl lnn y1 y2 y3 y4 y5 : Int32} (hb : ∃ b C, bl = nI b ∧ lnn = nI b ∧ CO bc tx b C) (p1 : Int32) (hF : 300 ≤ F) : ∃ r t1 t2 t3 t4 t5 rws', D_X5_firstError F p1 bl bc = some r ∧ D_X6_firstError F p1 th y1 y2 y3 y4 lnn tx s y5 rws = some (r, 0, t1, t2, t3, t4, s, t5, rws') := by
  obtain ⟨b, C, rfl, rfl, hC⟩ := hb
  unfold D_X5_firstError D_X6_firstError
  by_cases h : p1 = 0
  · rw [if_pos h, if_pos h]
    obtain ⟨t, w, x, r1, r2, -⟩ := fel_sim (F := F) hC hF s b b 0 F F 0 false (by omega) (by omega) (by have := hC.1; omega) (by have := hC.1; omega) (fun e => by cases e)
    have q1 : D_X0_firstErrorInLetters F (nI b) bc = some (nI t) := r1
    have q2 : D_X6_goLetters F 0 y1 y2 y3 y4 (nI b) tx s = some (nI t, b2 w, nI x, 0, s) := r2
    rw [q1, q2]
    exact ⟨_, _, _, _, _, _, _, rfl, rfl⟩
  · rw [if_neg h, if_neg h]
    obtain ⟨t, w, M, rows', r1, r2, -⟩ := goPat_sim (F := F) (rows := rws) (x1 := y1) (x2 := y2) (x3 := y5) hC hF
    rw [r1, r2]
    exact ⟨_, _, _, _, _, _, _, rfl, rfl⟩
end LK
