def nx (tl rd a : Nat) : Nat := suf (4 * tl + a) (min (rd + 1) 8)
theorem V_nx (tl rd a : Nat) : V (min (rd + 1) 8) (nx tl rd a) := V_suf _ _
theorem nx_small {tl rd a : Nat} (h : V (min rd 8) tl) (ha : a < 4) (hr : rd < 8) : nx tl rd a = 4 * tl + a := by
  unfold nx
  rw [Nat.min_eq_left (by omega)] at h ⊢
  exact suf_self (V_succ h ha)
theorem nx_t {tl rd a : Nat} (h : V (min rd 8) tl) (ha : a < 4) : (4 * (tl - 4 ^ min rd 8) + a) % 65536 = nx tl rd a - 4 ^ min (rd + 1) 8 := by
  have hl := h.1
  have hu := h.2
  rcases Nat.lt_or_ge rd 8 with c | c
  · rw [nx_small h ha c, Nat.min_eq_left (by omega : rd + 1 ≤ 8)]
    rw [Nat.min_eq_left (by omega : rd ≤ 8)] at hl hu ⊢
    have h1 : 4 ^ (rd + 1) ≤ 4 ^ 8 := Nat.pow_le_pow_right (by decide) (by omega)
    rw [Nat.pow_succ] at h1 ⊢
    have h2 : (4 : Nat) ^ 8 = 65536 := by decide
    rw [Nat.mod_eq_of_lt (by omega)]
    omega
  · unfold nx suf
    rw [Nat.min_eq_right (by omega : 8 ≤ rd + 1), Nat.add_sub_cancel_left]
    rw [Nat.min_eq_right (by omega : 8 ≤ rd)] at hl hu ⊢
    have h2 : (4 : Nat) ^ 8 = 65536 := by decide
    rw [h2] at hl hu ⊢
    omega
theorem sa_nx {P : Nat → Nat} {tl rd a : Nat} (h : V (min rd 8) tl) (ha : a < 4) (hP : POs P) : sa P (nx tl rd a) (min (rd + 1) 8) = dl P (sa P tl (min rd 8)) a := by
  unfold dl
  rw [← sa_step ha]
  rcases Nat.lt_or_ge rd 8 with c | c
  · rw [nx_small h ha c, Nat.min_eq_left (by omega : rd + 1 ≤ 8), Nat.min_eq_left (by omega : rd ≤ 8)]
  · rw [Nat.min_eq_right (by omega : 8 ≤ rd + 1), Nat.min_eq_right (by omega : 8 ≤ rd)]
    have h9 : ¬ isSt P (suf (4 * tl + a) (8 + 1)) = true := by
      intro hs
      obtain ⟨m, m1, m2⟩ := st_V hP hs
      have := V_inj m2 (V_suf (4 * tl + a) (8 + 1))
      omega
    show _ = (if isSt P (suf (4 * tl + a) (8 + 1)) then _ else _)
    rw [if_neg h9]
    unfold nx
    rw [Nat.min_eq_right (by omega : 8 ≤ rd + 1)]
    exact sa_ext (fun j hj => suf_suf _ hj)
/-- what a letter does: the state then, its falls, the matches that count -/
def qS (P : Nat → Nat) (tl rd : Nat) : Nat := sa P tl (min rd 8)
def mS (P : Nat → Nat) (ρ tl rd a : Nat) (read last : Int32) : Nat := cM P ρ (mk P (dl P (qS P tl rd) a)) read last
def fS (P : Nat → Nat) (tl rd a : Nat) : Nat := fo P a 10 (qS P tl rd)
theorem mk_ne {P : Nat → Nat} {r p : Nat} (h : (mk P r).testBit p = true) : P p ≠ 0 := by
  rw [mk_bit] at h
  simp only [Bool.and_eq_true, decide_eq_true_eq] at h
  exact h.2.1
theorem mS_lt {P : Nat → Nat} {ρ tl rd a : Nat} {read last : Int32} : mS P ρ tl rd a read last < 256 := cM_lt (mk_lt _ _)
theorem qS_V {P : Nat → Nat} {tl rd : Nat} : ∃ m, m ≤ 8 ∧ V m (qS P tl rd) := by
  obtain ⟨m, m1, m2⟩ := sa_V P tl (min rd 8)
  exact ⟨m, Nat.le_trans m1 (Nat.min_le_right _ _), m2⟩
theorem dl_V8 {P : Nat → Nat} (ho : POs P) {q a : Nat} : ∃ m, m ≤ 8 ∧ V m (dl P q a) := st_V ho (sa_st P _ _)
/-- the class reads a letter -/
theorem currentState5 {F n rd tl : Nat} {P : Nat → Nat} {g : Nat → Nat} {sh l : Nat → Int32} (hE : EP P n g) (h : FB P n g sh l (4 * n)) (htl : V (min rd 8) tl) (hF : 100 ≤ F) : ∃ i, i < n ∧ g i = qS P tl rd ∧ D_X5_currentState F (nI tl) l = some (nI i) := by
  obtain ⟨i, i1, i2, i3⟩ := stateBehind1 (F := F) hE h htl (Nat.min_le_right _ _) hF
  exact ⟨i, i1, i2, by unfold D_X5_currentState; rw [i3]; rfl⟩
theorem readLetter5 {F n ρ rd tl a : Nat} {P : Nat → Nat} {g : Nat → Nat} {pats rows sh en l cnt lat : Nat → Int32} {last falls most tot : Int32} (hs : SP pats P) (hM : MO P n g rows sh en l) (hρ : ρ ≤ 2) (htl : V (min rd 8) tl) (ha : a < 4) (hF : 100 ≤ F) : ∃ cnt' lat', D_X5_readLetter F (nI a) (nI tl) l (nI rd) last en (nI ρ) pats rows sh falls most cnt lat tot = some (nI (pc (mS P ρ tl rd a (nI rd) last)), falls + nI (fS P tl rd a), (if most < nI (fS P tl rd a) then nI (fS P tl rd a) else most), cnt', lat', tot + nI (pc (mS P ρ tl rd a (nI rd) last)), (if mS P ρ tl rd a (nI rd) last = 0 then last else nI rd), nI (nx tl rd a), nI (rd + 1)) ∧ ∀ p, p < 8 → cnt' p = (if (mS P ρ tl rd a (nI rd) last).testBit p = true then cnt p + 1 else cnt p) ∧ lat' p = (if (mS P ρ tl rd a (nI rd) last).testBit p = true then nI rd else lat p) := by
  obtain ⟨hE, hA, hB, hen⟩ := hM
  have h9 := hE.2.1
  obtain ⟨i, i1, i2, i3⟩ := currentState5 (F := F) hE hB htl hF
  obtain ⟨t, t1, t2, t3⟩ := lead_at (F := F) hE hB i1 ha
  obtain ⟨cnt', lat', c1, c2⟩ := takeMatches2 (F := F) (m := mS P ρ tl rd a (nI rd) last) mS_lt (cnt := cnt) (lat := lat) (read := nI rd) (tot := tot) (last := last) hF
  refine ⟨cnt', lat', ?_, c2⟩
  unfold D_X5_readLetter
  rw [i3]
  simp only [bnd, nm]
  rw [t3]
  simp only []
  rw [matches5 (m := mk P (g t)) hs hE.2.2.2 (mk_lt _ _) hρ hF (fun p _ hb => mk_ne hb) (by omega) (hen t t1), t2, i2]
  simp only []
  rw [fallsBefore1 hE hA hB ha i1 hF, i2]
  simp only [D_X2_takeFalls, nm]
  rw [show cM P ρ (mk P (dl P (qS P tl rd) a)) (nI rd) last = mS P ρ tl rd a (nI rd) last from rfl, c1]
  simp only []
  have hl9 := V_lt htl (by have := Nat.min_le_right rd 8; omega)
  have h8 : min rd 8 ≤ 8 := Nat.min_le_right _ _
  have hu := htl.2
  have h88 : (4 : Nat) ^ min rd 8 ≤ 4 ^ 8 := Nat.pow_le_pow_right (by decide) h8
  have h888 : (4 : Nat) ^ 8 = 65536 := by decide
  rw [behind3 hl9 ha]
  simp only []
  rw [latest3 (V_succ htl ha) (by omega) (by omega)]
  simp only []
  rw [bitCount6 _ mS_lt, nI_1]
  have enx : (if min rd 8 + 1 ≤ 8 then 4 * tl + a else suf (4 * tl + a) 8) = nx tl rd a := by
    rcases Nat.lt_or_ge rd 8 with c | c
    · rw [nx_small htl ha c, if_pos (by rw [Nat.min_eq_left (by omega)]; omega)]
    · rw [if_neg (by rw [Nat.min_eq_right c]; omega)]
      unfold nx
      rw [Nat.min_eq_right (by omega : 8 ≤ rd + 1)]
  rw [enx]
  rfl


