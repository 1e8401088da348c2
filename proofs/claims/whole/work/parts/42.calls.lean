section CN
variable {F : Nat} {P : Nat → Nat} {np nc nl xr xs xe xl s st sv bc tx rws as dr : Nat → Int32} {nru nre nrd nto nla nfa nmo xz th mn ss so sm bl lnn y1 y2 y3 y4 : Int32} {o4 : Nat → Int64} {mems : Nat → Option Nat} {am : Nat → Nat} {mp mc ml : Nat → Nat → Int32} {mru mre mrd mto mla mfa mmo : Nat → Int32}
theorem setP_PO {P : Nat → Nat} (h : POs P) (p : Nat) : POs (setP P p 0) := h.set p (Or.inl rfl)
theorem st_remove (h : RV np nc nl nru nre nrd nto nla nfa nmo xr xs xe xl xz s) (hK : RK ss so sm mp mc ml mru mre mrd mto mla mfa mmo sv) (hm : ∀ j, j < 6 → mems j = some (am j)) (p2 : Int32) (hF : 300 ≤ F) : ∃ d, d < 6 ∧ ∃ c o' r np' nc' nl' ss' so' dru dre drd dto dla dfa dmo dp dc dl xz' xr' xl' xs' xe' sm' sv' s', D_L_remove F (am d) p2 np ss so mems nru (mru d) nre (mre d) nrd (mrd d) nto (mto d) nla (mla d) nfa (mfa d) nmo (mmo d) (mp d) nc (mc d) nl (ml d) xz xr xl xs xe o4 = some (c, np', ss', so', dru, dre, drd, dto, dla, dfa, dmo, dp, nc', dc, nl', dl, xz', xr', xl', xs', xe', o') ∧ D_X6_remove F p2 s th sm sv = some (r, c, sm', sv', s') ∧ (c = 0 → o' 0 = r.toInt64) ∧ RV np' nc' nl' nru nre nrd nto nla nfa nmo xr' xs' xe' xl' xz' s' ∧ RK ss' so' sm' (up mp d dp) (up mc d dc) (up ml d dl) (up mru d dru) (up mre d dre) (up mrd d drd) (up mto d dto) (up mla d dla) (up mfa d dfa) (up mmo d dmo) sv' := by
  have h0 := h
  obtain ⟨P, n, g, hN, hz, hM⟩ := h
  have hK0 := hK
  obtain ⟨k, o, hk, ho, rfl, rfl, rfl, hR⟩ := hK
  refine ⟨sl k o, sl_lt k o, ?_⟩
  obtain ⟨pd, cd, ld, sv', k1, k2, k3⟩ := keep_sim hN hk ho hm hR hF
  obtain ⟨hs, ρ, rd, tl, e1, e2, e3, e4, hT, q1, q2, q3, q4, q5⟩ := hN
  unfold D_L_remove D_X5_remove D_X6_remove
  simp only [bnd, jp, nm]
  rw [isSlot5, in6r, k1]
  simp only []
  rw [if_b2, if_b2]
  by_cases h1 : rg p2 0 7 = true
  · rw [if_pos h1, if_pos h1]
    obtain ⟨p, -, p1, rfl⟩ := rg_nat (lo := 0) (hi := 7) (by decide) (by decide) h1
    rw [patternIn5 hs (by omega), isThere6 hT.1 hT.2.1 (by omega)]
    simp only []
    rw [if_nI0 (by have := PO_lt (hT.2.1 p (by omega)); omega), if_b2]
    by_cases h2 : P p = 0
    · rw [if_pos h2, if_neg (by simp [h2]), holds6_2]
      exact ⟨2, o4, 0, _, _, _, _, _, _, _, _, _, _, _, _, _, _, _, _, _, _, _, _, _, _, s, rfl, rfl, no2, h0, hK0.same⟩
    · rw [if_neg h2, if_pos (by simp [h2]), at_in (by omega) (by decide), put_in (by omega) (by decide)]
      simp only []
      have e8 : (8 : Int32) + nI p = nI (8 + p) := nI_add 8 p
      have e16 : (16 : Int32) + nI p = nI (16 + p) := nI_add 16 p
      have hs2 : SP (upd np p 0) (setP P p 0) := hs.set p 0
      obtain ⟨n', g', xr', xl', xs', xe', m1, m2⟩ := rebuild1 (F := F) (x := xz) (rows := xr) (l := xl) (sh := xs) (en := xe) hs2 (setP_PO hT.2.1 p) hF
      unfold D_X2_forgetMatchesOf
      rw [put_in (by omega) (by decide)]
      simp only [bnd]
      rw [put_in (by omega) (by decide)]
      simp only []
      rw [m1, holds6_0, k2, e8, e16, nI_0a]
      simp only []
      rw [if_pos True.intro, if_neg (show ¬ (1 : Int32) = 0 by decide), grd_t (inb_nI (by omega) (by decide)), nI_clamp (by omega), grd_t (inb_nI (by omega) (by decide)), nI_clamp (by omega), grd_t (inb_nI (by omega) (by decide)), grd_t (inb_nI (by omega) (by decide)), nI_clamp (by omega)]
      have a0 : ∀ i, i ≠ p → i ≠ 8 + p → i ≠ 16 + p → upd (upd (upd s p 0) (8 + p) 0) (16 + p) (-1) i = s i := by
        intro i z1 z2 z3
        unfold upd
        rw [if_neg z3, if_neg z2, if_neg z1]
      refine ⟨_, _, _, _, _, _, _, _, _, _, _, _, _, _, _, _, _, _, _, _, _, _, _, _, _, _, rfl, rfl, fun _ => ?_, ⟨setP P p 0, n', g', ⟨hs2, ρ, rd, tl, e1, e2, e3, e4, ⟨?_, setP_PO hT.2.1 p, hT.2.2.1, ?_, ?_, hT.2.2.2.2.2.1, ?_⟩, ?_, ?_, ?_, ?_, ?_⟩, rfl, m2⟩, ⟨kk k, oo k o, (kk_le hk).1, oo_lt ho, rfl, rfl, rfl, k3⟩⟩
      · rw [vp_updL0, (q5 p (by omega)).1]
      · intro i hi
        show upd (upd (upd s p 0) (8 + p) 0) (16 + p) (-1) i = nI (setP P p 0 i)
        unfold setP
        by_cases e : i = p
        · rw [if_pos e, e]
          unfold upd
          rw [if_neg (by omega), if_neg (by omega), if_pos rfl]
          rfl
        · rw [if_neg e, a0 i e (by omega) (by omega)]
          exact hT.1 i hi
      · rw [a0 24 (by omega) (by omega) (by omega)]; exact hT.2.2.2.1
      · rw [a0 25 (by omega) (by omega) (by omega)]; exact hT.2.2.2.2.1
      · rw [a0 26 (by omega) (by omega) (by omega)]; exact hT.2.2.2.2.2.2
      · rw [a0 27 (by omega) (by omega) (by omega)]; exact q1
      · rw [a0 28 (by omega) (by omega) (by omega)]; exact q2
      · rw [a0 29 (by omega) (by omega) (by omega)]; exact q3
      · rw [a0 30 (by omega) (by omega) (by omega)]; exact q4
      · intro i hi
        show upd (upd (upd s p 0) (8 + p) 0) (16 + p) (-1) (8 + i) = upd nc p 0 i ∧ upd (upd (upd s p 0) (8 + p) 0) (16 + p) (-1) (16 + i) = upd nl p (-1) i
        by_cases e : i = p
        · subst e
          unfold upd
          rw [if_neg (by omega), if_pos rfl, if_pos rfl, if_pos rfl, if_pos rfl]
          exact ⟨rfl, rfl⟩
        · rw [a0 (8 + i) (by omega) (by omega) (by omega), a0 (16 + i) (by omega) (by omega) (by omega)]
          unfold upd
          rw [if_neg e, if_neg e]
          exact q5 i hi
  · rw [if_neg h1, if_neg h1, holds6_1]
    exact ⟨1, o4, 0, _, _, _, _, _, _, _, _, _, _, _, _, _, _, _, _, _, _, _, _, _, _, s, rfl, rfl, no1, h0, hK0.same⟩
theorem st_feedAll (h : RV np nc nl nru nre nrd nto nla nfa nmo xr xs xe xl xz s) (hK : RK ss so sm mp mc ml mru mre mrd mto mla mfa mmo sv) (hm : ∀ j, j < 6 → mems j = some (am j)) (hB : RB bc tx bl lnn) (hF : 600 ≤ F) : ∃ d, d < 6 ∧ ∃ c o' r bl' lnn' ss' so' nre' nrd' nto' nla' nfa' nmo' nc' nl' dru dre drd dto dla dfa dmo dp dc dl t1 t2 t3 t4 sm' sv' s', D_L_feedAll F (am d) bl bc nrd ss so mems nru (mru d) nre (mre d) (mrd d) nto (mto d) nla (mla d) nfa (mfa d) nmo (mmo d) np (mp d) nc (mc d) nl (ml d) xl xe xr xs o4 = some (c, bl', nrd', ss', so', dru, nre', dre, drd, nto', dto, nla', dla, nfa', dfa, nmo', dmo, dp, nc', dc, nl', dl, o') ∧ D_X6_feedAll F y1 y2 y3 y4 lnn tx s th sm sv = some (r, t1, t2, t3, t4, s', c, sm', sv', lnn') ∧ (c = 0 → o' 0 = r.toInt64) ∧ RV np nc' nl' nru nre' nrd' nto' nla' nfa' nmo' xr xs xe xl xz s' ∧ RB bc tx bl' lnn' ∧ RK ss' so' sm' (up mp d dp) (up mc d dc) (up ml d dl) (up mru d dru) (up mre d dre) (up mrd d drd) (up mto d dto) (up mla d dla) (up mfa d dfa) (up mmo d dmo) sv' := by
  have h0 := h
  obtain ⟨P, n, g, hN, hz, hM⟩ := h
  have hK0 := hK
  obtain ⟨k, o, hk, ho, rfl, rfl, rfl, hR⟩ := hK
  refine ⟨sl k o, sl_lt k o, ?_⟩
  have hB0 := hB
  obtain ⟨b, C, rfl, rfl, hC⟩ := hB
  have hb := hC.1
  obtain ⟨pd, cd, ld, sv', k1, k2, k3⟩ := keep_sim hN hk ho hm hR (show 300 ≤ F by omega)
  obtain ⟨hs, ρ, rd, tl, e1, e2, e3, e4, hT⟩ := hN
  subst e1 e2 e3
  obtain ⟨t, w, x, f1, f2, f3, f4, f5⟩ := fel_sim (F := F) hC (by omega) s b b 0 F F 0 false (by omega) (by omega) (by omega) (by omega) (fun e => by cases e)
  have f1' : D_X0_firstErrorInLetters F (nI b) bc = some (nI t) := f1
  have f2' : D_X6_goLetters F 0 y1 y2 y3 y4 (nI b) tx s = some (nI t, b2 w, nI x, 0, s) := f2
  have h25 : s (25 : Int32).toNatClampNeg = nI rd := hT.1.2.2.2.2.1
  unfold D_L_feedAll D_X5_feedAll D_X6_feedAll D_X0_holdsLetters
  rw [f1', f2', told0 hC (by omega)]
  simp only [bnd, jp, nm]
  have eb0 : ∀ {β : Type} {x y : β} {i : Decidable (nI b ≤ 0)}, (@ite β (nI b ≤ 0) i x y) = (if b ≤ 0 then x else y) := fun {β x y i} => if_le (a := b) (b := 0) (by omega) (by decide)
  rw [eb0, if_eq (a := t) (b := b) (by omega) (by omega), if_b2, if_nI0 (a := b) (by omega)]
  by_cases hg : b ≠ 0 ∧ w = false
  · obtain ⟨hb0, hw⟩ := hg
    obtain ⟨j1, j2, j3⟩ := f5 hw
    rw [Nat.zero_add] at j3
    have hle := told_le C b 0
    rw [if_neg (by omega), if_pos j1, if_neg (show ¬ w = true by rw [hw]; decide), if_neg hb0]
    simp only []
    rw [if_neg (show ¬ (1 : Int32) = 0 by decide), grd_t (show inb 25 31 = true by decide), h25, j3, nI_add, show (9999 : Int32) = nI 9999 from rfl, if_le (by omega) (by decide), if_le (by omega) (by decide)]
    by_cases h2 : rd + told C b 0 ≤ 9999
    · obtain ⟨t', w', x', acc', tl', tot', last', falls', most', cnt', lat', s', i1, i2, i3⟩ := rb_sim (F := F) hC hs hM hF b b 0 F F rd tl false 0 0 0 nto nla nfa nmo nc nl s (by omega) (by omega) (by omega) (by omega) j2 (fun e => by cases e) (by omega) hT
      have i1' : D_X5_readBuffer F (nI b) bc (nI tl) xl (nI rd) nla xe (nI ρ) np xr xs nfa nmo nc nl nto = some (acc', nI tl', nI (rd + told C b 0), last', falls', most', cnt', lat', tot') := i1
      have i2' : D_X6_goLetters F 1 (nI t) (b2 w) (nI (told C b 0)) 0 (nI b) tx s = some (t', w', x', acc', s') := i2
      rw [if_pos h2, if_pos h2, k1, holds6_0]
      simp only []
      rw [if_neg (show ¬ (1 : Int32) = 0 by decide), i1', k2]
      simp only []
      rw [i2']
      exact ⟨_, _, _, _, _, _, _, _, _, _, _, _, _, _, _, _, _, _, _, _, _, _, _, _, _, _, _, _, _, _, _, _, rfl, rfl, fun _ => rfl, ⟨P, n, g, ⟨hs, ρ, rd + told C b 0, tl', rfl, rfl, rfl, by omega, i3⟩, hz, hM⟩, ⟨0, C, rfl, rfl, by omega, fun i hi => by omega⟩, ⟨kk k, oo k o, (kk_le hk).1, oo_lt ho, rfl, rfl, rfl, k3⟩⟩
    · rw [if_neg h2, if_neg h2, holds6_2]
      exact ⟨2, o4, 0, _, _, _, _, _, _, _, _, _, _, _, _, _, _, _, _, _, _, _, _, _, _, _, _, _, _, _, _, s, rfl, rfl, no2, h0, hB0, hK0.same⟩
  · have e1 : (if b ≤ 0 then some (0 : Int32) else if t = b then some 1 else some 0) = some 0 := by
      by_cases z : b ≤ 0
      · rw [if_pos z]
      · rw [if_neg z]
        cases w with
        | false => exact absurd ⟨by omega, rfl⟩ hg
        | true => rw [if_neg (by have := f4 rfl; omega)]
    rw [e1]
    simp only []
    rw [if_pos True.intro]
    have e2 : ∀ {β : Type} (A B : β), (if w = true then A else if b = 0 then A else B) = A := by
      intro β A B
      cases w with
      | true => rw [if_pos rfl]
      | false =>
        rw [if_neg (by decide)]
        by_cases z : b = 0
        · rw [if_pos z]
        · exact absurd ⟨z, rfl⟩ hg
    rw [e2, holds6_1]
    exact ⟨1, o4, 0, _, _, _, _, _, _, _, _, _, _, _, _, _, _, _, _, _, _, _, _, _, _, _, _, _, _, _, _, s, rfl, rfl, no1, h0, hB0, hK0.same⟩
end CN
