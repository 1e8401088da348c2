def RB (bc tx : Nat → Int32) (bl lnn : Int32) : Prop := ∃ b C, bl = nI b ∧ lnn = nI b ∧ CO bc tx b C
section CM
variable {F : Nat} {P : Nat → Nat} {np nc nl xr xs xe xl s st sv bc tx rws as : Nat → Int32} {nru nre nrd nto nla nfa nmo xz th mn ss so sm bl lnn y1 y2 y3 y4 : Int32} {o4 : Nat → Int64} {mems : Nat → Option Nat} {am : Nat → Nat} {mp mc ml : Nat → Nat → Int32} {mru mre mrd mto mla mfa mmo : Nat → Int32}
theorem st_feed (h : RV np nc nl nru nre nrd nto nla nfa nmo xr xs xe xl xz s) (hK : RK ss so sm mp mc ml mru mre mrd mto mla mfa mmo sv) (hm : ∀ j, j < 6 → mems j = some (am j)) (p2 : Int32) (hF : 300 ≤ F) : ∃ d, d < 6 ∧ ∃ c o' r ss' so' nre' nrd' nto' nla' nfa' nmo' nc' nl' dru dre drd dto dla dfa dmo dp dc dl sm' sv' s', D_L_feed F (am d) p2 nrd ss so mems nru (mru d) nre (mre d) (mrd d) nto (mto d) nla (mla d) nfa (mfa d) nmo (mmo d) np (mp d) nc (mc d) nl (ml d) xl xe xr xs o4 = some (c, nrd', ss', so', dru, nre', dre, drd, nto', dto, nla', dla, nfa', dfa, nmo', dmo, dp, nc', dc, nl', dl, o') ∧ D_X6_feed F p2 s th sm sv = some (r, c, sm', sv', s') ∧ (c = 0 → o' 0 = r.toInt64) ∧ RV np nc' nl' nru nre' nrd' nto' nla' nfa' nmo' xr xs xe xl xz s' ∧ RK ss' so' sm' (up mp d dp) (up mc d dc) (up ml d dl) (up mru d dru) (up mre d dre) (up mrd d drd) (up mto d dto) (up mla d dla) (up mfa d dfa) (up mmo d dmo) sv' := by
  obtain ⟨P, n, g, hN, hz, hM⟩ := h
  have hK0 := hK
  obtain ⟨k, o, hk, ho, rfl, rfl, rfl, hR⟩ := hK
  refine ⟨sl k o, sl_lt k o, ?_⟩
  obtain ⟨pd, cd, ld, sv', k1, k2, k3⟩ := keep_sim hN hk ho hm hR hF
  have hN0 := hN
  obtain ⟨hs, ρ, rd, tl, e1, e2, e3, e4, hT⟩ := hN
  subst e1 e2 e3
  have h25 : s (25 : Int32).toNatClampNeg = nI rd := hT.1.2.2.2.2.1
  unfold D_L_feed D_X5_feed D_X6_feed
  simp only [bnd, jp, nm]
  rw [isLetter5, in6r, k1]
  simp only []
  rw [if_b2, if_b2, grd_t (show inb 25 31 = true by decide), h25]
  by_cases h1 : rg p2 0 3 = true
  · rw [if_pos h1, if_pos h1]
    obtain ⟨a, -, a1, rfl⟩ := rg_nat (lo := 0) (hi := 3) (by decide) (by decide) h1
    rw [show (9999 : Int32) = nI 9999 from rfl, if_lt (a := rd) (b := 9999) (by omega) (by decide), if_eq (a := rd) (b := 9999) (by omega) (by decide)]
    by_cases h2 : rd < 9999
    · rw [if_pos h2, if_neg (by omega)]
      obtain ⟨r, tl', tot', last', falls', most', cnt', lat', s', r1, r2, r3⟩ := read_sim (F := F) hs hM hT (by omega) (show a < 4 by omega) hF
      rw [r1, holds6_0]
      simp only []
      rw [if_pos True.intro, if_neg (show ¬ (1 : Int32) = 0 by decide), k2]
      simp only []
      rw [r2]
      exact ⟨_, _, _, _, _, _, _, _, _, _, _, _, _, _, _, _, _, _, _, _, _, _, _, _, _, _, rfl, rfl, fun _ => rfl, ⟨P, n, g, ⟨hs, ρ, rd + 1, tl', rfl, rfl, rfl, by omega, r3⟩, hz, hM⟩, ⟨kk k, oo k o, (kk_le hk).1, oo_lt ho, rfl, rfl, rfl, k3⟩⟩
    · rw [if_neg h2, if_pos (by omega), holds6_2]
      exact ⟨2, o4, 0, _, _, _, _, _, _, _, _, _, _, _, _, _, _, _, _, _, _, _, _, _, _, s, rfl, rfl, no2, ⟨P, n, g, hN0, hz, hM⟩, hK0.same⟩
  · rw [if_neg h1, if_neg h1, holds6_1]
    exact ⟨1, o4, 0, _, _, _, _, _, _, _, _, _, _, _, _, _, _, _, _, _, _, _, _, _, _, s, rfl, rfl, no1, ⟨P, n, g, hN0, hz, hM⟩, hK0.same⟩
theorem st_begin (h : RV np nc nl nru nre nrd nto nla nfa nmo xr xs xe xl xz s) (hK : RK ss so sm mp mc ml mru mre mrd mto mla mfa mmo sv) (hm : ∀ j, j < 6 → mems j = some (am j)) (hF : 300 ≤ F) : ∃ d, d < 6 ∧ ∃ r ss' so' nre' nrd' nto' nla' nfa' nmo' nc' nl' dru dre drd dto dla dfa dmo dp dc dl sm' sv' s', D_X5_begin F (am d) ss so mems nru (mru d) nre (mre d) nrd (mrd d) nto (mto d) nla (mla d) nfa (mfa d) nmo (mmo d) np (mp d) nc (mc d) nl (ml d) = some (r, ss', so', dru, dre, drd, dto, dla, dfa, dmo, dp, dc, dl, nre', nrd', nto', nla', nfa', nmo', nc', nl') ∧ D_X6_begin F th sm s sv = some (r, 0, sm', sv', s') ∧ RV np nc' nl' nru nre' nrd' nto' nla' nfa' nmo' xr xs xe xl xz s' ∧ RK ss' so' sm' (up mp d dp) (up mc d dc) (up ml d dl) (up mru d dru) (up mre d dre) (up mrd d drd) (up mto d dto) (up mla d dla) (up mfa d dfa) (up mmo d dmo) sv' := by
  obtain ⟨P, n, g, hN, hz, hM⟩ := h
  obtain ⟨k, o, hk, ho, rfl, rfl, rfl, hR⟩ := hK
  refine ⟨sl k o, sl_lt k o, ?_⟩
  obtain ⟨pd, cd, ld, sv', k1, k2, k3⟩ := keep_sim hN hk ho hm hR hF
  obtain ⟨hs, ρ, rd, tl, e1, e2, e3, e4, hT, q1, q2, q3, q4, q5⟩ := hN
  obtain ⟨cnt', lat', f1, f2⟩ := forgetText2 (F := F) (a := nre) (b := nrd) (c := nto) (d := nla) (e := nfa) (f := nmo) (cnt := nc) (lat := nl) (by omega)
  obtain ⟨s', c1, c2, c3, c4, c5, c6, c7, c8, c9, c10⟩ := clear6 (F := F) (s := s) (by omega)
  have h25 : s (25 : Int32).toNatClampNeg = nrd := by rw [e3]; exact hT.2.2.2.2.1
  unfold D_X5_begin D_X6_begin
  rw [k1, k2]
  simp only [bnd, nm]
  rw [f1, grd_t (show inb 25 31 = true by decide), h25, c1]
  refine ⟨_, _, _, _, _, _, _, _, _, _, _, _, _, _, _, _, _, _, _, _, _, _, _, _, rfl, rfl, ⟨P, n, g, ⟨hs, ρ, 0, 1, e1, rfl, rfl, by omega, ⟨fun p hp => (c2 p hp).trans (hT.1 p hp), hT.2.1, hT.2.2.1, c4.trans hT.2.2.2.1, c5, V_0, c6⟩, c7, c8, c9, c10, fun p hp => ?_⟩, hz, hM⟩, ⟨kk k, oo k o, (kk_le hk).1, oo_lt ho, rfl, rfl, rfl, k3⟩⟩
  exact ⟨(c3 p hp).1.trans (f2 p hp).1.symm, (c3 p hp).2.trans (f2 p hp).2.symm⟩
theorem st_append (hB : RB bc tx bl lnn) (p2 : Int32) (hF : 300 ≤ F) : ∃ c o' r bl' bc' tx' lnn', D_L_append F p2 bl bc o4 = some (c, bl', bc', o') ∧ D_X6_append F p2 lnn th tx = some (r, c, tx', lnn') ∧ (c = 0 → o' 0 = r.toInt64) ∧ RB bc' tx' bl' lnn' := by
  have hB0 := hB
  obtain ⟨b, C, rfl, rfl, hb, hC⟩ := hB
  unfold D_L_append D_X5_append D_X6_append
  simp only [bnd, jp, nm]
  rw [rg_twole, in6r]
  simp only []
  rw [if_b2]
  by_cases h1 : rg p2 33 126 = true
  · rw [if_pos h1, if_pos h1]
    obtain ⟨a, a0, a1, rfl⟩ := rg_nat (lo := 33) (hi := 126) (by decide) (by decide) h1
    rw [show (60 : Int32) = nI 60 from rfl, if_lt (a := b) (b := 60) (by omega) (by decide), if_eq (a := b) (b := 60) (by omega) (by decide)]
    by_cases h2 : b < 60
    · rw [if_pos h2, if_neg (by omega)]
      unfold D_X0_take
      rw [put_in h2 (by decide), holds6_0]
      simp only [bnd, nm]
      rw [if_pos True.intro, if_neg (show ¬ (1 : Int32) = 0 by decide), grd_t (inb_nI h2 (by decide)), nI_clamp (by omega), nI_1]
      refine ⟨_, _, _, _, _, _, _, rfl, rfl, fun _ => rfl, b + 1, (fun i => if i = b then a else C i), rfl, rfl, by omega, fun i hi => ?_⟩
      unfold upd
      by_cases e : i = b
      · simp only [if_pos e]; exact ⟨trivial, trivial, by omega⟩
      · simp only [if_neg e]; exact hC i (by omega)
    · rw [if_neg h2, if_pos (by omega), holds6_2]
      exact ⟨2, o4, 0, _, _, _, _, rfl, rfl, no2, hB0⟩
  · rw [if_neg h1, if_neg h1, holds6_1]
    exact ⟨1, o4, 0, _, _, _, _, rfl, rfl, no1, hB0⟩
theorem st_clearBuffer (hB : RB bc tx bl lnn) : ∃ r, D_X5_clearBuffer F bl = some (r, 0) ∧ D_X6_clearBuffer F th lnn = some (r, 0, 0) ∧ RB bc tx 0 0 := by
  obtain ⟨b, C, rfl, rfl, hb, hC⟩ := hB
  exact ⟨nI b, rfl, rfl, 0, C, rfl, rfl, by omega, fun i hi => by omega⟩
theorem st_undo (h : RV np nc nl nru nre nrd nto nla nfa nmo xr xs xe xl xz s) (hK : RK ss so sm mp mc ml mru mre mrd mto mla mfa mmo sv) (hm : ∀ j, j < 6 → mems j = some (am j)) (hF : 300 ≤ F) : ∃ d, d < 6 ∧ ∃ c o' r ss' nru' nre' nrd' nto' nla' nfa' nmo' np' nc' nl' xz' xr' xl' xs' xe' sm' s', D_L_undo F (am d) ss so mems (mru d) nru (mre d) nre (mrd d) nrd (mto d) nto (mla d) nla (mfa d) nfa (mmo d) nmo (mp d) np (mc d) nc (ml d) nl xz xr xl xs xe o4 = some (c, ss', nru', nre', nrd', nto', nla', nfa', nmo', np', nc', nl', xz', xr', xl', xs', xe', o') ∧ D_X6_undo F sm th sv s = some (r, c, sm', s') ∧ (c = 0 → o' 0 = r.toInt64) ∧ RV np' nc' nl' nru' nre' nrd' nto' nla' nfa' nmo' xr' xs' xe' xl' xz' s' ∧ RK ss' so sm' mp mc ml mru mre mrd mto mla mfa mmo sv := by
  have h0 := h
  have hK0 := hK
  obtain ⟨k, o, hk, ho, rfl, rfl, rfl, hR⟩ := hK
  rcases Nat.eq_zero_or_pos k with z | z
  · subst z
    refine ⟨0, by omega, 1, o4, 0, _, _, _, _, _, _, _, _, _, _, _, _, _, _, _, _, _, s, ?_, ?_, no1, h0, hK0⟩
    · unfold D_L_undo D_X5_undo
      rw [if_pos (show nI 0 = 0 from rfl)]
      rfl
    · rfl
  · have hd : (o + (k - 1)) % 6 < 6 := Nat.mod_lt _ (by decide)
    refine ⟨(o + (k - 1)) % 6, hd, ?_⟩
    obtain ⟨Q, hQ⟩ := hR (k - 1) (by omega)
    obtain ⟨p', n', a', g1, g2, g3, g4⟩ := giveBack4 (F := F) (r1 := mru ((o + (k - 1)) % 6)) (r2 := nru) (c1 := mre ((o + (k - 1)) % 6)) (c2 := nre) (d1 := mrd ((o + (k - 1)) % 6)) (d2 := nrd) (t1 := mto ((o + (k - 1)) % 6)) (t2 := nto) (l1 := mla ((o + (k - 1)) % 6)) (l2 := nla) (f1 := mfa ((o + (k - 1)) % 6)) (f2 := nfa) (m1 := mmo ((o + (k - 1)) % 6)) (m2 := nmo) (p1 := mp ((o + (k - 1)) % 6)) (p2 := np) (n1 := mc ((o + (k - 1)) % 6)) (n2 := nc) (a1 := ml ((o + (k - 1)) % 6)) (a2 := nl) ho hk z (hm _ hd) (by omega)
    obtain ⟨s', u1, u2⟩ := undo6 (F := F) (s := s) (sv := sv) (th := th) hk z hF
    have hQ' := hQ.cong g2 g3 g4 u2
    obtain ⟨n, g, xr', xl', xs', xe', m1, m2⟩ := rebuild1 (F := F) (x := xz) (rows := xr) (l := xl) (sh := xs) (en := xe) hQ'.1 hQ'.POs hF
    refine ⟨0, vp_updL o4 (0 : Int32).toNatClampNeg (nI (k - 1)).toInt64, nI (k - 1), _, _, _, _, _, _, _, _, _, _, _, _, _, _, _, _, _, s', ?_, u1, fun _ => rfl, ⟨Q, n, g, hQ', rfl, m2⟩, ⟨k - 1, o, by omega, ho, rfl, rfl, rfl, fun j hj => hR j (by omega)⟩⟩
    unfold D_L_undo D_X5_undo
    rw [if_neg (nI_ne0 z (by omega)), g1]
    simp only [bnd, nm]
    rw [m1]
    rfl
end CM
