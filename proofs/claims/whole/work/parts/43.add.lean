section CA
variable {F : Nat} {np nc nl xr xs xe xl s sv bc tx rws as dr : Nat → Int32} {nru nre nrd nto nla nfa nmo xz th ss so sm bl lnn y1 y2 y3 : Int32} {o4 : Nat → Int64} {mems : Nat → Option Nat} {am : Nat → Nat} {mq mc ml : Nat → Nat → Int32} {mru mre mrd mto mla mfa mmo : Nat → Int32}
theorem add_53 {ad : Nat} {y : Int32} {dr : Nat → Int32} : ∀ (c k fu : Nat) (np : Nat → Int32), k + c = 8 → c < fu → (∀ i, i < k → np i = dr i) → ∃ np', (∀ k84, L_X5_add_53 F k84 ad y dr fu (nI k) np = k84 np') ∧ EQ8 np' dr := by
  intro c
  induction c with
  | zero =>
    intro k fu np hk hf h
    obtain ⟨fu, rfl⟩ : ∃ z, fu = z + 1 := ⟨fu - 1, by omega⟩
    have hk : k = 8 := by omega
    subst hk
    exact ⟨np, fun k84 => by rw [L_X5_add_53, if_pos (show (8 : Int32) ≤ nI 8 from by decide)], h⟩
  | succ c ih =>
    intro k fu np hk hf h
    obtain ⟨fu, rfl⟩ : ∃ z, fu = z + 1 := ⟨fu - 1, by omega⟩
    obtain ⟨np', i1, i2⟩ := ih (k + 1) fu (upd np k (dr k)) (by omega) (by omega) (fun i hi => by
      unfold upd
      by_cases e : i = k
      · rw [if_pos e, e]
      · rw [if_neg e]; exact h i (by omega))
    refine ⟨np', fun k84 => ?_, i2⟩
    rw [L_X5_add_53, if_neg (show ¬ (8 : Int32) ≤ nI k from nI_ge (a := k) (b := 8) (by omega) (by omega)), at_in (by omega) (by decide)]
    simp only [bnd, nm]
    rw [put_in (by omega) (by decide)]
    simp only []
    rw [nI_1]
    exact i1 k84
theorem oI_ne {m : Nat} (h : m ≤ 60) : ¬ nI m = (-1 : Int32) := by
  have key : ∀ m, m ≤ 60 → ¬ nI m = (-1 : Int32) := by decide
  exact key m h
theorem st_add (h : RV np nc nl nru nre nrd nto nla nfa nmo xr xs xe xl xz s) (hK : RK ss so sm mq mc ml mru mre mrd mto mla mfa mmo sv) (hm : ∀ j, j < 6 → mems j = some (am j)) (hB : RB bc tx bl lnn) (hF : 300 ≤ F) : ∃ d, d < 6 ∧ ∃ c o' r bl' lnn' dr' np' ss' so' dru dre drd dto dla dfa dmo dp dc dl xz' xr' xl' xs' xe' t1 t2 t3 rws' as' sm' sv' s', D_L_add F (am d) bl bc dr np ss so mems nru (mru d) nre (mre d) nrd (mrd d) nto (mto d) nla (mla d) nfa (mfa d) nmo (mmo d) (mq d) nc (mc d) nl (ml d) xz xr xl xs xe o4 = some (c, bl', dr', np', ss', so', dru, dre, drd, dto, dla, dfa, dmo, dp, dc, dl, xz', xr', xl', xs', xe', o') ∧ D_X6_add F y1 y2 y3 lnn rws tx s as th sm sv = some (r, t1, t2, t3, rws', as', s', c, sm', sv', lnn') ∧ (c = 0 → o' 0 = r.toInt64) ∧ RV np' nc nl nru nre nrd nto nla nfa nmo xr' xs' xe' xl' xz' s' ∧ RB bc tx bl' lnn' ∧ RK ss' so' sm' (up mq d dp) (up mc d dc) (up ml d dl) (up mru d dru) (up mre d dre) (up mrd d drd) (up mto d dto) (up mla d dla) (up mfa d dfa) (up mmo d dmo) sv' := by
  obtain ⟨P, n, g, hN, hz, hM⟩ := h
  have hK0 := hK
  obtain ⟨k, o, hk, ho, rfl, rfl, rfl, hR⟩ := hK
  refine ⟨sl k o, sl_lt k o, ?_⟩
  have hB0 := hB
  obtain ⟨b, C, rfl, rfl, hC⟩ := hB
  have hb := hC.1
  have hPOs := hN.POs
  have hs := hN.1
  obtain ⟨ρ, rd, tl, e1, e2, e3, e4, hT⟩ := hN.2
  obtain ⟨t, w, M, rws', p1, p2, p3, p4, p5, p6, p7⟩ := goPat_sim (F := F) (rows := rws) (x1 := y1) (x2 := y2) (x3 := y3) hC hF
  obtain ⟨as', a1, a2⟩ := putAside6 (F := F) (s := s) (as := as) (by omega)
  unfold D_L_add D_X5_add D_X6_add
  rw [p6, p2]
  simp only [bnd, jp, nm]
  rw [if_b2, if_b2, a1]
  simp only []
  by_cases hW : (!w && !decide (rws' (M - 1) ≤ 1)) = true
  · rw [if_pos hW]
    obtain ⟨w1, w2, w3, w4⟩ := p7 hW
    simp only [Bool.and_eq_true, Bool.not_eq_true', decide_eq_false_iff_not] at hW
    obtain ⟨hw, hr1⟩ := hW
    have hrs : ∀ r, r ∈ mp C b 0 1 → PO r ∧ r ≠ 0 := fun r hr => by
      obtain ⟨m, m1, m2, m3⟩ := mp_V b 0 0 1 w1 V_0 (by omega) r hr
      exact ⟨Or.inr ⟨m, m1, m2, m3⟩, by have := V_pos m3; omega⟩
    obtain ⟨dr', d1, d2⟩ := draft_sim (F := F) (d := dr) hC hs hPOs w1 hF
    -- the first run of the model
    have hlen : (mp C b 0 1).length ≤ 31 := by omega
    obtain ⟨s1, q1, q2, q3⟩ := adds6 (F := F) (rows := rws') p4 hF (mp C b 0 1) 0 F 0 P s (by omega) (by omega) w2 hrs hT.1.1 hPOs
    have q1' : D_X6_adds F (nI M) rws' s = some (oI (addF (mp C b 0 1) P 0).1, s1) := q1
    obtain ⟨s2, b1, b2'⟩ := putBack6 (F := F) (s := s1) (as := as') (by omega)
    have hs2 : ∀ i, i < 31 → s2 i = s i := fun i hi => (b2' i hi).trans (a2 i hi)
    rw [if_neg (show ¬ w = true by rw [hw]; decide), nI_s1 (by omega), grd_t (inb_nI (by omega) (by decide)), nI_clamp (by omega), if_neg hr1, if_neg (show ¬ (1 : Int32) = 0 by decide), q1', d1]
    simp only []
    rw [b1]
    simp only []
    rw [if_neg (show ¬ (1 : Int32) = 0 by decide)]
    have hN2 := hN.cong (fun _ _ => rfl) (fun _ _ => rfl) (fun _ _ => rfl) hs2
    cases hx : (addF (mp C b 0 1) P 0).1 with
    | none =>
      rw [show oI none = (-1 : Int32) from rfl, if_pos (rfl : (-1 : Int32) = -1), if_pos (rfl : (-1 : Int32) = -1), holds6_2]
      exact ⟨2, o4, 0, _, _, _, _, _, _, _, _, _, _, _, _, _, _, _, _, _, _, _, _, _, _, _, _, _, _, _, _, s2, rfl, rfl, no2, ⟨P, n, g, hN2, hz, hM⟩, hB0, hK0.same⟩
    | some m =>
      have hmle := addF_le (mp C b 0 1) P 0 m hx
      obtain ⟨pd, cd, ld, sv', k1, k2, k3⟩ := keep_sim hN2 hk ho hm hR hF
      have hPO2 := addF_PO (mp C b 0 1) P 0 hPOs (fun r hr => (hrs r hr).1)
      obtain ⟨s3, r1, r2, r3⟩ := adds6 (F := F) (rows := rws') p4 hF (mp C b 0 1) 0 F 0 P s2 (by omega) (by omega) w2 hrs (hT.1.cong hs2).1 hPOs
      have r1' : D_X6_adds F (nI M) rws' s2 = some (oI (addF (mp C b 0 1) P 0).1, s3) := r1
      obtain ⟨np', n1, n2⟩ := add_53 (F := F) (ad := am (sl k o)) (y := nI m) (dr := dr') 8 0 F np (by omega) (by omega) (fun i hi => by omega)
      have hs3 : SP np' (addF (mp C b 0 1) P 0).2 := fun p hp => (n2 p hp).trans (d2 p hp)
      obtain ⟨n', g', xr', xl', xs', xe', m1, m2⟩ := rebuild1 (F := F) (x := xz) (rows := xr) (l := xl) (sh := xs) (en := xe) hs3 hPO2 hF
      rw [show oI (some m) = nI m from rfl, if_neg (oI_ne (by omega)), if_neg (oI_ne (by omega)), k1, holds6_0]
      simp only []
      rw [if_neg (show ¬ (1 : Int32) = 0 by decide), k2]
      simp only []
      rw [r1', hx, show (0 : Int32) = nI 0 from rfl, n1]
      unfold D_X0_empty
      simp only []
      rw [m1]
      simp only []
      rw [if_pos True.intro]
      have a0 : ∀ i, 8 ≤ i → i < 31 → s3 i = s i := fun i h1 h2 => (r3 i h1).trans (hs2 i h2)
      exact ⟨_, _, _, _, _, _, _, _, _, _, _, _, _, _, _, _, _, _, _, _, _, _, _, _, _, _, _, _, _, _, _, _, rfl, rfl, fun _ => rfl, ⟨_, n', g', ⟨hs3, ρ, rd, tl, e1, e2, e3, e4, ⟨r2, hPO2, hT.1.2.2.1, (a0 24 (by omega) (by omega)).trans hT.1.2.2.2.1, (a0 25 (by omega) (by omega)).trans hT.1.2.2.2.2.1, hT.1.2.2.2.2.2.1, (a0 26 (by omega) (by omega)).trans hT.1.2.2.2.2.2.2⟩, (a0 27 (by omega) (by omega)).trans hT.2.1, (a0 28 (by omega) (by omega)).trans hT.2.2.1, (a0 29 (by omega) (by omega)).trans hT.2.2.2.1, (a0 30 (by omega) (by omega)).trans hT.2.2.2.2.1, fun p hp => ⟨(a0 (8 + p) (by omega) (by omega)).trans (hT.2.2.2.2.2 p hp).1, (a0 (16 + p) (by omega) (by omega)).trans (hT.2.2.2.2.2 p hp).2⟩⟩, rfl, m2⟩, ⟨0, C, rfl, rfl, by omega, fun i hi => by omega⟩, ⟨kk k, oo k o, (kk_le hk).1, oo_lt ho, rfl, rfl, rfl, k3⟩⟩
  · rw [if_neg hW]
    obtain ⟨s2, b1, b2'⟩ := putBack6 (F := F) (s := s) (as := as') (by omega)
    have hs2 : ∀ i, i < 31 → s2 i = s i := fun i hi => (b2' i hi).trans (a2 i hi)
    have hN2 := hN.cong (fun _ _ => rfl) (fun _ _ => rfl) (fun _ _ => rfl) hs2
    have hbad : ∀ {β : Type} (A B : Option β), (if w = true then A else grd (inb (nI M - 1) 31) (if rws' (nI M - 1).toNatClampNeg ≤ 1 then A else B)) = A := by
      intro β A B
      cases w with
      | true => rw [if_pos rfl]
      | false =>
        rw [if_neg (by decide), nI_s1 (by omega), grd_t (inb_nI (by omega) (by decide)), nI_clamp (by omega)]
        by_cases z : rws' (M - 1) ≤ 1
        · rw [if_pos z]
        · exact absurd (by simp [z]) hW
    rw [hbad, if_pos True.intro, b1]
    simp only []
    rw [holds6_1]
    exact ⟨1, o4, 0, _, _, _, _, _, _, _, _, _, _, _, _, _, _, _, _, _, _, _, _, _, _, _, _, _, _, _, _, s2, rfl, rfl, no1, ⟨P, n, g, hN2, hz, hM⟩, hB0, hK0.same⟩
end CA
