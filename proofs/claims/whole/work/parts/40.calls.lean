def up {α : Type} (f : Nat → α) (d : Nat) (w : α) : Nat → α := fun i => if i = d then w else f i
theorem up_self {α : Type} (f : Nat → α) (d : Nat) : up f d (f d) = f := by
  funext i
  unfold up
  by_cases h : i = d
  · rw [if_pos h, h]
  · rw [if_neg h]
/-- the saved memories say the same -/
def RM (k o : Nat) (mp mc ml : Nat → Nat → Int32) (mru mre mrd mto mla mfa mmo : Nat → Int32) (sv : Nat → Int32) : Prop := ∀ j, j < k → ∃ Q, RN Q (mp ((o + j) % 6)) (mc ((o + j) % 6)) (ml ((o + j) % 6)) (mru ((o + j) % 6)) (mre ((o + j) % 6)) (mrd ((o + j) % 6)) (mto ((o + j) % 6)) (mla ((o + j) % 6)) (mfa ((o + j) % 6)) (mmo ((o + j) % 6)) (fun i => sv (31 * j + i))
def RK (ss so sm : Int32) (mp mc ml : Nat → Nat → Int32) (mru mre mrd mto mla mfa mmo : Nat → Int32) (sv : Nat → Int32) : Prop := ∃ k o, k ≤ 6 ∧ o < 6 ∧ ss = nI k ∧ so = nI o ∧ sm = nI k ∧ RM k o mp mc ml mru mre mrd mto mla mfa mmo sv
theorem RK.size {ss so sm : Int32} {mp mc ml : Nat → Nat → Int32} {mru mre mrd mto mla mfa mmo : Nat → Int32} {sv : Nat → Int32} (h : RK ss so sm mp mc ml mru mre mrd mto mla mfa mmo sv) : ∃ k, ss = nI k ∧ sm = nI k := by
  obtain ⟨k, o, h1, h2, h3, h4, h5, h6⟩ := h
  exact ⟨k, h3, h5⟩
theorem kk_le {k : Nat} (h : k ≤ 6) : kk k ≤ 6 ∧ 1 ≤ kk k := by
  unfold kk
  by_cases e : k = 6
  · rw [if_pos e]; omega
  · rw [if_neg e]; omega
theorem oo_lt {k o : Nat} (h : o < 6) : oo k o < 6 := by
  unfold oo
  by_cases e : k = 6
  · rw [if_pos e]; omega
  · rw [if_neg e]; exact h
theorem sl_lt (k o : Nat) : sl k o < 6 := by
  unfold sl
  by_cases e : k = 6
  · rw [if_pos e]; omega
  · rw [if_neg e]; omega
section CL
variable {F : Nat} {P : Nat → Nat} {np nc nl xr xs xe xl s st sv : Nat → Int32} {nru nre nrd nto nla nfa nmo xz th mn ss so sm : Int32} {o4 : Nat → Int64} {mems : Nat → Option Nat} {am : Nat → Nat} {mp mc ml : Nat → Nat → Int32} {mru mre mrd mto mla mfa mmo : Nat → Int32}
theorem keep_sim {k o : Nat} (h : RN P np nc nl nru nre nrd nto nla nfa nmo s) (hk : k ≤ 6) (ho : o < 6) (hm : ∀ j, j < 6 → mems j = some (am j)) (hR : RM k o mp mc ml mru mre mrd mto mla mfa mmo sv) (hF : 300 ≤ F) : ∃ pd cd ld sv', D_X4_keep F (am (sl k o)) (nI k) (nI o) mems nru (mru (sl k o)) nre (mre (sl k o)) nrd (mrd (sl k o)) nto (mto (sl k o)) nla (mla (sl k o)) nfa (mfa (sl k o)) nmo (mmo (sl k o)) np (mp (sl k o)) nc (mc (sl k o)) nl (ml (sl k o)) = some (nru, nre, nrd, nto, nla, nfa, nmo, pd, cd, ld, nI (kk k), nI (oo k o)) ∧ D_X6_save F (nI k) s sv = some (nI (kk k), sv') ∧ RM (kk k) (oo k o) (up mp (sl k o) pd) (up mc (sl k o) cd) (up ml (sl k o) ld) (up mru (sl k o) nru) (up mre (sl k o) nre) (up mrd (sl k o) nrd) (up mto (sl k o) nto) (up mla (sl k o) nla) (up mfa (sl k o) nfa) (up mmo (sl k o) nmo) sv' := by
  obtain ⟨pd, cd, ld, k1, k2, k3, k4⟩ := keep4 (F := F) (r1 := nru) (r2 := mru (sl k o)) (c1 := nre) (c2 := mre (sl k o)) (d1 := nrd) (d2 := mrd (sl k o)) (t1 := nto) (t2 := mto (sl k o)) (l1 := nla) (l2 := mla (sl k o)) (f1 := nfa) (f2 := mfa (sl k o)) (m1 := nmo) (m2 := mmo (sl k o)) (p1 := np) (p2 := mp (sl k o)) (n1 := nc) (n2 := mc (sl k o)) (a1 := nl) (a2 := ml (sl k o)) ho hk (hm _ (sl_lt k o)) (by omega)
  obtain ⟨sv', s1, s2, s3⟩ := save6 (F := F) (s := s) (sv := sv) hk hF
  refine ⟨pd, cd, ld, sv', k1, s1, fun j hj => ?_⟩
  have hkk := kk_le hk
  by_cases hl : j + 1 = kk k
  · have hidx : (oo k o + j) % 6 = sl k o := by
      unfold oo sl
      unfold kk at hl
      by_cases e : k = 6
      · rw [if_pos e] at hl
        rw [if_pos e, if_pos e]
        have : j = 5 := by omega
        subst this
        omega
      · rw [if_neg e] at hl
        rw [if_neg e, if_neg e]
        have : j = k := by omega
        subst this
        rfl
    refine ⟨P, ?_⟩
    rw [hidx]
    unfold up
    simp only [if_true]
    refine h.cong k2 k3 k4 (fun i hi => ?_)
    show sv' (31 * j + i) = s i
    have := s2 i hi
    rw [show kk k - 1 = j by omega] at this
    exact this
  · have hne : (oo k o + j) % 6 ≠ sl k o := by
      unfold oo sl
      unfold kk at hj hl
      by_cases e : k = 6
      · rw [if_pos e] at hj hl
        rw [if_pos e, if_pos e]
        omega
      · rw [if_neg e] at hj hl
        rw [if_neg e, if_neg e]
        omega
    unfold up
    simp only [if_neg hne]
    by_cases e : k = 6
    · have h6 : (oo k o + j) % 6 = (o + (j + 1)) % 6 := by unfold oo; rw [if_pos e]; omega
      obtain ⟨Q, hQ⟩ := hR (j + 1) (by unfold kk at hj hl; rw [if_pos e] at hj hl; omega)
      refine ⟨Q, ?_⟩
      rw [h6]
      refine hQ.cong (fun _ _ => rfl) (fun _ _ => rfl) (fun _ _ => rfl) (fun i hi => ?_)
      show sv' (31 * j + i) = sv (31 * (j + 1) + i)
      rw [s3 j i (by omega) hi, if_pos e]
    · have h6 : (oo k o + j) % 6 = (o + j) % 6 := by unfold oo; rw [if_neg e]
      obtain ⟨Q, hQ⟩ := hR j (by unfold kk at hj hl; rw [if_neg e] at hj hl; omega)
      refine ⟨Q, ?_⟩
      rw [h6]
      refine hQ.cong (fun _ _ => rfl) (fun _ _ => rfl) (fun _ _ => rfl) (fun i hi => ?_)
      show sv' (31 * j + i) = sv (31 * j + i)
      rw [s3 j i (by omega) hi, if_neg e]
/-- what undo, and what a saved memory, say: the same as before -/
theorem RK.same {d : Nat} (h : RK ss so sm mp mc ml mru mre mrd mto mla mfa mmo sv) : RK ss so sm (up mp d (mp d)) (up mc d (mc d)) (up ml d (ml d)) (up mru d (mru d)) (up mre d (mre d)) (up mrd d (mrd d)) (up mto d (mto d)) (up mla d (mla d)) (up mfa d (mfa d)) (up mmo d (mmo d)) sv := by
  rw [up_self, up_self, up_self, up_self, up_self, up_self, up_self, up_self, up_self, up_self]
  exact h
theorem RN.POs {P : Nat → Nat} (h : RN P np nc nl nru nre nrd nto nla nfa nmo s) : POs P := by
  obtain ⟨hs, ρ, rd, tl, e1, e2, e3, e4, hT, _⟩ := h
  exact hT.2.1
theorem st_rule (h : RV np nc nl nru nre nrd nto nla nfa nmo xr xs xe xl xz s) (hK : RK ss so sm mp mc ml mru mre mrd mto mla mfa mmo sv) (hm : ∀ j, j < 6 → mems j = some (am j)) (p2 : Int32) (hF : 300 ≤ F) : ∃ d, d < 6 ∧ ∃ c o' r ss' so' nru' dru dre drd dto dla dfa dmo dp dc dl sm' sv' s', D_L_rule F (am d) p2 ss so mems nru (mru d) nre (mre d) nrd (mrd d) nto (mto d) nla (mla d) nfa (mfa d) nmo (mmo d) np (mp d) nc (mc d) nl (ml d) o4 = some (c, ss', so', nru', dru, dre, drd, dto, dla, dfa, dmo, dp, dc, dl, o') ∧ D_X6_rule F p2 th sm s sv = some (r, c, sm', sv', s') ∧ (c = 0 → o' 0 = r.toInt64) ∧ RV np nc nl nru' nre nrd nto nla nfa nmo xr xs xe xl xz s' ∧ RK ss' so' sm' (up mp d dp) (up mc d dc) (up ml d dl) (up mru d dru) (up mre d dre) (up mrd d drd) (up mto d dto) (up mla d dla) (up mfa d dfa) (up mmo d dmo) sv' := by
  obtain ⟨P, n, g, hN, hz, hM⟩ := h
  have hK0 := hK
  obtain ⟨k, o, hk, ho, rfl, rfl, rfl, hR⟩ := hK
  refine ⟨sl k o, sl_lt k o, ?_⟩
  obtain ⟨pd, cd, ld, sv', k1, k2, k3⟩ := keep_sim hN hk ho hm hR hF
  unfold D_L_rule D_X5_rule D_X6_rule
  simp only [bnd, jp, nm]
  rw [rg_twole, in6r]
  simp only []
  rw [if_b2]
  by_cases h1 : rg p2 0 2 = true
  · rw [if_pos h1, if_pos h1]
    obtain ⟨a, -, a1, rfl⟩ := rg_nat (lo := 0) (hi := 2) (by decide) (by decide) h1
    rw [k1, k2, holds6_0]
    simp only []
    rw [if_pos True.intro, if_neg (show ¬ (1 : Int32) = 0 by decide)]
    obtain ⟨hs, ρ, rd, tl, e1, e2, e3, e4, hT, q1, q2, q3, q4, q5⟩ := hN
    have h24 : s (24 : Int32).toNatClampNeg = nru := by rw [e1]; exact hT.2.2.2.1
    refine ⟨_, _, _, _, _, _, _, _, _, _, _, _, _, _, _, _, _, _, _, rfl, rfl, fun _ => ?_, ?_, ⟨kk k, oo k o, (kk_le hk).1, oo_lt ho, rfl, rfl, rfl, k3⟩⟩
    · rw [vp_updL0, h24]
    · refine ⟨P, n, g, ⟨hs, a, rd, tl, rfl, e2, e3, e4, ⟨?_, hT.2.1, a1, rfl, ?_, hT.2.2.2.2.2.1, ?_⟩, ?_, ?_, ?_, ?_, ?_⟩, hz, hM⟩
      · intro p hp
        show upd s 24 (nI a) p = nI (P p)
        unfold upd
        rw [if_neg (by omega)]
        exact hT.1 p hp
      · exact hT.2.2.2.2.1
      · exact hT.2.2.2.2.2.2
      · exact q1
      · exact q2
      · exact q3
      · exact q4
      · intro p hp
        show upd s 24 (nI a) (8 + p) = nc p ∧ upd s 24 (nI a) (16 + p) = nl p
        unfold upd
        rw [if_neg (by omega), if_neg (by omega)]
        exact q5 p hp
  · rw [if_neg h1, if_neg h1, holds6_1]
    exact ⟨1, o4, 0, _, _, _, _, _, _, _, _, _, _, _, _, _, _, _, s, rfl, rfl, no1, ⟨P, n, g, hN, hz, hM⟩, hK0.same⟩
end CL
