section CL
variable {F n k o ρ rd tl a : Nat} {P g : Nat → Nat} {np nc nl dp dc dl xr xs xe xl bc dr : Nat → Int32} {nru nre nrd nto nla nfa nmo ss so dru dre drd dto dla dfa dmo xz bl : Int32} {mems : Nat → Option Nat} {ad : Nat}
/-- a letter is read, what was is saved -/
theorem feed5 (hs : SP np P) (hM : MO P n g xr xs xe xl) (hρ : ρ ≤ 2) (htl : V (min rd 8) tl) (hrd : rd < 9999) (ha : a < 4) (hk : k ≤ 6) (ho : o < 6) (had : mems (sl k o) = some ad) (hF : 300 ≤ F) : ∃ pd cd ld cnt' lat', D_X5_feed F ad (nI a) (nI rd) (nI k) (nI o) mems (nI ρ) dru (nI tl) dre drd nto dto nla dla nfa dfa nmo dmo np dp nc dc nl dl xl xe xr xs = some (nI (pc (mS P ρ tl rd a (nI rd) nla)), nI (kk k), nI (oo k o), nI ρ, nI tl, nI rd, nto, nla, nfa, nmo, pd, cd, ld, nI (nx tl rd a), nI (rd + 1), (if mS P ρ tl rd a (nI rd) nla = 0 then nla else nI rd), nfa + nI (fS P tl rd a), (if nmo < nI (fS P tl rd a) then nI (fS P tl rd a) else nmo), cnt', lat', nto + nI (pc (mS P ρ tl rd a (nI rd) nla))) ∧ EQ8 pd np ∧ EQ8 cd nc ∧ EQ8 ld nl ∧ ∀ p, p < 8 → cnt' p = (if (mS P ρ tl rd a (nI rd) nla).testBit p = true then nc p + 1 else nc p) ∧ lat' p = (if (mS P ρ tl rd a (nI rd) nla).testBit p = true then nI rd else nl p) := by
  obtain ⟨pd, cd, ld, k1, k2, k3, k4⟩ := keep4 (F := F) (r1 := nI ρ) (r2 := dru) (c1 := nI tl) (c2 := dre) (d1 := nI rd) (d2 := drd) (t1 := nto) (t2 := dto) (l1 := nla) (l2 := dla) (f1 := nfa) (f2 := dfa) (m1 := nmo) (m2 := dmo) (p1 := np) (p2 := dp) (n1 := nc) (n2 := dc) (a1 := nl) (a2 := dl) ho hk had (by omega)
  obtain ⟨cnt', lat', r1, r2⟩ := readLetter5 (F := F) (cnt := nc) (lat := nl) (last := nla) (falls := nfa) (most := nmo) (tot := nto) hs hM hρ htl ha (by omega)
  refine ⟨pd, cd, ld, cnt', lat', ?_, k2, k3, k4, r2⟩
  unfold D_X5_feed
  refine bnd_e (letter1 ha) (if_e n10 ?_)
  refine it_e (show nI rd < (9999 : Int32) from nI_lt (a := rd) (b := 9999) hrd (by decide)) ?_
  refine bnd_e k1 ?_
  dsimp only
  refine bnd_e r1 ?_
  rfl
/-- the saved memory comes back -/
theorem undo5 (hk : k ≤ 6) (hk1 : 1 ≤ k) (ho : o < 6) (had : mems ((o + (k - 1)) % 6) = some ad) (hs : SP dp P) (hpo : POs P) (hF : 300 ≤ F) : ∃ pu cu lu n' g' xr' xl' xs' xe', D_X5_undo F ad (nI k) (nI o) mems dru nru dre nre drd nrd dto nto dla nla dfa nfa dmo nmo dp np dc nc dl nl xz xr xl xs xe = some (nI (k - 1), nI (k - 1), dru, dre, drd, dto, dla, dfa, dmo, pu, cu, lu, nI n', xr', xl', xs', xe') ∧ EQ8 pu dp ∧ EQ8 cu dc ∧ EQ8 lu dl ∧ MO P n' g' xr' xs' xe' xl' ∧ n' ≤ lsum P + 1 := by
  obtain ⟨pu, cu, lu, k1, k2, k3, k4⟩ := giveBack4 (F := F) (r1 := dru) (r2 := nru) (c1 := dre) (c2 := nre) (d1 := drd) (d2 := nrd) (t1 := dto) (t2 := nto) (l1 := dla) (l2 := nla) (f1 := dfa) (f2 := nfa) (m1 := dmo) (m2 := nmo) (p1 := dp) (p2 := np) (n1 := dc) (n2 := nc) (a1 := dl) (a2 := nl) ho hk hk1 had (by omega)
  obtain ⟨n', g', xr', xl', xs', xe', r1, r2, r3⟩ := rebuild1 (F := F) (x := xz) (rows := xr) (l := xl) (sh := xs) (en := xe) (p := pu) (P := P) (fun p hp => (k2 p hp).trans (hs p hp)) hpo hF
  refine ⟨pu, cu, lu, n', g', xr', xl', xs', xe', ?_, k2, k3, k4, r2, r3⟩
  unfold D_X5_undo
  refine if_e (nI_ne0 (by omega) (by omega)) ?_
  refine bnd_e k1 ?_
  dsimp only
  refine bnd_e r1 ?_
  rfl
theorem lw_dec : ∀ m, m < 256 → (if m = 0 then lw m = -1 ∧ pc m = 0 else pc m ≠ 0 ∧ (lw m).toNatClampNeg < 8 ∧ lw m = nI (lw m).toNatClampNeg ∧ m.testBit (lw m).toNatClampNeg = true) := by decide +kernel
theorem pc_le : ∀ m, m < 256 → pc m ≤ 8 := by decide +kernel
theorem pc_pow : ∀ p, p < 8 → pc (2 ^ p) = 1 := by decide +kernel
theorem cM_one {m : Nat} {x y : Int32} (h : ρ ≠ 0) : pc (cM P ρ m x y) ≤ 1 := by
  unfold cM
  rw [if_neg h]
  split
  · decide
  · rename_i p hp
    rw [pc_pow p (best_lt 8 0 none (by omega) (fun q hq => by cases hq) p hp)]
    exact Nat.le_refl 1
theorem fo_le : ∀ (k q m : Nat), V m q → fo P a k q ≤ m + 1 := by
  intro k
  induction k with
  | zero => intro q m h; exact Nat.zero_le _
  | succ k ih =>
    intro q m h
    simp only [fo]
    by_cases h1 : isSt P (4 * q + a) = true
    · rw [if_pos h1]; omega
    · rw [if_neg h1]
      by_cases h2 : q = 1
      · rw [if_pos h2]; omega
      · rw [if_neg h2]
        have hm : 1 ≤ m := by
          rcases Nat.eq_zero_or_pos m with e | e
          · subst e; exact absurd (V_0e h) h2
          · exact e
        obtain ⟨x, x1, x2⟩ := bk_V (P := P) h hm
        have := ih (bk P q) x x2
        omega
theorem up_idx (hk : k ≤ 6) (ho : o < 6) : (oo k o + (kk k - 1)) % 6 = sl k o := by
  unfold oo kk sl
  by_cases e : k = 6
  · rw [if_pos e, if_pos e, if_pos e]
  · rw [if_neg e, if_neg e, if_neg e, Nat.add_sub_cancel]
theorem MO_same {n' : Nat} {g' : Nat → Nat} {yr ys ye yl : Nat → Int32} (h : MO P n g xr xs xe xl) (h' : MO P n' g' yr ys ye yl) {i j : Nat} (hi : i < n) (hj : j < n') (e : g i = g' j) : i = j := by
  obtain ⟨e1, e2⟩ := h.1.1.uniq h'.1.1
  rw [← e2 j (by omega)] at e
  exact h.1.1.inj hi (by omega) e
set_option maxHeartbeats 4000000 in
/-- a letter does what is told of it -/
theorem isFed5 (hs : SP np P) (hM : MO P n g xr xs xe xl) (hρ : ρ ≤ 2) (htl : V (min rd 8) tl) (hrd : rd < 9999) (ha : a < 4) (hk : k ≤ 6) (ho : o < 6) (had : mems (sl k o) = some ad) (hF : 300 ≤ F) : ∃ pd cd ld pu cu lu n' g' xr' xl' xs' xe', D_L_isFedSo F ad (nI a) np nmo nfa nla nto (nI rd) (nI tl) xl (nI n) (nI k) xe (nI ρ) xr xs (nI o) mems dru dre drd dto dla dfa dmo dp dc nc dl nl = some (1, nI (kk k - 1), nI ρ, nI tl, nI rd, nto, nla, nfa, nmo, pu, cu, lu, nI n', xr', xl', xs', xe', nI (oo k o), nI ρ, nI tl, nI rd, nto, nla, nfa, nmo, pd, cd, ld) ∧ SP pu P ∧ MO P n' g' xr' xs' xe' xl' ∧ n' ≤ lsum P + 1 := by
  obtain ⟨i, i1, i2, i3⟩ := currentState5 (F := F) hM.1 hM.2.2.1 htl (by omega)
  obtain ⟨t, t1, t2, t3⟩ := lead_at (F := F) hM.1 hM.2.2.1 i1 ha
  have h9 := hM.1.2.1
  have hpo := hM.1.2.2.2
  have hlead : xl (4 * i + a) = nI t := Option.some.inj ((leadsTo1 (F := F) (show 4 * i + a < 260 by omega)).symm.trans t3)
  obtain ⟨pd, cd, ld, cnt', lat', f1, f2, f3, f4, f5⟩ := feed5 (F := F) (dru := dru) (dre := dre) (drd := drd) (dto := dto) (dla := dla) (dfa := dfa) (dmo := dmo) (dp := dp) (dc := dc) (dl := dl) (nto := nto) (nla := nla) (nfa := nfa) (nmo := nmo) (nc := nc) (nl := nl) hs hM hρ htl hrd ha hk ho had hF
  have hkk := kk_le hk
  have hsd : SP pd P := fun p hp => (f2 p hp).trans (hs p hp)
  obtain ⟨M, eM⟩ : ∃ m, m = mS P ρ tl rd a (nI rd) nla := ⟨_, rfl⟩
  have hM256 : M < 256 := by rw [eM]; exact mS_lt
  rw [← eM] at f1 f5
  obtain ⟨fa, efa⟩ : ∃ x : Int32, x = nfa + nI (fS P tl rd a) := ⟨_, rfl⟩
  obtain ⟨la, ela⟩ : ∃ x : Int32, x = (if M = 0 then nla else nI rd) := ⟨_, rfl⟩
  obtain ⟨mo, emo⟩ : ∃ x : Int32, x = (if nmo < nI (fS P tl rd a) then nI (fS P tl rd a) else nmo) := ⟨_, rfl⟩
  rw [← efa, ← ela, ← emo] at f1
  obtain ⟨pu, cu, lu, n', g', xr', xl', xs', xe', u1, u2, u3, u4, u5, u6⟩ := undo5 (F := F) (k := kk k) (o := oo k o) (mems := mems) (ad := ad) (P := P) (dru := nI ρ) (dre := nI tl) (drd := nI rd) (dto := nto) (dla := nla) (dfa := nfa) (dmo := nmo) (dp := pd) (dc := cd) (dl := ld) (nru := nI ρ) (nre := nI (nx tl rd a)) (nrd := nI (rd + 1)) (nto := nto + nI (pc M)) (nla := la) (nfa := fa) (nmo := mo) (np := np) (nc := cnt') (nl := lat') (xz := nI n) (xr := xr) (xl := xl) (xs := xs) (xe := xe) hkk.1 hkk.2 (oo_lt ho) (by rw [up_idx hk ho]; exact had) hsd hpo hF
  -- the state then, and the state when it is undone
  obtain ⟨t', p1, p2, p3⟩ := currentState5 (F := F) (rd := rd + 1) hM.1 hM.2.2.1 (V_nx tl rd a) (by omega)
  have ett : t' = t := hM.1.1.inj p1 t1 (by rw [p2, t2, i2]; exact sa_nx htl ha hpo)
  subst ett
  obtain ⟨i', b1, b2, b3⟩ := currentState5 (F := F) u5.1 u5.2.2.1 htl (by omega)
  have eii : i = i' := MO_same hM u5 i1 b1 (by rw [i2, b2])
  subst eii
  -- what is told
  have eMc : cM P ρ (mk P (g t')) (nI rd) nla = M := by rw [eM, t2, i2]; rfl
  have q1 := fd1 (F := F) (nrd := nI rd) (nla := nla) (nru := nI ρ) (np := np) hM i1 ha i3 t3 hF
  rw [i2, show fo P a 10 (qS P tl rd) = fS P tl rd a from rfl] at q1
  have q2 := fd2 (F := F) (nrd := nI rd) (nla := nla) hs hM t1 ha hρ i3 t3 hF
  have q3 := fd3 (F := F) (nrd := nI rd) (nla := nla) hs hM t1 ha hρ i3 t3 hF
  rw [eMc] at q2 q3
  have hpc1 : ρ ≠ 0 → pc M ≤ 1 := fun h => by rw [eM]; exact cM_one h
  have hpc8 := pc_le M hM256
  obtain ⟨q, hq⟩ : ∃ q, (M = 0 ∧ lw M = -1 ∧ pc M = 0) ∨ (M ≠ 0 ∧ pc M ≠ 0 ∧ q < 8 ∧ lw M = nI q ∧ M.testBit q = true) := by
    have hlw := lw_dec M hM256
    by_cases z : M = 0
    · rw [if_pos z] at hlw; exact ⟨0, Or.inl ⟨z, hlw⟩⟩
    · rw [if_neg z] at hlw; exact ⟨_, Or.inr ⟨z, hlw⟩⟩
  obtain ⟨mq, mq1, mq2⟩ := qS_V (P := P) (tl := tl) (rd := rd)
  have hfo : fS P tl rd a ≤ mq + 1 := fo_le 10 _ _ mq2
  refine ⟨pd, cd, ld, pu, cu, lu, n', g', xr', xl', xs', xe', ?_, fun p hp => (u2 p hp).trans (hsd p hp), u5, u6⟩
  unfold D_L_isFedSo
  refine bnd_e (ct2 i3) ?_
  refine bnd_e (fd0 ha i3 t3) ?_
  refine bnd_e q1 ?_
  refine bnd_e q2 ?_
  refine bnd_e q3 ?_
  refine jp_e (fun j53 e53 => ?_)
  have k53 : ∀ hd : Int32, (M ≠ 0 → hd = nc q) → j53 hd = some (1, nI (kk k - 1), nI ρ, nI tl, nI rd, nto, nla, nfa, nmo, pu, cu, lu, nI n', xr', xl', xs', xe', nI (oo k o), nI ρ, nI tl, nI rd, nto, nla, nfa, nmo, pd, cd, ld) := by
    intro hd hhd
    subst e53
    refine bnd_e ct6 ?_
    refine bnd_e ct3 ?_
    refine bnd_e ct4 ?_
    refine bnd_e (st5 hM i1 ha) ?_
    rw [hlead]
    refine jp_e (fun j143 e143 => ?_)
    have k143 : j143 1 = some (1, nI (kk k - 1), nI ρ, nI tl, nI rd, nto, nla, nfa, nmo, pu, cu, lu, nI n', xr', xl', xs', xe', nI (oo k o), nI ρ, nI tl, nI rd, nto, nla, nfa, nmo, pd, cd, ld) := by
      subst e143
      refine jp_e (fun j213 e213 => ?_)
      refine jp_e (fun j212 _ => ?_)
      refine if_e n10 ?_
      refine bnd_e f1 ?_
      dsimp only
      refine it_e rfl ?_
      refine bnd_e (ct2 p3) ?_
      refine it_e rfl ?_
      refine bnd_e ct6 ?_
      refine it_e efa ?_
      refine bnd_e ct3 ?_
      refine it_e (nI_1 rd).symm ?_
      refine bnd_e ct4 ?_
      refine it_e rfl ?_
      subst e213
      refine jp_e (fun j266 e266 => ?_)
      refine jp_e (fun j265 _ => ?_)
      refine if_e n10 ?_
      refine jp_e (fun j261 e261 => ?_)
      have k261 : j261 () = some (1, nI (kk k - 1), nI ρ, nI tl, nI rd, nto, nla, nfa, nmo, pu, cu, lu, nI n', xr', xl', xs', xe', nI (oo k o), nI ρ, nI tl, nI rd, nto, nla, nfa, nmo, pd, cd, ld) := by
        subst e261
        subst e266
        refine bnd_e u1 ?_
        dsimp only
        refine if_e n10 ?_
        refine if_e (nI_pos (by omega)) ?_
        refine bnd_e (ct2 b3) ?_
        refine it_e rfl ?_
        refine bnd_e ct3 ?_
        refine it_e rfl ?_
        rfl
      rcases hq with ⟨z, w1, w2⟩ | ⟨z, w1, w2, w3, w4⟩
      · exact it_e (by rw [w1]; decide) k261
      · rw [w3]
        refine if_e (nI_pos (by omega)) ?_
        refine bnd_e (pt1 hs w2) ?_
        refine it_e (by rw [hhd z, (f5 _ w2).1, if_pos w4]) ?_
        refine bnd_e (pt2 hs w2) ?_
        refine it_e (by rw [(f5 _ w2).2, if_pos w4]) ?_
        refine bnd_e ct5 ?_
        exact it_e (by rw [ela, if_neg z]) k261
    refine jp_e (fun j142 _ => ?_)
    refine it_e rfl ?_
    refine bnd_e (st0 hM i1 hF) ?_
    rw [i2, V_ln mq2, nI_1]
    refine if_e (fun h => by have := (nI_ltI (by omega) (by omega)).mp h; omega) ?_
    refine jp_e (fun j112 e112 => ?_)
    have k112 : ∀ x : Int32, (pc M = 0 ∧ x = 1) ∨ (pc M ≠ 0 ∧ x = 0) → j112 x = some (1, nI (kk k - 1), nI ρ, nI tl, nI rd, nto, nla, nfa, nmo, pu, cu, lu, nI n', xr', xl', xs', xe', nI (oo k o), nI ρ, nI tl, nI rd, nto, nla, nfa, nmo, pd, cd, ld) := by
      intro x hx
      subst e112
      refine jp_e (fun j122 e122 => ?_)
      have k122 : ∀ z, x = z → j122 z = some (1, nI (kk k - 1), nI ρ, nI tl, nI rd, nto, nla, nfa, nmo, pu, cu, lu, nI n', xr', xl', xs', xe', nI (oo k o), nI ρ, nI tl, nI rd, nto, nla, nfa, nmo, pd, cd, ld) := by
        intro z ez
        subst e122
        refine it_e ez ?_
        refine bnd_e (a := nI ρ) rfl ?_
        refine jp_e (fun j138 e138 => ?_)
        have k138 : j138 () = some (1, nI (kk k - 1), nI ρ, nI tl, nI rd, nto, nla, nfa, nmo, pu, cu, lu, nI n', xr', xl', xs', xe', nI (oo k o), nI ρ, nI tl, nI rd, nto, nla, nfa, nmo, pd, cd, ld) := by subst e138; exact k143
        by_cases hr : nI ρ = 0
        · exact it_e hr k138
        · refine if_e hr ?_
          have hr0 : ρ ≠ 0 := fun e => hr (by rw [e]; rfl)
          have := hpc1 hr0
          exact if_e (fun h => by have := (nI_ltI (a := 1) (b := pc M) (by omega) (by omega)).mp h; omega) k138
      rcases hx with ⟨h1, h2⟩ | ⟨h1, h2⟩
      · exact it_e (by rw [h1]; rfl) (k122 1 h2)
      · exact if_e (nI_ne0 (by omega) (by omega)) (k122 0 h2)
    rcases hq with ⟨z, w1, w2⟩ | ⟨z, w1, w2, w3, w4⟩
    · rw [w1]
      refine if_e (by decide) ?_
      exact k112 1 (Or.inl ⟨w2, rfl⟩)
    · rw [w3]
      refine it_e (nI_pos' (by omega)) ?_
      exact k112 0 (Or.inr ⟨w1, rfl⟩)
  rcases id hq with ⟨z, w1, w2⟩ | ⟨z, w1, w2, w3, w4⟩
  · exact it_e (by rw [w1]; decide) (k53 0 (fun h => absurd z h))
  · rw [w3]
    refine if_e (nI_pos (by omega)) ?_
    refine bnd_e (pt1 hs w2) ?_
    exact k53 _ (fun _ => rfl)
end CL
