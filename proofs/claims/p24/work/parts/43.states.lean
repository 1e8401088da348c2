theorem msk0 {a b : Nat} (h : ∀ p, a.testBit p = true → b.testBit p = true) : nI a &&& (nI b ^^^ (-1)) = 0 := by
  apply Int32.toBitVec_inj.mp
  apply BitVec.eq_of_getLsbD_eq
  intro i hi
  show ((Int32.ofNat a).toBitVec &&& ((Int32.ofNat b).toBitVec ^^^ BitVec.allOnes 32)).getLsbD i = (0#32).getLsbD i
  simp only [Int32.toBitVec_ofNat', BitVec.getLsbD_and, BitVec.getLsbD_xor, BitVec.getLsbD_allOnes, BitVec.getLsbD_ofNat, BitVec.getLsbD_zero]
  cases e : a.testBit i with
  | false => simp
  | true => rw [h i e]; simp [hi]
theorem mk_sub {P : Nat → Nat} (ho : POs P) {m r : Nat} (hr : V m r) (hm : 1 ≤ m) : ∀ p, (mk P (bk P r)).testBit p = true → (mk P r).testBit p = true := by
  intro p h
  rw [← mk_bk ho hr hm, mskF_bit, h]
  rfl
theorem suf_mod4 (r n : Nat) : suf r (n + 1) % 4 = r % 4 := by
  unfold suf
  rw [Nat.pow_succ, Nat.mul_comm (4 ^ n) 4, Nat.mul_add_mod, Nat.mod_mul_right_mod]
theorem bk_last {P : Nat → Nat} {m r : Nat} (hr : V m r) (h1 : bk P r ≠ 1) : bk P r % 4 = r % 4 := by
  unfold bk at h1 ⊢
  obtain ⟨j, j1, j2, j3, j4⟩ := sa_ex P r (ln r - 1)
  rw [j2] at h1 ⊢
  match j, h1 with
  | 0, h1 => exact absurd (suf_0 r) h1
  | j + 1, _ => exact suf_mod4 r j
theorem dl_last {P : Nat → Nat} {q a : Nat} (ha : a < 4) (h1 : dl P q a ≠ 1) : dl P q a % 4 = a := by
  unfold dl at h1 ⊢
  obtain ⟨j, j1, j2, j3, j4⟩ := sa_ex P (4 * q + a) (ln q + 1)
  rw [j2] at h1 ⊢
  match j, h1 with
  | 0, h1 => exact absurd (suf_0 _) h1
  | j + 1, _ => rw [suf_mod4]; omega
theorem bgn_pos {P : Nat → Nat} {r : Nat} (h : isSt P r = true) (h1 : r ≠ 1) : 0 < bgn P r := by
  unfold isSt at h
  rw [Bool.or_eq_true, decide_eq_true_eq, decide_eq_true_eq] at h
  rcases h with h | h
  · exact absurd h h1
  · exact h
theorem bit_self {P : Nat → Nat} (ho : POs P) {p : Nat} (hp : p < 8) (h0 : P p ≠ 0) : (mk P (P p)).testBit p = true := by
  obtain ⟨q1, q2, q3⟩ := PO_V (ho p hp) h0
  rw [mk_bit]
  have : isEndB (P p) (P p) = true := by
    unfold isEndB
    rw [decide_eq_true_eq]
    exact ⟨Nat.le_refl _, suf_self q3⟩
  simp [hp, h0, this]
theorem bit_is {m p : Nat} (hm : m < 256) (hp : p < 8) (h : m.testBit p = true) : ((nI m >>> (nI p &&& 31)) &&& 1) = 1 := by
  rw [bit_shr m hm p hp, if_pos h]
  rfl
theorem bit_isnt {m p : Nat} (hm : m < 256) (hp : p < 8) (h : ¬ m.testBit p = true) : ¬ ((nI m >>> (nI p &&& 31)) &&& 1) = 1 := by
  rw [bit_shr m hm p hp, if_neg h]
  decide
section AS
variable {F n : Nat} {P g : Nat → Nat} {np nc nl xr xs xe xl : Nat → Int32}
theorem EP_V {i : Nat} (h : EP P n g) (hi : i < n) (h1 : 1 ≤ i) : ∃ m, 1 ≤ m ∧ m ≤ 8 ∧ V m (g i) ∧ ln (g i) = m := by
  obtain ⟨m, m1, m2, m3, -⟩ := st_par h.2.2.2 (h.1.1 i hi) (h.ne1 hi h1)
  exact ⟨m, m1, m2, m3, V_ln m3⟩
theorem as_192 {k u : Nat} {y1 : Int32} (hM : MO P n g xr xs xe xl) (hk : k < n) (h1 : 1 ≤ k) (hu : u < n) (hgu : g u = bk P (g k)) (hF : 300 ≤ F) : ∀ (d b fu : Nat), b + d = 4 → d < fu → ∀ k289, L_L_areStatesSo_192 F k289 y1 (nI k) (nI (ln (g k))) (nI u) np xl (nI n) xr xe xs fu 1 (nI b) = k289 1 := by
  intro d
  have h9 := hM.1.2.1
  obtain ⟨m, m1, m2, m3, m4⟩ := EP_V hM.1 hk h1
  induction d with
  | zero =>
    intro b fu hb hf k289
    obtain ⟨fu, rfl⟩ : ∃ z, fu = z + 1 := ⟨fu - 1, by omega⟩
    have hb : b = 4 := by omega
    subst hb
    rw [L_L_areStatesSo_192]
    exact it_e (show (4 : Int32) ≤ nI 4 from by decide) rfl
  | succ d ih =>
    intro b fu hb hf k289
    obtain ⟨fu, rfl⟩ : ∃ z, fu = z + 1 := ⟨fu - 1, by omega⟩
    have hb4 : b < 4 := by omega
    obtain ⟨t, t1, t2, t3⟩ := hM.2.2.1.lead hk hb4
    obtain ⟨s, s1, s2, s3⟩ := hM.2.2.1.lead hu hb4
    have hnext := ih (b + 1) fu (by omega) (by omega) k289
    obtain ⟨mt, mt1, mt2⟩ := dl_V (P := P) (a := b) m3
    rw [← t3] at mt2
    have hlt := V_ln mt2
    rw [L_L_areStatesSo_192]
    refine if_e (show ¬ (4 : Int32) ≤ nI b from nI_ge (a := b) (b := 4) hb4 (by decide)) ?_
    refine bnd_e (st5 hM hk hb4) ?_
    rw [t2]
    refine bnd_e (st5 hM hu hb4) ?_
    rw [s2]
    refine if_e n10 ?_
    refine bnd_e (st0 hM t1 hF) ?_
    rw [nI_1 (ln (g k))]
    refine if_e (fun h => by have := (nI_ltI (by omega) (by omega)).mp h; omega) ?_
    refine jp_e (fun j256 e256 => ?_)
    have k256 : j256 () = k289 1 := by
      subst e256
      refine bnd_e (st0 hM t1 hF) ?_
      by_cases hl : ln (g t) = ln (g k) + 1
      · refine it_e (by rw [hl]) ?_
        refine nmv_e ?_
        rw [nI_1]
        exact hnext
      · refine if_e (fun h => hl ((nI_eq (by omega) (by omega)).mp h)) ?_
        have hts : t = s := by
          refine hM.1.1.inj t1 s1 ?_
          have hno : ¬ isSt P (4 * g k + b) = true := fun hs => by
            rw [t3, dl_st m3 hb4 hs, V_ln (V_succ m3 hb4), m4] at hl
            exact hl rfl
          rw [t3, s3, hgu, dl_no m3 hb4 m1 hno]
        refine it_e (by rw [hts]) ?_
        refine nmv_e ?_
        rw [nI_1]
        exact hnext
    rcases Nat.eq_zero_or_pos t with z | z
    · exact it_e (by rw [z]; rfl) k256
    · refine if_e (nI_ne0 z (by omega)) ?_
      refine bnd_e (st1 hM t1 z) ?_
      refine it_e ?_ k256
      rw [t3, dl_last hb4 (by rw [← t3]; exact hM.1.ne1 t1 z)]
theorem as_68 (hs : SP np P) (hM : MO P n g xr xs xe xl) (hF : 300 ≤ F) : ∀ (d k fu : Nat), k + d = n → 1 ≤ k → d < fu → ∀ k295, L_L_areStatesSo_68 F k295 (nI n) np xl (nI n) xr xe xs fu 1 (nI k) = k295 1 := by
  intro d
  have h9 := hM.1.2.1
  have hpo := hM.1.2.2.2
  induction d with
  | zero =>
    intro k fu hk h1 hf k295
    obtain ⟨fu, rfl⟩ : ∃ z, fu = z + 1 := ⟨fu - 1, by omega⟩
    rw [L_L_areStatesSo_68]
    exact it_e (nI_le (by omega) (by omega)) rfl
  | succ d ih =>
    intro k fu hk h1 hf k295
    obtain ⟨fu, rfl⟩ : ∃ z, fu = z + 1 := ⟨fu - 1, by omega⟩
    have hkn : k < n := by omega
    obtain ⟨m, m1, m2, m3, m4⟩ := EP_V hM.1 hkn h1
    obtain ⟨u, u1, u2, u3⟩ := hM.2.2.1.short hM.1 hkn h1
    obtain ⟨mu, mu1, mu2⟩ := bk_V (P := P) m3 m1
    rw [← u3] at mu2
    have hlu := V_ln mu2
    have hnext := ih (k + 1) fu (by omega) (by omega) (by omega) k295
    have hprev : ln (g (k - 1)) ≤ ln (g k) := by
      have hlt := (hM.1.lt (show k - 1 < n by omega) hkn).mpr (by omega)
      obtain ⟨mp', mp1, mp2⟩ := st_V hpo (hM.1.1.1 (k - 1) (by omega))
      rw [V_ln mp2, m4]
      rcases Nat.lt_or_ge m mp' with c | c
      · have := V_le m3 mp2 c
        omega
      · exact c
    rw [L_L_areStatesSo_68]
    refine if_e (nI_ge hkn (by omega)) ?_
    refine bnd_e (st0 hM hkn hF) ?_
    refine bnd_e (st2 hM hkn) ?_
    rw [u2]
    refine jp_e (fun j157 e157 => ?_)
    have k157 : j157 1 = k295 1 := by
      subst e157
      refine jp_e (fun j188 e188 => ?_)
      have k188 : j188 1 = k295 1 := by
        subst e188
        refine (as_192 (np := np) (y1 := nI n) hM hkn h1 (by omega) u3 hF 4 0 F (by omega) (by omega) _).trans ?_
        refine nmv_e ?_
        rw [nI_1]
        exact hnext
      refine jp_e (fun j187 _ => ?_)
      refine if_e n10 ?_
      refine jp_e (fun j183 e183 => ?_)
      have k183 : j183 () = k295 1 := by subst e183; exact k188
      rcases Nat.eq_zero_or_pos u with z | z
      · exact it_e (by rw [z]; rfl) k183
      · refine if_e (nI_ne0 z (by omega)) ?_
        refine bnd_e (st1 hM (by omega) z) ?_
        refine bnd_e (st1 hM hkn h1) ?_
        refine it_e ?_ k183
        rw [u3, bk_last m3 (by rw [← u3]; exact hM.1.ne1 (by omega) z)]
    refine jp_e (fun j156 _ => ?_)
    refine if_e n10 ?_
    rw [nI_s1 h1]
    refine bnd_e (st0 hM (show k - 1 < n by omega) hF) ?_
    refine if_e (fun h => by have := (nI_ltI (by omega) (by omega)).mp h; omega) ?_
    refine if_e (nI_ge u1 (by omega)) ?_
    refine bnd_e (st0 hM (by omega) hF) ?_
    refine if_e (nI_ge (by omega) (by omega)) ?_
    refine bnd_e (st4 hs hM hkn hF) ?_
    have hb8 : bgn P (g k) ≤ 8 := cntF_le _ 8 0
    refine if_e (nI_nle (bgn_pos (hM.1.1.1 k hkn) (hM.1.ne1 hkn h1)) (by omega)) ?_
    refine bnd_e (st3 hM (by omega)) ?_
    refine bnd_e (st3 hM hkn) ?_
    refine it_e ?_ k157
    rw [u3]
    exact msk0 (mk_sub hpo m3 m1)
theorem as_297 (hs : SP np P) (hM : MO P n g xr xs xe xl) (hF : 300 ≤ F) : ∀ (d p fu : Nat), p + d = 8 → d < fu → L_L_areStatesSo_297 F np xl (nI n) nl nc xr xe xs fu 1 (nI p) = some 1 := by
  intro d
  have h9 := hM.1.2.1
  have hpo := hM.1.2.2.2
  induction d with
  | zero =>
    intro p fu hp hf
    obtain ⟨fu, rfl⟩ : ∃ z, fu = z + 1 := ⟨fu - 1, by omega⟩
    have hp : p = 8 := by omega
    subst hp
    rw [L_L_areStatesSo_297]
    exact it_e (show (8 : Int32) ≤ nI 8 from by decide) (grd_e (by decide) rfl)
  | succ d ih =>
    intro p fu hp hf
    obtain ⟨fu, rfl⟩ : ∃ z, fu = z + 1 := ⟨fu - 1, by omega⟩
    have hp8 : p < 8 := by omega
    have hnext := ih (p + 1) fu (by omega) (by omega)
    rw [L_L_areStatesSo_297]
    refine if_e (show ¬ (8 : Int32) ≤ nI p from nI_ge (a := p) (b := 8) hp8 (by decide)) ?_
    by_cases h0 : P p = 0
    · refine bnd_e (pt3_0 hs hp8 h0) ?_
      refine bnd_e (pt0 hs hpo hp8 hF) ?_
      refine jp_e (fun j325 e325 => ?_)
      refine it_e (by rw [h0, ln_0]; decide) ?_
      subst e325
      refine jp_e (fun j387 e387 => ?_)
      have k387 : j387 1 = some 1 := by
        subst e387
        refine jp_e (fun j405 e405 => ?_)
        refine it_e rfl ?_
        subst e405
        refine if_e n10 ?_
        refine bnd_e (ltr_0 hs hp8 h0 hF) ?_
        refine jp_e (fun j434 e434 => ?_)
        refine it_e rfl ?_
        subst e434
        refine it_e rfl ?_
        refine nmv_e ?_
        rw [nI_1]
        exact hnext
      refine jp_e (fun j386 _ => ?_)
      refine if_e n10 ?_
      refine jp_e (fun j343 e343 => ?_)
      refine it_e (by decide) ?_
      subst e343
      refine it_e rfl ?_
      refine jp_e (fun j382 e382 => ?_)
      refine it_e rfl ?_
      subst e382
      exact k387
    · obtain ⟨q1, q2, q3⟩ := PO_V (hpo p hp8) h0
      obtain ⟨i, i1, i2, i3, i4⟩ := pt3 (F := F) (nc := nc) (nl := nl) hs hM hp8 h0 hF
      refine bnd_e i4 ?_
      refine bnd_e (pt0 hs hpo hp8 hF) ?_
      refine jp_e (fun j325 e325 => ?_)
      refine if_e (nI_nle q1 (by omega)) ?_
      subst e325
      refine jp_e (fun j387 e387 => ?_)
      have k387 : j387 1 = some 1 := by
        subst e387
        refine jp_e (fun j405 e405 => ?_)
        refine if_e n10 ?_
        refine bnd_e (pt0 hs hpo hp8 hF) ?_
        subst e405
        refine if_e n10 ?_
        refine bnd_e (ltr_1 hs hpo hp8 h0 hF) ?_
        refine jp_e (fun j434 e434 => ?_)
        refine if_e n10 ?_
        refine bnd_e (st1 hM i1 i3) ?_
        subst e434
        refine it_e (by rw [i2]) ?_
        refine nmv_e ?_
        rw [nI_1]
        exact hnext
      refine jp_e (fun j386 _ => ?_)
      refine if_e n10 ?_
      refine jp_e (fun j343 e343 => ?_)
      refine if_e (nI_nle i3 (by omega)) ?_
      subst e343
      refine it_e rfl ?_
      refine jp_e (fun j382 e382 => ?_)
      refine if_e n10 ?_
      refine bnd_e (st0 hM i1 hF) ?_
      refine bnd_e (pt0 hs hpo hp8 hF) ?_
      refine it_e (by rw [i2]) ?_
      refine bnd_e (st3 hM i1) ?_
      refine it_e (bit_is (mk_lt _ _) hp8 (by rw [i2]; exact bit_self hpo hp8 h0)) ?_
      subst e382
      exact k387
end AS
section AT
variable {F n rd tl : Nat} {P g : Nat → Nat} {np nc nl dp dc dl xr xs xe xl bc dr : Nat → Int32} {nru nre nrd nto nla nfa nmo ss so dru dre drd dto dla dfa dmo xz bl : Int32} {mems : Nat → Option Nat} {ad : Nat}
/-- states are beginnings in their order, and fall back to shorter ends -/
theorem areStates5 (hs : SP np P) (hM : MO P n g xr xs xe xl) (hn : n ≤ lsum P + 1) (htl : V (min rd 8) tl) (hF : 300 ≤ F) : D_L_areStatesSo F np nmo nfa nla nto (nI rd) (nI tl) xl (nI n) ss nl nc xr xe xs = some 1 := by
  obtain ⟨i, i1, i2, i3⟩ := currentState5 (F := F) hM.1 hM.2.2.1 htl (by omega)
  have h9 := hM.1.2.1
  have h0 := hM.1.2.2.1
  have hpo := hM.1.2.2.2
  have hl64 : lsum P ≤ 8 * 8 := sumF_le 8 0 (fun p _ hp => (len3P (F := 100) hpo (by omega) (by omega)).2)
  unfold D_L_areStatesSo
  refine bnd_e ct1 ?_
  refine bnd_e (ct8 hs hpo hF) ?_
  refine jp_e (fun j65 e65 => ?_)
  have k65 : j65 1 = some 1 := by
    subst e65
    refine (as_68 (np := np) hs hM hF (n - 1) 1 F (by omega) (by omega) (by omega) _).trans ?_
    exact as_297 hs hM hF 8 0 F (by omega) (by omega)
  refine jp_e (fun j64 _ => ?_)
  rw [nI_1]
  refine if_e (fun h => by have := (nI_ltI (by omega) (by omega)).mp h; omega) ?_
  refine bnd_e (st4 (i := 0) hs hM h0 hF) ?_
  refine bnd_e (ct0 hs hpo hF) ?_
  refine it_e (by rw [hM.1.g0]) ?_
  refine bnd_e (st2 (i := 0) hM h0) ?_
  refine it_e hM.2.2.1.2.2.2 ?_
  refine bnd_e (st0 (i := 0) hM h0 hF) ?_
  refine it_e (by rw [hM.1.g0, V_ln V_0]; rfl) ?_
  refine bnd_e (ct2 i3) ?_
  exact if_e (nI_ge i1 (by omega)) k65
end AT
