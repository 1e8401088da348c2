/-- where the match that counted last was: before what is read now -/
def LAS (x : Int32) (rd : Nat) : Prop := x = -1 ∨ ∃ k, k < rd ∧ x = nI k
/-- an object of the class between two of the law's calls: at most N letters were read -/
def SV (N : Nat) (np : Nat → Int32) (nru nre nrd nla : Int32) (xr xs xe xl : Nat → Int32) (xz : Int32) : Prop := ∃ P n g ρ rd tl, SP np P ∧ MO P n g xr xs xe xl ∧ n ≤ lsum P + 1 ∧ xz = nI n ∧ nru = nI ρ ∧ ρ ≤ 2 ∧ nrd = nI rd ∧ rd ≤ N ∧ nre = nI tl ∧ V (min rd 8) tl ∧ LAS nla rd
def KV (ss so : Int32) : Prop := ∃ k o, k ≤ 6 ∧ o < 6 ∧ ss = nI k ∧ so = nI o
theorem LAS_up {x : Int32} {rd : Nat} (h : LAS x rd) : LAS x (rd + 1) := by
  rcases h with h | ⟨k, k1, k2⟩
  · exact Or.inl h
  · exact Or.inr ⟨k, by omega, k2⟩
theorem BF_0 {bc : Nat → Int32} : BF bc 0 (fun _ => 0) 1 0 1 := ⟨fun i hi => absurd hi (by omega), trivial, rfl, V_0, rfl⟩
theorem La39 {F N L ad : Nat} {y1 y3 y4 : Int32} (hN : N ≤ 5) (hF : 300 ≤ F) : ∀ (c j fu b row : Nat) (C : Nat → Nat) (bc : Nat → Int32), j + c = N → c < fu → b + c ≤ 59 → BF bc b C row j L → ∃ bc' C' row', BF bc' (b + c) C' row' N L ∧ ∀ k76, L_L_add_39 F k76 ad y1 y3 y4 (nI N) fu (nI j) (nI b) bc = k76 (nI (b + c)) bc' := by
  intro c
  induction c with
  | zero =>
    intro j fu b row C bc hj hf hb hB
    obtain ⟨fu, rfl⟩ : ∃ z, fu = z + 1 := ⟨fu - 1, by omega⟩
    have hj : j = N := by omega
    subst hj
    refine ⟨bc, C, row, hB, fun k76 => ?_⟩
    rw [L_L_add_39]
    exact it_e (nI_le (Nat.le_refl j) (by omega)) rfl
  | succ c ih =>
    intro j fu b row C bc hj hf hb hB
    obtain ⟨fu, rfl⟩ : ∃ z, fu = z + 1 := ⟨fu - 1, by omega⟩
    obtain ⟨r, r1, r2⟩ := low3 (F := F) (y1 >>> ((((3 : Int32) * nI j) + ((7 : Int32) * y4)) &&& 31)) 3 (by decide) (by decide)
    have hB1 := BF_lett hB (show j < 8 by omega) (show r < 4 by omega)
    obtain ⟨bc', C', row', i1, i2⟩ := ih (j + 1) fu (b + 1) _ _ _ (by omega) (by omega) (by omega) hB1
    refine ⟨bc', C', row', by rw [show b + (c + 1) = b + 1 + c by omega]; exact i1, fun k76 => ?_⟩
    rw [L_L_add_39]
    refine if_e (nI_ge (show j < N by omega) (by omega)) ?_
    refine bnd_e r2 ?_
    rw [show (97 : Int32) + nI r = nI (97 + r) from nI_add 97 r]
    refine bnd_e (app5 (b := b) (c := 97 + r) (by omega) (by omega) (by omega)) ?_
    dsimp only
    refine nmv_e ?_
    rw [nI_1, show b + (c + 1) = b + 1 + c by omega]
    exact i2 k76
theorem La14 {F many ad : Nat} {y1 : Int32} (hm : many ≤ 2) (hF : 300 ≤ F) : ∀ (c k4 fu b : Nat) (C : Nat → Nat) (bc : Nat → Int32), k4 + c = many → 1 ≤ c → c < fu → b ≤ 6 * k4 → BF bc b C 1 0 (k4 + 1) → ∃ bc' b' C' row q, BF bc' b' C' row q many ∧ 1 ≤ q ∧ b' ≤ 12 ∧ ∀ k97, L_L_add_14 F k97 ad y1 (nI many) fu (nI k4) (nI b) bc = k97 (nI b') bc' := by
  intro c
  induction c with
  | zero => intro k4 fu b C bc hk h1; exact absurd h1 (by omega)
  | succ c ih =>
    intro k4 fu b C bc hk h1 hf hb hB
    obtain ⟨fu, rfl⟩ : ∃ z, fu = z + 1 := ⟨fu - 1, by omega⟩
    obtain ⟨r, r1, r2⟩ := low3 (F := F) (y1 >>> (((1 : Int32) + ((5 : Int32) * nI k4)) &&& 31)) 5 (by decide) (by decide)
    obtain ⟨bc1, C1, row1, i1, i2⟩ := La39 (F := F) (N := 1 + r) (L := k4 + 1) (ad := ad) (y1 := y1) (y3 := nI many) (y4 := nI k4) (by omega) hF (1 + r) 0 F b 1 C bc (by omega) (by omega) (by omega) hB
    have i2' : ∀ k76, L_L_add_39 F k76 ad y1 (nI many) (nI k4) (nI (1 + r)) F 0 (nI b) bc = k76 (nI (b + (1 + r))) bc1 := i2
    by_cases hc : c = 0
    · have hm1 : many = k4 + 1 := by omega
      refine ⟨bc1, b + (1 + r), C1, row1, 1 + r, by rw [hm1]; exact i1, by omega, by omega, fun k97 => ?_⟩
      rw [L_L_add_14]
      refine if_e (nI_ge (show k4 < many by omega) (by omega)) ?_
      refine bnd_e r2 ?_
      rw [show (1 : Int32) + nI r = nI (1 + r) from nI_add 1 r]
      refine nmv_e ?_
      refine (i2' _).trans ?_
      refine it_e (by rw [nI_s1 (by omega)]; exact nI_le (by omega) (by omega)) ?_
      refine nmv_e ?_
      rw [nI_1]
      obtain ⟨fu, rfl⟩ : ∃ z, fu = z + 1 := ⟨fu - 1, by omega⟩
      rw [L_L_add_14]
      exact it_e (nI_le (by omega) (by omega)) rfl
    · have hB2 := BF_semi i1 (by omega)
      obtain ⟨bc', b', C', row', q', j1, j2, j3, j4⟩ := ih (k4 + 1) fu (b + (1 + r) + 1) _ _ (by omega) (by omega) (by omega) (by omega) hB2
      refine ⟨bc', b', C', row', q', j1, j2, j3, fun k97 => ?_⟩
      rw [L_L_add_14]
      refine if_e (nI_ge (show k4 < many by omega) (by omega)) ?_
      refine bnd_e r2 ?_
      rw [show (1 : Int32) + nI r = nI (1 + r) from nI_add 1 r]
      refine nmv_e ?_
      refine (i2' _).trans ?_
      refine if_e (by rw [nI_s1 (by omega)]; exact nI_ge (by omega) (by omega)) ?_
      refine bnd_e (app5 (b := b + (1 + r)) (c := 59) (by omega) (by omega) (by omega)) ?_
      dsimp only
      refine nmv_e ?_
      rw [nI_1]
      exact j4 k97
section CD
variable {F N n k o ρ rd tl : Nat} {P g : Nat → Nat} {np nc nl dp dc dl xr xs xe xl bc dr : Nat → Int32} {nru nre nrd nto nla nfa nmo ss so dru dre drd dto dla dfa dmo xz bl : Int32} {mems : Nat → Option Nat} {ad : Nat}
/-- the law adds patterns, if there is room -/
theorem add5 (hs : SP np P) (hM : MO P n g xr xs xe xl) (hn : n ≤ lsum P + 1) (hρ : ρ ≤ 2) (htl : V (min rd 8) tl) (hla : LAS nla rd) (hk : k ≤ 6) (ho : o < 6) (had : mems (sl k o) = some ad) (hF : 300 ≤ F) (hN : rd ≤ N) (v : Int32) : wpo (D_L_add F ad v bl np nmo nfa nla nto (nI rd) (nI tl) xl (nI n) (nI k) bc dr (nI o) mems (nI ρ) dru dre drd dto dla dfa dmo dp nc dc nl dl xr xs xe) (fun (bl', dr', np', ss', so', dru', dre', drd', dto', dla', dfa', dmo', dp', dc', dl', xz', xr', xl', xs', xe', bc') => SV N np' (nI ρ) (nI tl) (nI rd) nla xr' xs' xe' xl' xz' ∧ KV ss' so') := by
  have hpo := hM.1.2.2.2
  unfold D_L_add
  refine w_bnd (a := (bl, 0)) rfl ?_
  dsimp only
  refine w_nm ?_
  obtain ⟨m1, m2, m3⟩ := and1 v
  rw [m3, show (1 : Int32) + nI m1 = nI (1 + m1) from nI_add 1 m1]
  obtain ⟨bc', b', C', row, q, i1, i2, i3, i4⟩ := La14 (F := F) (many := 1 + m1) (ad := ad) (y1 := v) (by omega) hF (1 + m1) 0 F 0 (fun _ => 0) bc (by omega) (by omega) (by omega) (by omega) BF_0
  refine w_eq (i4 _) ?_
  refine w_bnd (ct0 hs hpo hF) ?_
  rw [nI_add]
  have h8 : bgn P 1 ≤ 8 := cntF_le _ 8 0
  by_cases h : 8 < bgn P 1 + (1 + m1)
  · refine w_it (show (8 : Int32) < nI (bgn P 1 + (1 + m1)) from nI_lt (a := 8) h (by omega)) ?_
    exact w_some ⟨⟨P, n, g, ρ, rd, tl, hs, hM, hn, rfl, rfl, hρ, rfl, hN, rfl, htl, hla⟩, ⟨k, o, hk, ho, rfl, rfl⟩⟩
  · refine w_if (fun hh => h ((nI_ltI (a := 8) (by decide) (by omega)).mp hh)) ?_
    obtain ⟨m, P', n', g', dr', pd, cd, ld, np', xr', xl', xs', xe', e, s1, s2, s3⟩ := xadd5 (F := F) (k := k) (o := o) (mems := mems) (ad := ad) (np := np) (nc := nc) (nl := nl) (nto := nto) (nla := nla) (nfa := nfa) (nmo := nmo) (dp := dp) (dc := dc) (dl := dl) (dru := dru) (dre := dre) (drd := drd) (dto := dto) (dla := dla) (dfa := dfa) (dmo := dmo) (xr := xr) (xs := xs) (xe := xe) (xl := xl) (dr := dr) (nru := nI ρ) (nre := nI tl) (nrd := nI rd) (xz := nI n) (b := b') (bc := bc') hs hpo i1 (by omega) i2 (by rw [← nz_bgn hpo]; omega) hk ho had hF
    refine w_bnd e ?_
    dsimp only
    exact w_some ⟨⟨P', n', g', ρ, rd, tl, s1, s2, s3, rfl, rfl, hρ, rfl, hN, rfl, htl, hla⟩, ⟨kk k, oo k o, (kk_le hk).1, oo_lt ho, rfl, rfl⟩⟩
set_option maxHeartbeats 4000000 in
/-- the law does one thing -/
theorem does5 (hs : SP np P) (hM : MO P n g xr xs xe xl) (hn : n ≤ lsum P + 1) (hρ : ρ ≤ 2) (htl : V (min rd 8) tl) (hla : LAS nla rd) (hk : k ≤ 6) (ho : o < 6) (had : mems (sl k o) = some ad) (hF : 300 ≤ F) (hrd : rd < 9999) (v : Int32) : wpo (D_L_does F ad v (nI k) (nI o) mems (nI ρ) dru (nI tl) dre (nI rd) drd nto dto nla dla nfa dfa nmo dmo np dp nc dc nl dl xl (nI n) xr xs xe bl bc dr) (fun (ss', so', dru', nre', dre', nrd', drd', nto', dto', nla', dla', nfa', dfa', nmo', dmo', dp', nc', dc', nl', dl', nru', np', xz', xr', xl', xs', xe', bl', bc', dr') => SV (rd + 1) np' nru' nre' nrd' nla' xr' xs' xe' xl' xz' ∧ KV ss' so') := by
  have hpo := hM.1.2.2.2
  have hsame : SV (rd + 1) np (nI ρ) (nI tl) (nI rd) nla xr xs xe xl (nI n) ∧ KV (nI k) (nI o) := ⟨⟨P, n, g, ρ, rd, tl, hs, hM, hn, rfl, rfl, hρ, rfl, by omega, rfl, htl, hla⟩, ⟨k, o, hk, ho, rfl, rfl⟩⟩
  unfold D_L_does
  refine w_jp (fun j40 e40 => ?_)
  have k40 : wpo (j40 ()) (fun (ss', so', dru', nre', dre', nrd', drd', nto', dto', nla', dla', nfa', dfa', nmo', dmo', dp', nc', dc', nl', dl', nru', np', xz', xr', xl', xs', xe', bl', bc', dr') => SV (rd + 1) np' nru' nre' nrd' nla' xr' xs' xe' xl' xz' ∧ KV ss' so') := by
    subst e40
    obtain ⟨⟨bl', dr', np', ss', so', dru', dre', drd', dto', dla', dfa', dmo', dp', dc', dl', xz', xr', xl', xs', xe', bc'⟩, e, h1, h2⟩ := add5 (F := F) (k := k) (o := o) (mems := mems) (ad := ad) (np := np) (nc := nc) (nl := nl) (nto := nto) (nla := nla) (nfa := nfa) (nmo := nmo) (dp := dp) (dc := dc) (dl := dl) (dru := dru) (dre := dre) (drd := drd) (dto := dto) (dla := dla) (dfa := dfa) (dmo := dmo) (xr := xr) (xs := xs) (xe := xe) (xl := xl) (bl := bl) (bc := bc) (dr := dr) hs hM hn hρ htl hla hk ho had hF (show rd ≤ rd + 1 by omega) (v >>> ((4 : Int32) &&& 31))
    refine w_bnd e ?_
    dsimp only
    exact w_some ⟨h1, h2⟩
  by_cases h0 : v &&& 15 = 0
  · exact w_it h0 k40
  refine w_if h0 ?_
  by_cases h1 : v &&& 15 = 1
  · exact w_it h1 k40
  refine w_if h1 ?_
  by_cases h2 : v &&& 15 = 2
  · refine w_it h2 (w_nm ?_)
    obtain ⟨p, hp, ep⟩ := and7 (v >>> ((4 : Int32) &&& 31))
    rw [ep]
    by_cases hb : (v >>> ((7 : Int32) &&& 31)) &&& 1 = 0
    · refine w_it hb ?_
      refine w_bnd (pt0 hs hpo hp hF) ?_
      by_cases hz : P p = 0
      · refine w_it (by rw [hz, ln_0]; decide) ?_
        exact w_some hsame
      · obtain ⟨q1, q2, q3⟩ := PO_V (hpo p hp) hz
        refine w_if (nI_nle q1 (by omega)) ?_
        obtain ⟨n', g', pd, cd, ld, np', nc', nl', xr', xl', xs', xe', e, s1, s2, s3⟩ := xremove5 (F := F) (k := k) (o := o) (mems := mems) (ad := ad) (np := np) (nc := nc) (nl := nl) (nto := nto) (nla := nla) (nfa := nfa) (nmo := nmo) (dp := dp) (dc := dc) (dl := dl) (dru := dru) (dre := dre) (drd := drd) (dto := dto) (dla := dla) (dfa := dfa) (dmo := dmo) (xr := xr) (xs := xs) (xe := xe) (xl := xl) (nru := nI ρ) (nre := nI tl) (nrd := nI rd) (xz := nI n) hs hpo hp hz hk ho had hF
        refine w_bnd e ?_
        dsimp only
        exact w_some ⟨⟨_, n', g', ρ, rd, tl, s1, s2, s3, rfl, rfl, hρ, rfl, by omega, rfl, htl, hla⟩, ⟨kk k, oo k o, (kk_le hk).1, oo_lt ho, rfl, rfl⟩⟩
    · exact w_if hb (w_some hsame)
  refine w_if h2 ?_
  by_cases h3 : v &&& 15 = 3
  · refine w_it h3 ?_
    obtain ⟨r, r1, r2⟩ := low3 (F := F) (v >>> ((4 : Int32) &&& 31)) 3 (by decide) (by decide)
    refine w_bnd r2 ?_
    obtain ⟨pd, cd, ld, e⟩ := xrule5 (F := F) (k := k) (o := o) (mems := mems) (ad := ad) (r := r) (np := np) (nc := nc) (nl := nl) (nto := nto) (nla := nla) (nfa := nfa) (nmo := nmo) (dp := dp) (dc := dc) (dl := dl) (dru := dru) (dre := dre) (drd := drd) (dto := dto) (dla := dla) (dfa := dfa) (dmo := dmo) (nru := nI ρ) (nre := nI tl) (nrd := nI rd) (by omega) hk ho had hF
    refine w_bnd e ?_
    dsimp only
    exact w_some ⟨⟨P, n, g, r, rd, tl, hs, hM, hn, rfl, rfl, by omega, rfl, by omega, rfl, htl, hla⟩, ⟨kk k, oo k o, (kk_le hk).1, oo_lt ho, rfl, rfl⟩⟩
  refine w_if h3 ?_
  by_cases h4 : v &&& 15 = 4
  · refine w_it h4 ?_
    by_cases hb : (v >>> ((4 : Int32) &&& 31)) &&& 7 = 0
    · refine w_it hb ?_
      obtain ⟨pd, cd, ld, nc', nl', e⟩ := xbegin5 (F := F) (k := k) (o := o) (mems := mems) (ad := ad) (np := np) (nc := nc) (nl := nl) (nto := nto) (nla := nla) (nfa := nfa) (nmo := nmo) (dp := dp) (dc := dc) (dl := dl) (dru := dru) (dre := dre) (drd := drd) (dto := dto) (dla := dla) (dfa := dfa) (dmo := dmo) (nru := nI ρ) (nre := nI tl) (nrd := nI rd) hk ho had hF
      refine w_bnd e ?_
      dsimp only
      exact w_some ⟨⟨P, n, g, ρ, 0, 1, hs, hM, hn, rfl, rfl, hρ, rfl, by omega, rfl, V_0, Or.inl rfl⟩, ⟨kk k, oo k o, (kk_le hk).1, oo_lt ho, rfl, rfl⟩⟩
    · exact w_if hb (w_some hsame)
  refine w_if h4 ?_
  obtain ⟨r, r1, r2⟩ := low3 (F := F) (v >>> ((4 : Int32) &&& 31)) 3 (by decide) (by decide)
  refine w_bnd r2 ?_
  obtain ⟨pd, cd, ld, cnt', lat', e, f2, f3, f4, f5⟩ := feed5 (F := F) (k := k) (o := o) (mems := mems) (ad := ad) (a := r) (np := np) (nc := nc) (nl := nl) (nto := nto) (nla := nla) (nfa := nfa) (nmo := nmo) (dp := dp) (dc := dc) (dl := dl) (dru := dru) (dre := dre) (drd := drd) (dto := dto) (dla := dla) (dfa := dfa) (dmo := dmo) (xr := xr) (xs := xs) (xe := xe) (xl := xl) hs hM hρ htl hrd (by omega) hk ho had hF
  refine w_bnd e ?_
  dsimp only
  refine w_some ⟨⟨P, n, g, ρ, rd + 1, nx tl rd r, hs, hM, hn, rfl, rfl, hρ, rfl, by omega, rfl, V_nx tl rd r, ?_⟩, ⟨kk k, oo k o, (kk_le hk).1, oo_lt ho, rfl, rfl⟩⟩
  by_cases z : mS P ρ tl rd r (nI rd) nla = 0
  · rw [if_pos z]; exact LAS_up hla
  · rw [if_neg z]; exact Or.inr ⟨rd, by omega, rfl⟩
end CD
