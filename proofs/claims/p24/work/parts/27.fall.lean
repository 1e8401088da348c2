/-- where letters lead, as far as place q; what falls back where, as far as place q -/
def FB (P : Nat → Nat) (n : Nat) (g : Nat → Nat) (sh l : Nat → Int32) (q : Nat) : Prop :=
  (∀ κ, κ < q → κ < 4 * n → ∃ t, t < n ∧ l κ = nI t ∧ g t = dl P (g (κ / 4)) (κ % 4)) ∧
  (∀ κ, q ≤ κ → κ < 4 * n → (∃ t, 1 ≤ t ∧ t < n ∧ g t = 4 * g (κ / 4) + κ % 4 ∧ l κ = nI t) ∨ (l κ = 0 ∧ ∀ t, 1 ≤ t → t < n → g t ≠ 4 * g (κ / 4) + κ % 4)) ∧
  (∀ t κ, 1 ≤ t → t < n → κ < q → κ < 4 * n → g t = 4 * g (κ / 4) + κ % 4 → ∃ u, u < n ∧ sh t = nI u ∧ g u = bk P (g t)) ∧ sh 0 = -1
theorem EP.child {P : Nat → Nat} {n : Nat} {g : Nat → Nat} (hE : EP P n g) {i a : Nat} (hi : i < n) (ha : a < 4) (h : ∀ t, 1 ≤ t → t < n → g t ≠ 4 * g i + a) : ¬ isSt P (4 * g i + a) = true := by
  intro hs
  obtain ⟨t, t1, t2⟩ := hE.idx hs
  have := (st_lt hE.2.2.2 (hE.1.1 i hi)).2
  have h0 := hE.g0
  rcases Nat.eq_zero_or_pos t with z | z
  · subst z; omega
  · exact h t z t1 t2
/-- the state to which a later one falls back is known, when its turn comes -/
theorem FB.sh {P : Nat → Nat} {n : Nat} {g : Nat → Nat} {sh l : Nat → Int32} {i b : Nat} (hE : EP P n g) (h : FB P n g sh l (4 * i + b)) (hi : i < n) (h1 : 1 ≤ i) : ∃ u, u < i ∧ sh i = nI u ∧ g u = bk P (g i) := by
  obtain ⟨m, m1, m2, m3, m4, m5, m6⟩ := st_par hE.2.2.2 (hE.1.1 i hi) (hE.ne1 hi h1)
  obtain ⟨t, t1, t2⟩ := hE.idx m4
  have hti : t < i := (hE.lt t1 hi).mp (by rw [t2]; have := V_pos m3; omega)
  have h4 : g i % 4 < 4 := Nat.mod_lt _ (by decide)
  obtain ⟨u, u1, u2, u3⟩ := h.2.2.1 i (4 * t + g i % 4) h1 hi (by omega) (by omega) (by
    rw [show (4 * t + g i % 4) / 4 = t by omega, show (4 * t + g i % 4) % 4 = g i % 4 by omega, t2]; exact m6.symm)
  obtain ⟨k, k1, k2⟩ := bk_V (P := P) m3 m1
  refine ⟨u, (hE.lt u1 hi).mp ?_, u2, u3⟩
  rw [u3]
  exact V_le k2 m3 k1
theorem fall_21 {F n i : Nat} {g : Nat → Nat} {P : Nat → Nat} (hE : EP P n g) (hi : i < n) (hF : 300 ≤ F) : ∀ (d b fu : Nat) (sh l : Nat → Int32), b + d = 4 → d < fu → FB P n g sh l (4 * i + b) → ∃ sh' l', FB P n g sh' l' (4 * (i + 1)) ∧ ∀ k93, L_X1_fallBack_21 F k93 (nI i) fu (nI b) sh l = k93 sh' l' := by
  intro d
  have h9 := hE.2.1
  induction d with
  | zero =>
    intro b fu sh l hb hf h
    obtain ⟨fu, rfl⟩ : ∃ z, fu = z + 1 := ⟨fu - 1, by omega⟩
    have hb : b = 4 := by omega
    subst hb
    exact ⟨sh, l, h, fun k93 => by rw [L_X1_fallBack_21, if_pos (show (4 : Int32) ≤ nI 4 from by decide)]⟩
  | succ d ih =>
    intro b fu sh l hb hf h
    obtain ⟨fu, rfl⟩ : ∃ z, fu = z + 1 := ⟨fu - 1, by omega⟩
    have hb4 : b < 4 := by omega
    have e1 : (4 * i + b) / 4 = i := by omega
    have e2 : (4 * i + b) % 4 = b := by omega
    have hgi := hE.1.1 i hi
    -- the state to which it falls
    obtain ⟨w, w1, w2, w3⟩ : ∃ w, w < n ∧ (∀ k : Int32 → Option ((Nat → Int32) × (Nat → Int32)), (if nI i = 0 then k 0 else bnd (D_X5_at F 65 (nI i) sh) (fun r_19 => bnd (D_X1_leadsTo F r_19 (nI b) l) (fun r_21 => k r_21))) = k (nI w)) ∧ (if i = 0 then g w = 1 else g w = dl P (bk P (g i)) b) := by
      rcases Nat.eq_zero_or_pos i with z | z
      · subst z
        refine ⟨0, hE.2.2.1, fun k => by rw [if_pos (show nI 0 = 0 from rfl)]; rfl, ?_⟩
        rw [if_pos rfl]
        exact hE.g0
      · obtain ⟨u, u1, u2, u3⟩ := h.sh hE hi z
        obtain ⟨t, t1, t2, t3⟩ := h.1 (4 * u + b) (by omega) (by omega)
        rw [show (4 * u + b) / 4 = u by omega, show (4 * u + b) % 4 = b by omega, u3] at t3
        refine ⟨t, t1, fun k => ?_, ?_⟩
        · rw [if_neg (nI_ne0 z (by omega)), at_in (show i < 65 by omega) (by decide), u2]
          simp only [bnd]
          rw [leadsTo1 (show 4 * u + b < 260 by omega), t2]
        · rw [if_neg (by omega)]; exact t3
    have go : ∀ sh' l', FB P n g sh' l' (4 * i + (b + 1)) → (∀ k93, L_X1_fallBack_21 F k93 (nI i) (fu + 1) (nI b) sh l = L_X1_fallBack_21 F k93 (nI i) fu (nI (b + 1)) sh' l') → ∃ sh' l', FB P n g sh' l' (4 * (i + 1)) ∧ ∀ k93, L_X1_fallBack_21 F k93 (nI i) (fu + 1) (nI b) sh l = k93 sh' l' := by
      intro sh' l' q1 q2
      obtain ⟨s2, l2, r1, r2⟩ := ih (b + 1) fu sh' l' (by omega) (by omega) q1
      exact ⟨s2, l2, r1, fun k93 => (q2 k93).trans (r2 k93)⟩
    rcases h.2.1 (4 * i + b) (Nat.le_refl _) (by omega) with ⟨t, t0, t1, t2, t3⟩ | ⟨t1, t2⟩
    · -- there is a longer state
      rw [e1, e2] at t2
      have hbk : g w = bk P (g t) := by
        rw [t2]
        rcases Nat.eq_zero_or_pos i with z | z
        · subst z
          rw [if_pos rfl] at w3
          rw [w3, hE.g0, bk_child1 hb4]
        · rw [if_neg (by omega)] at w3
          obtain ⟨m, m1, m2, m3, m4, m5, m6⟩ := st_par hE.2.2.2 hgi (hE.ne1 hi z)
          rw [w3, bk_child m3 hb4 m1]
      refine go (upd sh t (nI w)) l ⟨fun κ k1 k2 => ?_, fun κ k1 k2 => h.2.1 κ (by omega) k2, fun v κ v1 v2 k1 k2 k3 => ?_, ?_⟩ (fun k93 => ?_)
      · rcases Nat.lt_or_ge κ (4 * i + b) with c | c
        · exact h.1 κ c k2
        · have : κ = 4 * i + b := by omega
          subst this
          refine ⟨t, t1, t3, ?_⟩
          rw [e1, e2, t2]
          obtain ⟨m, m1, m2⟩ := st_V hE.2.2.2 hgi
          exact (dl_st m2 hb4 (by rw [← t2]; exact hE.1.1 t t1)).symm
      · unfold upd
        by_cases e : v = t
        · rw [if_pos e]
          exact ⟨w, w1, rfl, by rw [e]; exact hbk⟩
        · rw [if_neg e]
          rcases Nat.lt_or_ge κ (4 * i + b) with c | c
          · exact h.2.2.1 v κ v1 v2 c k2 k3
          · have : κ = 4 * i + b := by omega
            subst this
            rw [e1, e2, ← t2] at k3
            exact absurd (hE.1.inj v2 t1 k3) e
      · unfold upd
        rw [if_neg (by omega)]
        exact h.2.2.2
      · rw [L_X1_fallBack_21, if_neg (show ¬ (4 : Int32) ≤ nI b from nI_ge (a := b) (b := 4) (by omega) (by omega)), leadsTo1 (show 4 * i + b < 260 by omega), t3]
        simp only [bnd, jp]
        refine Eq.trans (w2 _) ?_
        rw [if_neg (nI_ne0 (by omega) (by omega)), put_in (show t < 65 by omega) (by decide)]
        simp only [nm]
        rw [nI_1]
    · -- there is none
      rw [e1, e2] at t2
      have hno := hE.child hi hb4 t2
      refine go sh (upd l (4 * i + b) (nI w)) ⟨fun κ k1 k2 => ?_, fun κ k1 k2 => ?_, fun v κ v1 v2 k1 k2 k3 => ?_, h.2.2.2⟩ (fun k93 => ?_)
      · unfold upd
        by_cases e : κ = 4 * i + b
        · rw [if_pos e]
          refine ⟨w, w1, rfl, ?_⟩
          rw [e, e1, e2]
          rcases Nat.eq_zero_or_pos i with z | z
          · subst z
            rw [if_pos rfl] at w3
            rw [hE.g0] at hno ⊢
            rw [w3, dl_1 hb4 hno]
          · rw [if_neg (by omega)] at w3
            obtain ⟨m, m1, m2, m3, m4, m5, m6⟩ := st_par hE.2.2.2 hgi (hE.ne1 hi z)
            rw [w3, dl_no m3 hb4 m1 hno]
        · rw [if_neg e]
          exact h.1 κ (by omega) k2
      · unfold upd
        rw [if_neg (by omega)]
        exact h.2.1 κ (by omega) k2
      · rcases Nat.lt_or_ge κ (4 * i + b) with c | c
        · exact h.2.2.1 v κ v1 v2 c k2 k3
        · have : κ = 4 * i + b := by omega
          subst this
          rw [e1, e2] at k3
          exact absurd k3 (t2 v v1 v2)
      · rw [L_X1_fallBack_21, if_neg (show ¬ (4 : Int32) ≤ nI b from nI_ge (a := b) (b := 4) (by omega) (by omega)), leadsTo1 (show 4 * i + b < 260 by omega), t1]
        simp only [bnd, jp]
        refine Eq.trans (w2 _) ?_
        rw [if_pos True.intro, nI_4i, put_in (show 4 * i + b < 260 by omega) (by decide)]
        simp only [nm]
        rw [nI_1]
theorem fall_11 {F n : Nat} {g : Nat → Nat} {P : Nat → Nat} (hE : EP P n g) (hF : 300 ≤ F) : ∀ (d i fu : Nat) (sh l : Nat → Int32), i + d = n → d < fu → FB P n g sh l (4 * i) → ∃ sh' l', FB P n g sh' l' (4 * n) ∧ L_X1_fallBack_11 F (nI n) fu (nI i) sh l = some (sh', l') := by
  intro d
  have h9 := hE.2.1
  induction d with
  | zero =>
    intro i fu sh l hi hf h
    obtain ⟨fu, rfl⟩ : ∃ z, fu = z + 1 := ⟨fu - 1, by omega⟩
    have hi : i = n := by omega
    subst hi
    exact ⟨sh, l, h, by rw [L_X1_fallBack_11, if_pos (nI_le (Nat.le_refl i) (by omega))]⟩
  | succ d ih =>
    intro i fu sh l hi hf h
    obtain ⟨fu, rfl⟩ : ∃ z, fu = z + 1 := ⟨fu - 1, by omega⟩
    obtain ⟨s1, l1, q1, q2⟩ := fall_21 hE (show i < n by omega) hF 4 0 F sh l (by omega) (by omega) h
    obtain ⟨s2, l2, r1, r2⟩ := ih (i + 1) fu s1 l1 (by omega) (by omega) q1
    refine ⟨s2, l2, r1, ?_⟩
    rw [L_X1_fallBack_11, if_neg (nI_ge (show i < n by omega) (by omega))]
    refine Eq.trans (q2 _) ?_
    simp only [nm]
    rw [nI_1]
    exact r2
theorem fall1 {F n : Nat} {g : Nat → Nat} {P : Nat → Nat} {sh l : Nat → Int32} (hE : EP P n g) (hL : LD P n g l n) (hF : 300 ≤ F) : ∃ sh' l', FB P n g sh' l' (4 * n) ∧ D_X1_fallBack F sh (nI n) l = some (sh', l') := by
  unfold D_X1_fallBack
  rw [show (0 : Int32) = nI 0 from rfl, put_in (show 0 < 65 by omega) (by decide)]
  simp only [bnd]
  exact fall_11 hE hF n 0 F _ l (by omega) (by have := hE.2.1; omega) ⟨fun κ k1 => absurd k1 (by omega), fun κ _ k2 => (hL κ k2).imp (fun ⟨t, t1, t2, t3, t4⟩ => ⟨t, t1, t2, t3, t4⟩) id, fun t κ _ _ k1 => absurd k1 (by omega), rfl⟩
-- the patterns that end with a state
def mk (P : Nat → Nat) (r : Nat) : Nat := mskF (fun p => decide (P p ≠ 0) && isEndB r (P p)) 8 0 0
theorem mk_bit (P : Nat → Nat) (r p : Nat) : (mk P r).testBit p = (decide (p < 8) && (decide (P p ≠ 0) && isEndB r (P p))) := by
  unfold mk
  rw [mskF_bit]
  simp
theorem mk_lt (P : Nat → Nat) (r : Nat) : mk P r < 256 := mskF_lt _ 8 0 0 (by omega) (by omega)
theorem pat_st {P : Nat → Nat} (ho : POs P) {p : Nat} (hp : p < 8) (h0 : P p ≠ 0) : isSt P (P p) = true := by
  obtain ⟨q1, q2, q3⟩ := PO_V (ho p hp) h0
  exact isSt_iff.mpr (Or.inr ⟨p, hp, h0, (isBegB_iff q3).mpr ⟨ln (P p), Nat.le_refl _, by rw [Nat.sub_self, Nat.pow_zero, Nat.div_one]⟩⟩)
theorem isEndB_bk {P : Nat → Nat} (ho : POs P) {m r p : Nat} (hr : V m r) (hm : 1 ≤ m) (hp : p < 8) (h0 : P p ≠ 0) : isEndB r (P p) = (decide (P p = r) || isEndB (bk P r) (P p)) := by
  obtain ⟨q1, q2, q3⟩ := PO_V (ho p hp) h0
  obtain ⟨k, k1, k2, k3, k4⟩ := sa_ex P r (m - 1)
  have hbk : bk P r = suf r k := by unfold bk; rw [V_ln hr]; exact k2
  have hvk : V k (bk P r) := by rw [hbk]; exact V_suf r k
  apply Bool.eq_iff_iff.mpr
  unfold isEndB
  rw [Bool.or_eq_true, decide_eq_true_eq, decide_eq_true_eq, decide_eq_true_eq, V_ln hr, V_ln hvk, hbk]
  constructor
  · rintro ⟨h1, h2⟩
    by_cases e : ln (P p) = m
    · left; rw [← h2, e, suf_self hr]
    · right
      have hle : ln (P p) ≤ k := by
        rcases Nat.lt_or_ge k (ln (P p)) with c | c
        · have := k4 (ln (P p)) c (by omega)
          rw [h2, pat_st ho hp h0] at this
          exact absurd this (by decide)
        · exact c
      exact ⟨hle, by rw [suf_suf r hle]; exact h2⟩
  · rintro (h | ⟨h1, h2⟩)
    · rw [h, V_ln hr]
      exact ⟨Nat.le_refl m, suf_self hr⟩
    · rw [suf_suf r h1] at h2
      exact ⟨by omega, h2⟩
theorem mk_bk {P : Nat → Nat} (ho : POs P) {m r : Nat} (hr : V m r) (hm : 1 ≤ m) : mskF (fun p => decide (P p = r)) 8 0 (mk P (bk P r)) = mk P r := by
  apply Nat.eq_of_testBit_eq
  intro p
  rw [mskF_bit, mk_bit, mk_bit]
  by_cases hp : p < 8
  · by_cases h0 : P p = 0
    · have : ¬ (0 = r) := by have := V_pos hr; omega
      simp [h0, this]
    · rw [isEndB_bk ho hr hm hp h0]
      simp [hp, h0, Bool.or_comm]
  · simp [hp]
theorem mk_1 {P : Nat → Nat} (ho : POs P) : mskF (fun p => decide (P p = 1)) 8 0 0 = mk P 1 := by
  apply Nat.eq_of_testBit_eq
  intro p
  rw [mskF_bit, mk_bit]
  by_cases hp : p < 8
  · by_cases h0 : P p = 0
    · simp [h0]
    · obtain ⟨q1, q2, q3⟩ := PO_V (ho p hp) h0
      have h1 : ¬ P p = 1 := by
        intro e
        rw [e, V_ln V_0] at q1
        omega
      have h2 : isEndB 1 (P p) = false := by
        unfold isEndB
        rw [decide_eq_false_iff_not, V_ln V_0]
        intro q; omega
      simp [h1, h2]
  · simp [hp]
theorem ends_27 {F i : Nat} {p rows : Nat → Int32} {P : Nat → Nat} {r : Nat} (hs : SP p P) (ho : POs P) (hi : i < 65) (hr : rows i = nI r) (hrl : r < 524288) (hF : 100 ≤ F) : ∀ (c k fu m : Nat), k + c = 8 → c < fu → m < 256 → L_X1_endsOf_27 F (nI i) p rows fu (nI m) (nI k) = some (nI (mskF (fun p => decide (P p = r)) c k m)) := by
  intro c
  induction c with
  | zero =>
    intro k fu m hk hf hm
    obtain ⟨fu, rfl⟩ : ∃ z, fu = z + 1 := ⟨fu - 1, by omega⟩
    have hk : k = 8 := by omega
    subst hk
    rw [L_X1_endsOf_27, if_pos (show (8 : Int32) ≤ nI 8 from by decide)]
    rfl
  | succ c ih =>
    intro k fu m hk hf hm
    obtain ⟨fu, rfl⟩ : ∃ z, fu = z + 1 := ⟨fu - 1, by omega⟩
    rw [L_X1_endsOf_27, if_neg (show ¬ (8 : Int32) ≤ nI k from nI_ge (a := k) (b := 8) (by omega) (by omega)), at_in (show k < 8 by omega) (by decide), hs k (by omega)]
    simp only [bnd]
    rw [at_in hi (by decide), hr]
    simp only [nm]
    rw [if_eq (by have := PO_lt (ho k (by omega)); omega) (by omega), nI_1, nI_bit (by omega)]
    have h2 : 2 ^ k < 2 ^ 8 := Nat.pow_lt_pow_right (by decide) (by omega)
    rw [nI_or2 (by omega) (by omega)]
    have h3 : m ||| 2 ^ k < 2 ^ 8 := Nat.or_lt_two_pow hm h2
    rw [ih (k + 1) fu m (by omega) (by omega) hm, ih (k + 1) fu (m ||| 2 ^ k) (by omega) (by omega) h3]
    simp only [mskF]
    by_cases h : P k = r <;> simp [h]
theorem endsOf1 {F n i : Nat} {g : Nat → Nat} {P : Nat → Nat} {p rows sh l en : Nat → Int32} (hE : EP P n g) (hs : SP p P) (hA : AR rows n g) (hB : FB P n g sh l (4 * n)) (hi : i < n) (hen : ∀ j, j < i → en j = nI (mk P (g j))) (hF : 100 ≤ F) : D_X1_endsOf F (nI i) sh en p rows = some (nI (mk P (g i))) := by
  unfold D_X1_endsOf
  have h9 := hE.2.1
  have hg := st_lt hE.2.2.2 (hE.1.1 i hi)
  simp only [jp]
  rcases Nat.eq_zero_or_pos i with z | z
  · subst z
    rw [if_pos (show nI 0 = 0 from rfl)]
    have e := ends_27 (F := F) hs hE.2.2.2 (show 0 < 65 by omega) (hA 0 hi) (by omega) hF 8 0 F 0 (by omega) (by omega) (by omega)
    rw [hE.g0, mk_1 hE.2.2.2] at e
    rw [hE.g0]
    exact e
  · have hB' : FB P n g sh l (4 * i + (4 * n - 4 * i)) := by rw [show 4 * i + (4 * n - 4 * i) = 4 * n by omega]; exact hB
    obtain ⟨u, u1, u2, u3⟩ := hB'.sh hE hi z
    rw [if_neg (nI_ne0 z (by omega)), at_in (show i < 65 by omega) (by decide), u2]
    simp only [bnd]
    rw [at_in (show u < 65 by omega) (by decide), hen u u1, u3]
    simp only []
    have e := ends_27 (F := F) hs hE.2.2.2 (show i < 65 by omega) (hA i hi) (by omega) hF 8 0 F (mk P (bk P (g i))) (by omega) (by omega) (mk_lt _ _)
    obtain ⟨m, m1, m2, m3, -⟩ := st_par hE.2.2.2 (hE.1.1 i hi) (hE.ne1 hi z)
    rw [mk_bk hE.2.2.2 m3 m1] at e
    exact e
/-- the machine of the patterns -/
def MO (P : Nat → Nat) (n : Nat) (g : Nat → Nat) (rows sh en l : Nat → Int32) : Prop := EP P n g ∧ AR rows n g ∧ FB P n g sh l (4 * n) ∧ ∀ i, i < n → en i = nI (mk P (g i))
theorem ends_72 {F n : Nat} {g : Nat → Nat} {P : Nat → Nat} {p rows sh l : Nat → Int32} (hE : EP P n g) (hs : SP p P) (hA : AR rows n g) (hB : FB P n g sh l (4 * n)) (hF : 300 ≤ F) : ∀ (d i fu : Nat) (en : Nat → Int32), i + d = n → d < fu → (∀ j, j < i → en j = nI (mk P (g j))) → ∃ en', (∀ j, j < n → en' j = nI (mk P (g j))) ∧ L_X1_rebuild_72 F (nI n) rows l sh p fu (nI i) en = some (nI n, rows, l, sh, en') := by
  intro d
  have h9 := hE.2.1
  induction d with
  | zero =>
    intro i fu en hi hf h
    obtain ⟨fu, rfl⟩ : ∃ z, fu = z + 1 := ⟨fu - 1, by omega⟩
    have hi : i = n := by omega
    subst hi
    exact ⟨en, h, by rw [L_X1_rebuild_72, if_pos (nI_le (Nat.le_refl i) (by omega))]⟩
  | succ d ih =>
    intro i fu en hi hf h
    obtain ⟨fu, rfl⟩ : ∃ z, fu = z + 1 := ⟨fu - 1, by omega⟩
    obtain ⟨en', r1, r2⟩ := ih (i + 1) fu (upd en i (nI (mk P (g i)))) (by omega) (by omega) (fun j hj => by
      unfold upd
      by_cases e : j = i
      · rw [if_pos e, e]
      · rw [if_neg e]; exact h j (by omega))
    refine ⟨en', r1, ?_⟩
    rw [L_X1_rebuild_72, if_neg (nI_ge (show i < n by omega) (by omega)), endsOf1 hE hs hA hB (by omega) h (by omega)]
    simp only [bnd]
    rw [put_in (show i < 65 by omega) (by decide)]
    simp only [nm]
    rw [nI_1]
    exact r2
theorem rebuild1 {F : Nat} {x : Int32} {P : Nat → Nat} {p rows l sh en : Nat → Int32} (hs : SP p P) (ho : POs P) (hF : 300 ≤ F) : ∃ n g rows' l' sh' en', D_X1_rebuild F x rows l sh en p = some (nI n, rows', l', sh', en') ∧ MO P n g rows' sh' en' l' ∧ n ≤ lsum P + 1 := by
  unfold D_X1_rebuild
  obtain ⟨f1, n1, g1, a1, a2, a3, a4⟩ := takeState1 (F := F) (n := 0) (r := 1) (f := rows) (g := fun _ => 0) (S := fun _ => False) (fun i hi => absurd hi (by omega)) ⟨fun i hi => absurd hi (by omega), fun i j _ hj => absurd hj (by omega), fun v hv => hv.elim⟩ (by omega) (by omega) (fun v hv => hv.elim) (by omega)
  rw [show D_X1_takeState F 1 0 rows = some (f1, nI n1) from a1]
  simp only [bnd]
  have hS0 : Enum n1 g1 (Sk P 0) := a3.congr (fun v => ⟨fun q => q.elim (fun z => z.elim) Or.inl, fun q => q.elim Or.inr (fun ⟨p, p1, _⟩ => absurd p1 (by omega))⟩)
  obtain ⟨f2, n2, g2, b1, b2, b3, b3', b4⟩ := rebuild_12 (F := F) (M := lsum P + 1) hs ho (by omega) 8 0 F n1 f1 g1 (by omega) (by omega) a2 hS0 (by omega) (by unfold lsum; omega)
  have hE : EP P n2 g2 := ⟨b2.congr (fun v => isSt_Sk.symm), b3, (Enum_0 b2 (Or.inl rfl)).1, ho⟩
  obtain ⟨l3, c1, c2⟩ := lead1 (F := F) (l := l) hE b1 (by omega)
  obtain ⟨s4, l4, d1, d2⟩ := fall1 (F := F) (sh := sh) hE c1 hF
  obtain ⟨en5, e1, e2⟩ := ends_72 (F := F) hE hs b1 d1 hF n2 0 F en (by omega) (by omega) (fun j hj => absurd hj (by omega))
  refine ⟨n2, g2, f2, l4, s4, en5, ?_, ⟨hE, b1, d1, e1⟩, b3'⟩
  refine Eq.trans (b4 _) ?_
  rw [c2]
  simp only []
  rw [d2]
  exact e2

