theorem inb_nI {i n : Nat} (h : i < n) (hn : n < 2 ^ 31) : inb (nI i) n = true := by
  unfold inb
  rw [Bool.and_eq_true, decide_eq_true_eq, decide_eq_true_eq, nI_clamp (by omega)]
  exact ⟨nI_pos' (by omega), h⟩
theorem grd_t {β : Type} {b : Bool} {x : Option β} (h : b = true) : grd b x = x := by subst h; rfl
theorem nI_a0 (a : Nat) : nI a + 0 = nI a := nI_add a 0
theorem nI_0a (a : Nat) : (0 : Int32) + nI a = nI a := by
  have := nI_add 0 a
  rw [Nat.zero_add] at this
  exact this
theorem nI_m1 {a : Nat} (h : 1 ≤ a) : nI a + -1 = nI (a - 1) := by
  obtain ⟨b, rfl⟩ : ∃ b, a = b + 1 := ⟨a - 1, by omega⟩
  exact pk_m1 b
theorem nI_s1 {a : Nat} (h : 1 ≤ a) : nI a - 1 = nI (a - 1) := pk_sub (a := a) (b := 1) h
theorem at_in {F n i : Nat} {f : Nat → Int32} (h : i < n) (hn : n < 2 ^ 31) : D_X5_at F n (nI i) f = some (f i) := by
  unfold D_X5_at
  rw [if_neg (nI_pos (by omega)), if_neg (show ¬ Int32.ofNat n ≤ nI i from nI_ge h hn), grd_t (inb_nI h hn), nI_clamp (by omega)]
theorem at_out {F n i : Nat} {f : Nat → Int32} (h : n ≤ i) (hi : i < 2 ^ 31) : D_X5_at F n (nI i) f = some 0 := by
  unfold D_X5_at
  rw [if_neg (nI_pos (by omega)), if_pos (show Int32.ofNat n ≤ nI i from nI_le h hi)]
theorem put_in {F n i : Nat} {x : Int32} {f : Nat → Int32} (h : i < n) (hn : n < 2 ^ 31) : D_X5_put F n (nI i) x f = some (upd f i x) := by
  unfold D_X5_put
  rw [if_neg (nI_pos (by omega)), if_neg (show ¬ Int32.ofNat n ≤ nI i from nI_ge h hn), grd_t (inb_nI h hn), nI_clamp (by omega)]
  rfl
/-- the first eight places of a row hold the patterns -/
def SP (s : Nat → Int32) (P : Nat → Nat) : Prop := ∀ p, p < 8 → s p = nI (P p)
def POs (P : Nat → Nat) : Prop := ∀ p, p < 8 → PO (P p)
theorem isThere6 {s : Nat → Int32} {P : Nat → Nat} {p F : Nat} (hs : SP s P) (ho : POs P) (hp : p < 8) : D_X6_isThere F (nI p) s = some (b2 (decide (P p ≠ 0))) := by
  unfold D_X6_isThere
  rw [nI_0a, grd_t (inb_nI (by omega) (by decide)), nI_clamp (by omega), hs p hp]
  by_cases h : P p = 0
  · rw [h, if_pos (show nI 0 ≤ 0 from by decide)]; simp [b2]
  · rw [if_neg (show ¬ nI (P p) ≤ 0 from nI_nle (by omega) (by have := PO_lt (ho p hp); omega))]; simp [h, b2]
theorem PO_V {c : Nat} (h : PO c) (h0 : c ≠ 0) : 1 ≤ ln c ∧ ln c ≤ 8 ∧ V (ln c) c := by
  rcases h with h | ⟨n, h1, h2, h3⟩
  · exact absurd h h0
  · rw [V_ln h3]; exact ⟨h1, h2, h3⟩
theorem beginning6_loop {s : Nat → Int32} {P : Nat → Nat} {r m F : Nat} (hs : SP s P) (ho : POs P) (hr : V m r) (hm : m ≤ 9) (hF : 20 ≤ F) : ∀ (c k acc f : Nat), k + c = 8 → c < f → L_X6_beginning_4 F (nI r) s f (nI acc) (nI k) = some (nI (acc + cntF (fun p => decide (P p ≠ 0) && isBegB (P p) r) c k)) := by
  intro c
  induction c with
  | zero =>
    intro k acc f hk hf
    obtain ⟨f, rfl⟩ : ∃ g, f = g + 1 := ⟨f - 1, by omega⟩
    have hk : k = 8 := by omega
    subst hk
    rw [L_X6_beginning_4, if_pos (show (8 : Int32) ≤ nI 8 from by decide)]
    rfl
  | succ c ih =>
    intro k acc f hk hf
    obtain ⟨f, rfl⟩ : ∃ g, f = g + 1 := ⟨f - 1, by omega⟩
    rw [L_X6_beginning_4, if_neg (show ¬ (8 : Int32) ≤ nI k from nI_ge (a := k) (b := 8) (by omega) (by omega)), isThere6 hs ho (show k < 8 by omega)]
    simp only [bnd, nm]
    rw [if_b2, nI_0a, grd_t (inb_nI (show k < 31 by omega) (by decide)), nI_clamp (by omega), hs k (by omega), nI_1, nI_a0, nI_1]
    simp only [cntF]
    by_cases h0 : P k = 0
    · rw [if_neg (by simp [h0]), ih (k + 1) acc f (by omega) (by omega)]
      simp [h0]
    · have hv := PO_V (ho k (by omega)) h0
      rw [if_pos (by simp [h0]), isBegin6 hv.2.2 (by omega) hr hm hF]
      simp only []
      rw [if_b2, ih (k + 1) acc f (by omega) (by omega), ih (k + 1) (acc + 1) f (by omega) (by omega)]
      by_cases hb : isBegB (P k) r = true <;> simp [h0, hb, Nat.add_assoc]
theorem beginning6 {s : Nat → Int32} {P : Nat → Nat} {r m F : Nat} (hs : SP s P) (ho : POs P) (hr : V m r) (hm : m ≤ 9) (hF : 20 ≤ F) : D_X6_beginning F (nI r) s = some (nI (bgn P r)) := by
  have := beginning6_loop hs ho hr hm hF 8 0 0 F (by omega) (by omega)
  rw [Nat.zero_add] at this
  exact this
theorem isState6 {s : Nat → Int32} {P : Nat → Nat} {r m F : Nat} (hs : SP s P) (ho : POs P) (hr : V m r) (hm : m ≤ 9) (hF : 20 ≤ F) : D_X6_isState F (nI r) s = some (b2 (isSt P r)) := by
  unfold D_X6_isState
  have hl := V_lt hr hm
  show (if nI r = nI 1 then _ else _) = _
  rw [if_eq (by omega) (by omega), beginning6 hs ho hr hm hF]
  unfold isSt
  by_cases h1 : r = 1
  · rw [if_pos h1]; simp [h1, b2]
  · rw [if_neg h1]
    show (if nI (bgn P r) ≤ nI 0 then _ else _) = _
    have hb : bgn P r ≤ 8 := cntF_le _ 8 0
    rw [if_le (by omega) (by omega)]
    by_cases h2 : bgn P r ≤ 0
    · rw [if_pos h2]; simp [h1, show ¬ 0 < bgn P r by omega, b2]
    · rw [if_neg h2]; simp [h1, show 0 < bgn P r by omega, b2]
theorem stateAt6_loop {s : Nat → Int32} {P : Nat → Nat} {r F : Nat} {k20 : Int32 → Option Int32} (hs : SP s P) (ho : POs P) (hr : r < 2 ^ 31) (hF : 20 ≤ F) : ∀ (M f : Nat), M ≤ 9 → M < f → ∃ m, m ≤ M ∧ sa P r M = suf r m ∧ L_X6_stateAt_2 F k20 (nI r) s f (nI M) = k20 (nI m) := by
  intro M
  induction M with
  | zero =>
    intro f h9 hf
    obtain ⟨f, rfl⟩ : ∃ g, f = g + 1 := ⟨f - 1, by omega⟩
    refine ⟨0, Nat.le_refl 0, rfl, ?_⟩
    rw [L_X6_stateAt_2, endOf6 hr (by omega)]
    simp only [bnd, nm]
    rw [isState6 hs ho (V_suf r 0) (by omega) hF, suf_0, isSt_1]
    simp only []
    rw [if_neg b2_t]
  | succ M ih =>
    intro f h9 hf
    obtain ⟨f, rfl⟩ : ∃ g, f = g + 1 := ⟨f - 1, by omega⟩
    rw [L_X6_stateAt_2, endOf6 hr h9]
    simp only [bnd, nm]
    rw [isState6 hs ho (V_suf r (M + 1)) (by omega) hF]
    simp only []
    rw [if_b2, nI_m1 (by omega)]
    by_cases h : isSt P (suf r (M + 1)) = true
    · exact ⟨M + 1, Nat.le_refl _, by simp only [sa]; rw [if_pos h], by rw [if_pos h]⟩
    · obtain ⟨m, h1, h2, h3⟩ := ih f (by omega) (by omega)
      refine ⟨m, by omega, by simp only [sa]; rw [if_neg h]; exact h2, ?_⟩
      rw [if_neg h]
      exact h3
theorem stateAt6 {s : Nat → Int32} {P : Nat → Nat} {r M F : Nat} (hs : SP s P) (ho : POs P) (hr : r < 2 ^ 31) (hM : M ≤ 9) (hF : 20 ≤ F) : D_X6_stateAt F (nI r) (nI M) s = some (nI (sa P r M)) := by
  unfold D_X6_stateAt
  obtain ⟨m, h1, h2, h3⟩ := stateAt6_loop (k20 := fun (x3_9 : Int32) => bnd (D_X6_endOf F (nI r) x3_9) (fun r_17 => some (r_17))) hs ho hr hF M F hM (by omega)
  rw [h3, endOf6 hr (by omega), h2]
  rfl
theorem nI_4 (q a : Nat) : (4 : Int32) * nI q + nI a = nI (4 * q + a) := by
  have := pk_mul 4 q
  rw [show (4 : Int32) * nI q = nI (4 * q) from this, nI_add]
theorem behind6 {s : Nat → Int32} {P : Nat → Nat} {q n a F : Nat} (hs : SP s P) (ho : POs P) (hq : V n q) (hn : n ≤ 8) (ha : a < 4) (hF : 20 ≤ F) : D_X6_behind F (nI q) (nI a) s = some (nI (dl P q a)) := by
  unfold D_X6_behind dl
  have hl := V_lt hq (by omega)
  rw [len6 hq (by omega) hF, V_ln hq]
  simp only [bnd]
  rw [nI_4, nI_1, stateAt6 hs ho (by omega) (by omega) hF]
theorem back6 {s : Nat → Int32} {P : Nat → Nat} {q n F : Nat} (hs : SP s P) (ho : POs P) (hq : V n q) (hn : n ≤ 9) (h1 : 1 ≤ n) (hF : 20 ≤ F) : D_X6_back F (nI q) s = some (nI (bk P q)) := by
  unfold D_X6_back bk
  have hl := V_lt hq (by omega)
  rw [len6 hq (by omega) hF, V_ln hq]
  simp only [bnd]
  rw [nI_s1 h1, stateAt6 hs ho (by omega) (by omega) hF]
theorem fallsOf6_loop {s : Nat → Int32} {P : Nat → Nat} {a F : Nat} (hs : SP s P) (ho : POs P) (ha : a < 4) (hF : 20 ≤ F) : ∀ (n q k f acc : Nat), V n q → n ≤ 8 → n < k → n < f → L_X6_fallsOf_5 F (nI a) s f (nI acc) (nI q) = some (nI (acc + fo P a k q)) := by
  intro n
  induction n using Nat.strongRecOn with
  | ind n ih =>
    intro q k f acc hq hn hk hf
    obtain ⟨f, rfl⟩ : ∃ g, f = g + 1 := ⟨f - 1, by omega⟩
    obtain ⟨k, rfl⟩ : ∃ g, k = g + 1 := ⟨k - 1, by omega⟩
    rw [L_X6_fallsOf_5, nI_4, isState6 hs ho (V_succ hq ha) (by omega) hF]
    simp only [bnd, nm, fo]
    rw [if_b2, nI_1]
    by_cases h : isSt P (4 * q + a) = true
    · rw [if_pos h, if_pos h]; rfl
    · rw [if_neg h, if_neg h]
      have hl := V_lt hq (by omega)
      show (if nI q = nI 1 then _ else _) = _
      rw [if_eq (by omega) (by omega)]
      by_cases h1 : q = 1
      · rw [if_pos h1, if_pos h1]
      · rw [if_neg h1, if_neg h1]
        have hn1 : 1 ≤ n := by
          rcases Nat.eq_zero_or_pos n with e | e
          · subst e; exact absurd (V_0e hq) h1
          · exact e
        rw [back6 hs ho hq (by omega) hn1 hF]
        obtain ⟨m, hm1, hm2⟩ := bk_V (P := P) hq hn1
        simp only []
        rw [ih m hm1 (bk P q) k f (acc + 1) hm2 (by omega) (by omega) (by omega), Nat.add_assoc]
theorem fallsOf6 {s : Nat → Int32} {P : Nat → Nat} {q n a F : Nat} (hs : SP s P) (ho : POs P) (hq : V n q) (hn : n ≤ 8) (ha : a < 4) (hF : 20 ≤ F) : D_X6_fallsOf F (nI q) (nI a) s = some (nI (fo P a 10 q)) := by
  have := fallsOf6_loop hs ho ha hF n q 10 F 0 hq hn (by omega) (by omega)
  rw [Nat.zero_add] at this
  exact this
