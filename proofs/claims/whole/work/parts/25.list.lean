def Sk (P : Nat → Nat) (k r : Nat) : Prop := r = 1 ∨ ∃ p, p < k ∧ P p ≠ 0 ∧ isBegB (P p) r = true
def Sj (P : Nat → Nat) (k x r : Nat) : Prop := Sk P k r ∨ ∃ j, 1 ≤ j ∧ j < x ∧ P k / 4 ^ (ln (P k) - j) = r
theorem isSt_Sk {P : Nat → Nat} {r : Nat} : isSt P r = true ↔ Sk P 8 r := isSt_iff
theorem isBegB_iff {c m r : Nat} (h : V m c) : isBegB c r = true ↔ ∃ j, j ≤ m ∧ c / 4 ^ (m - j) = r := by
  unfold isBegB
  rw [decide_eq_true_eq, V_ln h]
  constructor
  · rintro ⟨h1, h2⟩; exact ⟨ln r, h1, h2⟩
  · rintro ⟨j, h1, h2⟩
    have hv := V_div h (show m - j ≤ m by omega)
    rw [h2, show m - (m - j) = j by omega] at hv
    rw [V_ln hv]
    exact ⟨h1, h2⟩
theorem Sk_lt {P : Nat → Nat} (ho : POs P) {k r : Nat} (hk : k ≤ 8) (h : Sk P k r) : r < 524288 ∧ 1 ≤ r := by
  rcases h with h | ⟨p, h1, h2, h3⟩
  · omega
  · obtain ⟨q1, q2, q3⟩ := PO_V (ho p (by omega)) h2
    obtain ⟨j, j1, j2⟩ := (isBegB_iff q3).mp h3
    have hv := V_div q3 (show ln (P p) - j ≤ ln (P p) by omega)
    rw [j2, show ln (P p) - (ln (P p) - j) = j by omega] at hv
    exact ⟨V_lt hv (by omega), V_pos hv⟩
theorem Sj_lt {P : Nat → Nat} (ho : POs P) {k x r : Nat} (hk : k < 8) (h0 : P k ≠ 0) (hx : x ≤ ln (P k) + 1) (h : Sj P k x r) : r < 524288 ∧ 1 ≤ r := by
  rcases h with h | ⟨j, h1, h2, h3⟩
  · exact Sk_lt ho (by omega) h
  · obtain ⟨q1, q2, q3⟩ := PO_V (ho k hk) h0
    have hv := V_div q3 (show ln (P k) - j ≤ ln (P k) by omega)
    rw [h3, show ln (P k) - (ln (P k) - j) = j by omega] at hv
    exact ⟨V_lt hv (by omega), V_pos hv⟩
theorem Sj_1 {P : Nat → Nat} {k r : Nat} : Sj P k 1 r ↔ Sk P k r := ⟨fun h => h.elim id (fun ⟨j, h1, h2, _⟩ => by omega), Or.inl⟩
theorem Sj_s {P : Nat → Nat} {k x r : Nat} (hx : 1 ≤ x) : (Sj P k x r ∨ r = P k / 4 ^ (ln (P k) - x)) ↔ Sj P k (x + 1) r := by
  constructor
  · rintro ((h | ⟨j, h1, h2, h3⟩) | h)
    · exact Or.inl h
    · exact Or.inr ⟨j, h1, by omega, h3⟩
    · exact Or.inr ⟨x, hx, by omega, h.symm⟩
  · rintro (h | ⟨j, h1, h2, h3⟩)
    · exact Or.inl (Or.inl h)
    · by_cases e : j = x
      · subst e; exact Or.inr h3.symm
      · exact Or.inl (Or.inr ⟨j, h1, by omega, h3⟩)
theorem Sj_end {P : Nat → Nat} (ho : POs P) {k r : Nat} (hk : k < 8) (h0 : P k ≠ 0) : Sj P k (ln (P k) + 1) r ↔ Sk P (k + 1) r := by
  obtain ⟨q1, q2, q3⟩ := PO_V (ho k hk) h0
  constructor
  · rintro ((h | ⟨p, h1, h2, h3⟩) | ⟨j, h1, h2, h3⟩)
    · exact Or.inl h
    · exact Or.inr ⟨p, by omega, h2, h3⟩
    · exact Or.inr ⟨k, by omega, h0, (isBegB_iff q3).mpr ⟨j, by omega, h3⟩⟩
  · rintro (h | ⟨p, h1, h2, h3⟩)
    · exact Or.inl (Or.inl h)
    · by_cases e : p = k
      · subst e
        obtain ⟨j, j1, j2⟩ := (isBegB_iff q3).mp h3
        rcases Nat.eq_zero_or_pos j with z | z
        · subst z
          rw [Nat.sub_zero, V_end q3] at j2
          exact Or.inl (Or.inl j2.symm)
        · exact Or.inr ⟨j, z, by omega, j2⟩
      · exact Or.inl (Or.inr ⟨p, by omega, h2, h3⟩)
theorem Sk_skip {P : Nat → Nat} {k r : Nat} (h0 : P k = 0) : Sk P k r ↔ Sk P (k + 1) r := by
  constructor
  · rintro (h | ⟨p, h1, h2, h3⟩)
    · exact Or.inl h
    · exact Or.inr ⟨p, by omega, h2, h3⟩
  · rintro (h | ⟨p, h1, h2, h3⟩)
    · exact Or.inl h
    · by_cases e : p = k
      · subst e; exact absurd h0 h2
      · exact Or.inr ⟨p, by omega, h2, h3⟩
theorem Enum_0 {n : Nat} {g : Nat → Nat} {S : Nat → Prop} (h : Enum n g S) (h1 : S 1) : 0 < n ∧ g 0 ≤ 1 := by
  obtain ⟨i, hi, e⟩ := h.2.2 1 h1
  refine ⟨by omega, ?_⟩
  rcases Nat.eq_zero_or_pos i with z | z
  · subst z; omega
  · have := h.2.1 0 i z hi; omega
-- the reference
theorem list_22 {F k : Nat} {s : Nat → Int32} {P : Nat → Nat} (hs : SP s P) (ho : POs P) (hk : k < 8) (h0 : P k ≠ 0) (hF : 100 ≤ F) : ∀ (d x fu n : Nat) (f : Nat → Int32) (g : Nat → Nat), x + d = ln (P k) + 1 → 1 ≤ x → d < fu → AR f n g → Enum n g (Sj P k x) → n ≤ 8 * k + x → ∃ f' n' g', AR f' n' g' ∧ Enum n' g' (Sk P (k + 1)) ∧ n' ≤ 8 * k + 9 ∧ ∀ k67 : (Nat → Int32) → Int32 → Option ((Nat → Int32) × Int32), L_X6_list_22 F k67 (nI k) s fu (nI x) f (nI n) = k67 f' (nI n') := by
  obtain ⟨q1, q2, q3⟩ := PO_V (ho k hk) h0
  intro d
  induction d with
  | zero =>
    intro x fu n f g hx h1 hf hA hE hn
    obtain ⟨fu, rfl⟩ : ∃ z, fu = z + 1 := ⟨fu - 1, by omega⟩
    have hx : x = ln (P k) + 1 := by omega
    subst hx
    refine ⟨f, n, g, hA, hE.congr (fun v => Sj_end ho hk h0), by omega, fun k67 => ?_⟩
    rw [L_X6_list_22, isThere6 hs ho hk]
    simp only [bnd]
    rw [if_b2, if_pos (by simp [h0]), nI_0a, grd_t (inb_nI (show k < 31 by omega) (by decide)), nI_clamp (by omega), hs k hk, len6 q3 (by omega) (by omega)]
    simp only []
    rw [if_lt (by omega) (by omega), if_pos (by omega)]
  | succ d ih =>
    intro x fu n f g hx h1 hf hA hE hn
    obtain ⟨fu, rfl⟩ : ∃ z, fu = z + 1 := ⟨fu - 1, by omega⟩
    have hv := V_div q3 (show ln (P k) - x ≤ ln (P k) by omega)
    have hS1 : Sj P k x 1 := Or.inl (Or.inl rfl)
    have hE0 := Enum_0 hE hS1
    obtain ⟨f1, n1, g1, e1, e2, e3, e4, e5⟩ := insert6 (F := F) (r := P k / 4 ^ (ln (P k) - x)) hA hE (by omega) hE0.1 (Nat.le_trans hE0.2 (V_pos hv)) (V_lt hv (by omega)) (fun v hv => (Sj_lt ho hk h0 (by omega) hv).1) hF
    obtain ⟨f', n', g', r1, r2, r3, r4⟩ := ih (x + 1) fu n1 f1 g1 (by omega) (by omega) (by omega) e2 (e3.congr (fun v => Sj_s h1)) (by omega)
    refine ⟨f', n', g', r1, r2, r3, fun k67 => ?_⟩
    rw [L_X6_list_22, isThere6 hs ho hk]
    simp only [bnd]
    rw [if_b2, if_pos (by simp [h0]), nI_0a, grd_t (inb_nI (show k < 31 by omega) (by decide)), nI_clamp (by omega), hs k hk, len6 q3 (by omega) (by omega)]
    simp only []
    rw [if_lt (by omega) (by omega), if_neg (by omega), grd_t (inb_nI (show k < 31 by omega) (by decide)), beginOf6 q3 (by omega) (by omega) (by omega)]
    simp only []
    rw [e1]
    simp only [nm]
    rw [nI_1]
    exact r4 k67
theorem list_14 {F : Nat} {s : Nat → Int32} {P : Nat → Nat} (hs : SP s P) (ho : POs P) (hF : 100 ≤ F) : ∀ (d k fu n : Nat) (f : Nat → Int32) (g : Nat → Nat), k + d = 8 → d < fu → AR f n g → Enum n g (Sk P k) → n ≤ 8 * k + 1 → ∃ f' n' g', AR f' n' g' ∧ Enum n' g' (Sk P 8) ∧ n' ≤ 65 ∧ L_X6_list_14 F s fu (nI k) f (nI n) = some (f', nI n') := by
  intro d
  induction d with
  | zero =>
    intro k fu n f g hk hf hA hE hn
    obtain ⟨fu, rfl⟩ : ∃ z, fu = z + 1 := ⟨fu - 1, by omega⟩
    have hk : k = 8 := by omega
    subst hk
    refine ⟨f, n, g, hA, hE, hn, ?_⟩
    rw [L_X6_list_14, if_pos (show (8 : Int32) ≤ nI 8 from by decide)]
  | succ d ih =>
    intro k fu n f g hk hf hA hE hn
    obtain ⟨fu, rfl⟩ : ∃ z, fu = z + 1 := ⟨fu - 1, by omega⟩
    by_cases h0 : P k = 0
    · obtain ⟨f', n', g', r1, r2, r3, r4⟩ := ih (k + 1) fu n f g (by omega) (by omega) hA (hE.congr (fun v => Sk_skip h0)) (by omega)
      refine ⟨f', n', g', r1, r2, r3, ?_⟩
      rw [L_X6_list_14, if_neg (show ¬ (8 : Int32) ≤ nI k from nI_ge (a := k) (b := 8) (by omega) (by omega))]
      obtain ⟨F, rfl⟩ : ∃ z, F = z + 1 := ⟨F - 1, by omega⟩
      rw [L_X6_list_22, isThere6 hs ho (by omega)]
      simp only [bnd, nm]
      rw [if_b2, if_neg (by simp [h0]), nI_1]
      exact r4
    · obtain ⟨f1, n1, g1, e1, e2, e3, e4⟩ := list_22 (F := F) hs ho (show k < 8 by omega) h0 hF (ln (P k)) 1 F n f g (by omega) (by omega) (by have := (PO_V (ho k (by omega)) h0).2.1; omega) hA (hE.congr (fun v => Sj_1.symm)) (by omega)
      obtain ⟨f', n', g', r1, r2, r3, r4⟩ := ih (k + 1) fu n1 f1 g1 (by omega) (by omega) e1 e2 (by omega)
      refine ⟨f', n', g', r1, r2, r3, ?_⟩
      rw [L_X6_list_14, if_neg (show ¬ (8 : Int32) ≤ nI k from nI_ge (a := k) (b := 8) (by omega) (by omega))]
      have e5 := e4 (fun (v_states_26 : (Nat → Int32)) (v_many_27 : Int32) => nm (nI k + 1) (fun x1_43 => L_X6_list_14 F s fu x1_43 v_states_26 v_many_27))
      refine Eq.trans e5 ?_
      simp only [nm]
      rw [nI_1]
      exact r4
/-- the reference lists the states -/
theorem list6 {F : Nat} {s f : Nat → Int32} {x : Int32} {P : Nat → Nat} (hs : SP s P) (ho : POs P) (hF : 100 ≤ F) : ∃ f' n g, D_X6_list F f x s = some (f', nI n) ∧ AR f' n g ∧ Enum n g (fun r => isSt P r = true) ∧ n ≤ 65 ∧ 0 < n := by
  unfold D_X6_list
  rw [grd_t (by decide)]
  simp only [nm]
  have hA : AR (upd f ((0 : Int32).toNatClampNeg) 1) 1 (fun _ => 1) := by
    intro i hi
    have : i = 0 := by omega
    subst this
    rfl
  have hE : Enum 1 (fun _ => 1) (Sk P 0) := by
    refine ⟨fun i hi => Or.inl rfl, fun i j h1 h2 => by omega, fun v hv => ⟨0, by omega, ?_⟩⟩
    rcases hv with h | ⟨p, h1, -⟩
    · exact h.symm
    · omega
  obtain ⟨f', n', g', r1, r2, r3, r4⟩ := list_14 (F := F) hs ho hF 8 0 F 1 _ _ (by omega) (by omega) hA hE (by omega)
  exact ⟨f', n', g', r4, r1, r2.congr (fun v => isSt_Sk.symm), r3, (Enum_0 r2 (Or.inl rfl)).1⟩
theorem numberOf6 {F n i : Nat} {f : Nat → Int32} {g : Nat → Nat} {S : Nat → Prop} (hA : AR f n g) (hE : Enum n g S) (hn : n ≤ 65) (hb : ∀ v, S v → v < 524288) (hi : i < n) (hF : 100 ≤ F) : D_X6_numberOf F (nI (g i)) f = some (nI i) := by
  have key : ∀ (d j fu : Nat), j + d = i → d < fu → L_X6_numberOf_2 F (nI (g i)) f fu (nI j) = some (nI i) := by
    intro d
    induction d with
    | zero =>
      intro j fu hj hf
      obtain ⟨fu, rfl⟩ : ∃ z, fu = z + 1 := ⟨fu - 1, by omega⟩
      have hj : j = i := by omega
      subst hj
      rw [L_X6_numberOf_2, grd_t (inb_nI (show j < 66 by omega) (by decide)), nI_clamp (by omega), hA j hi, if_pos rfl]
    | succ d ih =>
      intro j fu hj hf
      obtain ⟨fu, rfl⟩ : ∃ z, fu = z + 1 := ⟨fu - 1, by omega⟩
      have h1 := hb _ (hE.1 j (by omega))
      have h2 := hb _ (hE.1 i hi)
      have h3 := hE.2.1 j i (by omega) hi
      rw [L_X6_numberOf_2, grd_t (inb_nI (show j < 66 by omega) (by decide)), nI_clamp (by omega), hA j (by omega), if_eq (by omega) (by omega), if_neg (by omega)]
      simp only [nm]
      rw [nI_1]
      exact ih (j + 1) fu (by omega) (by omega)
  exact key i 0 F (by omega) (by omega)
-- the class
theorem rebuild_33 {F k : Nat} {P : Nat → Nat} {y2 : Int32} (ho : POs P) (hk : k < 8) (h0 : P k ≠ 0) (hF : 100 ≤ F) : ∀ (d x fu n : Nat) (f : Nat → Int32) (g : Nat → Nat), x + d = ln (P k) + 1 → 1 ≤ x → d < fu → AR f n g → Enum n g (Sj P k x) → n ≤ 8 * k + x → ∃ f' n' g', AR f' n' g' ∧ Enum n' g' (Sk P (k + 1)) ∧ n' ≤ 8 * k + 9 ∧ ∀ k56, L_X1_rebuild_33 F k56 y2 (nI (P k)) (nI (ln (P k))) fu (nI x) (nI n) f = k56 (nI n') f' := by
  obtain ⟨q1, q2, q3⟩ := PO_V (ho k hk) h0
  intro d
  induction d with
  | zero =>
    intro x fu n f g hx h1 hf hA hE hn
    obtain ⟨fu, rfl⟩ : ∃ z, fu = z + 1 := ⟨fu - 1, by omega⟩
    have hx : x = ln (P k) + 1 := by omega
    subst hx
    refine ⟨f, n, g, hA, hE.congr (fun v => Sj_end ho hk h0), by omega, fun k56 => ?_⟩
    rw [L_X1_rebuild_33, if_lt (by omega) (by omega), if_pos (by omega)]
  | succ d ih =>
    intro x fu n f g hx h1 hf hA hE hn
    obtain ⟨fu, rfl⟩ : ∃ z, fu = z + 1 := ⟨fu - 1, by omega⟩
    have hv := V_div q3 (show ln (P k) - x ≤ ln (P k) by omega)
    obtain ⟨f1, n1, g1, e1, e2, e3, e4⟩ := takeState1 (F := F) (r := P k / 4 ^ (ln (P k) - x)) hA hE (by omega) (V_lt hv (by omega)) (fun v hv => (Sj_lt ho hk h0 (by omega) hv).1) hF
    obtain ⟨f', n', g', r1, r2, r3, r4⟩ := ih (x + 1) fu n1 f1 g1 (by omega) (by omega) (by omega) e2 (e3.congr (fun v => Sj_s h1)) (by omega)
    refine ⟨f', n', g', r1, r2, r3, fun k56 => ?_⟩
    rw [L_X1_rebuild_33, if_lt (by omega) (by omega), if_neg (by omega), beginning3 q3 (by omega) (by omega) (by omega)]
    simp only [bnd]
    rw [e1]
    simp only [nm]
    rw [nI_1]
    exact r4 k56
theorem rebuild_12 {F : Nat} {P : Nat → Nat} {p : Nat → Int32} (hs : SP p P) (ho : POs P) (hF : 100 ≤ F) : ∀ (d k fu n : Nat) (f : Nat → Int32) (g : Nat → Nat), k + d = 8 → d < fu → AR f n g → Enum n g (Sk P k) → n ≤ 8 * k + 1 → ∃ f' n' g', AR f' n' g' ∧ Enum n' g' (Sk P 8) ∧ n' ≤ 65 ∧ ∀ k62, L_X1_rebuild_12 F k62 p fu (nI k) (nI n) f = k62 (nI n') f' := by
  intro d
  induction d with
  | zero =>
    intro k fu n f g hk hf hA hE hn
    obtain ⟨fu, rfl⟩ : ∃ z, fu = z + 1 := ⟨fu - 1, by omega⟩
    have hk : k = 8 := by omega
    subst hk
    refine ⟨f, n, g, hA, hE, hn, fun k62 => ?_⟩
    rw [L_X1_rebuild_12, if_pos (show (8 : Int32) ≤ nI 8 from by decide)]
  | succ d ih =>
    intro k fu n f g hk hf hA hE hn
    obtain ⟨fu, rfl⟩ : ∃ z, fu = z + 1 := ⟨fu - 1, by omega⟩
    by_cases h0 : P k = 0
    · obtain ⟨f', n', g', r1, r2, r3, r4⟩ := ih (k + 1) fu n f g (by omega) (by omega) hA (hE.congr (fun v => Sk_skip h0)) (by omega)
      refine ⟨f', n', g', r1, r2, r3, fun k62 => ?_⟩
      rw [L_X1_rebuild_12, if_neg (show ¬ (8 : Int32) ≤ nI k from nI_ge (a := k) (b := 8) (by omega) (by omega)), at_in (show k < 8 by omega) (by decide), hs k (by omega), h0]
      simp only [bnd]
      rw [show nI 0 = 0 from rfl, len3_0 (by omega)]
      simp only []
      obtain ⟨F, rfl⟩ : ∃ z, F = z + 1 := ⟨F - 1, by omega⟩
      rw [L_X1_rebuild_33, if_pos (show (0 : Int32) < 1 from by decide)]
      simp only [nm]
      rw [nI_1]
      exact r4 k62
    · obtain ⟨q1, q2, q3⟩ := PO_V (ho k (by omega)) h0
      obtain ⟨f1, n1, g1, e1, e2, e3, e4⟩ := rebuild_33 (F := F) (y2 := nI k) ho (show k < 8 by omega) h0 hF (ln (P k)) 1 F n f g (by omega) (by omega) (by omega) hA (hE.congr (fun v => Sj_1.symm)) (by omega)
      obtain ⟨f', n', g', r1, r2, r3, r4⟩ := ih (k + 1) fu n1 f1 g1 (by omega) (by omega) e1 e2 (by omega)
      refine ⟨f', n', g', r1, r2, r3, fun k62 => ?_⟩
      rw [L_X1_rebuild_12, if_neg (show ¬ (8 : Int32) ≤ nI k from nI_ge (a := k) (b := 8) (by omega) (by omega)), at_in (show k < 8 by omega) (by decide), hs k (by omega)]
      simp only [bnd]
      rw [len3 q3 (by omega) (by omega)]
      simp only []
      refine Eq.trans (e4 _) ?_
      simp only [nm]
      rw [nI_1]
      exact r4 k62
